section
-- ===== PART A: goes FIRST, ahead of the names: the tables' words, and 'selects' of the private methods out of them =====
/-- a private method of a class that the tables say can be made, by its rows of tables_1 -/
def lw_okq (q : MethodName × Nat) : Prop := (q.1.cls ≠ "java/lang/invoke/MethodHandle" ∧ q.1.cls ≠ "java/lang/invoke/VarHandle") ∧ Cond.instantiable q.1.cls q.2 ∈ tables_1 ∧ Cond.privateMethod q.1 ∈ tables_1 ∧ Cond.instanceMethod q.1 ∈ tables_1
theorem lw_p0 : lw_okq (⟨"MessageGames", "weightError", "(II)I"⟩, 7) := ⟨⟨by decide +kernel, by decide +kernel⟩, List.mem_of_getElem? (i := 15) (by decide +kernel), List.mem_of_getElem? (i := 104) (by decide +kernel), List.mem_of_getElem? (i := 105) (by decide +kernel)⟩
theorem lw_p1 : lw_okq (⟨"MessageGames", "record", "()V"⟩, 7) := ⟨⟨by decide +kernel, by decide +kernel⟩, List.mem_of_getElem? (i := 15) (by decide +kernel), List.mem_of_getElem? (i := 124) (by decide +kernel), List.mem_of_getElem? (i := 125) (by decide +kernel)⟩
theorem lw_p2 : lw_okq (⟨"MessageGames$Game", "forgetPossible", "()V"⟩, 2) := ⟨⟨by decide +kernel, by decide +kernel⟩, List.mem_of_getElem? (i := 23) (by decide +kernel), List.mem_of_getElem? (i := 141) (by decide +kernel), List.mem_of_getElem? (i := 142) (by decide +kernel)⟩
theorem lw_p3 : lw_okq (⟨"MessageGames", "beliefError", "(III)I"⟩, 7) := ⟨⟨by decide +kernel, by decide +kernel⟩, List.mem_of_getElem? (i := 15) (by decide +kernel), List.mem_of_getElem? (i := 159) (by decide +kernel), List.mem_of_getElem? (i := 160) (by decide +kernel)⟩
theorem lw_p4 : lw_okq (⟨"MessageGames$Survey", "look", "(LMessageGames$Game;)V"⟩, 4) := ⟨⟨by decide +kernel, by decide +kernel⟩, List.mem_of_getElem? (i := 43) (by decide +kernel), List.mem_of_getElem? (i := 193) (by decide +kernel), List.mem_of_getElem? (i := 194) (by decide +kernel)⟩
theorem lw_p5 : lw_okq (⟨"MessageGames$Survey", "addPlans", "(I)V"⟩, 4) := ⟨⟨by decide +kernel, by decide +kernel⟩, List.mem_of_getElem? (i := 43) (by decide +kernel), List.mem_of_getElem? (i := 210) (by decide +kernel), List.mem_of_getElem? (i := 211) (by decide +kernel)⟩
theorem lw_p6 : lw_okq (⟨"MessageGames$Game", "bestBy", "(IIII)I"⟩, 2) := ⟨⟨by decide +kernel, by decide +kernel⟩, List.mem_of_getElem? (i := 23) (by decide +kernel), List.mem_of_getElem? (i := 234) (by decide +kernel), List.mem_of_getElem? (i := 235) (by decide +kernel)⟩
theorem lw_p7 : lw_okq (⟨"MessageGames$Game", "worthBy", "(IIIII)I"⟩, 2) := ⟨⟨by decide +kernel, by decide +kernel⟩, List.mem_of_getElem? (i := 23) (by decide +kernel), List.mem_of_getElem? (i := 238) (by decide +kernel), List.mem_of_getElem? (i := 239) (by decide +kernel)⟩
theorem lw_p8 : lw_okq (⟨"MessageGames$Game", "mostByAny", "(III)I"⟩, 2) := ⟨⟨by decide +kernel, by decide +kernel⟩, List.mem_of_getElem? (i := 23) (by decide +kernel), List.mem_of_getElem? (i := 282) (by decide +kernel), List.mem_of_getElem? (i := 283) (by decide +kernel)⟩
theorem lw_p9 : lw_okq (⟨"MessageGames$Game", "leastByAny", "(III)I"⟩, 2) := ⟨⟨by decide +kernel, by decide +kernel⟩, List.mem_of_getElem? (i := 23) (by decide +kernel), List.mem_of_getElem? (i := 289) (by decide +kernel), List.mem_of_getElem? (i := 290) (by decide +kernel)⟩
theorem lw_p10 : lw_okq (⟨"MessageGames$Pad", "faultOfOrder", "(I)I"⟩, 2) := ⟨⟨by decide +kernel, by decide +kernel⟩, List.mem_of_getElem? (i := 64) (by decide +kernel), List.mem_of_getElem? (i := 450) (by decide +kernel), List.mem_of_getElem? (i := 451) (by decide +kernel)⟩
theorem lw_p11 : lw_okq (⟨"MessageGames$Pad", "shapeOf", "(I)Ljava/lang/String;"⟩, 2) := ⟨⟨by decide +kernel, by decide +kernel⟩, List.mem_of_getElem? (i := 64) (by decide +kernel), List.mem_of_getElem? (i := 454) (by decide +kernel), List.mem_of_getElem? (i := 455) (by decide +kernel)⟩
theorem lw_p12 : lw_okq (⟨"MessageGames", "isDone", "(I)Z"⟩, 7) := ⟨⟨by decide +kernel, by decide +kernel⟩, List.mem_of_getElem? (i := 15) (by decide +kernel), List.mem_of_getElem? (i := 532) (by decide +kernel), List.mem_of_getElem? (i := 533) (by decide +kernel)⟩
theorem lw_p13 : lw_okq (⟨"MessageGames", "isChanged", "(III)Z"⟩, 7) := ⟨⟨by decide +kernel, by decide +kernel⟩, List.mem_of_getElem? (i := 15) (by decide +kernel), List.mem_of_getElem? (i := 546) (by decide +kernel), List.mem_of_getElem? (i := 547) (by decide +kernel)⟩
theorem lw_p14 : lw_okq (⟨"MessageGamesModel", "code", "()I"⟩, 12) := ⟨⟨by decide +kernel, by decide +kernel⟩, List.mem_of_getElem? (i := 564) (by decide +kernel), List.mem_of_getElem? (i := 621) (by decide +kernel), List.mem_of_getElem? (i := 622) (by decide +kernel)⟩
theorem lw_p15 : lw_okq (⟨"MessageGamesModel", "records", "()V"⟩, 12) := ⟨⟨by decide +kernel, by decide +kernel⟩, List.mem_of_getElem? (i := 564) (by decide +kernel), List.mem_of_getElem? (i := 629) (by decide +kernel), List.mem_of_getElem? (i := 630) (by decide +kernel)⟩
def lw_privs_1 : List (MethodName × Nat) := [(⟨"MessageGames", "weightError", "(II)I"⟩, 7), (⟨"MessageGames", "record", "()V"⟩, 7), (⟨"MessageGames$Game", "forgetPossible", "()V"⟩, 2), (⟨"MessageGames", "beliefError", "(III)I"⟩, 7), (⟨"MessageGames$Survey", "look", "(LMessageGames$Game;)V"⟩, 4), (⟨"MessageGames$Survey", "addPlans", "(I)V"⟩, 4), (⟨"MessageGames$Game", "bestBy", "(IIII)I"⟩, 2), (⟨"MessageGames$Game", "worthBy", "(IIIII)I"⟩, 2), (⟨"MessageGames$Game", "mostByAny", "(III)I"⟩, 2), (⟨"MessageGames$Game", "leastByAny", "(III)I"⟩, 2), (⟨"MessageGames$Pad", "faultOfOrder", "(I)I"⟩, 2), (⟨"MessageGames$Pad", "shapeOf", "(I)Ljava/lang/String;"⟩, 2), (⟨"MessageGames", "isDone", "(I)Z"⟩, 7), (⟨"MessageGames", "isChanged", "(III)Z"⟩, 7), (⟨"MessageGamesModel", "code", "()I"⟩, 12), (⟨"MessageGamesModel", "records", "()V"⟩, 12)]
theorem lw_r1 : ∀ q ∈ lw_privs_1, lw_okq q := List.forall_mem_cons.mpr ⟨lw_p0, List.forall_mem_cons.mpr ⟨lw_p1, List.forall_mem_cons.mpr ⟨lw_p2, List.forall_mem_cons.mpr ⟨lw_p3, List.forall_mem_cons.mpr ⟨lw_p4, List.forall_mem_cons.mpr ⟨lw_p5, List.forall_mem_cons.mpr ⟨lw_p6, List.forall_mem_cons.mpr ⟨lw_p7, List.forall_mem_cons.mpr ⟨lw_p8, List.forall_mem_cons.mpr ⟨lw_p9, List.forall_mem_cons.mpr ⟨lw_p10, List.forall_mem_cons.mpr ⟨lw_p11, List.forall_mem_cons.mpr ⟨lw_p12, List.forall_mem_cons.mpr ⟨lw_p13, List.forall_mem_cons.mpr ⟨lw_p14, List.forall_mem_cons.mpr ⟨lw_p15, fun _ h => absurd h List.not_mem_nil⟩⟩⟩⟩⟩⟩⟩⟩⟩⟩⟩⟩⟩⟩⟩⟩
theorem lw_p16 : lw_okq (⟨"MessageGamesModel", "mayWeigh", "(III)I"⟩, 12) := ⟨⟨by decide +kernel, by decide +kernel⟩, List.mem_of_getElem? (i := 564) (by decide +kernel), List.mem_of_getElem? (i := 637) (by decide +kernel), List.mem_of_getElem? (i := 638) (by decide +kernel)⟩
theorem lw_p17 : lw_okq (⟨"MessageGamesModel", "changes", "(II)I"⟩, 12) := ⟨⟨by decide +kernel, by decide +kernel⟩, List.mem_of_getElem? (i := 564) (by decide +kernel), List.mem_of_getElem? (i := 644) (by decide +kernel), List.mem_of_getElem? (i := 645) (by decide +kernel)⟩
theorem lw_p18 : lw_okq (⟨"MessageGamesModel", "mayBelieve", "(III)I"⟩, 12) := ⟨⟨by decide +kernel, by decide +kernel⟩, List.mem_of_getElem? (i := 564) (by decide +kernel), List.mem_of_getElem? (i := 662) (by decide +kernel), List.mem_of_getElem? (i := 663) (by decide +kernel)⟩
theorem lw_p19 : lw_okq (⟨"MessageGamesModel", "codeAt", "(I)I"⟩, 12) := ⟨⟨by decide +kernel, by decide +kernel⟩, List.mem_of_getElem? (i := 564) (by decide +kernel), List.mem_of_getElem? (i := 678) (by decide +kernel), List.mem_of_getElem? (i := 679) (by decide +kernel)⟩
theorem lw_p20 : lw_okq (⟨"MessageGamesModel", "looksAt", "(I)V"⟩, 12) := ⟨⟨by decide +kernel, by decide +kernel⟩, List.mem_of_getElem? (i := 564) (by decide +kernel), List.mem_of_getElem? (i := 682) (by decide +kernel), List.mem_of_getElem? (i := 683) (by decide +kernel)⟩
theorem lw_p21 : lw_okq (⟨"MessageGamesModel", "holds", "()Z"⟩, 12) := ⟨⟨by decide +kernel, by decide +kernel⟩, List.mem_of_getElem? (i := 564) (by decide +kernel), List.mem_of_getElem? (i := 686) (by decide +kernel), List.mem_of_getElem? (i := 687) (by decide +kernel)⟩
theorem lw_p22 : lw_okq (⟨"MessageGamesModel", "unhappy", "()I"⟩, 12) := ⟨⟨by decide +kernel, by decide +kernel⟩, List.mem_of_getElem? (i := 564) (by decide +kernel), List.mem_of_getElem? (i := 690) (by decide +kernel), List.mem_of_getElem? (i := 691) (by decide +kernel)⟩
theorem lw_p23 : lw_okq (⟨"MessageGamesModel", "isThere", "(I)Z"⟩, 12) := ⟨⟨by decide +kernel, by decide +kernel⟩, List.mem_of_getElem? (i := 564) (by decide +kernel), List.mem_of_getElem? (i := 694) (by decide +kernel), List.mem_of_getElem? (i := 695) (by decide +kernel)⟩
theorem lw_p24 : lw_okq (⟨"MessageGamesModel", "most", "(I)I"⟩, 12) := ⟨⟨by decide +kernel, by decide +kernel⟩, List.mem_of_getElem? (i := 564) (by decide +kernel), List.mem_of_getElem? (i := 698) (by decide +kernel), List.mem_of_getElem? (i := 699) (by decide +kernel)⟩
theorem lw_p25 : lw_okq (⟨"MessageGamesModel", "has", "(II)I"⟩, 12) := ⟨⟨by decide +kernel, by decide +kernel⟩, List.mem_of_getElem? (i := 564) (by decide +kernel), List.mem_of_getElem? (i := 702) (by decide +kernel), List.mem_of_getElem? (i := 703) (by decide +kernel)⟩
theorem lw_p26 : lw_okq (⟨"MessageGamesModel", "payoffOf", "(I)I"⟩, 12) := ⟨⟨by decide +kernel, by decide +kernel⟩, List.mem_of_getElem? (i := 564) (by decide +kernel), List.mem_of_getElem? (i := 706) (by decide +kernel), List.mem_of_getElem? (i := 707) (by decide +kernel)⟩
theorem lw_p27 : lw_okq (⟨"MessageGamesModel", "wrong", "()I"⟩, 12) := ⟨⟨by decide +kernel, by decide +kernel⟩, List.mem_of_getElem? (i := 564) (by decide +kernel), List.mem_of_getElem? (i := 710) (by decide +kernel), List.mem_of_getElem? (i := 711) (by decide +kernel)⟩
theorem lw_p28 : lw_okq (⟨"MessageGamesModel", "best", "(I)I"⟩, 12) := ⟨⟨by decide +kernel, by decide +kernel⟩, List.mem_of_getElem? (i := 564) (by decide +kernel), List.mem_of_getElem? (i := 714) (by decide +kernel), List.mem_of_getElem? (i := 715) (by decide +kernel)⟩
theorem lw_p29 : lw_okq (⟨"MessageGamesModel", "believes", "(I)V"⟩, 12) := ⟨⟨by decide +kernel, by decide +kernel⟩, List.mem_of_getElem? (i := 564) (by decide +kernel), List.mem_of_getElem? (i := 718) (by decide +kernel), List.mem_of_getElem? (i := 719) (by decide +kernel)⟩
theorem lw_p30 : lw_okq (⟨"MessageGamesModel", "senders", "(I)I"⟩, 12) := ⟨⟨by decide +kernel, by decide +kernel⟩, List.mem_of_getElem? (i := 564) (by decide +kernel), List.mem_of_getElem? (i := 722) (by decide +kernel), List.mem_of_getElem? (i := 723) (by decide +kernel)⟩
theorem lw_p31 : lw_okq (⟨"MessageGamesModel", "bestSet", "(I)I"⟩, 12) := ⟨⟨by decide +kernel, by decide +kernel⟩, List.mem_of_getElem? (i := 564) (by decide +kernel), List.mem_of_getElem? (i := 726) (by decide +kernel), List.mem_of_getElem? (i := 727) (by decide +kernel)⟩
def lw_privs_2 : List (MethodName × Nat) := [(⟨"MessageGamesModel", "mayWeigh", "(III)I"⟩, 12), (⟨"MessageGamesModel", "changes", "(II)I"⟩, 12), (⟨"MessageGamesModel", "mayBelieve", "(III)I"⟩, 12), (⟨"MessageGamesModel", "codeAt", "(I)I"⟩, 12), (⟨"MessageGamesModel", "looksAt", "(I)V"⟩, 12), (⟨"MessageGamesModel", "holds", "()Z"⟩, 12), (⟨"MessageGamesModel", "unhappy", "()I"⟩, 12), (⟨"MessageGamesModel", "isThere", "(I)Z"⟩, 12), (⟨"MessageGamesModel", "most", "(I)I"⟩, 12), (⟨"MessageGamesModel", "has", "(II)I"⟩, 12), (⟨"MessageGamesModel", "payoffOf", "(I)I"⟩, 12), (⟨"MessageGamesModel", "wrong", "()I"⟩, 12), (⟨"MessageGamesModel", "best", "(I)I"⟩, 12), (⟨"MessageGamesModel", "believes", "(I)V"⟩, 12), (⟨"MessageGamesModel", "senders", "(I)I"⟩, 12), (⟨"MessageGamesModel", "bestSet", "(I)I"⟩, 12)]
theorem lw_r2 : ∀ q ∈ lw_privs_2, lw_okq q := List.forall_mem_cons.mpr ⟨lw_p16, List.forall_mem_cons.mpr ⟨lw_p17, List.forall_mem_cons.mpr ⟨lw_p18, List.forall_mem_cons.mpr ⟨lw_p19, List.forall_mem_cons.mpr ⟨lw_p20, List.forall_mem_cons.mpr ⟨lw_p21, List.forall_mem_cons.mpr ⟨lw_p22, List.forall_mem_cons.mpr ⟨lw_p23, List.forall_mem_cons.mpr ⟨lw_p24, List.forall_mem_cons.mpr ⟨lw_p25, List.forall_mem_cons.mpr ⟨lw_p26, List.forall_mem_cons.mpr ⟨lw_p27, List.forall_mem_cons.mpr ⟨lw_p28, List.forall_mem_cons.mpr ⟨lw_p29, List.forall_mem_cons.mpr ⟨lw_p30, List.forall_mem_cons.mpr ⟨lw_p31, fun _ h => absurd h List.not_mem_nil⟩⟩⟩⟩⟩⟩⟩⟩⟩⟩⟩⟩⟩⟩⟩⟩
theorem lw_p32 : lw_okq (⟨"MessageGamesModel", "worth", "(II)I"⟩, 12) := ⟨⟨by decide +kernel, by decide +kernel⟩, List.mem_of_getElem? (i := 564) (by decide +kernel), List.mem_of_getElem? (i := 730) (by decide +kernel), List.mem_of_getElem? (i := 731) (by decide +kernel)⟩
theorem lw_p33 : lw_okq (⟨"MessageGamesModel", "counts", "(I)I"⟩, 12) := ⟨⟨by decide +kernel, by decide +kernel⟩, List.mem_of_getElem? (i := 564) (by decide +kernel), List.mem_of_getElem? (i := 734) (by decide +kernel), List.mem_of_getElem? (i := 735) (by decide +kernel)⟩
theorem lw_p34 : lw_okq (⟨"MessageGamesModel", "isRefined", "()Z"⟩, 12) := ⟨⟨by decide +kernel, by decide +kernel⟩, List.mem_of_getElem? (i := 564) (by decide +kernel), List.mem_of_getElem? (i := 738) (by decide +kernel), List.mem_of_getElem? (i := 739) (by decide +kernel)⟩
theorem lw_p35 : lw_okq (⟨"MessageGamesModel", "isBarred", "(I)Z"⟩, 12) := ⟨⟨by decide +kernel, by decide +kernel⟩, List.mem_of_getElem? (i := 564) (by decide +kernel), List.mem_of_getElem? (i := 742) (by decide +kernel), List.mem_of_getElem? (i := 743) (by decide +kernel)⟩
theorem lw_p36 : lw_okq (⟨"MessageGamesModel", "there", "()I"⟩, 12) := ⟨⟨by decide +kernel, by decide +kernel⟩, List.mem_of_getElem? (i := 564) (by decide +kernel), List.mem_of_getElem? (i := 746) (by decide +kernel), List.mem_of_getElem? (i := 747) (by decide +kernel)⟩
theorem lw_p37 : lw_okq (⟨"MessageGamesModel", "never", "(I)I"⟩, 12) := ⟨⟨by decide +kernel, by decide +kernel⟩, List.mem_of_getElem? (i := 564) (by decide +kernel), List.mem_of_getElem? (i := 750) (by decide +kernel), List.mem_of_getElem? (i := 751) (by decide +kernel)⟩
theorem lw_p38 : lw_okq (⟨"MessageGamesModel", "possible", "(II)I"⟩, 12) := ⟨⟨by decide +kernel, by decide +kernel⟩, List.mem_of_getElem? (i := 564) (by decide +kernel), List.mem_of_getElem? (i := 754) (by decide +kernel), List.mem_of_getElem? (i := 755) (by decide +kernel)⟩
theorem lw_p39 : lw_okq (⟨"MessageGamesModel", "isBeyond", "(IIIZ)Z"⟩, 12) := ⟨⟨by decide +kernel, by decide +kernel⟩, List.mem_of_getElem? (i := 564) (by decide +kernel), List.mem_of_getElem? (i := 758) (by decide +kernel), List.mem_of_getElem? (i := 759) (by decide +kernel)⟩
theorem lw_p40 : lw_okq (⟨"MessageGamesModel", "sort", "()I"⟩, 12) := ⟨⟨by decide +kernel, by decide +kernel⟩, List.mem_of_getElem? (i := 564) (by decide +kernel), List.mem_of_getElem? (i := 762) (by decide +kernel), List.mem_of_getElem? (i := 763) (by decide +kernel)⟩
theorem lw_p41 : lw_okq (⟨"MessageGamesModel", "receives", "()I"⟩, 12) := ⟨⟨by decide +kernel, by decide +kernel⟩, List.mem_of_getElem? (i := 564) (by decide +kernel), List.mem_of_getElem? (i := 778) (by decide +kernel), List.mem_of_getElem? (i := 779) (by decide +kernel)⟩
theorem lw_p42 : lw_okq (⟨"MessageGamesModel", "looks", "()V"⟩, 12) := ⟨⟨by decide +kernel, by decide +kernel⟩, List.mem_of_getElem? (i := 564) (by decide +kernel), List.mem_of_getElem? (i := 790) (by decide +kernel), List.mem_of_getElem? (i := 791) (by decide +kernel)⟩
theorem lw_p43 : lw_okq (⟨"MessageGamesModel", "sum", "()I"⟩, 12) := ⟨⟨by decide +kernel, by decide +kernel⟩, List.mem_of_getElem? (i := 564) (by decide +kernel), List.mem_of_getElem? (i := 802) (by decide +kernel), List.mem_of_getElem? (i := 803) (by decide +kernel)⟩
theorem lw_p44 : lw_okq (⟨"MessageGamesModel", "sentSet", "()I"⟩, 12) := ⟨⟨by decide +kernel, by decide +kernel⟩, List.mem_of_getElem? (i := 564) (by decide +kernel), List.mem_of_getElem? (i := 821) (by decide +kernel), List.mem_of_getElem? (i := 822) (by decide +kernel)⟩
theorem lw_p45 : lw_okq (⟨"MessageGamesModel", "isText", "()Z"⟩, 12) := ⟨⟨by decide +kernel, by decide +kernel⟩, List.mem_of_getElem? (i := 564) (by decide +kernel), List.mem_of_getElem? (i := 848) (by decide +kernel), List.mem_of_getElem? (i := 849) (by decide +kernel)⟩
theorem lw_p46 : lw_okq (⟨"MessageGamesModel", "isOrder", "()Z"⟩, 12) := ⟨⟨by decide +kernel, by decide +kernel⟩, List.mem_of_getElem? (i := 564) (by decide +kernel), List.mem_of_getElem? (i := 852) (by decide +kernel), List.mem_of_getElem? (i := 853) (by decide +kernel)⟩
theorem lw_p47 : lw_okq (⟨"MessageGamesModel", "isFigure", "(II)Z"⟩, 12) := ⟨⟨by decide +kernel, by decide +kernel⟩, List.mem_of_getElem? (i := 564) (by decide +kernel), List.mem_of_getElem? (i := 856) (by decide +kernel), List.mem_of_getElem? (i := 857) (by decide +kernel)⟩
def lw_privs_3 : List (MethodName × Nat) := [(⟨"MessageGamesModel", "worth", "(II)I"⟩, 12), (⟨"MessageGamesModel", "counts", "(I)I"⟩, 12), (⟨"MessageGamesModel", "isRefined", "()Z"⟩, 12), (⟨"MessageGamesModel", "isBarred", "(I)Z"⟩, 12), (⟨"MessageGamesModel", "there", "()I"⟩, 12), (⟨"MessageGamesModel", "never", "(I)I"⟩, 12), (⟨"MessageGamesModel", "possible", "(II)I"⟩, 12), (⟨"MessageGamesModel", "isBeyond", "(IIIZ)Z"⟩, 12), (⟨"MessageGamesModel", "sort", "()I"⟩, 12), (⟨"MessageGamesModel", "receives", "()I"⟩, 12), (⟨"MessageGamesModel", "looks", "()V"⟩, 12), (⟨"MessageGamesModel", "sum", "()I"⟩, 12), (⟨"MessageGamesModel", "sentSet", "()I"⟩, 12), (⟨"MessageGamesModel", "isText", "()Z"⟩, 12), (⟨"MessageGamesModel", "isOrder", "()Z"⟩, 12), (⟨"MessageGamesModel", "isFigure", "(II)Z"⟩, 12)]
theorem lw_r3 : ∀ q ∈ lw_privs_3, lw_okq q := List.forall_mem_cons.mpr ⟨lw_p32, List.forall_mem_cons.mpr ⟨lw_p33, List.forall_mem_cons.mpr ⟨lw_p34, List.forall_mem_cons.mpr ⟨lw_p35, List.forall_mem_cons.mpr ⟨lw_p36, List.forall_mem_cons.mpr ⟨lw_p37, List.forall_mem_cons.mpr ⟨lw_p38, List.forall_mem_cons.mpr ⟨lw_p39, List.forall_mem_cons.mpr ⟨lw_p40, List.forall_mem_cons.mpr ⟨lw_p41, List.forall_mem_cons.mpr ⟨lw_p42, List.forall_mem_cons.mpr ⟨lw_p43, List.forall_mem_cons.mpr ⟨lw_p44, List.forall_mem_cons.mpr ⟨lw_p45, List.forall_mem_cons.mpr ⟨lw_p46, List.forall_mem_cons.mpr ⟨lw_p47, fun _ h => absurd h List.not_mem_nil⟩⟩⟩⟩⟩⟩⟩⟩⟩⟩⟩⟩⟩⟩⟩⟩
theorem lw_p48 : lw_okq (⟨"MessageGamesModel", "isAt", "(II)Z"⟩, 12) := ⟨⟨by decide +kernel, by decide +kernel⟩, List.mem_of_getElem? (i := 564) (by decide +kernel), List.mem_of_getElem? (i := 860) (by decide +kernel), List.mem_of_getElem? (i := 861) (by decide +kernel)⟩
theorem lw_p49 : lw_okq (⟨"MessageGamesModel", "isSign", "(I)Z"⟩, 12) := ⟨⟨by decide +kernel, by decide +kernel⟩, List.mem_of_getElem? (i := 564) (by decide +kernel), List.mem_of_getElem? (i := 864) (by decide +kernel), List.mem_of_getElem? (i := 865) (by decide +kernel)⟩
theorem lw_p50 : lw_okq (⟨"MessageGamesModel", "isPay", "()Z"⟩, 12) := ⟨⟨by decide +kernel, by decide +kernel⟩, List.mem_of_getElem? (i := 564) (by decide +kernel), List.mem_of_getElem? (i := 868) (by decide +kernel), List.mem_of_getElem? (i := 869) (by decide +kernel)⟩
theorem lw_p51 : lw_okq (⟨"MessageGamesModel", "does", "(I)Z"⟩, 12) := ⟨⟨by decide +kernel, by decide +kernel⟩, List.mem_of_getElem? (i := 564) (by decide +kernel), List.mem_of_getElem? (i := 876) (by decide +kernel), List.mem_of_getElem? (i := 877) (by decide +kernel)⟩
def lw_privs_4 : List (MethodName × Nat) := [(⟨"MessageGamesModel", "isAt", "(II)Z"⟩, 12), (⟨"MessageGamesModel", "isSign", "(I)Z"⟩, 12), (⟨"MessageGamesModel", "isPay", "()Z"⟩, 12), (⟨"MessageGamesModel", "does", "(I)Z"⟩, 12)]
theorem lw_r4 : ∀ q ∈ lw_privs_4, lw_okq q := List.forall_mem_cons.mpr ⟨lw_p48, List.forall_mem_cons.mpr ⟨lw_p49, List.forall_mem_cons.mpr ⟨lw_p50, List.forall_mem_cons.mpr ⟨lw_p51, fun _ h => absurd h List.not_mem_nil⟩⟩⟩⟩
def lw_privs : List (MethodName × Nat) := lw_privs_1 ++ (lw_privs_2 ++ (lw_privs_3 ++ (lw_privs_4)))
def lw_tbl : List Cond := k2_sels lw_privs ++ tables_1
theorem lw_privs_ok : ∀ q ∈ lw_privs, lw_okq q := by
  show ∀ q ∈ lw_privs_1 ++ (lw_privs_2 ++ (lw_privs_3 ++ (lw_privs_4))), lw_okq q
  exact List.forall_mem_append.mpr ⟨lw_r1, List.forall_mem_append.mpr ⟨lw_r2, List.forall_mem_append.mpr ⟨lw_r3, lw_r4⟩⟩⟩
end
section
def RX0 : String := "MessageGames$Game"
def TX0 : u_T := fun k => match k with
  | 0 => ("MessageGames$Game", "cells", "[I", true)
  | _ => ("MessageGames$Game", "possible", "[I", true)
def tyX0 : Nat → FieldType := fun k => match k with
  | 0 => .array .int
  | _ => .array .int
abbrev wsX00 : List Cond := u_ws RX0 TX0 2
theorem nmX0 : ∀ a, a < 2 → ∀ b, b < 2 → a ≠ b → (TX0 a).2.1 ≠ (TX0 b).2.1 := by decide +kernel
theorem tyX0_ok : ∀ k, k < 2 → parseFieldDescriptor (TX0 k).2.2.1 = some (tyX0 k) := by decide +kernel
abbrev cX0_init : ByteArray := prog_2_method_1_code
def yX0_init : MethodName := ⟨RX0, "<init>", "()V"⟩
abbrev cX0_weightPlace : ByteArray := prog_2_method_2_code
def yX0_weightPlace : MethodName := ⟨RX0, "weightPlace", "(I)I"⟩
abbrev cX0_toldPlace : ByteArray := prog_2_method_3_code
def yX0_toldPlace : MethodName := ⟨RX0, "toldPlace", "(II)I"⟩
abbrev cX0_payPlace : ByteArray := prog_2_method_4_code
def yX0_payPlace : MethodName := ⟨RX0, "payPlace", "(IIII)I"⟩
abbrev cX0_messagePlace : ByteArray := prog_2_method_5_code
def yX0_messagePlace : MethodName := ⟨RX0, "messagePlace", "(I)I"⟩
abbrev cX0_answerPlace : ByteArray := prog_2_method_6_code
def yX0_answerPlace : MethodName := ⟨RX0, "answerPlace", "(I)I"⟩
abbrev cX0_cell : ByteArray := prog_2_method_7_code
def yX0_cell : MethodName := ⟨RX0, "cell", "(I)I"⟩
abbrev cX0_change : ByteArray := prog_2_method_8_code
def yX0_change : MethodName := ⟨RX0, "change", "(II)I"⟩
abbrev cX0_forgetPossible : ByteArray := prog_2_method_9_code
def yX0_forgetPossible : MethodName := ⟨RX0, "forgetPossible", "()V"⟩
abbrev cX0_writeTo : ByteArray := prog_2_method_10_code
def yX0_writeTo : MethodName := ⟨RX0, "writeTo", "([II)V"⟩
abbrev cX0_readFrom : ByteArray := prog_2_method_11_code
def yX0_readFrom : MethodName := ⟨RX0, "readFrom", "([II)V"⟩
abbrev cX0_copyFrom : ByteArray := prog_2_method_12_code
def yX0_copyFrom : MethodName := ⟨RX0, "copyFrom", "(LMessageGames$Game;)V"⟩
abbrev cX0_differsOnlyInPlan : ByteArray := prog_2_method_13_code
def yX0_differsOnlyInPlan : MethodName := ⟨RX0, "differsOnlyInPlan", "(LMessageGames$Game;)Z"⟩
abbrev cX0_code : ByteArray := prog_2_method_14_code
def yX0_code : MethodName := ⟨RX0, "code", "()I"⟩
abbrev cX0_takePlan : ByteArray := prog_2_method_15_code
def yX0_takePlan : MethodName := ⟨RX0, "takePlan", "(I)V"⟩
abbrev cX0_typesThere : ByteArray := prog_2_method_16_code
def yX0_typesThere : MethodName := ⟨RX0, "typesThere", "()I"⟩
abbrev cX0_sendersOf : ByteArray := prog_2_method_17_code
def yX0_sendersOf : MethodName := ⟨RX0, "sendersOf", "(I)I"⟩
abbrev cX0_messagesSent : ByteArray := prog_2_method_18_code
def yX0_messagesSent : MethodName := ⟨RX0, "messagesSent", "()I"⟩
abbrev cX0_kind : ByteArray := prog_2_method_19_code
def yX0_kind : MethodName := ⟨RX0, "kind", "()I"⟩
abbrev cX0_weightSum : ByteArray := prog_2_method_20_code
def yX0_weightSum : MethodName := ⟨RX0, "weightSum", "()I"⟩
abbrev cX0_toldSum : ByteArray := prog_2_method_21_code
def yX0_toldSum : MethodName := ⟨RX0, "toldSum", "(I)I"⟩
abbrev cX0_beliefWeight : ByteArray := prog_2_method_22_code
def yX0_beliefWeight : MethodName := ⟨RX0, "beliefWeight", "(II)I"⟩
abbrev cX0_beliefSum : ByteArray := prog_2_method_23_code
def yX0_beliefSum : MethodName := ⟨RX0, "beliefSum", "(I)I"⟩
abbrev cX0_worthBy : ByteArray := prog_2_method_24_code
def yX0_worthBy : MethodName := ⟨RX0, "worthBy", "(IIIII)I"⟩
abbrev cX0_bestBy : ByteArray := prog_2_method_25_code
def yX0_bestBy : MethodName := ⟨RX0, "bestBy", "(IIII)I"⟩
abbrev cX0_worthOf : ByteArray := prog_2_method_26_code
def yX0_worthOf : MethodName := ⟨RX0, "worthOf", "(II)I"⟩
abbrev cX0_bestActions : ByteArray := prog_2_method_27_code
def yX0_bestActions : MethodName := ⟨RX0, "bestActions", "(I)I"⟩
abbrev cX0_lowestWrongMessage : ByteArray := prog_2_method_28_code
def yX0_lowestWrongMessage : MethodName := ⟨RX0, "lowestWrongMessage", "()I"⟩
abbrev cX0_receiverSum : ByteArray := prog_2_method_29_code
def yX0_receiverSum : MethodName := ⟨RX0, "receiverSum", "()I"⟩
abbrev cX0_payoffBy : ByteArray := prog_2_method_30_code
def yX0_payoffBy : MethodName := ⟨RX0, "payoffBy", "(II)I"⟩
abbrev cX0_ownPayoff : ByteArray := prog_2_method_31_code
def yX0_ownPayoff : MethodName := ⟨RX0, "ownPayoff", "(I)I"⟩
abbrev cX0_dearestMessage : ByteArray := prog_2_method_32_code
def yX0_dearestMessage : MethodName := ⟨RX0, "dearestMessage", "(I)I"⟩
abbrev cX0_lowestBetterType : ByteArray := prog_2_method_33_code
def yX0_lowestBetterType : MethodName := ⟨RX0, "lowestBetterType", "()I"⟩
abbrev cX0_isHolding : ByteArray := prog_2_method_34_code
def yX0_isHolding : MethodName := ⟨RX0, "isHolding", "()Z"⟩
abbrev cX0_possibleActions : ByteArray := prog_2_method_35_code
def yX0_possibleActions : MethodName := ⟨RX0, "possibleActions", "(II)I"⟩
abbrev cX0_mostByAny : ByteArray := prog_2_method_36_code
def yX0_mostByAny : MethodName := ⟨RX0, "mostByAny", "(III)I"⟩
abbrev cX0_leastByAny : ByteArray := prog_2_method_37_code
def yX0_leastByAny : MethodName := ⟨RX0, "leastByAny", "(III)I"⟩
abbrev cX0_neverSenders : ByteArray := prog_2_method_38_code
def yX0_neverSenders : MethodName := ⟨RX0, "neverSenders", "(I)I"⟩
abbrev cX0_isUntempted : ByteArray := prog_2_method_39_code
def yX0_isUntempted : MethodName := ⟨RX0, "isUntempted", "()Z"⟩
def RX1 : String := "MessageGames$Pad"
def TX1 : u_T := fun k => match k with
  | 0 => ("MessageGames$Pad", "signs", "[I", true)
  | _ => ("MessageGames$Pad", "length", "I", false)
def tyX1 : Nat → FieldType := fun k => match k with
  | 0 => .array .int
  | _ => .int
abbrev wsX10 : List Cond := u_ws RX1 TX1 2
theorem nmX1 : ∀ a, a < 2 → ∀ b, b < 2 → a ≠ b → (TX1 a).2.1 ≠ (TX1 b).2.1 := by decide +kernel
theorem tyX1_ok : ∀ k, k < 2 → parseFieldDescriptor (TX1 k).2.2.1 = some (tyX1 k) := by decide +kernel
abbrev cX1_init : ByteArray := prog_3_method_1_code
def yX1_init : MethodName := ⟨RX1, "<init>", "()V"⟩
abbrev cX1_length : ByteArray := prog_3_method_2_code
def yX1_length : MethodName := ⟨RX1, "length", "()I"⟩
abbrev cX1_append : ByteArray := prog_3_method_3_code
def yX1_append : MethodName := ⟨RX1, "append", "(I)V"⟩
abbrev cX1_clear : ByteArray := prog_3_method_4_code
def yX1_clear : MethodName := ⟨RX1, "clear", "()V"⟩
abbrev cX1_signAt : ByteArray := prog_3_method_5_code
def yX1_signAt : MethodName := ⟨RX1, "signAt", "(I)I"⟩
abbrev cX1_digitAt : ByteArray := prog_3_method_6_code
def yX1_digitAt : MethodName := ⟨RX1, "digitAt", "(I)I"⟩
abbrev cX1_shapeOf : ByteArray := prog_3_method_7_code
def yX1_shapeOf : MethodName := ⟨RX1, "shapeOf", "(I)Ljava/lang/String;"⟩
abbrev cX1_fits : ByteArray := prog_3_method_8_code
def yX1_fits : MethodName := ⟨RX1, "fits", "(IC)Z"⟩
abbrev cX1_endOfOrder : ByteArray := prog_3_method_9_code
def yX1_endOfOrder : MethodName := ⟨RX1, "endOfOrder", "(I)I"⟩
abbrev cX1_lastNumberOf : ByteArray := prog_3_method_10_code
def yX1_lastNumberOf : MethodName := ⟨RX1, "lastNumberOf", "(I)I"⟩
abbrev cX1_faultOfOrder : ByteArray := prog_3_method_11_code
def yX1_faultOfOrder : MethodName := ⟨RX1, "faultOfOrder", "(I)I"⟩
abbrev cX1_faultPlace : ByteArray := prog_3_method_12_code
def yX1_faultPlace : MethodName := ⟨RX1, "faultPlace", "()I"⟩
def RX2 : String := "MessageGames$Survey"
def TX2 : u_T := fun k => match k with
  | 0 => ("MessageGames$Survey", "trial", "LMessageGames$Game;", true)
  | 1 => ("MessageGames$Survey", "codes", "[I", true)
  | 2 => ("MessageGames$Survey", "numbers", "[I", true)
  | _ => ("MessageGames$Survey", "isMade", "Z", false)
def tyX2 : Nat → FieldType := fun k => match k with
  | 0 => .object "MessageGames$Game"
  | 1 => .array .int
  | 2 => .array .int
  | _ => .boolean
abbrev wsX20 : List Cond := u_ws RX2 TX2 4
theorem nmX2 : ∀ a, a < 4 → ∀ b, b < 4 → a ≠ b → (TX2 a).2.1 ≠ (TX2 b).2.1 := by decide +kernel
theorem tyX2_ok : ∀ k, k < 4 → parseFieldDescriptor (TX2 k).2.2.1 = some (tyX2 k) := by decide +kernel
abbrev cX2_init : ByteArray := prog_4_method_1_code
def yX2_init : MethodName := ⟨RX2, "<init>", "()V"⟩
abbrev cX2_numberOf : ByteArray := prog_4_method_2_code
def yX2_numberOf : MethodName := ⟨RX2, "numberOf", "(LMessageGames$Game;I)I"⟩
abbrev cX2_codeAt : ByteArray := prog_4_method_3_code
def yX2_codeAt : MethodName := ⟨RX2, "codeAt", "(I)I"⟩
abbrev cX2_receiverSumAt : ByteArray := prog_4_method_4_code
def yX2_receiverSumAt : MethodName := ⟨RX2, "receiverSumAt", "(I)I"⟩
abbrev cX2_bestPlace : ByteArray := prog_4_method_5_code
def yX2_bestPlace : MethodName := ⟨RX2, "bestPlace", "(LMessageGames$Game;)I"⟩
abbrev cX2_look : ByteArray := prog_4_method_6_code
def yX2_look : MethodName := ⟨RX2, "look", "(LMessageGames$Game;)V"⟩
abbrev cX2_addPlans : ByteArray := prog_4_method_7_code
def yX2_addPlans : MethodName := ⟨RX2, "addPlans", "(I)V"⟩
def RX3 : String := "MessageGames"
def TX3 : u_T := fun k => match k with
  | 0 => ("MessageGames", "game", "LMessageGames$Game;", true)
  | 1 => ("MessageGames", "survey", "LMessageGames$Survey;", true)
  | 2 => ("MessageGames", "pad", "LMessageGames$Pad;", true)
  | 3 => ("MessageGames", "past", "[I", true)
  | 4 => ("MessageGames", "slots", "[I", true)
  | 5 => ("MessageGames", "isSaved", "[Z", true)
  | _ => ("MessageGames", "changes", "I", false)
def tyX3 : Nat → FieldType := fun k => match k with
  | 0 => .object "MessageGames$Game"
  | 1 => .object "MessageGames$Survey"
  | 2 => .object "MessageGames$Pad"
  | 3 => .array .int
  | 4 => .array .int
  | 5 => .array .boolean
  | _ => .int
abbrev wsX30 : List Cond := u_ws RX3 TX3 7
theorem nmX3 : ∀ a, a < 7 → ∀ b, b < 7 → a ≠ b → (TX3 a).2.1 ≠ (TX3 b).2.1 := by decide +kernel
theorem tyX3_ok : ∀ k, k < 7 → parseFieldDescriptor (TX3 k).2.2.1 = some (tyX3 k) := by decide +kernel
abbrev cX3_init : ByteArray := prog_1_method_1_code
def yX3_init : MethodName := ⟨RX3, "<init>", "()V"⟩
abbrev cX3_weight : ByteArray := prog_1_method_2_code
def yX3_weight : MethodName := ⟨RX3, "weight", "(II)I"⟩
abbrev cX3_pay : ByteArray := prog_1_method_3_code
def yX3_pay : MethodName := ⟨RX3, "pay", "(IIIII)I"⟩
abbrev cX3_believe : ByteArray := prog_1_method_4_code
def yX3_believe : MethodName := ⟨RX3, "believe", "(III)I"⟩
abbrev cX3_send : ByteArray := prog_1_method_5_code
def yX3_send : MethodName := ⟨RX3, "send", "(II)I"⟩
abbrev cX3_answer : ByteArray := prog_1_method_6_code
def yX3_answer : MethodName := ⟨RX3, "answer", "(II)I"⟩
abbrev cX3_adopt : ByteArray := prog_1_method_7_code
def yX3_adopt : MethodName := ⟨RX3, "adopt", "(I)I"⟩
abbrev cX3_payoff : ByteArray := prog_1_method_8_code
def yX3_payoff : MethodName := ⟨RX3, "payoff", "(IIII)I"⟩
abbrev cX3_ofType : ByteArray := prog_1_method_9_code
def yX3_ofType : MethodName := ⟨RX3, "ofType", "(II)I"⟩
abbrev cX3_ofMessage : ByteArray := prog_1_method_10_code
def yX3_ofMessage : MethodName := ⟨RX3, "ofMessage", "(II)I"⟩
abbrev cX3_belief : ByteArray := prog_1_method_11_code
def yX3_belief : MethodName := ⟨RX3, "belief", "(III)I"⟩
abbrev cX3_mean : ByteArray := prog_1_method_12_code
def yX3_mean : MethodName := ⟨RX3, "mean", "(III)I"⟩
abbrev cX3_why : ByteArray := prog_1_method_13_code
def yX3_why : MethodName := ⟨RX3, "why", "(I)I"⟩
abbrev cX3_count : ByteArray := prog_1_method_14_code
def yX3_count : MethodName := ⟨RX3, "count", "(I)I"⟩
abbrev cX3_plans : ByteArray := prog_1_method_15_code
def yX3_plans : MethodName := ⟨RX3, "plans", "(I)I"⟩
abbrev cX3_planAt : ByteArray := prog_1_method_16_code
def yX3_planAt : MethodName := ⟨RX3, "planAt", "(I)I"⟩
abbrev cX3_bestAnswer : ByteArray := prog_1_method_17_code
def yX3_bestAnswer : MethodName := ⟨RX3, "bestAnswer", "(I)I"⟩
abbrev cX3_bestPlan : ByteArray := prog_1_method_18_code
def yX3_bestPlan : MethodName := ⟨RX3, "bestPlan", "(I)I"⟩
abbrev cX3_put : ByteArray := prog_1_method_19_code
def yX3_put : MethodName := ⟨RX3, "put", "(J)I"⟩
abbrev cX3_wipe : ByteArray := prog_1_method_20_code
def yX3_wipe : MethodName := ⟨RX3, "wipe", "()I"⟩
abbrev cX3_fault : ByteArray := prog_1_method_21_code
def yX3_fault : MethodName := ⟨RX3, "fault", "()I"⟩
abbrev cX3_carryOut : ByteArray := prog_1_method_22_code
def yX3_carryOut : MethodName := ⟨RX3, "carryOut", "()I"⟩
abbrev cX3_undo : ByteArray := prog_1_method_23_code
def yX3_undo : MethodName := ⟨RX3, "undo", "()I"⟩
abbrev cX3_save : ByteArray := prog_1_method_24_code
def yX3_save : MethodName := ⟨RX3, "save", "(I)I"⟩
abbrev cX3_restore : ByteArray := prog_1_method_25_code
def yX3_restore : MethodName := ⟨RX3, "restore", "(I)I"⟩
abbrev cX3_isWithin : ByteArray := prog_1_method_26_code
def yX3_isWithin : MethodName := ⟨RX3, "isWithin", "(II)Z"⟩
abbrev cX3_has : ByteArray := prog_1_method_27_code
def yX3_has : MethodName := ⟨RX3, "has", "(II)Z"⟩
abbrev cX3_lowestIn : ByteArray := prog_1_method_28_code
def yX3_lowestIn : MethodName := ⟨RX3, "lowestIn", "(I)I"⟩
abbrev cX3_shortened : ByteArray := prog_1_method_29_code
def yX3_shortened : MethodName := ⟨RX3, "shortened", "(III)I"⟩
abbrev cX3_weightError : ByteArray := prog_1_method_30_code
def yX3_weightError : MethodName := ⟨RX3, "weightError", "(II)I"⟩
abbrev cX3_beliefError : ByteArray := prog_1_method_31_code
def yX3_beliefError : MethodName := ⟨RX3, "beliefError", "(III)I"⟩
abbrev cX3_record : ByteArray := prog_1_method_32_code
def yX3_record : MethodName := ⟨RX3, "record", "()V"⟩
abbrev cX3_charactersIn : ByteArray := prog_1_method_33_code
def yX3_charactersIn : MethodName := ⟨RX3, "charactersIn", "(J)I"⟩
abbrev cX3_characterOf : ByteArray := prog_1_method_34_code
def yX3_characterOf : MethodName := ⟨RX3, "characterOf", "(JI)I"⟩
abbrev cX3_isDone : ByteArray := prog_1_method_35_code
def yX3_isDone : MethodName := ⟨RX3, "isDone", "(I)Z"⟩
abbrev cX3_isChanged : ByteArray := prog_1_method_36_code
def yX3_isChanged : MethodName := ⟨RX3, "isChanged", "(III)Z"⟩
def RX4 : String := "MessageGamesModel"
def TX4 : u_T := fun k => match k with
  | 0 => ("MessageGamesModel", "now", "[I", true)
  | 1 => ("MessageGamesModel", "past", "[I", true)
  | 2 => ("MessageGamesModel", "kept", "I", false)
  | 3 => ("MessageGamesModel", "slots", "[I", true)
  | 4 => ("MessageGamesModel", "held", "[Z", true)
  | 5 => ("MessageGamesModel", "pad", "[I", true)
  | 6 => ("MessageGamesModel", "padded", "I", false)
  | 7 => ("MessageGamesModel", "at", "I", false)
  | 8 => ("MessageGamesModel", "orders", "[I", true)
  | 9 => ("MessageGamesModel", "ordered", "I", false)
  | 10 => ("MessageGamesModel", "plan", "[I", true)
  | _ => ("MessageGamesModel", "belief", "[I", true)
def tyX4 : Nat → FieldType := fun k => match k with
  | 0 => .array .int
  | 1 => .array .int
  | 2 => .int
  | 3 => .array .int
  | 4 => .array .boolean
  | 5 => .array .int
  | 6 => .int
  | 7 => .int
  | 8 => .array .int
  | 9 => .int
  | 10 => .array .int
  | _ => .array .int
abbrev wsX40 : List Cond := u_ws RX4 TX4 12
theorem nmX4 : ∀ a, a < 12 → ∀ b, b < 12 → a ≠ b → (TX4 a).2.1 ≠ (TX4 b).2.1 := by decide +kernel
theorem tyX4_ok : ∀ k, k < 12 → parseFieldDescriptor (TX4 k).2.2.1 = some (tyX4 k) := by decide +kernel
abbrev cX4_init : ByteArray := prog_6_method_1_code
def yX4_init : MethodName := ⟨RX4, "<init>", "()V"⟩
abbrev cX4_in : ByteArray := prog_6_method_3_code
def yX4_in : MethodName := ⟨RX4, "in", "(III)Z"⟩
abbrev cX4_isOne : ByteArray := prog_6_method_4_code
def yX4_isOne : MethodName := ⟨RX4, "isOne", "(I)Z"⟩
abbrev cX4_lays : ByteArray := prog_6_method_5_code
def yX4_lays : MethodName := ⟨RX4, "lays", "([II[II)V"⟩
abbrev cX4_records : ByteArray := prog_6_method_6_code
def yX4_records : MethodName := ⟨RX4, "records", "()V"⟩
abbrev cX4_undo : ByteArray := prog_6_method_7_code
def yX4_undo : MethodName := ⟨RX4, "undo", "()I"⟩
abbrev cX4_code : ByteArray := prog_6_method_8_code
def yX4_code : MethodName := ⟨RX4, "code", "()I"⟩
abbrev cX4_save : ByteArray := prog_6_method_9_code
def yX4_save : MethodName := ⟨RX4, "save", "(I)I"⟩
abbrev cX4_restore : ByteArray := prog_6_method_10_code
def yX4_restore : MethodName := ⟨RX4, "restore", "(I)I"⟩
abbrev cX4_looksAt : ByteArray := prog_6_method_11_code
def yX4_looksAt : MethodName := ⟨RX4, "looksAt", "(I)V"⟩
abbrev cX4_looks : ByteArray := prog_6_method_12_code
def yX4_looks : MethodName := ⟨RX4, "looks", "()V"⟩
abbrev cX4_place : ByteArray := prog_6_method_13_code
def yX4_place : MethodName := ⟨RX4, "place", "(IIII)I"⟩
abbrev cX4_isThere : ByteArray := prog_6_method_14_code
def yX4_isThere : MethodName := ⟨RX4, "isThere", "(I)Z"⟩
abbrev cX4_there : ByteArray := prog_6_method_15_code
def yX4_there : MethodName := ⟨RX4, "there", "()I"⟩
abbrev cX4_senders : ByteArray := prog_6_method_16_code
def yX4_senders : MethodName := ⟨RX4, "senders", "(I)I"⟩
abbrev cX4_believes : ByteArray := prog_6_method_17_code
def yX4_believes : MethodName := ⟨RX4, "believes", "(I)V"⟩
abbrev cX4_worth : ByteArray := prog_6_method_18_code
def yX4_worth : MethodName := ⟨RX4, "worth", "(II)I"⟩
abbrev cX4_bestSet : ByteArray := prog_6_method_19_code
def yX4_bestSet : MethodName := ⟨RX4, "bestSet", "(I)I"⟩
abbrev cX4_best : ByteArray := prog_6_method_20_code
def yX4_best : MethodName := ⟨RX4, "best", "(I)I"⟩
abbrev cX4_has : ByteArray := prog_6_method_21_code
def yX4_has : MethodName := ⟨RX4, "has", "(II)I"⟩
abbrev cX4_payoffOf : ByteArray := prog_6_method_22_code
def yX4_payoffOf : MethodName := ⟨RX4, "payoffOf", "(I)I"⟩
abbrev cX4_most : ByteArray := prog_6_method_23_code
def yX4_most : MethodName := ⟨RX4, "most", "(I)I"⟩
abbrev cX4_unhappy : ByteArray := prog_6_method_24_code
def yX4_unhappy : MethodName := ⟨RX4, "unhappy", "()I"⟩
abbrev cX4_wrong : ByteArray := prog_6_method_25_code
def yX4_wrong : MethodName := ⟨RX4, "wrong", "()I"⟩
abbrev cX4_holds : ByteArray := prog_6_method_26_code
def yX4_holds : MethodName := ⟨RX4, "holds", "()Z"⟩
abbrev cX4_sort : ByteArray := prog_6_method_27_code
def yX4_sort : MethodName := ⟨RX4, "sort", "()I"⟩
abbrev cX4_possible : ByteArray := prog_6_method_28_code
def yX4_possible : MethodName := ⟨RX4, "possible", "(II)I"⟩
abbrev cX4_isBeyond : ByteArray := prog_6_method_29_code
def yX4_isBeyond : MethodName := ⟨RX4, "isBeyond", "(IIIZ)Z"⟩
abbrev cX4_never : ByteArray := prog_6_method_30_code
def yX4_never : MethodName := ⟨RX4, "never", "(I)I"⟩
abbrev cX4_isBarred : ByteArray := prog_6_method_31_code
def yX4_isBarred : MethodName := ⟨RX4, "isBarred", "(I)Z"⟩
abbrev cX4_isRefined : ByteArray := prog_6_method_32_code
def yX4_isRefined : MethodName := ⟨RX4, "isRefined", "()Z"⟩
abbrev cX4_mayWeigh : ByteArray := prog_6_method_33_code
def yX4_mayWeigh : MethodName := ⟨RX4, "mayWeigh", "(III)I"⟩
abbrev cX4_changes : ByteArray := prog_6_method_34_code
def yX4_changes : MethodName := ⟨RX4, "changes", "(II)I"⟩
abbrev cX4_weight : ByteArray := prog_6_method_35_code
def yX4_weight : MethodName := ⟨RX4, "weight", "(II)I"⟩
abbrev cX4_arePlace : ByteArray := prog_6_method_36_code
def yX4_arePlace : MethodName := ⟨RX4, "arePlace", "(III)Z"⟩
abbrev cX4_pay : ByteArray := prog_6_method_37_code
def yX4_pay : MethodName := ⟨RX4, "pay", "(IIIII)I"⟩
abbrev cX4_mayBelieve : ByteArray := prog_6_method_38_code
def yX4_mayBelieve : MethodName := ⟨RX4, "mayBelieve", "(III)I"⟩
abbrev cX4_believe : ByteArray := prog_6_method_39_code
def yX4_believe : MethodName := ⟨RX4, "believe", "(III)I"⟩
abbrev cX4_send : ByteArray := prog_6_method_40_code
def yX4_send : MethodName := ⟨RX4, "send", "(II)I"⟩
abbrev cX4_answer : ByteArray := prog_6_method_41_code
def yX4_answer : MethodName := ⟨RX4, "answer", "(II)I"⟩
abbrev cX4_counts : ByteArray := prog_6_method_42_code
def yX4_counts : MethodName := ⟨RX4, "counts", "(I)I"⟩
abbrev cX4_codeAt : ByteArray := prog_6_method_43_code
def yX4_codeAt : MethodName := ⟨RX4, "codeAt", "(I)I"⟩
abbrev cX4_adopt : ByteArray := prog_6_method_44_code
def yX4_adopt : MethodName := ⟨RX4, "adopt", "(I)I"⟩
abbrev cX4_plans : ByteArray := prog_6_method_45_code
def yX4_plans : MethodName := ⟨RX4, "plans", "(I)I"⟩
abbrev cX4_planAt : ByteArray := prog_6_method_46_code
def yX4_planAt : MethodName := ⟨RX4, "planAt", "(I)I"⟩
abbrev cX4_receives : ByteArray := prog_6_method_47_code
def yX4_receives : MethodName := ⟨RX4, "receives", "()I"⟩
abbrev cX4_bestPlan : ByteArray := prog_6_method_48_code
def yX4_bestPlan : MethodName := ⟨RX4, "bestPlan", "(I)I"⟩
abbrev cX4_payoff : ByteArray := prog_6_method_49_code
def yX4_payoff : MethodName := ⟨RX4, "payoff", "(IIII)I"⟩
abbrev cX4_ofType : ByteArray := prog_6_method_50_code
def yX4_ofType : MethodName := ⟨RX4, "ofType", "(II)I"⟩
abbrev cX4_ofMessage : ByteArray := prog_6_method_51_code
def yX4_ofMessage : MethodName := ⟨RX4, "ofMessage", "(II)I"⟩
abbrev cX4_common : ByteArray := prog_6_method_52_code
def yX4_common : MethodName := ⟨RX4, "common", "(II)I"⟩
abbrev cX4_sum : ByteArray := prog_6_method_53_code
def yX4_sum : MethodName := ⟨RX4, "sum", "()I"⟩
abbrev cX4_belief : ByteArray := prog_6_method_54_code
def yX4_belief : MethodName := ⟨RX4, "belief", "(III)I"⟩
abbrev cX4_mean : ByteArray := prog_6_method_55_code
def yX4_mean : MethodName := ⟨RX4, "mean", "(III)I"⟩
abbrev cX4_why : ByteArray := prog_6_method_56_code
def yX4_why : MethodName := ⟨RX4, "why", "(I)I"⟩
abbrev cX4_sentSet : ByteArray := prog_6_method_57_code
def yX4_sentSet : MethodName := ⟨RX4, "sentSet", "()I"⟩
abbrev cX4_count : ByteArray := prog_6_method_58_code
def yX4_count : MethodName := ⟨RX4, "count", "(I)I"⟩
abbrev cX4_bestAnswer : ByteArray := prog_6_method_59_code
def yX4_bestAnswer : MethodName := ⟨RX4, "bestAnswer", "(I)I"⟩
abbrev cX4_byteOf : ByteArray := prog_6_method_60_code
def yX4_byteOf : MethodName := ⟨RX4, "byteOf", "(JI)I"⟩
abbrev cX4_toldBy : ByteArray := prog_6_method_61_code
def yX4_toldBy : MethodName := ⟨RX4, "toldBy", "(J)I"⟩
abbrev cX4_put : ByteArray := prog_6_method_62_code
def yX4_put : MethodName := ⟨RX4, "put", "(J)I"⟩
abbrev cX4_wipe : ByteArray := prog_6_method_63_code
def yX4_wipe : MethodName := ⟨RX4, "wipe", "()I"⟩
abbrev cX4_isAt : ByteArray := prog_6_method_64_code
def yX4_isAt : MethodName := ⟨RX4, "isAt", "(II)Z"⟩
abbrev cX4_isSign : ByteArray := prog_6_method_65_code
def yX4_isSign : MethodName := ⟨RX4, "isSign", "(I)Z"⟩
abbrev cX4_isFigure : ByteArray := prog_6_method_66_code
def yX4_isFigure : MethodName := ⟨RX4, "isFigure", "(II)Z"⟩
abbrev cX4_isPay : ByteArray := prog_6_method_67_code
def yX4_isPay : MethodName := ⟨RX4, "isPay", "()Z"⟩
abbrev cX4_isOrder : ByteArray := prog_6_method_68_code
def yX4_isOrder : MethodName := ⟨RX4, "isOrder", "()Z"⟩
abbrev cX4_isText : ByteArray := prog_6_method_69_code
def yX4_isText : MethodName := ⟨RX4, "isText", "()Z"⟩
abbrev cX4_fault : ByteArray := prog_6_method_70_code
def yX4_fault : MethodName := ⟨RX4, "fault", "()I"⟩
abbrev cX4_does : ByteArray := prog_6_method_71_code
def yX4_does : MethodName := ⟨RX4, "does", "(I)Z"⟩
abbrev cX4_carryOut : ByteArray := prog_6_method_72_code
def yX4_carryOut : MethodName := ⟨RX4, "carryOut", "()I"⟩
def RJx145de : String := "java/io/Serializable"
def RJx9f9b0 : String := "java/lang/CharSequence"
def RJxb160c : String := "java/lang/Comparable"
def RJ6 : String := "java/lang/Integer"
abbrev cJ6_bitCount_0f7a4 : ByteArray := prog_7_method_49_code
def yJ6_bitCount_0f7a4 : MethodName := ⟨RJ6, "bitCount", "(I)I"⟩
def RJ9 : String := "java/lang/Math"
abbrev cJ9_abs_0f7a4 : ByteArray := prog_8_method_59_code
def yJ9_abs_0f7a4 : MethodName := ⟨RJ9, "abs", "(I)I"⟩
abbrev cJ9_max_7cf53 : ByteArray := prog_8_method_65_code
def yJ9_max_7cf53 : MethodName := ⟨RJ9, "max", "(II)I"⟩
abbrev cJ9_min_7cf53 : ByteArray := prog_8_method_69_code
def yJ9_min_7cf53 : MethodName := ⟨RJ9, "min", "(II)I"⟩
def RJ0 : String := "java/lang/String"
abbrev cJ0_length_8abf5 : ByteArray := prog_9_method_54_code
def yJ0_length_8abf5 : MethodName := ⟨RJ0, "length", "()I"⟩
abbrev cJ0_isEmpty_aae02 : ByteArray := prog_9_method_55_code
def yJ0_isEmpty_aae02 : MethodName := ⟨RJ0, "isEmpty", "()Z"⟩
abbrev cJ0_charAt_5068e : ByteArray := prog_9_method_56_code
def yJ0_charAt_5068e : MethodName := ⟨RJ0, "charAt", "(I)C"⟩
abbrev cJ0_coder_7d493 : ByteArray := prog_9_method_152_code
def yJ0_coder_7d493 : MethodName := ⟨RJ0, "coder", "()B"⟩
abbrev cJ0_isLatin1_aae02 : ByteArray := prog_9_method_154_code
def yJ0_isLatin1_aae02 : MethodName := ⟨RJ0, "isLatin1", "()Z"⟩
abbrev cJ0_checkIndex_df160 : ByteArray := prog_9_method_155_code
def yJ0_checkIndex_df160 : MethodName := ⟨RJ0, "checkIndex", "(II)V"⟩
def RJ1 : String := "java/lang/StringLatin1"
abbrev cJ1_charAt_3b067 : ByteArray := prog_10_method_2_code
def yJ1_charAt_3b067 : MethodName := ⟨RJ1, "charAt", "([BI)C"⟩
def RJ2 : String := "java/lang/StringUTF16"
abbrev cJ2_getChar_3b067 : ByteArray := prog_11_method_5_code
def yJ2_getChar_3b067 : MethodName := ⟨RJ2, "getChar", "([BI)C"⟩
abbrev cJ2_length_9d52b : ByteArray := prog_11_method_6_code
def yJ2_length_9d52b : MethodName := ⟨RJ2, "length", "([B)I"⟩
abbrev cJ2_charAt_3b067 : ByteArray := prog_11_method_83_code
def yJ2_charAt_3b067 : MethodName := ⟨RJ2, "charAt", "([BI)C"⟩
abbrev cJ2_checkIndex_2214a : ByteArray := prog_11_method_91_code
def yJ2_checkIndex_2214a : MethodName := ⟨RJ2, "checkIndex", "(I[B)V"⟩
def RJ10 : String := "java/lang/System"
def RJxfd54e : String := "java/lang/constant/Constable"
def RJx3cf43 : String := "java/lang/constant/ConstantDesc"
def RJ7 : String := "java/util/Arrays"
abbrev cJ7_rangeCheck_23922 : ByteArray := prog_13_method_30_code
def yJ7_rangeCheck_23922 : MethodName := ⟨RJ7, "rangeCheck", "(III)V"⟩
abbrev cJ7_fill_53178 : ByteArray := prog_13_method_103_code
def yJ7_fill_53178 : MethodName := ⟨RJ7, "fill", "([II)V"⟩
abbrev cJ7_fill_fda19 : ByteArray := prog_13_method_104_code
def yJ7_fill_fda19 : MethodName := ⟨RJ7, "fill", "([IIII)V"⟩
def RJ3 : String := "jdk/internal/util/Preconditions"
abbrev cJ3_checkIndex_8e157 : ByteArray := prog_14_method_11_code
def yJ3_checkIndex_8e157 : MethodName := ⟨RJ3, "checkIndex", "(IILjava/util/function/BiFunction;)I"⟩
def RL : String := "MessageGamesLaw"
abbrev cL_law : ByteArray := code
def yL_law : MethodName := ⟨RL, "law", "([I)Z"⟩
end
section
theorem dX0_init_0 : decode cX0_init 0 = .ok (.aload_n 0, 1) := by decide +kernel
theorem dX0_init_1 : decode cX0_init 1 = .ok (.invokespecial 5, 3) := by decide +kernel
theorem dX0_init_4 : decode cX0_init 4 = .ok (.aload_n 0, 1) := by decide +kernel
theorem dX0_init_5 : decode cX0_init 5 = .ok (.bipush 72, 2) := by decide +kernel
theorem dX0_init_7 : decode cX0_init 7 = .ok (.newarray .int, 2) := by decide +kernel
theorem dX0_init_9 : decode cX0_init 9 = .ok (.putfield 11, 3) := by decide +kernel
theorem dX0_init_12 : decode cX0_init 12 = .ok (.aload_n 0, 1) := by decide +kernel
theorem dX0_init_13 : decode cX0_init 13 = .ok (.bipush 24, 2) := by decide +kernel
theorem dX0_init_15 : decode cX0_init 15 = .ok (.newarray .int, 2) := by decide +kernel
theorem dX0_init_17 : decode cX0_init 17 = .ok (.putfield 15, 3) := by decide +kernel
theorem dX0_init_20 : decode cX0_init 20 = .ok (.aload_n 0, 1) := by decide +kernel
theorem dX0_init_21 : decode cX0_init 21 = .ok (.getfield 11, 3) := by decide +kernel
theorem dX0_init_24 : decode cX0_init 24 = .ok (.iconst 0, 1) := by decide +kernel
theorem dX0_init_25 : decode cX0_init 25 = .ok (.bipush 12, 2) := by decide +kernel
theorem dX0_init_27 : decode cX0_init 27 = .ok (.iconst 1, 1) := by decide +kernel
theorem dX0_init_28 : decode cX0_init 28 = .ok (.invokestatic 18, 3) := by decide +kernel
theorem dX0_init_31 : decode cX0_init 31 = .ok (.return_, 1) := by decide +kernel
theorem dX0_weightPlace_0 : decode cX0_weightPlace 0 = .ok (.iload_n 0, 1) := by decide +kernel
theorem dX0_weightPlace_1 : decode cX0_weightPlace 1 = .ok (.ireturn, 1) := by decide +kernel
theorem dX0_toldPlace_0 : decode cX0_toldPlace 0 = .ok (.iconst 3, 1) := by decide +kernel
theorem dX0_toldPlace_1 : decode cX0_toldPlace 1 = .ok (.iload_n 0, 1) := by decide +kernel
theorem dX0_toldPlace_2 : decode cX0_toldPlace 2 = .ok (.iconst 3, 1) := by decide +kernel
theorem dX0_toldPlace_3 : decode cX0_toldPlace 3 = .ok (.imul, 1) := by decide +kernel
theorem dX0_toldPlace_4 : decode cX0_toldPlace 4 = .ok (.iadd, 1) := by decide +kernel
theorem dX0_toldPlace_5 : decode cX0_toldPlace 5 = .ok (.iload_n 1, 1) := by decide +kernel
theorem dX0_toldPlace_6 : decode cX0_toldPlace 6 = .ok (.iadd, 1) := by decide +kernel
theorem dX0_toldPlace_7 : decode cX0_toldPlace 7 = .ok (.ireturn, 1) := by decide +kernel
theorem dX0_payPlace_0 : decode cX0_payPlace 0 = .ok (.bipush 12, 2) := by decide +kernel
theorem dX0_payPlace_2 : decode cX0_payPlace 2 = .ok (.iload_n 0, 1) := by decide +kernel
theorem dX0_payPlace_3 : decode cX0_payPlace 3 = .ok (.bipush 27, 2) := by decide +kernel
theorem dX0_payPlace_5 : decode cX0_payPlace 5 = .ok (.imul, 1) := by decide +kernel
theorem dX0_payPlace_6 : decode cX0_payPlace 6 = .ok (.iadd, 1) := by decide +kernel
theorem dX0_payPlace_7 : decode cX0_payPlace 7 = .ok (.iload_n 1, 1) := by decide +kernel
theorem dX0_payPlace_8 : decode cX0_payPlace 8 = .ok (.iconst 3, 1) := by decide +kernel
theorem dX0_payPlace_9 : decode cX0_payPlace 9 = .ok (.imul, 1) := by decide +kernel
theorem dX0_payPlace_10 : decode cX0_payPlace 10 = .ok (.iload_n 2, 1) := by decide +kernel
theorem dX0_payPlace_11 : decode cX0_payPlace 11 = .ok (.iadd, 1) := by decide +kernel
theorem dX0_payPlace_12 : decode cX0_payPlace 12 = .ok (.iconst 3, 1) := by decide +kernel
theorem dX0_payPlace_13 : decode cX0_payPlace 13 = .ok (.imul, 1) := by decide +kernel
theorem dX0_payPlace_14 : decode cX0_payPlace 14 = .ok (.iadd, 1) := by decide +kernel
theorem dX0_payPlace_15 : decode cX0_payPlace 15 = .ok (.iload_n 3, 1) := by decide +kernel
theorem dX0_payPlace_16 : decode cX0_payPlace 16 = .ok (.iadd, 1) := by decide +kernel
theorem dX0_payPlace_17 : decode cX0_payPlace 17 = .ok (.ireturn, 1) := by decide +kernel
theorem dX0_messagePlace_0 : decode cX0_messagePlace 0 = .ok (.bipush 66, 2) := by decide +kernel
theorem dX0_messagePlace_2 : decode cX0_messagePlace 2 = .ok (.iload_n 0, 1) := by decide +kernel
theorem dX0_messagePlace_3 : decode cX0_messagePlace 3 = .ok (.iadd, 1) := by decide +kernel
theorem dX0_messagePlace_4 : decode cX0_messagePlace 4 = .ok (.ireturn, 1) := by decide +kernel
theorem dX0_answerPlace_0 : decode cX0_answerPlace 0 = .ok (.bipush 69, 2) := by decide +kernel
theorem dX0_answerPlace_2 : decode cX0_answerPlace 2 = .ok (.iload_n 0, 1) := by decide +kernel
theorem dX0_answerPlace_3 : decode cX0_answerPlace 3 = .ok (.iadd, 1) := by decide +kernel
theorem dX0_answerPlace_4 : decode cX0_answerPlace 4 = .ok (.ireturn, 1) := by decide +kernel
theorem dX0_cell_0 : decode cX0_cell 0 = .ok (.iload_n 1, 1) := by decide +kernel
theorem dX0_cell_1 : decode cX0_cell 1 = .ok (.ifCond .lt 18, 3) := by decide +kernel
theorem dX0_cell_4 : decode cX0_cell 4 = .ok (.iload_n 1, 1) := by decide +kernel
theorem dX0_cell_5 : decode cX0_cell 5 = .ok (.bipush 72, 2) := by decide +kernel
theorem dX0_cell_7 : decode cX0_cell 7 = .ok (.if_icmp .ge 12, 3) := by decide +kernel
theorem dX0_cell_10 : decode cX0_cell 10 = .ok (.aload_n 0, 1) := by decide +kernel
theorem dX0_cell_11 : decode cX0_cell 11 = .ok (.getfield 11, 3) := by decide +kernel
theorem dX0_cell_14 : decode cX0_cell 14 = .ok (.iload_n 1, 1) := by decide +kernel
theorem dX0_cell_15 : decode cX0_cell 15 = .ok (.iaload, 1) := by decide +kernel
theorem dX0_cell_16 : decode cX0_cell 16 = .ok (.goto 4, 3) := by decide +kernel
theorem dX0_cell_19 : decode cX0_cell 19 = .ok (.iconst 0, 1) := by decide +kernel
theorem dX0_cell_20 : decode cX0_cell 20 = .ok (.ireturn, 1) := by decide +kernel
theorem dX0_change_0 : decode cX0_change 0 = .ok (.iload_n 1, 1) := by decide +kernel
theorem dX0_change_1 : decode cX0_change 1 = .ok (.bipush 72, 2) := by decide +kernel
theorem dX0_change_3 : decode cX0_change 3 = .ok (.invokestatic 24, 3) := by decide +kernel
theorem dX0_change_6 : decode cX0_change 6 = .ok (.ifCond .ne 5, 3) := by decide +kernel
theorem dX0_change_9 : decode cX0_change 9 = .ok (.iconst 0, 1) := by decide +kernel
theorem dX0_change_10 : decode cX0_change 10 = .ok (.ireturn, 1) := by decide +kernel
theorem dX0_change_11 : decode cX0_change 11 = .ok (.aload_n 0, 1) := by decide +kernel
theorem dX0_change_12 : decode cX0_change 12 = .ok (.getfield 11, 3) := by decide +kernel
theorem dX0_change_15 : decode cX0_change 15 = .ok (.iload_n 1, 1) := by decide +kernel
theorem dX0_change_16 : decode cX0_change 16 = .ok (.iaload, 1) := by decide +kernel
theorem dX0_change_17 : decode cX0_change 17 = .ok (.istore_n 3, 1) := by decide +kernel
theorem dX0_change_18 : decode cX0_change 18 = .ok (.aload_n 0, 1) := by decide +kernel
theorem dX0_change_19 : decode cX0_change 19 = .ok (.getfield 11, 3) := by decide +kernel
theorem dX0_change_22 : decode cX0_change 22 = .ok (.iload_n 1, 1) := by decide +kernel
theorem dX0_change_23 : decode cX0_change 23 = .ok (.iload_n 2, 1) := by decide +kernel
theorem dX0_change_24 : decode cX0_change 24 = .ok (.iastore, 1) := by decide +kernel
theorem dX0_change_25 : decode cX0_change 25 = .ok (.iload_n 1, 1) := by decide +kernel
theorem dX0_change_26 : decode cX0_change 26 = .ok (.bipush 12, 2) := by decide +kernel
theorem dX0_change_28 : decode cX0_change 28 = .ok (.if_icmp .lt 13, 3) := by decide +kernel
theorem dX0_change_31 : decode cX0_change 31 = .ok (.iload_n 1, 1) := by decide +kernel
theorem dX0_change_32 : decode cX0_change 32 = .ok (.bipush 66, 2) := by decide +kernel
theorem dX0_change_34 : decode cX0_change 34 = .ok (.if_icmp .ge 7, 3) := by decide +kernel
theorem dX0_change_37 : decode cX0_change 37 = .ok (.aload_n 0, 1) := by decide +kernel
theorem dX0_change_38 : decode cX0_change 38 = .ok (.invokevirtual 28, 3) := by decide +kernel
theorem dX0_change_41 : decode cX0_change 41 = .ok (.iload_n 3, 1) := by decide +kernel
theorem dX0_change_42 : decode cX0_change 42 = .ok (.ireturn, 1) := by decide +kernel
theorem dX0_forgetPossible_0 : decode cX0_forgetPossible 0 = .ok (.aload_n 0, 1) := by decide +kernel
theorem dX0_forgetPossible_1 : decode cX0_forgetPossible 1 = .ok (.getfield 15, 3) := by decide +kernel
theorem dX0_forgetPossible_4 : decode cX0_forgetPossible 4 = .ok (.iconst 0, 1) := by decide +kernel
theorem dX0_forgetPossible_5 : decode cX0_forgetPossible 5 = .ok (.invokestatic 31, 3) := by decide +kernel
theorem dX0_forgetPossible_8 : decode cX0_forgetPossible 8 = .ok (.return_, 1) := by decide +kernel
theorem dX0_writeTo_0 : decode cX0_writeTo 0 = .ok (.iload_n 2, 1) := by decide +kernel
theorem dX0_writeTo_1 : decode cX0_writeTo 1 = .ok (.ifCond .lt 24, 3) := by decide +kernel
theorem dX0_writeTo_4 : decode cX0_writeTo 4 = .ok (.iload_n 2, 1) := by decide +kernel
theorem dX0_writeTo_5 : decode cX0_writeTo 5 = .ok (.aload_n 1, 1) := by decide +kernel
theorem dX0_writeTo_6 : decode cX0_writeTo 6 = .ok (.arraylength, 1) := by decide +kernel
theorem dX0_writeTo_7 : decode cX0_writeTo 7 = .ok (.bipush 72, 2) := by decide +kernel
theorem dX0_writeTo_9 : decode cX0_writeTo 9 = .ok (.isub, 1) := by decide +kernel
theorem dX0_writeTo_10 : decode cX0_writeTo 10 = .ok (.if_icmp .gt 15, 3) := by decide +kernel
theorem dX0_writeTo_13 : decode cX0_writeTo 13 = .ok (.aload_n 0, 1) := by decide +kernel
theorem dX0_writeTo_14 : decode cX0_writeTo 14 = .ok (.getfield 11, 3) := by decide +kernel
theorem dX0_writeTo_17 : decode cX0_writeTo 17 = .ok (.iconst 0, 1) := by decide +kernel
theorem dX0_writeTo_18 : decode cX0_writeTo 18 = .ok (.aload_n 1, 1) := by decide +kernel
theorem dX0_writeTo_19 : decode cX0_writeTo 19 = .ok (.iload_n 2, 1) := by decide +kernel
theorem dX0_writeTo_20 : decode cX0_writeTo 20 = .ok (.bipush 72, 2) := by decide +kernel
theorem dX0_writeTo_22 : decode cX0_writeTo 22 = .ok (.invokestatic 34, 3) := by decide +kernel
theorem dX0_writeTo_25 : decode cX0_writeTo 25 = .ok (.return_, 1) := by decide +kernel
theorem dX0_readFrom_0 : decode cX0_readFrom 0 = .ok (.iload_n 2, 1) := by decide +kernel
theorem dX0_readFrom_1 : decode cX0_readFrom 1 = .ok (.ifCond .lt 28, 3) := by decide +kernel
theorem dX0_readFrom_4 : decode cX0_readFrom 4 = .ok (.iload_n 2, 1) := by decide +kernel
theorem dX0_readFrom_5 : decode cX0_readFrom 5 = .ok (.aload_n 1, 1) := by decide +kernel
theorem dX0_readFrom_6 : decode cX0_readFrom 6 = .ok (.arraylength, 1) := by decide +kernel
theorem dX0_readFrom_7 : decode cX0_readFrom 7 = .ok (.bipush 72, 2) := by decide +kernel
theorem dX0_readFrom_9 : decode cX0_readFrom 9 = .ok (.isub, 1) := by decide +kernel
theorem dX0_readFrom_10 : decode cX0_readFrom 10 = .ok (.if_icmp .gt 19, 3) := by decide +kernel
theorem dX0_readFrom_13 : decode cX0_readFrom 13 = .ok (.aload_n 1, 1) := by decide +kernel
theorem dX0_readFrom_14 : decode cX0_readFrom 14 = .ok (.iload_n 2, 1) := by decide +kernel
theorem dX0_readFrom_15 : decode cX0_readFrom 15 = .ok (.aload_n 0, 1) := by decide +kernel
theorem dX0_readFrom_16 : decode cX0_readFrom 16 = .ok (.getfield 11, 3) := by decide +kernel
theorem dX0_readFrom_19 : decode cX0_readFrom 19 = .ok (.iconst 0, 1) := by decide +kernel
theorem dX0_readFrom_20 : decode cX0_readFrom 20 = .ok (.bipush 72, 2) := by decide +kernel
theorem dX0_readFrom_22 : decode cX0_readFrom 22 = .ok (.invokestatic 34, 3) := by decide +kernel
theorem dX0_readFrom_25 : decode cX0_readFrom 25 = .ok (.aload_n 0, 1) := by decide +kernel
theorem dX0_readFrom_26 : decode cX0_readFrom 26 = .ok (.invokevirtual 28, 3) := by decide +kernel
theorem dX0_readFrom_29 : decode cX0_readFrom 29 = .ok (.return_, 1) := by decide +kernel
theorem dX0_copyFrom_0 : decode cX0_copyFrom 0 = .ok (.aload_n 0, 1) := by decide +kernel
theorem dX0_copyFrom_1 : decode cX0_copyFrom 1 = .ok (.aload_n 1, 1) := by decide +kernel
theorem dX0_copyFrom_2 : decode cX0_copyFrom 2 = .ok (.getfield 11, 3) := by decide +kernel
theorem dX0_copyFrom_5 : decode cX0_copyFrom 5 = .ok (.iconst 0, 1) := by decide +kernel
theorem dX0_copyFrom_6 : decode cX0_copyFrom 6 = .ok (.invokevirtual 40, 3) := by decide +kernel
theorem dX0_copyFrom_9 : decode cX0_copyFrom 9 = .ok (.return_, 1) := by decide +kernel
theorem dX0_differsOnlyInPlan_0 : decode cX0_differsOnlyInPlan 0 = .ok (.iconst 0, 1) := by decide +kernel
theorem dX0_differsOnlyInPlan_1 : decode cX0_differsOnlyInPlan 1 = .ok (.istore_n 2, 1) := by decide +kernel
theorem dX0_differsOnlyInPlan_2 : decode cX0_differsOnlyInPlan 2 = .ok (.iload_n 2, 1) := by decide +kernel
theorem dX0_differsOnlyInPlan_3 : decode cX0_differsOnlyInPlan 3 = .ok (.bipush 66, 2) := by decide +kernel
theorem dX0_differsOnlyInPlan_5 : decode cX0_differsOnlyInPlan 5 = .ok (.if_icmp .ge 26, 3) := by decide +kernel
theorem dX0_differsOnlyInPlan_8 : decode cX0_differsOnlyInPlan 8 = .ok (.aload_n 0, 1) := by decide +kernel
theorem dX0_differsOnlyInPlan_9 : decode cX0_differsOnlyInPlan 9 = .ok (.getfield 11, 3) := by decide +kernel
theorem dX0_differsOnlyInPlan_12 : decode cX0_differsOnlyInPlan 12 = .ok (.iload_n 2, 1) := by decide +kernel
theorem dX0_differsOnlyInPlan_13 : decode cX0_differsOnlyInPlan 13 = .ok (.iaload, 1) := by decide +kernel
theorem dX0_differsOnlyInPlan_14 : decode cX0_differsOnlyInPlan 14 = .ok (.aload_n 1, 1) := by decide +kernel
theorem dX0_differsOnlyInPlan_15 : decode cX0_differsOnlyInPlan 15 = .ok (.getfield 11, 3) := by decide +kernel
theorem dX0_differsOnlyInPlan_18 : decode cX0_differsOnlyInPlan 18 = .ok (.iload_n 2, 1) := by decide +kernel
theorem dX0_differsOnlyInPlan_19 : decode cX0_differsOnlyInPlan 19 = .ok (.iaload, 1) := by decide +kernel
theorem dX0_differsOnlyInPlan_20 : decode cX0_differsOnlyInPlan 20 = .ok (.if_icmp .eq 5, 3) := by decide +kernel
theorem dX0_differsOnlyInPlan_23 : decode cX0_differsOnlyInPlan 23 = .ok (.iconst 0, 1) := by decide +kernel
theorem dX0_differsOnlyInPlan_24 : decode cX0_differsOnlyInPlan 24 = .ok (.ireturn, 1) := by decide +kernel
theorem dX0_differsOnlyInPlan_25 : decode cX0_differsOnlyInPlan 25 = .ok (.iinc 2 1, 3) := by decide +kernel
theorem dX0_differsOnlyInPlan_28 : decode cX0_differsOnlyInPlan 28 = .ok (.goto (-26), 3) := by decide +kernel
theorem dX0_differsOnlyInPlan_31 : decode cX0_differsOnlyInPlan 31 = .ok (.iconst 1, 1) := by decide +kernel
theorem dX0_differsOnlyInPlan_32 : decode cX0_differsOnlyInPlan 32 = .ok (.ireturn, 1) := by decide +kernel
theorem dX0_code_0 : decode cX0_code 0 = .ok (.iconst 0, 1) := by decide +kernel
theorem dX0_code_1 : decode cX0_code 1 = .ok (.istore_n 1, 1) := by decide +kernel
theorem dX0_code_2 : decode cX0_code 2 = .ok (.bipush 66, 2) := by decide +kernel
theorem dX0_code_4 : decode cX0_code 4 = .ok (.istore_n 2, 1) := by decide +kernel
theorem dX0_code_5 : decode cX0_code 5 = .ok (.iload_n 2, 1) := by decide +kernel
theorem dX0_code_6 : decode cX0_code 6 = .ok (.bipush 72, 2) := by decide +kernel
theorem dX0_code_8 : decode cX0_code 8 = .ok (.if_icmp .ge 20, 3) := by decide +kernel
theorem dX0_code_11 : decode cX0_code 11 = .ok (.iload_n 1, 1) := by decide +kernel
theorem dX0_code_12 : decode cX0_code 12 = .ok (.iconst 3, 1) := by decide +kernel
theorem dX0_code_13 : decode cX0_code 13 = .ok (.imul, 1) := by decide +kernel
theorem dX0_code_14 : decode cX0_code 14 = .ok (.aload_n 0, 1) := by decide +kernel
theorem dX0_code_15 : decode cX0_code 15 = .ok (.getfield 11, 3) := by decide +kernel
theorem dX0_code_18 : decode cX0_code 18 = .ok (.iload_n 2, 1) := by decide +kernel
theorem dX0_code_19 : decode cX0_code 19 = .ok (.iaload, 1) := by decide +kernel
theorem dX0_code_20 : decode cX0_code 20 = .ok (.iadd, 1) := by decide +kernel
theorem dX0_code_21 : decode cX0_code 21 = .ok (.istore_n 1, 1) := by decide +kernel
theorem dX0_code_22 : decode cX0_code 22 = .ok (.iinc 2 1, 3) := by decide +kernel
theorem dX0_code_25 : decode cX0_code 25 = .ok (.goto (-20), 3) := by decide +kernel
theorem dX0_code_28 : decode cX0_code 28 = .ok (.iload_n 1, 1) := by decide +kernel
theorem dX0_code_29 : decode cX0_code 29 = .ok (.ireturn, 1) := by decide +kernel
theorem dX0_takePlan_0 : decode cX0_takePlan 0 = .ok (.iload_n 1, 1) := by decide +kernel
theorem dX0_takePlan_1 : decode cX0_takePlan 1 = .ok (.istore_n 2, 1) := by decide +kernel
theorem dX0_takePlan_2 : decode cX0_takePlan 2 = .ok (.bipush 71, 2) := by decide +kernel
theorem dX0_takePlan_4 : decode cX0_takePlan 4 = .ok (.istore_n 3, 1) := by decide +kernel
theorem dX0_takePlan_5 : decode cX0_takePlan 5 = .ok (.iload_n 3, 1) := by decide +kernel
theorem dX0_takePlan_6 : decode cX0_takePlan 6 = .ok (.bipush 66, 2) := by decide +kernel
theorem dX0_takePlan_8 : decode cX0_takePlan 8 = .ok (.if_icmp .lt 22, 3) := by decide +kernel
theorem dX0_takePlan_11 : decode cX0_takePlan 11 = .ok (.aload_n 0, 1) := by decide +kernel
theorem dX0_takePlan_12 : decode cX0_takePlan 12 = .ok (.getfield 11, 3) := by decide +kernel
theorem dX0_takePlan_15 : decode cX0_takePlan 15 = .ok (.iload_n 3, 1) := by decide +kernel
theorem dX0_takePlan_16 : decode cX0_takePlan 16 = .ok (.iload_n 2, 1) := by decide +kernel
theorem dX0_takePlan_17 : decode cX0_takePlan 17 = .ok (.iconst 3, 1) := by decide +kernel
theorem dX0_takePlan_18 : decode cX0_takePlan 18 = .ok (.irem, 1) := by decide +kernel
theorem dX0_takePlan_19 : decode cX0_takePlan 19 = .ok (.iastore, 1) := by decide +kernel
theorem dX0_takePlan_20 : decode cX0_takePlan 20 = .ok (.iload_n 2, 1) := by decide +kernel
theorem dX0_takePlan_21 : decode cX0_takePlan 21 = .ok (.iconst 3, 1) := by decide +kernel
theorem dX0_takePlan_22 : decode cX0_takePlan 22 = .ok (.idiv, 1) := by decide +kernel
theorem dX0_takePlan_23 : decode cX0_takePlan 23 = .ok (.istore_n 2, 1) := by decide +kernel
theorem dX0_takePlan_24 : decode cX0_takePlan 24 = .ok (.iinc 3 (-1), 3) := by decide +kernel
theorem dX0_takePlan_27 : decode cX0_takePlan 27 = .ok (.goto (-22), 3) := by decide +kernel
theorem dX0_takePlan_30 : decode cX0_takePlan 30 = .ok (.return_, 1) := by decide +kernel
theorem dX0_typesThere_0 : decode cX0_typesThere 0 = .ok (.iconst 0, 1) := by decide +kernel
theorem dX0_typesThere_1 : decode cX0_typesThere 1 = .ok (.istore_n 1, 1) := by decide +kernel
theorem dX0_typesThere_2 : decode cX0_typesThere 2 = .ok (.iconst 0, 1) := by decide +kernel
theorem dX0_typesThere_3 : decode cX0_typesThere 3 = .ok (.istore_n 2, 1) := by decide +kernel
theorem dX0_typesThere_4 : decode cX0_typesThere 4 = .ok (.iload_n 2, 1) := by decide +kernel
theorem dX0_typesThere_5 : decode cX0_typesThere 5 = .ok (.iconst 3, 1) := by decide +kernel
theorem dX0_typesThere_6 : decode cX0_typesThere 6 = .ok (.if_icmp .ge 26, 3) := by decide +kernel
theorem dX0_typesThere_9 : decode cX0_typesThere 9 = .ok (.aload_n 0, 1) := by decide +kernel
theorem dX0_typesThere_10 : decode cX0_typesThere 10 = .ok (.iload_n 2, 1) := by decide +kernel
theorem dX0_typesThere_11 : decode cX0_typesThere 11 = .ok (.invokestatic 43, 3) := by decide +kernel
theorem dX0_typesThere_14 : decode cX0_typesThere 14 = .ok (.invokevirtual 47, 3) := by decide +kernel
theorem dX0_typesThere_17 : decode cX0_typesThere 17 = .ok (.ifCond .le 9, 3) := by decide +kernel
theorem dX0_typesThere_20 : decode cX0_typesThere 20 = .ok (.iload_n 1, 1) := by decide +kernel
theorem dX0_typesThere_21 : decode cX0_typesThere 21 = .ok (.iconst 1, 1) := by decide +kernel
theorem dX0_typesThere_22 : decode cX0_typesThere 22 = .ok (.iload_n 2, 1) := by decide +kernel
theorem dX0_typesThere_23 : decode cX0_typesThere 23 = .ok (.ishl, 1) := by decide +kernel
theorem dX0_typesThere_24 : decode cX0_typesThere 24 = .ok (.ior, 1) := by decide +kernel
theorem dX0_typesThere_25 : decode cX0_typesThere 25 = .ok (.istore_n 1, 1) := by decide +kernel
theorem dX0_typesThere_26 : decode cX0_typesThere 26 = .ok (.iinc 2 1, 3) := by decide +kernel
theorem dX0_typesThere_29 : decode cX0_typesThere 29 = .ok (.goto (-25), 3) := by decide +kernel
theorem dX0_typesThere_32 : decode cX0_typesThere 32 = .ok (.iload_n 1, 1) := by decide +kernel
theorem dX0_typesThere_33 : decode cX0_typesThere 33 = .ok (.ireturn, 1) := by decide +kernel
theorem dX0_sendersOf_0 : decode cX0_sendersOf 0 = .ok (.iconst 0, 1) := by decide +kernel
theorem dX0_sendersOf_1 : decode cX0_sendersOf 1 = .ok (.istore_n 2, 1) := by decide +kernel
theorem dX0_sendersOf_2 : decode cX0_sendersOf 2 = .ok (.iconst 0, 1) := by decide +kernel
theorem dX0_sendersOf_3 : decode cX0_sendersOf 3 = .ok (.istore_n 3, 1) := by decide +kernel
theorem dX0_sendersOf_4 : decode cX0_sendersOf 4 = .ok (.iload_n 3, 1) := by decide +kernel
theorem dX0_sendersOf_5 : decode cX0_sendersOf 5 = .ok (.iconst 3, 1) := by decide +kernel
theorem dX0_sendersOf_6 : decode cX0_sendersOf 6 = .ok (.if_icmp .ge 38, 3) := by decide +kernel
theorem dX0_sendersOf_9 : decode cX0_sendersOf 9 = .ok (.aload_n 0, 1) := by decide +kernel
theorem dX0_sendersOf_10 : decode cX0_sendersOf 10 = .ok (.iload_n 3, 1) := by decide +kernel
theorem dX0_sendersOf_11 : decode cX0_sendersOf 11 = .ok (.invokestatic 43, 3) := by decide +kernel
theorem dX0_sendersOf_14 : decode cX0_sendersOf 14 = .ok (.invokevirtual 47, 3) := by decide +kernel
theorem dX0_sendersOf_17 : decode cX0_sendersOf 17 = .ok (.ifCond .le 21, 3) := by decide +kernel
theorem dX0_sendersOf_20 : decode cX0_sendersOf 20 = .ok (.aload_n 0, 1) := by decide +kernel
theorem dX0_sendersOf_21 : decode cX0_sendersOf 21 = .ok (.iload_n 3, 1) := by decide +kernel
theorem dX0_sendersOf_22 : decode cX0_sendersOf 22 = .ok (.invokestatic 50, 3) := by decide +kernel
theorem dX0_sendersOf_25 : decode cX0_sendersOf 25 = .ok (.invokevirtual 47, 3) := by decide +kernel
theorem dX0_sendersOf_28 : decode cX0_sendersOf 28 = .ok (.iload_n 1, 1) := by decide +kernel
theorem dX0_sendersOf_29 : decode cX0_sendersOf 29 = .ok (.if_icmp .ne 9, 3) := by decide +kernel
theorem dX0_sendersOf_32 : decode cX0_sendersOf 32 = .ok (.iload_n 2, 1) := by decide +kernel
theorem dX0_sendersOf_33 : decode cX0_sendersOf 33 = .ok (.iconst 1, 1) := by decide +kernel
theorem dX0_sendersOf_34 : decode cX0_sendersOf 34 = .ok (.iload_n 3, 1) := by decide +kernel
theorem dX0_sendersOf_35 : decode cX0_sendersOf 35 = .ok (.ishl, 1) := by decide +kernel
theorem dX0_sendersOf_36 : decode cX0_sendersOf 36 = .ok (.ior, 1) := by decide +kernel
theorem dX0_sendersOf_37 : decode cX0_sendersOf 37 = .ok (.istore_n 2, 1) := by decide +kernel
theorem dX0_sendersOf_38 : decode cX0_sendersOf 38 = .ok (.iinc 3 1, 3) := by decide +kernel
theorem dX0_sendersOf_41 : decode cX0_sendersOf 41 = .ok (.goto (-37), 3) := by decide +kernel
theorem dX0_sendersOf_44 : decode cX0_sendersOf 44 = .ok (.iload_n 2, 1) := by decide +kernel
theorem dX0_sendersOf_45 : decode cX0_sendersOf 45 = .ok (.ireturn, 1) := by decide +kernel
theorem dX0_messagesSent_0 : decode cX0_messagesSent 0 = .ok (.iconst 0, 1) := by decide +kernel
theorem dX0_messagesSent_1 : decode cX0_messagesSent 1 = .ok (.istore_n 1, 1) := by decide +kernel
theorem dX0_messagesSent_2 : decode cX0_messagesSent 2 = .ok (.iconst 0, 1) := by decide +kernel
theorem dX0_messagesSent_3 : decode cX0_messagesSent 3 = .ok (.istore_n 2, 1) := by decide +kernel
theorem dX0_messagesSent_4 : decode cX0_messagesSent 4 = .ok (.iload_n 2, 1) := by decide +kernel
theorem dX0_messagesSent_5 : decode cX0_messagesSent 5 = .ok (.iconst 3, 1) := by decide +kernel
theorem dX0_messagesSent_6 : decode cX0_messagesSent 6 = .ok (.if_icmp .ge 23, 3) := by decide +kernel
theorem dX0_messagesSent_9 : decode cX0_messagesSent 9 = .ok (.aload_n 0, 1) := by decide +kernel
theorem dX0_messagesSent_10 : decode cX0_messagesSent 10 = .ok (.iload_n 2, 1) := by decide +kernel
theorem dX0_messagesSent_11 : decode cX0_messagesSent 11 = .ok (.invokevirtual 53, 3) := by decide +kernel
theorem dX0_messagesSent_14 : decode cX0_messagesSent 14 = .ok (.ifCond .eq 9, 3) := by decide +kernel
theorem dX0_messagesSent_17 : decode cX0_messagesSent 17 = .ok (.iload_n 1, 1) := by decide +kernel
theorem dX0_messagesSent_18 : decode cX0_messagesSent 18 = .ok (.iconst 1, 1) := by decide +kernel
theorem dX0_messagesSent_19 : decode cX0_messagesSent 19 = .ok (.iload_n 2, 1) := by decide +kernel
theorem dX0_messagesSent_20 : decode cX0_messagesSent 20 = .ok (.ishl, 1) := by decide +kernel
theorem dX0_messagesSent_21 : decode cX0_messagesSent 21 = .ok (.ior, 1) := by decide +kernel
theorem dX0_messagesSent_22 : decode cX0_messagesSent 22 = .ok (.istore_n 1, 1) := by decide +kernel
theorem dX0_messagesSent_23 : decode cX0_messagesSent 23 = .ok (.iinc 2 1, 3) := by decide +kernel
theorem dX0_messagesSent_26 : decode cX0_messagesSent 26 = .ok (.goto (-22), 3) := by decide +kernel
theorem dX0_messagesSent_29 : decode cX0_messagesSent 29 = .ok (.iload_n 1, 1) := by decide +kernel
theorem dX0_messagesSent_30 : decode cX0_messagesSent 30 = .ok (.ireturn, 1) := by decide +kernel
theorem dX0_kind_0 : decode cX0_kind 0 = .ok (.aload_n 0, 1) := by decide +kernel
theorem dX0_kind_1 : decode cX0_kind 1 = .ok (.invokevirtual 56, 3) := by decide +kernel
theorem dX0_kind_4 : decode cX0_kind 4 = .ok (.invokestatic 60, 3) := by decide +kernel
theorem dX0_kind_7 : decode cX0_kind 7 = .ok (.istore_n 1, 1) := by decide +kernel
theorem dX0_kind_8 : decode cX0_kind 8 = .ok (.iload_n 1, 1) := by decide +kernel
theorem dX0_kind_9 : decode cX0_kind 9 = .ok (.iconst 1, 1) := by decide +kernel
theorem dX0_kind_10 : decode cX0_kind 10 = .ok (.if_icmp .ne 5, 3) := by decide +kernel
theorem dX0_kind_13 : decode cX0_kind 13 = .ok (.iconst 0, 1) := by decide +kernel
theorem dX0_kind_14 : decode cX0_kind 14 = .ok (.ireturn, 1) := by decide +kernel
theorem dX0_kind_15 : decode cX0_kind 15 = .ok (.iload_n 1, 1) := by decide +kernel
theorem dX0_kind_16 : decode cX0_kind 16 = .ok (.aload_n 0, 1) := by decide +kernel
theorem dX0_kind_17 : decode cX0_kind 17 = .ok (.invokevirtual 65, 3) := by decide +kernel
theorem dX0_kind_20 : decode cX0_kind 20 = .ok (.invokestatic 60, 3) := by decide +kernel
theorem dX0_kind_23 : decode cX0_kind 23 = .ok (.if_icmp .ne 7, 3) := by decide +kernel
theorem dX0_kind_26 : decode cX0_kind 26 = .ok (.iconst 1, 1) := by decide +kernel
theorem dX0_kind_27 : decode cX0_kind 27 = .ok (.goto 4, 3) := by decide +kernel
theorem dX0_kind_30 : decode cX0_kind 30 = .ok (.iconst 2, 1) := by decide +kernel
theorem dX0_kind_31 : decode cX0_kind 31 = .ok (.ireturn, 1) := by decide +kernel
theorem dX0_weightSum_0 : decode cX0_weightSum 0 = .ok (.iconst 0, 1) := by decide +kernel
theorem dX0_weightSum_1 : decode cX0_weightSum 1 = .ok (.istore_n 1, 1) := by decide +kernel
theorem dX0_weightSum_2 : decode cX0_weightSum 2 = .ok (.iconst 0, 1) := by decide +kernel
theorem dX0_weightSum_3 : decode cX0_weightSum 3 = .ok (.istore_n 2, 1) := by decide +kernel
theorem dX0_weightSum_4 : decode cX0_weightSum 4 = .ok (.iload_n 2, 1) := by decide +kernel
theorem dX0_weightSum_5 : decode cX0_weightSum 5 = .ok (.iconst 3, 1) := by decide +kernel
theorem dX0_weightSum_6 : decode cX0_weightSum 6 = .ok (.if_icmp .ge 20, 3) := by decide +kernel
theorem dX0_weightSum_9 : decode cX0_weightSum 9 = .ok (.iload_n 1, 1) := by decide +kernel
theorem dX0_weightSum_10 : decode cX0_weightSum 10 = .ok (.aload_n 0, 1) := by decide +kernel
theorem dX0_weightSum_11 : decode cX0_weightSum 11 = .ok (.iload_n 2, 1) := by decide +kernel
theorem dX0_weightSum_12 : decode cX0_weightSum 12 = .ok (.invokestatic 43, 3) := by decide +kernel
theorem dX0_weightSum_15 : decode cX0_weightSum 15 = .ok (.invokevirtual 47, 3) := by decide +kernel
theorem dX0_weightSum_18 : decode cX0_weightSum 18 = .ok (.iadd, 1) := by decide +kernel
theorem dX0_weightSum_19 : decode cX0_weightSum 19 = .ok (.istore_n 1, 1) := by decide +kernel
theorem dX0_weightSum_20 : decode cX0_weightSum 20 = .ok (.iinc 2 1, 3) := by decide +kernel
theorem dX0_weightSum_23 : decode cX0_weightSum 23 = .ok (.goto (-19), 3) := by decide +kernel
theorem dX0_weightSum_26 : decode cX0_weightSum 26 = .ok (.iload_n 1, 1) := by decide +kernel
theorem dX0_weightSum_27 : decode cX0_weightSum 27 = .ok (.ireturn, 1) := by decide +kernel
theorem dX0_toldSum_0 : decode cX0_toldSum 0 = .ok (.iconst 0, 1) := by decide +kernel
theorem dX0_toldSum_1 : decode cX0_toldSum 1 = .ok (.istore_n 2, 1) := by decide +kernel
theorem dX0_toldSum_2 : decode cX0_toldSum 2 = .ok (.iconst 0, 1) := by decide +kernel
theorem dX0_toldSum_3 : decode cX0_toldSum 3 = .ok (.istore_n 3, 1) := by decide +kernel
theorem dX0_toldSum_4 : decode cX0_toldSum 4 = .ok (.iload_n 3, 1) := by decide +kernel
theorem dX0_toldSum_5 : decode cX0_toldSum 5 = .ok (.iconst 3, 1) := by decide +kernel
theorem dX0_toldSum_6 : decode cX0_toldSum 6 = .ok (.if_icmp .ge 21, 3) := by decide +kernel
theorem dX0_toldSum_9 : decode cX0_toldSum 9 = .ok (.iload_n 2, 1) := by decide +kernel
theorem dX0_toldSum_10 : decode cX0_toldSum 10 = .ok (.aload_n 0, 1) := by decide +kernel
theorem dX0_toldSum_11 : decode cX0_toldSum 11 = .ok (.iload_n 1, 1) := by decide +kernel
theorem dX0_toldSum_12 : decode cX0_toldSum 12 = .ok (.iload_n 3, 1) := by decide +kernel
theorem dX0_toldSum_13 : decode cX0_toldSum 13 = .ok (.invokestatic 68, 3) := by decide +kernel
theorem dX0_toldSum_16 : decode cX0_toldSum 16 = .ok (.invokevirtual 47, 3) := by decide +kernel
theorem dX0_toldSum_19 : decode cX0_toldSum 19 = .ok (.iadd, 1) := by decide +kernel
theorem dX0_toldSum_20 : decode cX0_toldSum 20 = .ok (.istore_n 2, 1) := by decide +kernel
theorem dX0_toldSum_21 : decode cX0_toldSum 21 = .ok (.iinc 3 1, 3) := by decide +kernel
theorem dX0_toldSum_24 : decode cX0_toldSum 24 = .ok (.goto (-20), 3) := by decide +kernel
theorem dX0_toldSum_27 : decode cX0_toldSum 27 = .ok (.iload_n 2, 1) := by decide +kernel
theorem dX0_toldSum_28 : decode cX0_toldSum 28 = .ok (.ireturn, 1) := by decide +kernel
theorem dX0_beliefWeight_0 : decode cX0_beliefWeight 0 = .ok (.aload_n 0, 1) := by decide +kernel
theorem dX0_beliefWeight_1 : decode cX0_beliefWeight 1 = .ok (.iload_n 1, 1) := by decide +kernel
theorem dX0_beliefWeight_2 : decode cX0_beliefWeight 2 = .ok (.invokevirtual 53, 3) := by decide +kernel
theorem dX0_beliefWeight_5 : decode cX0_beliefWeight 5 = .ok (.istore_n 3, 1) := by decide +kernel
theorem dX0_beliefWeight_6 : decode cX0_beliefWeight 6 = .ok (.iload_n 3, 1) := by decide +kernel
theorem dX0_beliefWeight_7 : decode cX0_beliefWeight 7 = .ok (.ifCond .ne 13, 3) := by decide +kernel
theorem dX0_beliefWeight_10 : decode cX0_beliefWeight 10 = .ok (.aload_n 0, 1) := by decide +kernel
theorem dX0_beliefWeight_11 : decode cX0_beliefWeight 11 = .ok (.iload_n 1, 1) := by decide +kernel
theorem dX0_beliefWeight_12 : decode cX0_beliefWeight 12 = .ok (.iload_n 2, 1) := by decide +kernel
theorem dX0_beliefWeight_13 : decode cX0_beliefWeight 13 = .ok (.invokestatic 68, 3) := by decide +kernel
theorem dX0_beliefWeight_16 : decode cX0_beliefWeight 16 = .ok (.invokevirtual 47, 3) := by decide +kernel
theorem dX0_beliefWeight_19 : decode cX0_beliefWeight 19 = .ok (.ireturn, 1) := by decide +kernel
theorem dX0_beliefWeight_20 : decode cX0_beliefWeight 20 = .ok (.iload_n 3, 1) := by decide +kernel
theorem dX0_beliefWeight_21 : decode cX0_beliefWeight 21 = .ok (.iload_n 2, 1) := by decide +kernel
theorem dX0_beliefWeight_22 : decode cX0_beliefWeight 22 = .ok (.invokestatic 72, 3) := by decide +kernel
theorem dX0_beliefWeight_25 : decode cX0_beliefWeight 25 = .ok (.ifCond .eq 14, 3) := by decide +kernel
theorem dX0_beliefWeight_28 : decode cX0_beliefWeight 28 = .ok (.aload_n 0, 1) := by decide +kernel
theorem dX0_beliefWeight_29 : decode cX0_beliefWeight 29 = .ok (.iload_n 2, 1) := by decide +kernel
theorem dX0_beliefWeight_30 : decode cX0_beliefWeight 30 = .ok (.invokestatic 43, 3) := by decide +kernel
theorem dX0_beliefWeight_33 : decode cX0_beliefWeight 33 = .ok (.invokevirtual 47, 3) := by decide +kernel
theorem dX0_beliefWeight_36 : decode cX0_beliefWeight 36 = .ok (.goto 4, 3) := by decide +kernel
theorem dX0_beliefWeight_39 : decode cX0_beliefWeight 39 = .ok (.iconst 0, 1) := by decide +kernel
theorem dX0_beliefWeight_40 : decode cX0_beliefWeight 40 = .ok (.ireturn, 1) := by decide +kernel
theorem dX0_beliefSum_0 : decode cX0_beliefSum 0 = .ok (.iconst 0, 1) := by decide +kernel
theorem dX0_beliefSum_1 : decode cX0_beliefSum 1 = .ok (.istore_n 2, 1) := by decide +kernel
theorem dX0_beliefSum_2 : decode cX0_beliefSum 2 = .ok (.iconst 0, 1) := by decide +kernel
theorem dX0_beliefSum_3 : decode cX0_beliefSum 3 = .ok (.istore_n 3, 1) := by decide +kernel
theorem dX0_beliefSum_4 : decode cX0_beliefSum 4 = .ok (.iload_n 3, 1) := by decide +kernel
theorem dX0_beliefSum_5 : decode cX0_beliefSum 5 = .ok (.iconst 3, 1) := by decide +kernel
theorem dX0_beliefSum_6 : decode cX0_beliefSum 6 = .ok (.if_icmp .ge 18, 3) := by decide +kernel
theorem dX0_beliefSum_9 : decode cX0_beliefSum 9 = .ok (.iload_n 2, 1) := by decide +kernel
theorem dX0_beliefSum_10 : decode cX0_beliefSum 10 = .ok (.aload_n 0, 1) := by decide +kernel
theorem dX0_beliefSum_11 : decode cX0_beliefSum 11 = .ok (.iload_n 1, 1) := by decide +kernel
theorem dX0_beliefSum_12 : decode cX0_beliefSum 12 = .ok (.iload_n 3, 1) := by decide +kernel
theorem dX0_beliefSum_13 : decode cX0_beliefSum 13 = .ok (.invokevirtual 75, 3) := by decide +kernel
theorem dX0_beliefSum_16 : decode cX0_beliefSum 16 = .ok (.iadd, 1) := by decide +kernel
theorem dX0_beliefSum_17 : decode cX0_beliefSum 17 = .ok (.istore_n 2, 1) := by decide +kernel
theorem dX0_beliefSum_18 : decode cX0_beliefSum 18 = .ok (.iinc 3 1, 3) := by decide +kernel
theorem dX0_beliefSum_21 : decode cX0_beliefSum 21 = .ok (.goto (-17), 3) := by decide +kernel
theorem dX0_beliefSum_24 : decode cX0_beliefSum 24 = .ok (.iload_n 2, 1) := by decide +kernel
theorem dX0_beliefSum_25 : decode cX0_beliefSum 25 = .ok (.ireturn, 1) := by decide +kernel
theorem dX0_worthBy_0 : decode cX0_worthBy 0 = .ok (.iload_n 3, 1) := by decide +kernel
theorem dX0_worthBy_1 : decode cX0_worthBy 1 = .ok (.aload_n 0, 1) := by decide +kernel
theorem dX0_worthBy_2 : decode cX0_worthBy 2 = .ok (.iconst 1, 1) := by decide +kernel
theorem dX0_worthBy_3 : decode cX0_worthBy 3 = .ok (.iconst 0, 1) := by decide +kernel
theorem dX0_worthBy_4 : decode cX0_worthBy 4 = .ok (.iload_n 1, 1) := by decide +kernel
theorem dX0_worthBy_5 : decode cX0_worthBy 5 = .ok (.iload_n 2, 1) := by decide +kernel
theorem dX0_worthBy_6 : decode cX0_worthBy 6 = .ok (.invokestatic 78, 3) := by decide +kernel
theorem dX0_worthBy_9 : decode cX0_worthBy 9 = .ok (.invokevirtual 47, 3) := by decide +kernel
theorem dX0_worthBy_12 : decode cX0_worthBy 12 = .ok (.imul, 1) := by decide +kernel
theorem dX0_worthBy_13 : decode cX0_worthBy 13 = .ok (.iload 4, 2) := by decide +kernel
theorem dX0_worthBy_15 : decode cX0_worthBy 15 = .ok (.aload_n 0, 1) := by decide +kernel
theorem dX0_worthBy_16 : decode cX0_worthBy 16 = .ok (.iconst 1, 1) := by decide +kernel
theorem dX0_worthBy_17 : decode cX0_worthBy 17 = .ok (.iconst 1, 1) := by decide +kernel
theorem dX0_worthBy_18 : decode cX0_worthBy 18 = .ok (.iload_n 1, 1) := by decide +kernel
theorem dX0_worthBy_19 : decode cX0_worthBy 19 = .ok (.iload_n 2, 1) := by decide +kernel
theorem dX0_worthBy_20 : decode cX0_worthBy 20 = .ok (.invokestatic 78, 3) := by decide +kernel
theorem dX0_worthBy_23 : decode cX0_worthBy 23 = .ok (.invokevirtual 47, 3) := by decide +kernel
theorem dX0_worthBy_26 : decode cX0_worthBy 26 = .ok (.imul, 1) := by decide +kernel
theorem dX0_worthBy_27 : decode cX0_worthBy 27 = .ok (.iadd, 1) := by decide +kernel
theorem dX0_worthBy_28 : decode cX0_worthBy 28 = .ok (.iload 5, 2) := by decide +kernel
theorem dX0_worthBy_30 : decode cX0_worthBy 30 = .ok (.aload_n 0, 1) := by decide +kernel
theorem dX0_worthBy_31 : decode cX0_worthBy 31 = .ok (.iconst 1, 1) := by decide +kernel
theorem dX0_worthBy_32 : decode cX0_worthBy 32 = .ok (.iconst 2, 1) := by decide +kernel
theorem dX0_worthBy_33 : decode cX0_worthBy 33 = .ok (.iload_n 1, 1) := by decide +kernel
theorem dX0_worthBy_34 : decode cX0_worthBy 34 = .ok (.iload_n 2, 1) := by decide +kernel
theorem dX0_worthBy_35 : decode cX0_worthBy 35 = .ok (.invokestatic 78, 3) := by decide +kernel
theorem dX0_worthBy_38 : decode cX0_worthBy 38 = .ok (.invokevirtual 47, 3) := by decide +kernel
theorem dX0_worthBy_41 : decode cX0_worthBy 41 = .ok (.imul, 1) := by decide +kernel
theorem dX0_worthBy_42 : decode cX0_worthBy 42 = .ok (.iadd, 1) := by decide +kernel
theorem dX0_worthBy_43 : decode cX0_worthBy 43 = .ok (.ireturn, 1) := by decide +kernel
theorem dX0_bestBy_0 : decode cX0_bestBy 0 = .ok (.iconst 0, 1) := by decide +kernel
theorem dX0_bestBy_1 : decode cX0_bestBy 1 = .ok (.istore 5, 2) := by decide +kernel
theorem dX0_bestBy_3 : decode cX0_bestBy 3 = .ok (.iconst 0, 1) := by decide +kernel
theorem dX0_bestBy_4 : decode cX0_bestBy 4 = .ok (.istore 6, 2) := by decide +kernel
theorem dX0_bestBy_6 : decode cX0_bestBy 6 = .ok (.iconst 0, 1) := by decide +kernel
theorem dX0_bestBy_7 : decode cX0_bestBy 7 = .ok (.istore 7, 2) := by decide +kernel
theorem dX0_bestBy_9 : decode cX0_bestBy 9 = .ok (.iload 7, 2) := by decide +kernel
theorem dX0_bestBy_11 : decode cX0_bestBy 11 = .ok (.iconst 3, 1) := by decide +kernel
theorem dX0_bestBy_12 : decode cX0_bestBy 12 = .ok (.if_icmp .ge 63, 3) := by decide +kernel
theorem dX0_bestBy_15 : decode cX0_bestBy 15 = .ok (.aload_n 0, 1) := by decide +kernel
theorem dX0_bestBy_16 : decode cX0_bestBy 16 = .ok (.iload_n 1, 1) := by decide +kernel
theorem dX0_bestBy_17 : decode cX0_bestBy 17 = .ok (.iload 7, 2) := by decide +kernel
theorem dX0_bestBy_19 : decode cX0_bestBy 19 = .ok (.iload_n 2, 1) := by decide +kernel
theorem dX0_bestBy_20 : decode cX0_bestBy 20 = .ok (.iload_n 3, 1) := by decide +kernel
theorem dX0_bestBy_21 : decode cX0_bestBy 21 = .ok (.iload 4, 2) := by decide +kernel
theorem dX0_bestBy_23 : decode cX0_bestBy 23 = .ok (.invokevirtual 82, 3) := by decide +kernel
theorem dX0_bestBy_26 : decode cX0_bestBy 26 = .ok (.istore 8, 2) := by decide +kernel
theorem dX0_bestBy_28 : decode cX0_bestBy 28 = .ok (.iload 5, 2) := by decide +kernel
theorem dX0_bestBy_30 : decode cX0_bestBy 30 = .ok (.ifCond .eq 10, 3) := by decide +kernel
theorem dX0_bestBy_33 : decode cX0_bestBy 33 = .ok (.iload 8, 2) := by decide +kernel
theorem dX0_bestBy_35 : decode cX0_bestBy 35 = .ok (.iload 6, 2) := by decide +kernel
theorem dX0_bestBy_37 : decode cX0_bestBy 37 = .ok (.if_icmp .le 16, 3) := by decide +kernel
theorem dX0_bestBy_40 : decode cX0_bestBy 40 = .ok (.iconst 1, 1) := by decide +kernel
theorem dX0_bestBy_41 : decode cX0_bestBy 41 = .ok (.iload 7, 2) := by decide +kernel
theorem dX0_bestBy_43 : decode cX0_bestBy 43 = .ok (.ishl, 1) := by decide +kernel
theorem dX0_bestBy_44 : decode cX0_bestBy 44 = .ok (.istore 5, 2) := by decide +kernel
theorem dX0_bestBy_46 : decode cX0_bestBy 46 = .ok (.iload 8, 2) := by decide +kernel
theorem dX0_bestBy_48 : decode cX0_bestBy 48 = .ok (.istore 6, 2) := by decide +kernel
theorem dX0_bestBy_50 : decode cX0_bestBy 50 = .ok (.goto 19, 3) := by decide +kernel
theorem dX0_bestBy_53 : decode cX0_bestBy 53 = .ok (.iload 8, 2) := by decide +kernel
theorem dX0_bestBy_55 : decode cX0_bestBy 55 = .ok (.iload 6, 2) := by decide +kernel
theorem dX0_bestBy_57 : decode cX0_bestBy 57 = .ok (.if_icmp .ne 12, 3) := by decide +kernel
theorem dX0_bestBy_60 : decode cX0_bestBy 60 = .ok (.iload 5, 2) := by decide +kernel
theorem dX0_bestBy_62 : decode cX0_bestBy 62 = .ok (.iconst 1, 1) := by decide +kernel
theorem dX0_bestBy_63 : decode cX0_bestBy 63 = .ok (.iload 7, 2) := by decide +kernel
theorem dX0_bestBy_65 : decode cX0_bestBy 65 = .ok (.ishl, 1) := by decide +kernel
theorem dX0_bestBy_66 : decode cX0_bestBy 66 = .ok (.ior, 1) := by decide +kernel
theorem dX0_bestBy_67 : decode cX0_bestBy 67 = .ok (.istore 5, 2) := by decide +kernel
theorem dX0_bestBy_69 : decode cX0_bestBy 69 = .ok (.iinc 7 1, 3) := by decide +kernel
theorem dX0_bestBy_72 : decode cX0_bestBy 72 = .ok (.goto (-63), 3) := by decide +kernel
theorem dX0_bestBy_75 : decode cX0_bestBy 75 = .ok (.iload 5, 2) := by decide +kernel
theorem dX0_bestBy_77 : decode cX0_bestBy 77 = .ok (.ireturn, 1) := by decide +kernel
theorem dX0_worthOf_0 : decode cX0_worthOf 0 = .ok (.aload_n 0, 1) := by decide +kernel
theorem dX0_worthOf_1 : decode cX0_worthOf 1 = .ok (.iload_n 1, 1) := by decide +kernel
theorem dX0_worthOf_2 : decode cX0_worthOf 2 = .ok (.iconst 0, 1) := by decide +kernel
theorem dX0_worthOf_3 : decode cX0_worthOf 3 = .ok (.invokevirtual 75, 3) := by decide +kernel
theorem dX0_worthOf_6 : decode cX0_worthOf 6 = .ok (.istore_n 3, 1) := by decide +kernel
theorem dX0_worthOf_7 : decode cX0_worthOf 7 = .ok (.aload_n 0, 1) := by decide +kernel
theorem dX0_worthOf_8 : decode cX0_worthOf 8 = .ok (.iload_n 1, 1) := by decide +kernel
theorem dX0_worthOf_9 : decode cX0_worthOf 9 = .ok (.iconst 1, 1) := by decide +kernel
theorem dX0_worthOf_10 : decode cX0_worthOf 10 = .ok (.invokevirtual 75, 3) := by decide +kernel
theorem dX0_worthOf_13 : decode cX0_worthOf 13 = .ok (.istore 4, 2) := by decide +kernel
theorem dX0_worthOf_15 : decode cX0_worthOf 15 = .ok (.aload_n 0, 1) := by decide +kernel
theorem dX0_worthOf_16 : decode cX0_worthOf 16 = .ok (.iload_n 1, 1) := by decide +kernel
theorem dX0_worthOf_17 : decode cX0_worthOf 17 = .ok (.iconst 2, 1) := by decide +kernel
theorem dX0_worthOf_18 : decode cX0_worthOf 18 = .ok (.invokevirtual 75, 3) := by decide +kernel
theorem dX0_worthOf_21 : decode cX0_worthOf 21 = .ok (.istore 5, 2) := by decide +kernel
theorem dX0_worthOf_23 : decode cX0_worthOf 23 = .ok (.aload_n 0, 1) := by decide +kernel
theorem dX0_worthOf_24 : decode cX0_worthOf 24 = .ok (.iload_n 1, 1) := by decide +kernel
theorem dX0_worthOf_25 : decode cX0_worthOf 25 = .ok (.iload_n 2, 1) := by decide +kernel
theorem dX0_worthOf_26 : decode cX0_worthOf 26 = .ok (.iload_n 3, 1) := by decide +kernel
theorem dX0_worthOf_27 : decode cX0_worthOf 27 = .ok (.iload 4, 2) := by decide +kernel
theorem dX0_worthOf_29 : decode cX0_worthOf 29 = .ok (.iload 5, 2) := by decide +kernel
theorem dX0_worthOf_31 : decode cX0_worthOf 31 = .ok (.invokevirtual 82, 3) := by decide +kernel
theorem dX0_worthOf_34 : decode cX0_worthOf 34 = .ok (.ireturn, 1) := by decide +kernel
theorem dX0_bestActions_0 : decode cX0_bestActions 0 = .ok (.aload_n 0, 1) := by decide +kernel
theorem dX0_bestActions_1 : decode cX0_bestActions 1 = .ok (.iload_n 1, 1) := by decide +kernel
theorem dX0_bestActions_2 : decode cX0_bestActions 2 = .ok (.iconst 0, 1) := by decide +kernel
theorem dX0_bestActions_3 : decode cX0_bestActions 3 = .ok (.invokevirtual 75, 3) := by decide +kernel
theorem dX0_bestActions_6 : decode cX0_bestActions 6 = .ok (.istore_n 2, 1) := by decide +kernel
theorem dX0_bestActions_7 : decode cX0_bestActions 7 = .ok (.aload_n 0, 1) := by decide +kernel
theorem dX0_bestActions_8 : decode cX0_bestActions 8 = .ok (.iload_n 1, 1) := by decide +kernel
theorem dX0_bestActions_9 : decode cX0_bestActions 9 = .ok (.iconst 1, 1) := by decide +kernel
theorem dX0_bestActions_10 : decode cX0_bestActions 10 = .ok (.invokevirtual 75, 3) := by decide +kernel
theorem dX0_bestActions_13 : decode cX0_bestActions 13 = .ok (.istore_n 3, 1) := by decide +kernel
theorem dX0_bestActions_14 : decode cX0_bestActions 14 = .ok (.aload_n 0, 1) := by decide +kernel
theorem dX0_bestActions_15 : decode cX0_bestActions 15 = .ok (.iload_n 1, 1) := by decide +kernel
theorem dX0_bestActions_16 : decode cX0_bestActions 16 = .ok (.iconst 2, 1) := by decide +kernel
theorem dX0_bestActions_17 : decode cX0_bestActions 17 = .ok (.invokevirtual 75, 3) := by decide +kernel
theorem dX0_bestActions_20 : decode cX0_bestActions 20 = .ok (.istore 4, 2) := by decide +kernel
theorem dX0_bestActions_22 : decode cX0_bestActions 22 = .ok (.aload_n 0, 1) := by decide +kernel
theorem dX0_bestActions_23 : decode cX0_bestActions 23 = .ok (.iload_n 1, 1) := by decide +kernel
theorem dX0_bestActions_24 : decode cX0_bestActions 24 = .ok (.iload_n 2, 1) := by decide +kernel
theorem dX0_bestActions_25 : decode cX0_bestActions 25 = .ok (.iload_n 3, 1) := by decide +kernel
theorem dX0_bestActions_26 : decode cX0_bestActions 26 = .ok (.iload 4, 2) := by decide +kernel
theorem dX0_bestActions_28 : decode cX0_bestActions 28 = .ok (.invokevirtual 86, 3) := by decide +kernel
theorem dX0_bestActions_31 : decode cX0_bestActions 31 = .ok (.ireturn, 1) := by decide +kernel
theorem dX0_lowestWrongMessage_0 : decode cX0_lowestWrongMessage 0 = .ok (.iconst 0, 1) := by decide +kernel
theorem dX0_lowestWrongMessage_1 : decode cX0_lowestWrongMessage 1 = .ok (.istore_n 1, 1) := by decide +kernel
theorem dX0_lowestWrongMessage_2 : decode cX0_lowestWrongMessage 2 = .ok (.iload_n 1, 1) := by decide +kernel
theorem dX0_lowestWrongMessage_3 : decode cX0_lowestWrongMessage 3 = .ok (.iconst 3, 1) := by decide +kernel
theorem dX0_lowestWrongMessage_4 : decode cX0_lowestWrongMessage 4 = .ok (.if_icmp .ge 30, 3) := by decide +kernel
theorem dX0_lowestWrongMessage_7 : decode cX0_lowestWrongMessage 7 = .ok (.aload_n 0, 1) := by decide +kernel
theorem dX0_lowestWrongMessage_8 : decode cX0_lowestWrongMessage 8 = .ok (.iload_n 1, 1) := by decide +kernel
theorem dX0_lowestWrongMessage_9 : decode cX0_lowestWrongMessage 9 = .ok (.invokevirtual 89, 3) := by decide +kernel
theorem dX0_lowestWrongMessage_12 : decode cX0_lowestWrongMessage 12 = .ok (.aload_n 0, 1) := by decide +kernel
theorem dX0_lowestWrongMessage_13 : decode cX0_lowestWrongMessage 13 = .ok (.iload_n 1, 1) := by decide +kernel
theorem dX0_lowestWrongMessage_14 : decode cX0_lowestWrongMessage 14 = .ok (.invokestatic 92, 3) := by decide +kernel
theorem dX0_lowestWrongMessage_17 : decode cX0_lowestWrongMessage 17 = .ok (.invokevirtual 47, 3) := by decide +kernel
theorem dX0_lowestWrongMessage_20 : decode cX0_lowestWrongMessage 20 = .ok (.invokestatic 72, 3) := by decide +kernel
theorem dX0_lowestWrongMessage_23 : decode cX0_lowestWrongMessage 23 = .ok (.ifCond .ne 5, 3) := by decide +kernel
theorem dX0_lowestWrongMessage_26 : decode cX0_lowestWrongMessage 26 = .ok (.iload_n 1, 1) := by decide +kernel
theorem dX0_lowestWrongMessage_27 : decode cX0_lowestWrongMessage 27 = .ok (.ireturn, 1) := by decide +kernel
theorem dX0_lowestWrongMessage_28 : decode cX0_lowestWrongMessage 28 = .ok (.iinc 1 1, 3) := by decide +kernel
theorem dX0_lowestWrongMessage_31 : decode cX0_lowestWrongMessage 31 = .ok (.goto (-29), 3) := by decide +kernel
theorem dX0_lowestWrongMessage_34 : decode cX0_lowestWrongMessage 34 = .ok (.bipush (-6), 2) := by decide +kernel
theorem dX0_lowestWrongMessage_36 : decode cX0_lowestWrongMessage 36 = .ok (.ireturn, 1) := by decide +kernel
theorem dX0_receiverSum_0 : decode cX0_receiverSum 0 = .ok (.iconst 0, 1) := by decide +kernel
theorem dX0_receiverSum_1 : decode cX0_receiverSum 1 = .ok (.istore_n 1, 1) := by decide +kernel
theorem dX0_receiverSum_2 : decode cX0_receiverSum 2 = .ok (.iconst 0, 1) := by decide +kernel
theorem dX0_receiverSum_3 : decode cX0_receiverSum 3 = .ok (.istore_n 2, 1) := by decide +kernel
theorem dX0_receiverSum_4 : decode cX0_receiverSum 4 = .ok (.iload_n 2, 1) := by decide +kernel
theorem dX0_receiverSum_5 : decode cX0_receiverSum 5 = .ok (.iconst 3, 1) := by decide +kernel
theorem dX0_receiverSum_6 : decode cX0_receiverSum 6 = .ok (.if_icmp .ge 52, 3) := by decide +kernel
theorem dX0_receiverSum_9 : decode cX0_receiverSum 9 = .ok (.aload_n 0, 1) := by decide +kernel
theorem dX0_receiverSum_10 : decode cX0_receiverSum 10 = .ok (.iload_n 2, 1) := by decide +kernel
theorem dX0_receiverSum_11 : decode cX0_receiverSum 11 = .ok (.invokestatic 50, 3) := by decide +kernel
theorem dX0_receiverSum_14 : decode cX0_receiverSum 14 = .ok (.invokevirtual 47, 3) := by decide +kernel
theorem dX0_receiverSum_17 : decode cX0_receiverSum 17 = .ok (.istore_n 3, 1) := by decide +kernel
theorem dX0_receiverSum_18 : decode cX0_receiverSum 18 = .ok (.aload_n 0, 1) := by decide +kernel
theorem dX0_receiverSum_19 : decode cX0_receiverSum 19 = .ok (.iload_n 3, 1) := by decide +kernel
theorem dX0_receiverSum_20 : decode cX0_receiverSum 20 = .ok (.invokestatic 92, 3) := by decide +kernel
theorem dX0_receiverSum_23 : decode cX0_receiverSum 23 = .ok (.invokevirtual 47, 3) := by decide +kernel
theorem dX0_receiverSum_26 : decode cX0_receiverSum 26 = .ok (.istore 4, 2) := by decide +kernel
theorem dX0_receiverSum_28 : decode cX0_receiverSum 28 = .ok (.iload_n 1, 1) := by decide +kernel
theorem dX0_receiverSum_29 : decode cX0_receiverSum 29 = .ok (.aload_n 0, 1) := by decide +kernel
theorem dX0_receiverSum_30 : decode cX0_receiverSum 30 = .ok (.iload_n 2, 1) := by decide +kernel
theorem dX0_receiverSum_31 : decode cX0_receiverSum 31 = .ok (.invokestatic 43, 3) := by decide +kernel
theorem dX0_receiverSum_34 : decode cX0_receiverSum 34 = .ok (.invokevirtual 47, 3) := by decide +kernel
theorem dX0_receiverSum_37 : decode cX0_receiverSum 37 = .ok (.aload_n 0, 1) := by decide +kernel
theorem dX0_receiverSum_38 : decode cX0_receiverSum 38 = .ok (.iconst 1, 1) := by decide +kernel
theorem dX0_receiverSum_39 : decode cX0_receiverSum 39 = .ok (.iload_n 2, 1) := by decide +kernel
theorem dX0_receiverSum_40 : decode cX0_receiverSum 40 = .ok (.iload_n 3, 1) := by decide +kernel
theorem dX0_receiverSum_41 : decode cX0_receiverSum 41 = .ok (.iload 4, 2) := by decide +kernel
theorem dX0_receiverSum_43 : decode cX0_receiverSum 43 = .ok (.invokestatic 78, 3) := by decide +kernel
theorem dX0_receiverSum_46 : decode cX0_receiverSum 46 = .ok (.invokevirtual 47, 3) := by decide +kernel
theorem dX0_receiverSum_49 : decode cX0_receiverSum 49 = .ok (.imul, 1) := by decide +kernel
theorem dX0_receiverSum_50 : decode cX0_receiverSum 50 = .ok (.iadd, 1) := by decide +kernel
theorem dX0_receiverSum_51 : decode cX0_receiverSum 51 = .ok (.istore_n 1, 1) := by decide +kernel
theorem dX0_receiverSum_52 : decode cX0_receiverSum 52 = .ok (.iinc 2 1, 3) := by decide +kernel
theorem dX0_receiverSum_55 : decode cX0_receiverSum 55 = .ok (.goto (-51), 3) := by decide +kernel
theorem dX0_receiverSum_58 : decode cX0_receiverSum 58 = .ok (.iload_n 1, 1) := by decide +kernel
theorem dX0_receiverSum_59 : decode cX0_receiverSum 59 = .ok (.ireturn, 1) := by decide +kernel
theorem dX0_payoffBy_0 : decode cX0_payoffBy 0 = .ok (.aload_n 0, 1) := by decide +kernel
theorem dX0_payoffBy_1 : decode cX0_payoffBy 1 = .ok (.iconst 0, 1) := by decide +kernel
theorem dX0_payoffBy_2 : decode cX0_payoffBy 2 = .ok (.iload_n 1, 1) := by decide +kernel
theorem dX0_payoffBy_3 : decode cX0_payoffBy 3 = .ok (.iload_n 2, 1) := by decide +kernel
theorem dX0_payoffBy_4 : decode cX0_payoffBy 4 = .ok (.aload_n 0, 1) := by decide +kernel
theorem dX0_payoffBy_5 : decode cX0_payoffBy 5 = .ok (.iload_n 2, 1) := by decide +kernel
theorem dX0_payoffBy_6 : decode cX0_payoffBy 6 = .ok (.invokestatic 92, 3) := by decide +kernel
theorem dX0_payoffBy_9 : decode cX0_payoffBy 9 = .ok (.invokevirtual 47, 3) := by decide +kernel
theorem dX0_payoffBy_12 : decode cX0_payoffBy 12 = .ok (.invokestatic 78, 3) := by decide +kernel
theorem dX0_payoffBy_15 : decode cX0_payoffBy 15 = .ok (.invokevirtual 47, 3) := by decide +kernel
theorem dX0_payoffBy_18 : decode cX0_payoffBy 18 = .ok (.ireturn, 1) := by decide +kernel
theorem dX0_ownPayoff_0 : decode cX0_ownPayoff 0 = .ok (.aload_n 0, 1) := by decide +kernel
theorem dX0_ownPayoff_1 : decode cX0_ownPayoff 1 = .ok (.iload_n 1, 1) := by decide +kernel
theorem dX0_ownPayoff_2 : decode cX0_ownPayoff 2 = .ok (.aload_n 0, 1) := by decide +kernel
theorem dX0_ownPayoff_3 : decode cX0_ownPayoff 3 = .ok (.iload_n 1, 1) := by decide +kernel
theorem dX0_ownPayoff_4 : decode cX0_ownPayoff 4 = .ok (.invokestatic 50, 3) := by decide +kernel
theorem dX0_ownPayoff_7 : decode cX0_ownPayoff 7 = .ok (.invokevirtual 47, 3) := by decide +kernel
theorem dX0_ownPayoff_10 : decode cX0_ownPayoff 10 = .ok (.invokevirtual 95, 3) := by decide +kernel
theorem dX0_ownPayoff_13 : decode cX0_ownPayoff 13 = .ok (.ireturn, 1) := by decide +kernel
theorem dX0_dearestMessage_0 : decode cX0_dearestMessage 0 = .ok (.iconst 0, 1) := by decide +kernel
theorem dX0_dearestMessage_1 : decode cX0_dearestMessage 1 = .ok (.istore_n 2, 1) := by decide +kernel
theorem dX0_dearestMessage_2 : decode cX0_dearestMessage 2 = .ok (.iconst 1, 1) := by decide +kernel
theorem dX0_dearestMessage_3 : decode cX0_dearestMessage 3 = .ok (.istore_n 3, 1) := by decide +kernel
theorem dX0_dearestMessage_4 : decode cX0_dearestMessage 4 = .ok (.iload_n 3, 1) := by decide +kernel
theorem dX0_dearestMessage_5 : decode cX0_dearestMessage 5 = .ok (.iconst 3, 1) := by decide +kernel
theorem dX0_dearestMessage_6 : decode cX0_dearestMessage 6 = .ok (.if_icmp .ge 26, 3) := by decide +kernel
theorem dX0_dearestMessage_9 : decode cX0_dearestMessage 9 = .ok (.aload_n 0, 1) := by decide +kernel
theorem dX0_dearestMessage_10 : decode cX0_dearestMessage 10 = .ok (.iload_n 1, 1) := by decide +kernel
theorem dX0_dearestMessage_11 : decode cX0_dearestMessage 11 = .ok (.iload_n 3, 1) := by decide +kernel
theorem dX0_dearestMessage_12 : decode cX0_dearestMessage 12 = .ok (.invokevirtual 95, 3) := by decide +kernel
theorem dX0_dearestMessage_15 : decode cX0_dearestMessage 15 = .ok (.aload_n 0, 1) := by decide +kernel
theorem dX0_dearestMessage_16 : decode cX0_dearestMessage 16 = .ok (.iload_n 1, 1) := by decide +kernel
theorem dX0_dearestMessage_17 : decode cX0_dearestMessage 17 = .ok (.iload_n 2, 1) := by decide +kernel
theorem dX0_dearestMessage_18 : decode cX0_dearestMessage 18 = .ok (.invokevirtual 95, 3) := by decide +kernel
theorem dX0_dearestMessage_21 : decode cX0_dearestMessage 21 = .ok (.if_icmp .le 5, 3) := by decide +kernel
theorem dX0_dearestMessage_24 : decode cX0_dearestMessage 24 = .ok (.iload_n 3, 1) := by decide +kernel
theorem dX0_dearestMessage_25 : decode cX0_dearestMessage 25 = .ok (.istore_n 2, 1) := by decide +kernel
theorem dX0_dearestMessage_26 : decode cX0_dearestMessage 26 = .ok (.iinc 3 1, 3) := by decide +kernel
theorem dX0_dearestMessage_29 : decode cX0_dearestMessage 29 = .ok (.goto (-25), 3) := by decide +kernel
theorem dX0_dearestMessage_32 : decode cX0_dearestMessage 32 = .ok (.iload_n 2, 1) := by decide +kernel
theorem dX0_dearestMessage_33 : decode cX0_dearestMessage 33 = .ok (.ireturn, 1) := by decide +kernel
theorem dX0_lowestBetterType_0 : decode cX0_lowestBetterType 0 = .ok (.iconst 0, 1) := by decide +kernel
theorem dX0_lowestBetterType_1 : decode cX0_lowestBetterType 1 = .ok (.istore_n 1, 1) := by decide +kernel
theorem dX0_lowestBetterType_2 : decode cX0_lowestBetterType 2 = .ok (.iload_n 1, 1) := by decide +kernel
theorem dX0_lowestBetterType_3 : decode cX0_lowestBetterType 3 = .ok (.iconst 3, 1) := by decide +kernel
theorem dX0_lowestBetterType_4 : decode cX0_lowestBetterType 4 = .ok (.if_icmp .ge 50, 3) := by decide +kernel
theorem dX0_lowestBetterType_7 : decode cX0_lowestBetterType 7 = .ok (.aload_n 0, 1) := by decide +kernel
theorem dX0_lowestBetterType_8 : decode cX0_lowestBetterType 8 = .ok (.iload_n 1, 1) := by decide +kernel
theorem dX0_lowestBetterType_9 : decode cX0_lowestBetterType 9 = .ok (.invokestatic 43, 3) := by decide +kernel
theorem dX0_lowestBetterType_12 : decode cX0_lowestBetterType 12 = .ok (.invokevirtual 47, 3) := by decide +kernel
theorem dX0_lowestBetterType_15 : decode cX0_lowestBetterType 15 = .ok (.ifCond .le 7, 3) := by decide +kernel
theorem dX0_lowestBetterType_18 : decode cX0_lowestBetterType 18 = .ok (.iconst 1, 1) := by decide +kernel
theorem dX0_lowestBetterType_19 : decode cX0_lowestBetterType 19 = .ok (.goto 4, 3) := by decide +kernel
theorem dX0_lowestBetterType_22 : decode cX0_lowestBetterType 22 = .ok (.iconst 0, 1) := by decide +kernel
theorem dX0_lowestBetterType_23 : decode cX0_lowestBetterType 23 = .ok (.istore_n 2, 1) := by decide +kernel
theorem dX0_lowestBetterType_24 : decode cX0_lowestBetterType 24 = .ok (.iload_n 2, 1) := by decide +kernel
theorem dX0_lowestBetterType_25 : decode cX0_lowestBetterType 25 = .ok (.ifCond .eq 23, 3) := by decide +kernel
theorem dX0_lowestBetterType_28 : decode cX0_lowestBetterType 28 = .ok (.aload_n 0, 1) := by decide +kernel
theorem dX0_lowestBetterType_29 : decode cX0_lowestBetterType 29 = .ok (.iload_n 1, 1) := by decide +kernel
theorem dX0_lowestBetterType_30 : decode cX0_lowestBetterType 30 = .ok (.aload_n 0, 1) := by decide +kernel
theorem dX0_lowestBetterType_31 : decode cX0_lowestBetterType 31 = .ok (.iload_n 1, 1) := by decide +kernel
theorem dX0_lowestBetterType_32 : decode cX0_lowestBetterType 32 = .ok (.invokevirtual 98, 3) := by decide +kernel
theorem dX0_lowestBetterType_35 : decode cX0_lowestBetterType 35 = .ok (.invokevirtual 95, 3) := by decide +kernel
theorem dX0_lowestBetterType_38 : decode cX0_lowestBetterType 38 = .ok (.aload_n 0, 1) := by decide +kernel
theorem dX0_lowestBetterType_39 : decode cX0_lowestBetterType 39 = .ok (.iload_n 1, 1) := by decide +kernel
theorem dX0_lowestBetterType_40 : decode cX0_lowestBetterType 40 = .ok (.invokevirtual 101, 3) := by decide +kernel
theorem dX0_lowestBetterType_43 : decode cX0_lowestBetterType 43 = .ok (.if_icmp .le 5, 3) := by decide +kernel
theorem dX0_lowestBetterType_46 : decode cX0_lowestBetterType 46 = .ok (.iload_n 1, 1) := by decide +kernel
theorem dX0_lowestBetterType_47 : decode cX0_lowestBetterType 47 = .ok (.ireturn, 1) := by decide +kernel
theorem dX0_lowestBetterType_48 : decode cX0_lowestBetterType 48 = .ok (.iinc 1 1, 3) := by decide +kernel
theorem dX0_lowestBetterType_51 : decode cX0_lowestBetterType 51 = .ok (.goto (-49), 3) := by decide +kernel
theorem dX0_lowestBetterType_54 : decode cX0_lowestBetterType 54 = .ok (.bipush (-6), 2) := by decide +kernel
theorem dX0_lowestBetterType_56 : decode cX0_lowestBetterType 56 = .ok (.ireturn, 1) := by decide +kernel
theorem dX0_isHolding_0 : decode cX0_isHolding 0 = .ok (.aload_n 0, 1) := by decide +kernel
theorem dX0_isHolding_1 : decode cX0_isHolding 1 = .ok (.invokevirtual 104, 3) := by decide +kernel
theorem dX0_isHolding_4 : decode cX0_isHolding 4 = .ok (.bipush (-6), 2) := by decide +kernel
theorem dX0_isHolding_6 : decode cX0_isHolding 6 = .ok (.if_icmp .ne 16, 3) := by decide +kernel
theorem dX0_isHolding_9 : decode cX0_isHolding 9 = .ok (.aload_n 0, 1) := by decide +kernel
theorem dX0_isHolding_10 : decode cX0_isHolding 10 = .ok (.invokevirtual 107, 3) := by decide +kernel
theorem dX0_isHolding_13 : decode cX0_isHolding 13 = .ok (.bipush (-6), 2) := by decide +kernel
theorem dX0_isHolding_15 : decode cX0_isHolding 15 = .ok (.if_icmp .ne 7, 3) := by decide +kernel
theorem dX0_isHolding_18 : decode cX0_isHolding 18 = .ok (.iconst 1, 1) := by decide +kernel
theorem dX0_isHolding_19 : decode cX0_isHolding 19 = .ok (.goto 4, 3) := by decide +kernel
theorem dX0_isHolding_22 : decode cX0_isHolding 22 = .ok (.iconst 0, 1) := by decide +kernel
theorem dX0_isHolding_23 : decode cX0_isHolding 23 = .ok (.ireturn, 1) := by decide +kernel
theorem dX0_possibleActions_0 : decode cX0_possibleActions 0 = .ok (.iload_n 1, 1) := by decide +kernel
theorem dX0_possibleActions_1 : decode cX0_possibleActions 1 = .ok (.bipush 8, 2) := by decide +kernel
theorem dX0_possibleActions_3 : decode cX0_possibleActions 3 = .ok (.imul, 1) := by decide +kernel
theorem dX0_possibleActions_4 : decode cX0_possibleActions 4 = .ok (.iload_n 2, 1) := by decide +kernel
theorem dX0_possibleActions_5 : decode cX0_possibleActions 5 = .ok (.iadd, 1) := by decide +kernel
theorem dX0_possibleActions_6 : decode cX0_possibleActions 6 = .ok (.istore_n 3, 1) := by decide +kernel
theorem dX0_possibleActions_7 : decode cX0_possibleActions 7 = .ok (.iload_n 3, 1) := by decide +kernel
theorem dX0_possibleActions_8 : decode cX0_possibleActions 8 = .ok (.aload_n 0, 1) := by decide +kernel
theorem dX0_possibleActions_9 : decode cX0_possibleActions 9 = .ok (.getfield 15, 3) := by decide +kernel
theorem dX0_possibleActions_12 : decode cX0_possibleActions 12 = .ok (.arraylength, 1) := by decide +kernel
theorem dX0_possibleActions_13 : decode cX0_possibleActions 13 = .ok (.invokestatic 24, 3) := by decide +kernel
theorem dX0_possibleActions_16 : decode cX0_possibleActions 16 = .ok (.ifCond .ne 5, 3) := by decide +kernel
theorem dX0_possibleActions_19 : decode cX0_possibleActions 19 = .ok (.iconst 0, 1) := by decide +kernel
theorem dX0_possibleActions_20 : decode cX0_possibleActions 20 = .ok (.ireturn, 1) := by decide +kernel
theorem dX0_possibleActions_21 : decode cX0_possibleActions 21 = .ok (.aload_n 0, 1) := by decide +kernel
theorem dX0_possibleActions_22 : decode cX0_possibleActions 22 = .ok (.getfield 15, 3) := by decide +kernel
theorem dX0_possibleActions_25 : decode cX0_possibleActions 25 = .ok (.iload_n 3, 1) := by decide +kernel
theorem dX0_possibleActions_26 : decode cX0_possibleActions 26 = .ok (.iaload, 1) := by decide +kernel
theorem dX0_possibleActions_27 : decode cX0_possibleActions 27 = .ok (.ifCond .eq 10, 3) := by decide +kernel
theorem dX0_possibleActions_30 : decode cX0_possibleActions 30 = .ok (.aload_n 0, 1) := by decide +kernel
theorem dX0_possibleActions_31 : decode cX0_possibleActions 31 = .ok (.getfield 15, 3) := by decide +kernel
theorem dX0_possibleActions_34 : decode cX0_possibleActions 34 = .ok (.iload_n 3, 1) := by decide +kernel
theorem dX0_possibleActions_35 : decode cX0_possibleActions 35 = .ok (.iaload, 1) := by decide +kernel
theorem dX0_possibleActions_36 : decode cX0_possibleActions 36 = .ok (.ireturn, 1) := by decide +kernel
theorem dX0_possibleActions_37 : decode cX0_possibleActions 37 = .ok (.iload_n 2, 1) := by decide +kernel
theorem dX0_possibleActions_38 : decode cX0_possibleActions 38 = .ok (.iconst 0, 1) := by decide +kernel
theorem dX0_possibleActions_39 : decode cX0_possibleActions 39 = .ok (.invokestatic 72, 3) := by decide +kernel
theorem dX0_possibleActions_42 : decode cX0_possibleActions 42 = .ok (.ifCond .eq 7, 3) := by decide +kernel
theorem dX0_possibleActions_45 : decode cX0_possibleActions 45 = .ok (.iconst 4, 1) := by decide +kernel
theorem dX0_possibleActions_46 : decode cX0_possibleActions 46 = .ok (.goto 4, 3) := by decide +kernel
theorem dX0_possibleActions_49 : decode cX0_possibleActions 49 = .ok (.iconst 0, 1) := by decide +kernel
theorem dX0_possibleActions_50 : decode cX0_possibleActions 50 = .ok (.istore 4, 2) := by decide +kernel
theorem dX0_possibleActions_52 : decode cX0_possibleActions 52 = .ok (.iload_n 2, 1) := by decide +kernel
theorem dX0_possibleActions_53 : decode cX0_possibleActions 53 = .ok (.iconst 1, 1) := by decide +kernel
theorem dX0_possibleActions_54 : decode cX0_possibleActions 54 = .ok (.invokestatic 72, 3) := by decide +kernel
theorem dX0_possibleActions_57 : decode cX0_possibleActions 57 = .ok (.ifCond .eq 7, 3) := by decide +kernel
theorem dX0_possibleActions_60 : decode cX0_possibleActions 60 = .ok (.iconst 4, 1) := by decide +kernel
theorem dX0_possibleActions_61 : decode cX0_possibleActions 61 = .ok (.goto 4, 3) := by decide +kernel
theorem dX0_possibleActions_64 : decode cX0_possibleActions 64 = .ok (.iconst 0, 1) := by decide +kernel
theorem dX0_possibleActions_65 : decode cX0_possibleActions 65 = .ok (.istore 5, 2) := by decide +kernel
theorem dX0_possibleActions_67 : decode cX0_possibleActions 67 = .ok (.iload_n 2, 1) := by decide +kernel
theorem dX0_possibleActions_68 : decode cX0_possibleActions 68 = .ok (.iconst 2, 1) := by decide +kernel
theorem dX0_possibleActions_69 : decode cX0_possibleActions 69 = .ok (.invokestatic 72, 3) := by decide +kernel
theorem dX0_possibleActions_72 : decode cX0_possibleActions 72 = .ok (.ifCond .eq 7, 3) := by decide +kernel
theorem dX0_possibleActions_75 : decode cX0_possibleActions 75 = .ok (.iconst 4, 1) := by decide +kernel
theorem dX0_possibleActions_76 : decode cX0_possibleActions 76 = .ok (.goto 4, 3) := by decide +kernel
theorem dX0_possibleActions_79 : decode cX0_possibleActions 79 = .ok (.iconst 0, 1) := by decide +kernel
theorem dX0_possibleActions_80 : decode cX0_possibleActions 80 = .ok (.istore 6, 2) := by decide +kernel
theorem dX0_possibleActions_82 : decode cX0_possibleActions 82 = .ok (.iconst 0, 1) := by decide +kernel
theorem dX0_possibleActions_83 : decode cX0_possibleActions 83 = .ok (.istore 7, 2) := by decide +kernel
theorem dX0_possibleActions_85 : decode cX0_possibleActions 85 = .ok (.iconst 0, 1) := by decide +kernel
theorem dX0_possibleActions_86 : decode cX0_possibleActions 86 = .ok (.istore 8, 2) := by decide +kernel
theorem dX0_possibleActions_88 : decode cX0_possibleActions 88 = .ok (.iload 8, 2) := by decide +kernel
theorem dX0_possibleActions_90 : decode cX0_possibleActions 90 = .ok (.iload 4, 2) := by decide +kernel
theorem dX0_possibleActions_92 : decode cX0_possibleActions 92 = .ok (.if_icmp .gt 68, 3) := by decide +kernel
theorem dX0_possibleActions_95 : decode cX0_possibleActions 95 = .ok (.iconst 0, 1) := by decide +kernel
theorem dX0_possibleActions_96 : decode cX0_possibleActions 96 = .ok (.istore 9, 2) := by decide +kernel
theorem dX0_possibleActions_98 : decode cX0_possibleActions 98 = .ok (.iload 9, 2) := by decide +kernel
theorem dX0_possibleActions_100 : decode cX0_possibleActions 100 = .ok (.iload 5, 2) := by decide +kernel
theorem dX0_possibleActions_102 : decode cX0_possibleActions 102 = .ok (.if_icmp .gt 52, 3) := by decide +kernel
theorem dX0_possibleActions_105 : decode cX0_possibleActions 105 = .ok (.iconst 0, 1) := by decide +kernel
theorem dX0_possibleActions_106 : decode cX0_possibleActions 106 = .ok (.istore 10, 2) := by decide +kernel
theorem dX0_possibleActions_108 : decode cX0_possibleActions 108 = .ok (.iload 10, 2) := by decide +kernel
theorem dX0_possibleActions_110 : decode cX0_possibleActions 110 = .ok (.iload 6, 2) := by decide +kernel
theorem dX0_possibleActions_112 : decode cX0_possibleActions 112 = .ok (.if_icmp .gt 36, 3) := by decide +kernel
theorem dX0_possibleActions_115 : decode cX0_possibleActions 115 = .ok (.iload 8, 2) := by decide +kernel
theorem dX0_possibleActions_117 : decode cX0_possibleActions 117 = .ok (.iload 9, 2) := by decide +kernel
theorem dX0_possibleActions_119 : decode cX0_possibleActions 119 = .ok (.iadd, 1) := by decide +kernel
theorem dX0_possibleActions_120 : decode cX0_possibleActions 120 = .ok (.iload 10, 2) := by decide +kernel
theorem dX0_possibleActions_122 : decode cX0_possibleActions 122 = .ok (.iadd, 1) := by decide +kernel
theorem dX0_possibleActions_123 : decode cX0_possibleActions 123 = .ok (.ifCond .le 19, 3) := by decide +kernel
theorem dX0_possibleActions_126 : decode cX0_possibleActions 126 = .ok (.iload 7, 2) := by decide +kernel
theorem dX0_possibleActions_128 : decode cX0_possibleActions 128 = .ok (.aload_n 0, 1) := by decide +kernel
theorem dX0_possibleActions_129 : decode cX0_possibleActions 129 = .ok (.iload_n 1, 1) := by decide +kernel
theorem dX0_possibleActions_130 : decode cX0_possibleActions 130 = .ok (.iload 8, 2) := by decide +kernel
theorem dX0_possibleActions_132 : decode cX0_possibleActions 132 = .ok (.iload 9, 2) := by decide +kernel
theorem dX0_possibleActions_134 : decode cX0_possibleActions 134 = .ok (.iload 10, 2) := by decide +kernel
theorem dX0_possibleActions_136 : decode cX0_possibleActions 136 = .ok (.invokevirtual 86, 3) := by decide +kernel
theorem dX0_possibleActions_139 : decode cX0_possibleActions 139 = .ok (.ior, 1) := by decide +kernel
theorem dX0_possibleActions_140 : decode cX0_possibleActions 140 = .ok (.istore 7, 2) := by decide +kernel
theorem dX0_possibleActions_142 : decode cX0_possibleActions 142 = .ok (.iinc 10 1, 3) := by decide +kernel
theorem dX0_possibleActions_145 : decode cX0_possibleActions 145 = .ok (.goto (-37), 3) := by decide +kernel
theorem dX0_possibleActions_148 : decode cX0_possibleActions 148 = .ok (.iinc 9 1, 3) := by decide +kernel
theorem dX0_possibleActions_151 : decode cX0_possibleActions 151 = .ok (.goto (-53), 3) := by decide +kernel
theorem dX0_possibleActions_154 : decode cX0_possibleActions 154 = .ok (.iinc 8 1, 3) := by decide +kernel
theorem dX0_possibleActions_157 : decode cX0_possibleActions 157 = .ok (.goto (-69), 3) := by decide +kernel
theorem dX0_possibleActions_160 : decode cX0_possibleActions 160 = .ok (.aload_n 0, 1) := by decide +kernel
theorem dX0_possibleActions_161 : decode cX0_possibleActions 161 = .ok (.getfield 15, 3) := by decide +kernel
theorem dX0_possibleActions_164 : decode cX0_possibleActions 164 = .ok (.iload_n 3, 1) := by decide +kernel
theorem dX0_possibleActions_165 : decode cX0_possibleActions 165 = .ok (.iload 7, 2) := by decide +kernel
theorem dX0_possibleActions_167 : decode cX0_possibleActions 167 = .ok (.iastore, 1) := by decide +kernel
theorem dX0_possibleActions_168 : decode cX0_possibleActions 168 = .ok (.iload 7, 2) := by decide +kernel
theorem dX0_possibleActions_170 : decode cX0_possibleActions 170 = .ok (.ireturn, 1) := by decide +kernel
theorem dX0_mostByAny_0 : decode cX0_mostByAny 0 = .ok (.bipush (-9), 2) := by decide +kernel
theorem dX0_mostByAny_2 : decode cX0_mostByAny 2 = .ok (.istore 4, 2) := by decide +kernel
theorem dX0_mostByAny_4 : decode cX0_mostByAny 4 = .ok (.iconst 0, 1) := by decide +kernel
theorem dX0_mostByAny_5 : decode cX0_mostByAny 5 = .ok (.istore 5, 2) := by decide +kernel
theorem dX0_mostByAny_7 : decode cX0_mostByAny 7 = .ok (.iload 5, 2) := by decide +kernel
theorem dX0_mostByAny_9 : decode cX0_mostByAny 9 = .ok (.iconst 3, 1) := by decide +kernel
theorem dX0_mostByAny_10 : decode cX0_mostByAny 10 = .ok (.if_icmp .ge 37, 3) := by decide +kernel
theorem dX0_mostByAny_13 : decode cX0_mostByAny 13 = .ok (.iload_n 3, 1) := by decide +kernel
theorem dX0_mostByAny_14 : decode cX0_mostByAny 14 = .ok (.iload 5, 2) := by decide +kernel
theorem dX0_mostByAny_16 : decode cX0_mostByAny 16 = .ok (.invokestatic 72, 3) := by decide +kernel
theorem dX0_mostByAny_19 : decode cX0_mostByAny 19 = .ok (.ifCond .eq 22, 3) := by decide +kernel
theorem dX0_mostByAny_22 : decode cX0_mostByAny 22 = .ok (.iload 4, 2) := by decide +kernel
theorem dX0_mostByAny_24 : decode cX0_mostByAny 24 = .ok (.aload_n 0, 1) := by decide +kernel
theorem dX0_mostByAny_25 : decode cX0_mostByAny 25 = .ok (.iconst 0, 1) := by decide +kernel
theorem dX0_mostByAny_26 : decode cX0_mostByAny 26 = .ok (.iload_n 1, 1) := by decide +kernel
theorem dX0_mostByAny_27 : decode cX0_mostByAny 27 = .ok (.iload_n 2, 1) := by decide +kernel
theorem dX0_mostByAny_28 : decode cX0_mostByAny 28 = .ok (.iload 5, 2) := by decide +kernel
theorem dX0_mostByAny_30 : decode cX0_mostByAny 30 = .ok (.invokestatic 78, 3) := by decide +kernel
theorem dX0_mostByAny_33 : decode cX0_mostByAny 33 = .ok (.invokevirtual 47, 3) := by decide +kernel
theorem dX0_mostByAny_36 : decode cX0_mostByAny 36 = .ok (.invokestatic 110, 3) := by decide +kernel
theorem dX0_mostByAny_39 : decode cX0_mostByAny 39 = .ok (.istore 4, 2) := by decide +kernel
theorem dX0_mostByAny_41 : decode cX0_mostByAny 41 = .ok (.iinc 5 1, 3) := by decide +kernel
theorem dX0_mostByAny_44 : decode cX0_mostByAny 44 = .ok (.goto (-37), 3) := by decide +kernel
theorem dX0_mostByAny_47 : decode cX0_mostByAny 47 = .ok (.iload 4, 2) := by decide +kernel
theorem dX0_mostByAny_49 : decode cX0_mostByAny 49 = .ok (.ireturn, 1) := by decide +kernel
theorem dX0_leastByAny_0 : decode cX0_leastByAny 0 = .ok (.bipush 9, 2) := by decide +kernel
theorem dX0_leastByAny_2 : decode cX0_leastByAny 2 = .ok (.istore 4, 2) := by decide +kernel
theorem dX0_leastByAny_4 : decode cX0_leastByAny 4 = .ok (.iconst 0, 1) := by decide +kernel
theorem dX0_leastByAny_5 : decode cX0_leastByAny 5 = .ok (.istore 5, 2) := by decide +kernel
theorem dX0_leastByAny_7 : decode cX0_leastByAny 7 = .ok (.iload 5, 2) := by decide +kernel
theorem dX0_leastByAny_9 : decode cX0_leastByAny 9 = .ok (.iconst 3, 1) := by decide +kernel
theorem dX0_leastByAny_10 : decode cX0_leastByAny 10 = .ok (.if_icmp .ge 37, 3) := by decide +kernel
theorem dX0_leastByAny_13 : decode cX0_leastByAny 13 = .ok (.iload_n 3, 1) := by decide +kernel
theorem dX0_leastByAny_14 : decode cX0_leastByAny 14 = .ok (.iload 5, 2) := by decide +kernel
theorem dX0_leastByAny_16 : decode cX0_leastByAny 16 = .ok (.invokestatic 72, 3) := by decide +kernel
theorem dX0_leastByAny_19 : decode cX0_leastByAny 19 = .ok (.ifCond .eq 22, 3) := by decide +kernel
theorem dX0_leastByAny_22 : decode cX0_leastByAny 22 = .ok (.iload 4, 2) := by decide +kernel
theorem dX0_leastByAny_24 : decode cX0_leastByAny 24 = .ok (.aload_n 0, 1) := by decide +kernel
theorem dX0_leastByAny_25 : decode cX0_leastByAny 25 = .ok (.iconst 0, 1) := by decide +kernel
theorem dX0_leastByAny_26 : decode cX0_leastByAny 26 = .ok (.iload_n 1, 1) := by decide +kernel
theorem dX0_leastByAny_27 : decode cX0_leastByAny 27 = .ok (.iload_n 2, 1) := by decide +kernel
theorem dX0_leastByAny_28 : decode cX0_leastByAny 28 = .ok (.iload 5, 2) := by decide +kernel
theorem dX0_leastByAny_30 : decode cX0_leastByAny 30 = .ok (.invokestatic 78, 3) := by decide +kernel
theorem dX0_leastByAny_33 : decode cX0_leastByAny 33 = .ok (.invokevirtual 47, 3) := by decide +kernel
theorem dX0_leastByAny_36 : decode cX0_leastByAny 36 = .ok (.invokestatic 115, 3) := by decide +kernel
theorem dX0_leastByAny_39 : decode cX0_leastByAny 39 = .ok (.istore 4, 2) := by decide +kernel
theorem dX0_leastByAny_41 : decode cX0_leastByAny 41 = .ok (.iinc 5 1, 3) := by decide +kernel
theorem dX0_leastByAny_44 : decode cX0_leastByAny 44 = .ok (.goto (-37), 3) := by decide +kernel
theorem dX0_leastByAny_47 : decode cX0_leastByAny 47 = .ok (.iload 4, 2) := by decide +kernel
theorem dX0_leastByAny_49 : decode cX0_leastByAny 49 = .ok (.ireturn, 1) := by decide +kernel
theorem dX0_neverSenders_0 : decode cX0_neverSenders 0 = .ok (.aload_n 0, 1) := by decide +kernel
theorem dX0_neverSenders_1 : decode cX0_neverSenders 1 = .ok (.iload_n 1, 1) := by decide +kernel
theorem dX0_neverSenders_2 : decode cX0_neverSenders 2 = .ok (.invokevirtual 53, 3) := by decide +kernel
theorem dX0_neverSenders_5 : decode cX0_neverSenders 5 = .ok (.ifCond .eq 5, 3) := by decide +kernel
theorem dX0_neverSenders_8 : decode cX0_neverSenders 8 = .ok (.iconst 0, 1) := by decide +kernel
theorem dX0_neverSenders_9 : decode cX0_neverSenders 9 = .ok (.ireturn, 1) := by decide +kernel
theorem dX0_neverSenders_10 : decode cX0_neverSenders 10 = .ok (.aload_n 0, 1) := by decide +kernel
theorem dX0_neverSenders_11 : decode cX0_neverSenders 11 = .ok (.invokevirtual 65, 3) := by decide +kernel
theorem dX0_neverSenders_14 : decode cX0_neverSenders 14 = .ok (.istore_n 2, 1) := by decide +kernel
theorem dX0_neverSenders_15 : decode cX0_neverSenders 15 = .ok (.aload_n 0, 1) := by decide +kernel
theorem dX0_neverSenders_16 : decode cX0_neverSenders 16 = .ok (.iload_n 1, 1) := by decide +kernel
theorem dX0_neverSenders_17 : decode cX0_neverSenders 17 = .ok (.iload_n 2, 1) := by decide +kernel
theorem dX0_neverSenders_18 : decode cX0_neverSenders 18 = .ok (.invokevirtual 118, 3) := by decide +kernel
theorem dX0_neverSenders_21 : decode cX0_neverSenders 21 = .ok (.istore_n 3, 1) := by decide +kernel
theorem dX0_neverSenders_22 : decode cX0_neverSenders 22 = .ok (.iconst 0, 1) := by decide +kernel
theorem dX0_neverSenders_23 : decode cX0_neverSenders 23 = .ok (.istore 4, 2) := by decide +kernel
theorem dX0_neverSenders_25 : decode cX0_neverSenders 25 = .ok (.iconst 0, 1) := by decide +kernel
theorem dX0_neverSenders_26 : decode cX0_neverSenders 26 = .ok (.istore 5, 2) := by decide +kernel
theorem dX0_neverSenders_28 : decode cX0_neverSenders 28 = .ok (.iload 5, 2) := by decide +kernel
theorem dX0_neverSenders_30 : decode cX0_neverSenders 30 = .ok (.iconst 3, 1) := by decide +kernel
theorem dX0_neverSenders_31 : decode cX0_neverSenders 31 = .ok (.if_icmp .ge 44, 3) := by decide +kernel
theorem dX0_neverSenders_34 : decode cX0_neverSenders 34 = .ok (.iload_n 2, 1) := by decide +kernel
theorem dX0_neverSenders_35 : decode cX0_neverSenders 35 = .ok (.iload 5, 2) := by decide +kernel
theorem dX0_neverSenders_37 : decode cX0_neverSenders 37 = .ok (.invokestatic 72, 3) := by decide +kernel
theorem dX0_neverSenders_40 : decode cX0_neverSenders 40 = .ok (.ifCond .eq 29, 3) := by decide +kernel
theorem dX0_neverSenders_43 : decode cX0_neverSenders 43 = .ok (.aload_n 0, 1) := by decide +kernel
theorem dX0_neverSenders_44 : decode cX0_neverSenders 44 = .ok (.iload 5, 2) := by decide +kernel
theorem dX0_neverSenders_46 : decode cX0_neverSenders 46 = .ok (.invokevirtual 101, 3) := by decide +kernel
theorem dX0_neverSenders_49 : decode cX0_neverSenders 49 = .ok (.aload_n 0, 1) := by decide +kernel
theorem dX0_neverSenders_50 : decode cX0_neverSenders 50 = .ok (.iload 5, 2) := by decide +kernel
theorem dX0_neverSenders_52 : decode cX0_neverSenders 52 = .ok (.iload_n 1, 1) := by decide +kernel
theorem dX0_neverSenders_53 : decode cX0_neverSenders 53 = .ok (.iload_n 3, 1) := by decide +kernel
theorem dX0_neverSenders_54 : decode cX0_neverSenders 54 = .ok (.invokevirtual 121, 3) := by decide +kernel
theorem dX0_neverSenders_57 : decode cX0_neverSenders 57 = .ok (.if_icmp .le 12, 3) := by decide +kernel
theorem dX0_neverSenders_60 : decode cX0_neverSenders 60 = .ok (.iload 4, 2) := by decide +kernel
theorem dX0_neverSenders_62 : decode cX0_neverSenders 62 = .ok (.iconst 1, 1) := by decide +kernel
theorem dX0_neverSenders_63 : decode cX0_neverSenders 63 = .ok (.iload 5, 2) := by decide +kernel
theorem dX0_neverSenders_65 : decode cX0_neverSenders 65 = .ok (.ishl, 1) := by decide +kernel
theorem dX0_neverSenders_66 : decode cX0_neverSenders 66 = .ok (.ior, 1) := by decide +kernel
theorem dX0_neverSenders_67 : decode cX0_neverSenders 67 = .ok (.istore 4, 2) := by decide +kernel
theorem dX0_neverSenders_69 : decode cX0_neverSenders 69 = .ok (.iinc 5 1, 3) := by decide +kernel
theorem dX0_neverSenders_72 : decode cX0_neverSenders 72 = .ok (.goto (-44), 3) := by decide +kernel
theorem dX0_neverSenders_75 : decode cX0_neverSenders 75 = .ok (.iload 4, 2) := by decide +kernel
theorem dX0_neverSenders_77 : decode cX0_neverSenders 77 = .ok (.ireturn, 1) := by decide +kernel
theorem dX0_isUntempted_0 : decode cX0_isUntempted 0 = .ok (.iconst 0, 1) := by decide +kernel
theorem dX0_isUntempted_1 : decode cX0_isUntempted 1 = .ok (.istore_n 1, 1) := by decide +kernel
theorem dX0_isUntempted_2 : decode cX0_isUntempted 2 = .ok (.iload_n 1, 1) := by decide +kernel
theorem dX0_isUntempted_3 : decode cX0_isUntempted 3 = .ok (.iconst 3, 1) := by decide +kernel
theorem dX0_isUntempted_4 : decode cX0_isUntempted 4 = .ok (.if_icmp .ge 83, 3) := by decide +kernel
theorem dX0_isUntempted_7 : decode cX0_isUntempted 7 = .ok (.aload_n 0, 1) := by decide +kernel
theorem dX0_isUntempted_8 : decode cX0_isUntempted 8 = .ok (.iload_n 1, 1) := by decide +kernel
theorem dX0_isUntempted_9 : decode cX0_isUntempted 9 = .ok (.invokevirtual 53, 3) := by decide +kernel
theorem dX0_isUntempted_12 : decode cX0_isUntempted 12 = .ok (.ifCond .eq 6, 3) := by decide +kernel
theorem dX0_isUntempted_15 : decode cX0_isUntempted 15 = .ok (.goto 66, 3) := by decide +kernel
theorem dX0_isUntempted_18 : decode cX0_isUntempted 18 = .ok (.aload_n 0, 1) := by decide +kernel
theorem dX0_isUntempted_19 : decode cX0_isUntempted 19 = .ok (.invokevirtual 65, 3) := by decide +kernel
theorem dX0_isUntempted_22 : decode cX0_isUntempted 22 = .ok (.aload_n 0, 1) := by decide +kernel
theorem dX0_isUntempted_23 : decode cX0_isUntempted 23 = .ok (.iload_n 1, 1) := by decide +kernel
theorem dX0_isUntempted_24 : decode cX0_isUntempted 24 = .ok (.invokevirtual 125, 3) := by decide +kernel
theorem dX0_isUntempted_27 : decode cX0_isUntempted 27 = .ok (.iconst (-1), 1) := by decide +kernel
theorem dX0_isUntempted_28 : decode cX0_isUntempted 28 = .ok (.ixor, 1) := by decide +kernel
theorem dX0_isUntempted_29 : decode cX0_isUntempted 29 = .ok (.iand, 1) := by decide +kernel
theorem dX0_isUntempted_30 : decode cX0_isUntempted 30 = .ok (.istore_n 2, 1) := by decide +kernel
theorem dX0_isUntempted_31 : decode cX0_isUntempted 31 = .ok (.aload_n 0, 1) := by decide +kernel
theorem dX0_isUntempted_32 : decode cX0_isUntempted 32 = .ok (.iload_n 1, 1) := by decide +kernel
theorem dX0_isUntempted_33 : decode cX0_isUntempted 33 = .ok (.iload_n 2, 1) := by decide +kernel
theorem dX0_isUntempted_34 : decode cX0_isUntempted 34 = .ok (.invokevirtual 118, 3) := by decide +kernel
theorem dX0_isUntempted_37 : decode cX0_isUntempted 37 = .ok (.istore_n 3, 1) := by decide +kernel
theorem dX0_isUntempted_38 : decode cX0_isUntempted 38 = .ok (.iconst 0, 1) := by decide +kernel
theorem dX0_isUntempted_39 : decode cX0_isUntempted 39 = .ok (.istore 4, 2) := by decide +kernel
theorem dX0_isUntempted_41 : decode cX0_isUntempted 41 = .ok (.iload 4, 2) := by decide +kernel
theorem dX0_isUntempted_43 : decode cX0_isUntempted 43 = .ok (.iconst 3, 1) := by decide +kernel
theorem dX0_isUntempted_44 : decode cX0_isUntempted 44 = .ok (.if_icmp .ge 37, 3) := by decide +kernel
theorem dX0_isUntempted_47 : decode cX0_isUntempted 47 = .ok (.iload_n 2, 1) := by decide +kernel
theorem dX0_isUntempted_48 : decode cX0_isUntempted 48 = .ok (.iload 4, 2) := by decide +kernel
theorem dX0_isUntempted_50 : decode cX0_isUntempted 50 = .ok (.invokestatic 72, 3) := by decide +kernel
theorem dX0_isUntempted_53 : decode cX0_isUntempted 53 = .ok (.ifCond .eq 22, 3) := by decide +kernel
theorem dX0_isUntempted_56 : decode cX0_isUntempted 56 = .ok (.aload_n 0, 1) := by decide +kernel
theorem dX0_isUntempted_57 : decode cX0_isUntempted 57 = .ok (.iload 4, 2) := by decide +kernel
theorem dX0_isUntempted_59 : decode cX0_isUntempted 59 = .ok (.invokevirtual 101, 3) := by decide +kernel
theorem dX0_isUntempted_62 : decode cX0_isUntempted 62 = .ok (.aload_n 0, 1) := by decide +kernel
theorem dX0_isUntempted_63 : decode cX0_isUntempted 63 = .ok (.iload 4, 2) := by decide +kernel
theorem dX0_isUntempted_65 : decode cX0_isUntempted 65 = .ok (.iload_n 1, 1) := by decide +kernel
theorem dX0_isUntempted_66 : decode cX0_isUntempted 66 = .ok (.iload_n 3, 1) := by decide +kernel
theorem dX0_isUntempted_67 : decode cX0_isUntempted 67 = .ok (.invokevirtual 128, 3) := by decide +kernel
theorem dX0_isUntempted_70 : decode cX0_isUntempted 70 = .ok (.if_icmp .ge 5, 3) := by decide +kernel
theorem dX0_isUntempted_73 : decode cX0_isUntempted 73 = .ok (.iconst 0, 1) := by decide +kernel
theorem dX0_isUntempted_74 : decode cX0_isUntempted 74 = .ok (.ireturn, 1) := by decide +kernel
theorem dX0_isUntempted_75 : decode cX0_isUntempted 75 = .ok (.iinc 4 1, 3) := by decide +kernel
theorem dX0_isUntempted_78 : decode cX0_isUntempted 78 = .ok (.goto (-37), 3) := by decide +kernel
theorem dX0_isUntempted_81 : decode cX0_isUntempted 81 = .ok (.iinc 1 1, 3) := by decide +kernel
theorem dX0_isUntempted_84 : decode cX0_isUntempted 84 = .ok (.goto (-82), 3) := by decide +kernel
theorem dX0_isUntempted_87 : decode cX0_isUntempted 87 = .ok (.iconst 1, 1) := by decide +kernel
theorem dX0_isUntempted_88 : decode cX0_isUntempted 88 = .ok (.ireturn, 1) := by decide +kernel
theorem dX1_init_0 : decode cX1_init 0 = .ok (.aload_n 0, 1) := by decide +kernel
theorem dX1_init_1 : decode cX1_init 1 = .ok (.invokespecial 3, 3) := by decide +kernel
theorem dX1_init_4 : decode cX1_init 4 = .ok (.aload_n 0, 1) := by decide +kernel
theorem dX1_init_5 : decode cX1_init 5 = .ok (.bipush 80, 2) := by decide +kernel
theorem dX1_init_7 : decode cX1_init 7 = .ok (.newarray .int, 2) := by decide +kernel
theorem dX1_init_9 : decode cX1_init 9 = .ok (.putfield 9, 3) := by decide +kernel
theorem dX1_init_12 : decode cX1_init 12 = .ok (.aload_n 0, 1) := by decide +kernel
theorem dX1_init_13 : decode cX1_init 13 = .ok (.iconst 0, 1) := by decide +kernel
theorem dX1_init_14 : decode cX1_init 14 = .ok (.putfield 15, 3) := by decide +kernel
theorem dX1_init_17 : decode cX1_init 17 = .ok (.return_, 1) := by decide +kernel
theorem dX1_length_0 : decode cX1_length 0 = .ok (.aload_n 0, 1) := by decide +kernel
theorem dX1_length_1 : decode cX1_length 1 = .ok (.getfield 15, 3) := by decide +kernel
theorem dX1_length_4 : decode cX1_length 4 = .ok (.ireturn, 1) := by decide +kernel
theorem dX1_append_0 : decode cX1_append 0 = .ok (.aload_n 0, 1) := by decide +kernel
theorem dX1_append_1 : decode cX1_append 1 = .ok (.getfield 15, 3) := by decide +kernel
theorem dX1_append_4 : decode cX1_append 4 = .ok (.aload_n 0, 1) := by decide +kernel
theorem dX1_append_5 : decode cX1_append 5 = .ok (.getfield 9, 3) := by decide +kernel
theorem dX1_append_8 : decode cX1_append 8 = .ok (.arraylength, 1) := by decide +kernel
theorem dX1_append_9 : decode cX1_append 9 = .ok (.invokestatic 19, 3) := by decide +kernel
theorem dX1_append_12 : decode cX1_append 12 = .ok (.ifCond .eq 23, 3) := by decide +kernel
theorem dX1_append_15 : decode cX1_append 15 = .ok (.aload_n 0, 1) := by decide +kernel
theorem dX1_append_16 : decode cX1_append 16 = .ok (.getfield 9, 3) := by decide +kernel
theorem dX1_append_19 : decode cX1_append 19 = .ok (.aload_n 0, 1) := by decide +kernel
theorem dX1_append_20 : decode cX1_append 20 = .ok (.getfield 15, 3) := by decide +kernel
theorem dX1_append_23 : decode cX1_append 23 = .ok (.iload_n 1, 1) := by decide +kernel
theorem dX1_append_24 : decode cX1_append 24 = .ok (.iastore, 1) := by decide +kernel
theorem dX1_append_25 : decode cX1_append 25 = .ok (.aload_n 0, 1) := by decide +kernel
theorem dX1_append_26 : decode cX1_append 26 = .ok (.dup, 1) := by decide +kernel
theorem dX1_append_27 : decode cX1_append 27 = .ok (.getfield 15, 3) := by decide +kernel
theorem dX1_append_30 : decode cX1_append 30 = .ok (.iconst 1, 1) := by decide +kernel
theorem dX1_append_31 : decode cX1_append 31 = .ok (.iadd, 1) := by decide +kernel
theorem dX1_append_32 : decode cX1_append 32 = .ok (.putfield 15, 3) := by decide +kernel
theorem dX1_append_35 : decode cX1_append 35 = .ok (.return_, 1) := by decide +kernel
theorem dX1_clear_0 : decode cX1_clear 0 = .ok (.aload_n 0, 1) := by decide +kernel
theorem dX1_clear_1 : decode cX1_clear 1 = .ok (.iconst 0, 1) := by decide +kernel
theorem dX1_clear_2 : decode cX1_clear 2 = .ok (.putfield 15, 3) := by decide +kernel
theorem dX1_clear_5 : decode cX1_clear 5 = .ok (.return_, 1) := by decide +kernel
theorem dX1_signAt_0 : decode cX1_signAt 0 = .ok (.iload_n 1, 1) := by decide +kernel
theorem dX1_signAt_1 : decode cX1_signAt 1 = .ok (.ifCond .lt 29, 3) := by decide +kernel
theorem dX1_signAt_4 : decode cX1_signAt 4 = .ok (.iload_n 1, 1) := by decide +kernel
theorem dX1_signAt_5 : decode cX1_signAt 5 = .ok (.aload_n 0, 1) := by decide +kernel
theorem dX1_signAt_6 : decode cX1_signAt 6 = .ok (.getfield 15, 3) := by decide +kernel
theorem dX1_signAt_9 : decode cX1_signAt 9 = .ok (.if_icmp .ge 21, 3) := by decide +kernel
theorem dX1_signAt_12 : decode cX1_signAt 12 = .ok (.iload_n 1, 1) := by decide +kernel
theorem dX1_signAt_13 : decode cX1_signAt 13 = .ok (.aload_n 0, 1) := by decide +kernel
theorem dX1_signAt_14 : decode cX1_signAt 14 = .ok (.getfield 9, 3) := by decide +kernel
theorem dX1_signAt_17 : decode cX1_signAt 17 = .ok (.arraylength, 1) := by decide +kernel
theorem dX1_signAt_18 : decode cX1_signAt 18 = .ok (.if_icmp .ge 12, 3) := by decide +kernel
theorem dX1_signAt_21 : decode cX1_signAt 21 = .ok (.aload_n 0, 1) := by decide +kernel
theorem dX1_signAt_22 : decode cX1_signAt 22 = .ok (.getfield 9, 3) := by decide +kernel
theorem dX1_signAt_25 : decode cX1_signAt 25 = .ok (.iload_n 1, 1) := by decide +kernel
theorem dX1_signAt_26 : decode cX1_signAt 26 = .ok (.iaload, 1) := by decide +kernel
theorem dX1_signAt_27 : decode cX1_signAt 27 = .ok (.goto 4, 3) := by decide +kernel
theorem dX1_signAt_30 : decode cX1_signAt 30 = .ok (.iconst 0, 1) := by decide +kernel
theorem dX1_signAt_31 : decode cX1_signAt 31 = .ok (.ireturn, 1) := by decide +kernel
theorem dX1_digitAt_0 : decode cX1_digitAt 0 = .ok (.aload_n 0, 1) := by decide +kernel
theorem dX1_digitAt_1 : decode cX1_digitAt 1 = .ok (.iload_n 1, 1) := by decide +kernel
theorem dX1_digitAt_2 : decode cX1_digitAt 2 = .ok (.invokevirtual 23, 3) := by decide +kernel
theorem dX1_digitAt_5 : decode cX1_digitAt 5 = .ok (.istore_n 2, 1) := by decide +kernel
theorem dX1_digitAt_6 : decode cX1_digitAt 6 = .ok (.iload_n 2, 1) := by decide +kernel
theorem dX1_digitAt_7 : decode cX1_digitAt 7 = .ok (.bipush 48, 2) := by decide +kernel
theorem dX1_digitAt_9 : decode cX1_digitAt 9 = .ok (.if_icmp .lt 16, 3) := by decide +kernel
theorem dX1_digitAt_12 : decode cX1_digitAt 12 = .ok (.iload_n 2, 1) := by decide +kernel
theorem dX1_digitAt_13 : decode cX1_digitAt 13 = .ok (.bipush 57, 2) := by decide +kernel
theorem dX1_digitAt_15 : decode cX1_digitAt 15 = .ok (.if_icmp .gt 10, 3) := by decide +kernel
theorem dX1_digitAt_18 : decode cX1_digitAt 18 = .ok (.iload_n 2, 1) := by decide +kernel
theorem dX1_digitAt_19 : decode cX1_digitAt 19 = .ok (.bipush 48, 2) := by decide +kernel
theorem dX1_digitAt_21 : decode cX1_digitAt 21 = .ok (.isub, 1) := by decide +kernel
theorem dX1_digitAt_22 : decode cX1_digitAt 22 = .ok (.goto 4, 3) := by decide +kernel
theorem dX1_digitAt_25 : decode cX1_digitAt 25 = .ok (.iconst 0, 1) := by decide +kernel
theorem dX1_digitAt_26 : decode cX1_digitAt 26 = .ok (.ireturn, 1) := by decide +kernel
theorem dX1_shapeOf_0 : decode cX1_shapeOf 0 = .ok (.aload_n 0, 1) := by decide +kernel
theorem dX1_shapeOf_1 : decode cX1_shapeOf 1 = .ok (.iload_n 1, 1) := by decide +kernel
theorem dX1_shapeOf_2 : decode cX1_shapeOf 2 = .ok (.invokevirtual 23, 3) := by decide +kernel
theorem dX1_shapeOf_5 : decode cX1_shapeOf 5 = .ok (.lookupswitch 111 #[(97, 65), (111, 108), (115, 62), (117, 68), (118, 88), (119, 59)], 59) := by decide +kernel
theorem dX1_shapeOf_64 : decode cX1_shapeOf 64 = .ok (.ldc 27, 2) := by decide +kernel
theorem dX1_shapeOf_66 : decode cX1_shapeOf 66 = .ok (.areturn, 1) := by decide +kernel
theorem dX1_shapeOf_67 : decode cX1_shapeOf 67 = .ok (.ldc 29, 2) := by decide +kernel
theorem dX1_shapeOf_69 : decode cX1_shapeOf 69 = .ok (.areturn, 1) := by decide +kernel
theorem dX1_shapeOf_70 : decode cX1_shapeOf 70 = .ok (.ldc 29, 2) := by decide +kernel
theorem dX1_shapeOf_72 : decode cX1_shapeOf 72 = .ok (.areturn, 1) := by decide +kernel
theorem dX1_shapeOf_73 : decode cX1_shapeOf 73 = .ok (.aload_n 0, 1) := by decide +kernel
theorem dX1_shapeOf_74 : decode cX1_shapeOf 74 = .ok (.iload_n 1, 1) := by decide +kernel
theorem dX1_shapeOf_75 : decode cX1_shapeOf 75 = .ok (.iconst 5, 1) := by decide +kernel
theorem dX1_shapeOf_76 : decode cX1_shapeOf 76 = .ok (.iadd, 1) := by decide +kernel
theorem dX1_shapeOf_77 : decode cX1_shapeOf 77 = .ok (.invokevirtual 23, 3) := by decide +kernel
theorem dX1_shapeOf_80 : decode cX1_shapeOf 80 = .ok (.bipush 45, 2) := by decide +kernel
theorem dX1_shapeOf_82 : decode cX1_shapeOf 82 = .ok (.if_icmp .ne 8, 3) := by decide +kernel
theorem dX1_shapeOf_85 : decode cX1_shapeOf 85 = .ok (.ldc 31, 2) := by decide +kernel
theorem dX1_shapeOf_87 : decode cX1_shapeOf 87 = .ok (.goto 5, 3) := by decide +kernel
theorem dX1_shapeOf_90 : decode cX1_shapeOf 90 = .ok (.ldc 33, 2) := by decide +kernel
theorem dX1_shapeOf_92 : decode cX1_shapeOf 92 = .ok (.areturn, 1) := by decide +kernel
theorem dX1_shapeOf_93 : decode cX1_shapeOf 93 = .ok (.aload_n 0, 1) := by decide +kernel
theorem dX1_shapeOf_94 : decode cX1_shapeOf 94 = .ok (.iload_n 1, 1) := by decide +kernel
theorem dX1_shapeOf_95 : decode cX1_shapeOf 95 = .ok (.iconst 5, 1) := by decide +kernel
theorem dX1_shapeOf_96 : decode cX1_shapeOf 96 = .ok (.iadd, 1) := by decide +kernel
theorem dX1_shapeOf_97 : decode cX1_shapeOf 97 = .ok (.invokevirtual 23, 3) := by decide +kernel
theorem dX1_shapeOf_100 : decode cX1_shapeOf 100 = .ok (.bipush 45, 2) := by decide +kernel
theorem dX1_shapeOf_102 : decode cX1_shapeOf 102 = .ok (.if_icmp .ne 8, 3) := by decide +kernel
theorem dX1_shapeOf_105 : decode cX1_shapeOf 105 = .ok (.ldc 31, 2) := by decide +kernel
theorem dX1_shapeOf_107 : decode cX1_shapeOf 107 = .ok (.goto 5, 3) := by decide +kernel
theorem dX1_shapeOf_110 : decode cX1_shapeOf 110 = .ok (.ldc 33, 2) := by decide +kernel
theorem dX1_shapeOf_112 : decode cX1_shapeOf 112 = .ok (.areturn, 1) := by decide +kernel
theorem dX1_shapeOf_113 : decode cX1_shapeOf 113 = .ok (.ldc 35, 2) := by decide +kernel
theorem dX1_shapeOf_115 : decode cX1_shapeOf 115 = .ok (.areturn, 1) := by decide +kernel
theorem dX1_shapeOf_116 : decode cX1_shapeOf 116 = .ok (.ldc 37, 2) := by decide +kernel
theorem dX1_shapeOf_118 : decode cX1_shapeOf 118 = .ok (.areturn, 1) := by decide +kernel
theorem dX1_fits_0 : decode cX1_fits 0 = .ok (.iload_n 1, 1) := by decide +kernel
theorem dX1_fits_1 : decode cX1_fits 1 = .ok (.lookupswitch 63 #[(48, 27), (57, 45)], 27) := by decide +kernel
theorem dX1_fits_28 : decode cX1_fits 28 = .ok (.iload_n 0, 1) := by decide +kernel
theorem dX1_fits_29 : decode cX1_fits 29 = .ok (.bipush 48, 2) := by decide +kernel
theorem dX1_fits_31 : decode cX1_fits 31 = .ok (.if_icmp .lt 13, 3) := by decide +kernel
theorem dX1_fits_34 : decode cX1_fits 34 = .ok (.iload_n 0, 1) := by decide +kernel
theorem dX1_fits_35 : decode cX1_fits 35 = .ok (.bipush 50, 2) := by decide +kernel
theorem dX1_fits_37 : decode cX1_fits 37 = .ok (.if_icmp .gt 7, 3) := by decide +kernel
theorem dX1_fits_40 : decode cX1_fits 40 = .ok (.iconst 1, 1) := by decide +kernel
theorem dX1_fits_41 : decode cX1_fits 41 = .ok (.goto 4, 3) := by decide +kernel
theorem dX1_fits_44 : decode cX1_fits 44 = .ok (.iconst 0, 1) := by decide +kernel
theorem dX1_fits_45 : decode cX1_fits 45 = .ok (.ireturn, 1) := by decide +kernel
theorem dX1_fits_46 : decode cX1_fits 46 = .ok (.iload_n 0, 1) := by decide +kernel
theorem dX1_fits_47 : decode cX1_fits 47 = .ok (.bipush 48, 2) := by decide +kernel
theorem dX1_fits_49 : decode cX1_fits 49 = .ok (.if_icmp .lt 13, 3) := by decide +kernel
theorem dX1_fits_52 : decode cX1_fits 52 = .ok (.iload_n 0, 1) := by decide +kernel
theorem dX1_fits_53 : decode cX1_fits 53 = .ok (.bipush 57, 2) := by decide +kernel
theorem dX1_fits_55 : decode cX1_fits 55 = .ok (.if_icmp .gt 7, 3) := by decide +kernel
theorem dX1_fits_58 : decode cX1_fits 58 = .ok (.iconst 1, 1) := by decide +kernel
theorem dX1_fits_59 : decode cX1_fits 59 = .ok (.goto 4, 3) := by decide +kernel
theorem dX1_fits_62 : decode cX1_fits 62 = .ok (.iconst 0, 1) := by decide +kernel
theorem dX1_fits_63 : decode cX1_fits 63 = .ok (.ireturn, 1) := by decide +kernel
theorem dX1_fits_64 : decode cX1_fits 64 = .ok (.iload_n 0, 1) := by decide +kernel
theorem dX1_fits_65 : decode cX1_fits 65 = .ok (.iload_n 1, 1) := by decide +kernel
theorem dX1_fits_66 : decode cX1_fits 66 = .ok (.if_icmp .ne 7, 3) := by decide +kernel
theorem dX1_fits_69 : decode cX1_fits 69 = .ok (.iconst 1, 1) := by decide +kernel
theorem dX1_fits_70 : decode cX1_fits 70 = .ok (.goto 4, 3) := by decide +kernel
theorem dX1_fits_73 : decode cX1_fits 73 = .ok (.iconst 0, 1) := by decide +kernel
theorem dX1_fits_74 : decode cX1_fits 74 = .ok (.ireturn, 1) := by decide +kernel
theorem dX1_endOfOrder_0 : decode cX1_endOfOrder 0 = .ok (.iload_n 1, 1) := by decide +kernel
theorem dX1_endOfOrder_1 : decode cX1_endOfOrder 1 = .ok (.iconst 1, 1) := by decide +kernel
theorem dX1_endOfOrder_2 : decode cX1_endOfOrder 2 = .ok (.iadd, 1) := by decide +kernel
theorem dX1_endOfOrder_3 : decode cX1_endOfOrder 3 = .ok (.aload_n 0, 1) := by decide +kernel
theorem dX1_endOfOrder_4 : decode cX1_endOfOrder 4 = .ok (.iload_n 1, 1) := by decide +kernel
theorem dX1_endOfOrder_5 : decode cX1_endOfOrder 5 = .ok (.invokevirtual 39, 3) := by decide +kernel
theorem dX1_endOfOrder_8 : decode cX1_endOfOrder 8 = .ok (.invokevirtual 43, 3) := by decide +kernel
theorem dX1_endOfOrder_11 : decode cX1_endOfOrder 11 = .ok (.iadd, 1) := by decide +kernel
theorem dX1_endOfOrder_12 : decode cX1_endOfOrder 12 = .ok (.ireturn, 1) := by decide +kernel
theorem dX1_lastNumberOf_0 : decode cX1_lastNumberOf 0 = .ok (.aload_n 0, 1) := by decide +kernel
theorem dX1_lastNumberOf_1 : decode cX1_lastNumberOf 1 = .ok (.iload_n 1, 1) := by decide +kernel
theorem dX1_lastNumberOf_2 : decode cX1_lastNumberOf 2 = .ok (.invokevirtual 48, 3) := by decide +kernel
theorem dX1_lastNumberOf_5 : decode cX1_lastNumberOf 5 = .ok (.istore_n 2, 1) := by decide +kernel
theorem dX1_lastNumberOf_6 : decode cX1_lastNumberOf 6 = .ok (.aload_n 0, 1) := by decide +kernel
theorem dX1_lastNumberOf_7 : decode cX1_lastNumberOf 7 = .ok (.iload_n 2, 1) := by decide +kernel
theorem dX1_lastNumberOf_8 : decode cX1_lastNumberOf 8 = .ok (.iconst 1, 1) := by decide +kernel
theorem dX1_lastNumberOf_9 : decode cX1_lastNumberOf 9 = .ok (.isub, 1) := by decide +kernel
theorem dX1_lastNumberOf_10 : decode cX1_lastNumberOf 10 = .ok (.invokevirtual 51, 3) := by decide +kernel
theorem dX1_lastNumberOf_13 : decode cX1_lastNumberOf 13 = .ok (.istore_n 3, 1) := by decide +kernel
theorem dX1_lastNumberOf_14 : decode cX1_lastNumberOf 14 = .ok (.aload_n 0, 1) := by decide +kernel
theorem dX1_lastNumberOf_15 : decode cX1_lastNumberOf 15 = .ok (.iload_n 2, 1) := by decide +kernel
theorem dX1_lastNumberOf_16 : decode cX1_lastNumberOf 16 = .ok (.iconst 2, 1) := by decide +kernel
theorem dX1_lastNumberOf_17 : decode cX1_lastNumberOf 17 = .ok (.isub, 1) := by decide +kernel
theorem dX1_lastNumberOf_18 : decode cX1_lastNumberOf 18 = .ok (.invokevirtual 23, 3) := by decide +kernel
theorem dX1_lastNumberOf_21 : decode cX1_lastNumberOf 21 = .ok (.bipush 45, 2) := by decide +kernel
theorem dX1_lastNumberOf_23 : decode cX1_lastNumberOf 23 = .ok (.if_icmp .ne 8, 3) := by decide +kernel
theorem dX1_lastNumberOf_26 : decode cX1_lastNumberOf 26 = .ok (.iload_n 3, 1) := by decide +kernel
theorem dX1_lastNumberOf_27 : decode cX1_lastNumberOf 27 = .ok (.ineg, 1) := by decide +kernel
theorem dX1_lastNumberOf_28 : decode cX1_lastNumberOf 28 = .ok (.goto 4, 3) := by decide +kernel
theorem dX1_lastNumberOf_31 : decode cX1_lastNumberOf 31 = .ok (.iload_n 3, 1) := by decide +kernel
theorem dX1_lastNumberOf_32 : decode cX1_lastNumberOf 32 = .ok (.ireturn, 1) := by decide +kernel
theorem dX1_faultOfOrder_0 : decode cX1_faultOfOrder 0 = .ok (.aload_n 0, 1) := by decide +kernel
theorem dX1_faultOfOrder_1 : decode cX1_faultOfOrder 1 = .ok (.iload_n 1, 1) := by decide +kernel
theorem dX1_faultOfOrder_2 : decode cX1_faultOfOrder 2 = .ok (.invokevirtual 39, 3) := by decide +kernel
theorem dX1_faultOfOrder_5 : decode cX1_faultOfOrder 5 = .ok (.astore_n 2, 1) := by decide +kernel
theorem dX1_faultOfOrder_6 : decode cX1_faultOfOrder 6 = .ok (.aload_n 2, 1) := by decide +kernel
theorem dX1_faultOfOrder_7 : decode cX1_faultOfOrder 7 = .ok (.invokevirtual 54, 3) := by decide +kernel
theorem dX1_faultOfOrder_10 : decode cX1_faultOfOrder 10 = .ok (.ifCond .eq 5, 3) := by decide +kernel
theorem dX1_faultOfOrder_13 : decode cX1_faultOfOrder 13 = .ok (.iload_n 1, 1) := by decide +kernel
theorem dX1_faultOfOrder_14 : decode cX1_faultOfOrder 14 = .ok (.ireturn, 1) := by decide +kernel
theorem dX1_faultOfOrder_15 : decode cX1_faultOfOrder 15 = .ok (.iconst 0, 1) := by decide +kernel
theorem dX1_faultOfOrder_16 : decode cX1_faultOfOrder 16 = .ok (.istore_n 3, 1) := by decide +kernel
theorem dX1_faultOfOrder_17 : decode cX1_faultOfOrder 17 = .ok (.iload_n 3, 1) := by decide +kernel
theorem dX1_faultOfOrder_18 : decode cX1_faultOfOrder 18 = .ok (.aload_n 2, 1) := by decide +kernel
theorem dX1_faultOfOrder_19 : decode cX1_faultOfOrder 19 = .ok (.invokevirtual 43, 3) := by decide +kernel
theorem dX1_faultOfOrder_22 : decode cX1_faultOfOrder 22 = .ok (.if_icmp .ge 35, 3) := by decide +kernel
theorem dX1_faultOfOrder_25 : decode cX1_faultOfOrder 25 = .ok (.aload_n 0, 1) := by decide +kernel
theorem dX1_faultOfOrder_26 : decode cX1_faultOfOrder 26 = .ok (.iload_n 1, 1) := by decide +kernel
theorem dX1_faultOfOrder_27 : decode cX1_faultOfOrder 27 = .ok (.iconst 1, 1) := by decide +kernel
theorem dX1_faultOfOrder_28 : decode cX1_faultOfOrder 28 = .ok (.iadd, 1) := by decide +kernel
theorem dX1_faultOfOrder_29 : decode cX1_faultOfOrder 29 = .ok (.iload_n 3, 1) := by decide +kernel
theorem dX1_faultOfOrder_30 : decode cX1_faultOfOrder 30 = .ok (.iadd, 1) := by decide +kernel
theorem dX1_faultOfOrder_31 : decode cX1_faultOfOrder 31 = .ok (.invokevirtual 23, 3) := by decide +kernel
theorem dX1_faultOfOrder_34 : decode cX1_faultOfOrder 34 = .ok (.aload_n 2, 1) := by decide +kernel
theorem dX1_faultOfOrder_35 : decode cX1_faultOfOrder 35 = .ok (.iload_n 3, 1) := by decide +kernel
theorem dX1_faultOfOrder_36 : decode cX1_faultOfOrder 36 = .ok (.invokevirtual 58, 3) := by decide +kernel
theorem dX1_faultOfOrder_39 : decode cX1_faultOfOrder 39 = .ok (.invokestatic 62, 3) := by decide +kernel
theorem dX1_faultOfOrder_42 : decode cX1_faultOfOrder 42 = .ok (.ifCond .ne 9, 3) := by decide +kernel
theorem dX1_faultOfOrder_45 : decode cX1_faultOfOrder 45 = .ok (.iload_n 1, 1) := by decide +kernel
theorem dX1_faultOfOrder_46 : decode cX1_faultOfOrder 46 = .ok (.iconst 1, 1) := by decide +kernel
theorem dX1_faultOfOrder_47 : decode cX1_faultOfOrder 47 = .ok (.iadd, 1) := by decide +kernel
theorem dX1_faultOfOrder_48 : decode cX1_faultOfOrder 48 = .ok (.iload_n 3, 1) := by decide +kernel
theorem dX1_faultOfOrder_49 : decode cX1_faultOfOrder 49 = .ok (.iadd, 1) := by decide +kernel
theorem dX1_faultOfOrder_50 : decode cX1_faultOfOrder 50 = .ok (.ireturn, 1) := by decide +kernel
theorem dX1_faultOfOrder_51 : decode cX1_faultOfOrder 51 = .ok (.iinc 3 1, 3) := by decide +kernel
theorem dX1_faultOfOrder_54 : decode cX1_faultOfOrder 54 = .ok (.goto (-37), 3) := by decide +kernel
theorem dX1_faultOfOrder_57 : decode cX1_faultOfOrder 57 = .ok (.bipush (-6), 2) := by decide +kernel
theorem dX1_faultOfOrder_59 : decode cX1_faultOfOrder 59 = .ok (.ireturn, 1) := by decide +kernel
theorem dX1_faultPlace_0 : decode cX1_faultPlace 0 = .ok (.iconst 0, 1) := by decide +kernel
theorem dX1_faultPlace_1 : decode cX1_faultPlace 1 = .ok (.istore_n 1, 1) := by decide +kernel
theorem dX1_faultPlace_2 : decode cX1_faultPlace 2 = .ok (.iconst 0, 1) := by decide +kernel
theorem dX1_faultPlace_3 : decode cX1_faultPlace 3 = .ok (.istore_n 2, 1) := by decide +kernel
theorem dX1_faultPlace_4 : decode cX1_faultPlace 4 = .ok (.iload_n 2, 1) := by decide +kernel
theorem dX1_faultPlace_5 : decode cX1_faultPlace 5 = .ok (.bipush 80, 2) := by decide +kernel
theorem dX1_faultPlace_7 : decode cX1_faultPlace 7 = .ok (.if_icmp .ge 61, 3) := by decide +kernel
theorem dX1_faultPlace_10 : decode cX1_faultPlace 10 = .ok (.aload_n 0, 1) := by decide +kernel
theorem dX1_faultPlace_11 : decode cX1_faultPlace 11 = .ok (.iload_n 1, 1) := by decide +kernel
theorem dX1_faultPlace_12 : decode cX1_faultPlace 12 = .ok (.invokevirtual 66, 3) := by decide +kernel
theorem dX1_faultPlace_15 : decode cX1_faultPlace 15 = .ok (.istore_n 3, 1) := by decide +kernel
theorem dX1_faultPlace_16 : decode cX1_faultPlace 16 = .ok (.aload_n 0, 1) := by decide +kernel
theorem dX1_faultPlace_17 : decode cX1_faultPlace 17 = .ok (.iload_n 1, 1) := by decide +kernel
theorem dX1_faultPlace_18 : decode cX1_faultPlace 18 = .ok (.invokevirtual 48, 3) := by decide +kernel
theorem dX1_faultPlace_21 : decode cX1_faultPlace 21 = .ok (.istore 4, 2) := by decide +kernel
theorem dX1_faultPlace_23 : decode cX1_faultPlace 23 = .ok (.iload_n 3, 1) := by decide +kernel
theorem dX1_faultPlace_24 : decode cX1_faultPlace 24 = .ok (.bipush (-6), 2) := by decide +kernel
theorem dX1_faultPlace_26 : decode cX1_faultPlace 26 = .ok (.if_icmp .eq 5, 3) := by decide +kernel
theorem dX1_faultPlace_29 : decode cX1_faultPlace 29 = .ok (.iload_n 3, 1) := by decide +kernel
theorem dX1_faultPlace_30 : decode cX1_faultPlace 30 = .ok (.ireturn, 1) := by decide +kernel
theorem dX1_faultPlace_31 : decode cX1_faultPlace 31 = .ok (.aload_n 0, 1) := by decide +kernel
theorem dX1_faultPlace_32 : decode cX1_faultPlace 32 = .ok (.iload 4, 2) := by decide +kernel
theorem dX1_faultPlace_34 : decode cX1_faultPlace 34 = .ok (.invokevirtual 23, 3) := by decide +kernel
theorem dX1_faultPlace_37 : decode cX1_faultPlace 37 = .ok (.ifCond .ne 6, 3) := by decide +kernel
theorem dX1_faultPlace_40 : decode cX1_faultPlace 40 = .ok (.bipush (-6), 2) := by decide +kernel
theorem dX1_faultPlace_42 : decode cX1_faultPlace 42 = .ok (.ireturn, 1) := by decide +kernel
theorem dX1_faultPlace_43 : decode cX1_faultPlace 43 = .ok (.aload_n 0, 1) := by decide +kernel
theorem dX1_faultPlace_44 : decode cX1_faultPlace 44 = .ok (.iload 4, 2) := by decide +kernel
theorem dX1_faultPlace_46 : decode cX1_faultPlace 46 = .ok (.invokevirtual 23, 3) := by decide +kernel
theorem dX1_faultPlace_49 : decode cX1_faultPlace 49 = .ok (.bipush 59, 2) := by decide +kernel
theorem dX1_faultPlace_51 : decode cX1_faultPlace 51 = .ok (.if_icmp .eq 6, 3) := by decide +kernel
theorem dX1_faultPlace_54 : decode cX1_faultPlace 54 = .ok (.iload 4, 2) := by decide +kernel
theorem dX1_faultPlace_56 : decode cX1_faultPlace 56 = .ok (.ireturn, 1) := by decide +kernel
theorem dX1_faultPlace_57 : decode cX1_faultPlace 57 = .ok (.iload 4, 2) := by decide +kernel
theorem dX1_faultPlace_59 : decode cX1_faultPlace 59 = .ok (.iconst 1, 1) := by decide +kernel
theorem dX1_faultPlace_60 : decode cX1_faultPlace 60 = .ok (.iadd, 1) := by decide +kernel
theorem dX1_faultPlace_61 : decode cX1_faultPlace 61 = .ok (.istore_n 1, 1) := by decide +kernel
theorem dX1_faultPlace_62 : decode cX1_faultPlace 62 = .ok (.iinc 2 1, 3) := by decide +kernel
theorem dX1_faultPlace_65 : decode cX1_faultPlace 65 = .ok (.goto (-61), 3) := by decide +kernel
theorem dX1_faultPlace_68 : decode cX1_faultPlace 68 = .ok (.aload_n 0, 1) := by decide +kernel
theorem dX1_faultPlace_69 : decode cX1_faultPlace 69 = .ok (.getfield 15, 3) := by decide +kernel
theorem dX1_faultPlace_72 : decode cX1_faultPlace 72 = .ok (.ireturn, 1) := by decide +kernel
theorem dX2_init_0 : decode cX2_init 0 = .ok (.aload_n 0, 1) := by decide +kernel
theorem dX2_init_1 : decode cX2_init 1 = .ok (.invokespecial 3, 3) := by decide +kernel
theorem dX2_init_4 : decode cX2_init 4 = .ok (.aload_n 0, 1) := by decide +kernel
theorem dX2_init_5 : decode cX2_init 5 = .ok (.new 9, 3) := by decide +kernel
theorem dX2_init_8 : decode cX2_init 8 = .ok (.dup, 1) := by decide +kernel
theorem dX2_init_9 : decode cX2_init 9 = .ok (.invokespecial 11, 3) := by decide +kernel
theorem dX2_init_12 : decode cX2_init 12 = .ok (.putfield 12, 3) := by decide +kernel
theorem dX2_init_15 : decode cX2_init 15 = .ok (.aload_n 0, 1) := by decide +kernel
theorem dX2_init_16 : decode cX2_init 16 = .ok (.sipush 729, 3) := by decide +kernel
theorem dX2_init_19 : decode cX2_init 19 = .ok (.newarray .int, 2) := by decide +kernel
theorem dX2_init_21 : decode cX2_init 21 = .ok (.putfield 18, 3) := by decide +kernel
theorem dX2_init_24 : decode cX2_init 24 = .ok (.aload_n 0, 1) := by decide +kernel
theorem dX2_init_25 : decode cX2_init 25 = .ok (.iconst 5, 1) := by decide +kernel
theorem dX2_init_26 : decode cX2_init 26 = .ok (.newarray .int, 2) := by decide +kernel
theorem dX2_init_28 : decode cX2_init 28 = .ok (.putfield 22, 3) := by decide +kernel
theorem dX2_init_31 : decode cX2_init 31 = .ok (.aload_n 0, 1) := by decide +kernel
theorem dX2_init_32 : decode cX2_init 32 = .ok (.iconst 0, 1) := by decide +kernel
theorem dX2_init_33 : decode cX2_init 33 = .ok (.putfield 25, 3) := by decide +kernel
theorem dX2_init_36 : decode cX2_init 36 = .ok (.return_, 1) := by decide +kernel
theorem dX2_numberOf_0 : decode cX2_numberOf 0 = .ok (.aload_n 0, 1) := by decide +kernel
theorem dX2_numberOf_1 : decode cX2_numberOf 1 = .ok (.aload_n 1, 1) := by decide +kernel
theorem dX2_numberOf_2 : decode cX2_numberOf 2 = .ok (.invokevirtual 29, 3) := by decide +kernel
theorem dX2_numberOf_5 : decode cX2_numberOf 5 = .ok (.iload_n 2, 1) := by decide +kernel
theorem dX2_numberOf_6 : decode cX2_numberOf 6 = .ok (.iconst 5, 1) := by decide +kernel
theorem dX2_numberOf_7 : decode cX2_numberOf 7 = .ok (.invokestatic 33, 3) := by decide +kernel
theorem dX2_numberOf_10 : decode cX2_numberOf 10 = .ok (.ifCond .ne 5, 3) := by decide +kernel
theorem dX2_numberOf_13 : decode cX2_numberOf 13 = .ok (.iconst 0, 1) := by decide +kernel
theorem dX2_numberOf_14 : decode cX2_numberOf 14 = .ok (.ireturn, 1) := by decide +kernel
theorem dX2_numberOf_15 : decode cX2_numberOf 15 = .ok (.aload_n 0, 1) := by decide +kernel
theorem dX2_numberOf_16 : decode cX2_numberOf 16 = .ok (.getfield 22, 3) := by decide +kernel
theorem dX2_numberOf_19 : decode cX2_numberOf 19 = .ok (.iload_n 2, 1) := by decide +kernel
theorem dX2_numberOf_20 : decode cX2_numberOf 20 = .ok (.iaload, 1) := by decide +kernel
theorem dX2_numberOf_21 : decode cX2_numberOf 21 = .ok (.iconst (-1), 1) := by decide +kernel
theorem dX2_numberOf_22 : decode cX2_numberOf 22 = .ok (.if_icmp .eq 10, 3) := by decide +kernel
theorem dX2_numberOf_25 : decode cX2_numberOf 25 = .ok (.aload_n 0, 1) := by decide +kernel
theorem dX2_numberOf_26 : decode cX2_numberOf 26 = .ok (.getfield 22, 3) := by decide +kernel
theorem dX2_numberOf_29 : decode cX2_numberOf 29 = .ok (.iload_n 2, 1) := by decide +kernel
theorem dX2_numberOf_30 : decode cX2_numberOf 30 = .ok (.iaload, 1) := by decide +kernel
theorem dX2_numberOf_31 : decode cX2_numberOf 31 = .ok (.ireturn, 1) := by decide +kernel
theorem dX2_numberOf_32 : decode cX2_numberOf 32 = .ok (.iconst 0, 1) := by decide +kernel
theorem dX2_numberOf_33 : decode cX2_numberOf 33 = .ok (.istore_n 3, 1) := by decide +kernel
theorem dX2_numberOf_34 : decode cX2_numberOf 34 = .ok (.iconst 0, 1) := by decide +kernel
theorem dX2_numberOf_35 : decode cX2_numberOf 35 = .ok (.istore 4, 2) := by decide +kernel
theorem dX2_numberOf_37 : decode cX2_numberOf 37 = .ok (.iload 4, 2) := by decide +kernel
theorem dX2_numberOf_39 : decode cX2_numberOf 39 = .ok (.aload_n 0, 1) := by decide +kernel
theorem dX2_numberOf_40 : decode cX2_numberOf 40 = .ok (.getfield 22, 3) := by decide +kernel
theorem dX2_numberOf_43 : decode cX2_numberOf 43 = .ok (.iconst 0, 1) := by decide +kernel
theorem dX2_numberOf_44 : decode cX2_numberOf 44 = .ok (.iaload, 1) := by decide +kernel
theorem dX2_numberOf_45 : decode cX2_numberOf 45 = .ok (.if_icmp .ge 65, 3) := by decide +kernel
theorem dX2_numberOf_48 : decode cX2_numberOf 48 = .ok (.aload_n 0, 1) := by decide +kernel
theorem dX2_numberOf_49 : decode cX2_numberOf 49 = .ok (.getfield 12, 3) := by decide +kernel
theorem dX2_numberOf_52 : decode cX2_numberOf 52 = .ok (.aload_n 0, 1) := by decide +kernel
theorem dX2_numberOf_53 : decode cX2_numberOf 53 = .ok (.iload 4, 2) := by decide +kernel
theorem dX2_numberOf_55 : decode cX2_numberOf 55 = .ok (.invokevirtual 37, 3) := by decide +kernel
theorem dX2_numberOf_58 : decode cX2_numberOf 58 = .ok (.invokevirtual 41, 3) := by decide +kernel
theorem dX2_numberOf_61 : decode cX2_numberOf 61 = .ok (.iload_n 2, 1) := by decide +kernel
theorem dX2_numberOf_62 : decode cX2_numberOf 62 = .ok (.iconst 1, 1) := by decide +kernel
theorem dX2_numberOf_63 : decode cX2_numberOf 63 = .ok (.if_icmp .ne 13, 3) := by decide +kernel
theorem dX2_numberOf_66 : decode cX2_numberOf 66 = .ok (.aload_n 0, 1) := by decide +kernel
theorem dX2_numberOf_67 : decode cX2_numberOf 67 = .ok (.getfield 12, 3) := by decide +kernel
theorem dX2_numberOf_70 : decode cX2_numberOf 70 = .ok (.invokevirtual 45, 3) := by decide +kernel
theorem dX2_numberOf_73 : decode cX2_numberOf 73 = .ok (.goto 21, 3) := by decide +kernel
theorem dX2_numberOf_76 : decode cX2_numberOf 76 = .ok (.aload_n 0, 1) := by decide +kernel
theorem dX2_numberOf_77 : decode cX2_numberOf 77 = .ok (.getfield 12, 3) := by decide +kernel
theorem dX2_numberOf_80 : decode cX2_numberOf 80 = .ok (.invokevirtual 49, 3) := by decide +kernel
theorem dX2_numberOf_83 : decode cX2_numberOf 83 = .ok (.iload_n 2, 1) := by decide +kernel
theorem dX2_numberOf_84 : decode cX2_numberOf 84 = .ok (.iconst 2, 1) := by decide +kernel
theorem dX2_numberOf_85 : decode cX2_numberOf 85 = .ok (.isub, 1) := by decide +kernel
theorem dX2_numberOf_86 : decode cX2_numberOf 86 = .ok (.if_icmp .ne 7, 3) := by decide +kernel
theorem dX2_numberOf_89 : decode cX2_numberOf 89 = .ok (.iconst 1, 1) := by decide +kernel
theorem dX2_numberOf_90 : decode cX2_numberOf 90 = .ok (.goto 4, 3) := by decide +kernel
theorem dX2_numberOf_93 : decode cX2_numberOf 93 = .ok (.iconst 0, 1) := by decide +kernel
theorem dX2_numberOf_94 : decode cX2_numberOf 94 = .ok (.istore 5, 2) := by decide +kernel
theorem dX2_numberOf_96 : decode cX2_numberOf 96 = .ok (.iload 5, 2) := by decide +kernel
theorem dX2_numberOf_98 : decode cX2_numberOf 98 = .ok (.ifCond .eq 6, 3) := by decide +kernel
theorem dX2_numberOf_101 : decode cX2_numberOf 101 = .ok (.iinc 3 1, 3) := by decide +kernel
theorem dX2_numberOf_104 : decode cX2_numberOf 104 = .ok (.iinc 4 1, 3) := by decide +kernel
theorem dX2_numberOf_107 : decode cX2_numberOf 107 = .ok (.goto (-70), 3) := by decide +kernel
theorem dX2_numberOf_110 : decode cX2_numberOf 110 = .ok (.aload_n 0, 1) := by decide +kernel
theorem dX2_numberOf_111 : decode cX2_numberOf 111 = .ok (.getfield 22, 3) := by decide +kernel
theorem dX2_numberOf_114 : decode cX2_numberOf 114 = .ok (.iload_n 2, 1) := by decide +kernel
theorem dX2_numberOf_115 : decode cX2_numberOf 115 = .ok (.iload_n 3, 1) := by decide +kernel
theorem dX2_numberOf_116 : decode cX2_numberOf 116 = .ok (.iastore, 1) := by decide +kernel
theorem dX2_numberOf_117 : decode cX2_numberOf 117 = .ok (.iload_n 3, 1) := by decide +kernel
theorem dX2_numberOf_118 : decode cX2_numberOf 118 = .ok (.ireturn, 1) := by decide +kernel
theorem dX2_codeAt_0 : decode cX2_codeAt 0 = .ok (.iload_n 1, 1) := by decide +kernel
theorem dX2_codeAt_1 : decode cX2_codeAt 1 = .ok (.aload_n 0, 1) := by decide +kernel
theorem dX2_codeAt_2 : decode cX2_codeAt 2 = .ok (.getfield 18, 3) := by decide +kernel
theorem dX2_codeAt_5 : decode cX2_codeAt 5 = .ok (.arraylength, 1) := by decide +kernel
theorem dX2_codeAt_6 : decode cX2_codeAt 6 = .ok (.invokestatic 33, 3) := by decide +kernel
theorem dX2_codeAt_9 : decode cX2_codeAt 9 = .ok (.ifCond .eq 12, 3) := by decide +kernel
theorem dX2_codeAt_12 : decode cX2_codeAt 12 = .ok (.aload_n 0, 1) := by decide +kernel
theorem dX2_codeAt_13 : decode cX2_codeAt 13 = .ok (.getfield 18, 3) := by decide +kernel
theorem dX2_codeAt_16 : decode cX2_codeAt 16 = .ok (.iload_n 1, 1) := by decide +kernel
theorem dX2_codeAt_17 : decode cX2_codeAt 17 = .ok (.iaload, 1) := by decide +kernel
theorem dX2_codeAt_18 : decode cX2_codeAt 18 = .ok (.goto 4, 3) := by decide +kernel
theorem dX2_codeAt_21 : decode cX2_codeAt 21 = .ok (.iconst 0, 1) := by decide +kernel
theorem dX2_codeAt_22 : decode cX2_codeAt 22 = .ok (.ireturn, 1) := by decide +kernel
theorem dX2_receiverSumAt_0 : decode cX2_receiverSumAt 0 = .ok (.aload_n 0, 1) := by decide +kernel
theorem dX2_receiverSumAt_1 : decode cX2_receiverSumAt 1 = .ok (.getfield 12, 3) := by decide +kernel
theorem dX2_receiverSumAt_4 : decode cX2_receiverSumAt 4 = .ok (.aload_n 0, 1) := by decide +kernel
theorem dX2_receiverSumAt_5 : decode cX2_receiverSumAt 5 = .ok (.iload_n 1, 1) := by decide +kernel
theorem dX2_receiverSumAt_6 : decode cX2_receiverSumAt 6 = .ok (.invokevirtual 37, 3) := by decide +kernel
theorem dX2_receiverSumAt_9 : decode cX2_receiverSumAt 9 = .ok (.invokevirtual 41, 3) := by decide +kernel
theorem dX2_receiverSumAt_12 : decode cX2_receiverSumAt 12 = .ok (.aload_n 0, 1) := by decide +kernel
theorem dX2_receiverSumAt_13 : decode cX2_receiverSumAt 13 = .ok (.getfield 12, 3) := by decide +kernel
theorem dX2_receiverSumAt_16 : decode cX2_receiverSumAt 16 = .ok (.invokevirtual 53, 3) := by decide +kernel
theorem dX2_receiverSumAt_19 : decode cX2_receiverSumAt 19 = .ok (.ireturn, 1) := by decide +kernel
theorem dX2_bestPlace_0 : decode cX2_bestPlace 0 = .ok (.aload_n 0, 1) := by decide +kernel
theorem dX2_bestPlace_1 : decode cX2_bestPlace 1 = .ok (.aload_n 1, 1) := by decide +kernel
theorem dX2_bestPlace_2 : decode cX2_bestPlace 2 = .ok (.invokevirtual 29, 3) := by decide +kernel
theorem dX2_bestPlace_5 : decode cX2_bestPlace 5 = .ok (.bipush (-6), 2) := by decide +kernel
theorem dX2_bestPlace_7 : decode cX2_bestPlace 7 = .ok (.istore_n 2, 1) := by decide +kernel
theorem dX2_bestPlace_8 : decode cX2_bestPlace 8 = .ok (.iconst 0, 1) := by decide +kernel
theorem dX2_bestPlace_9 : decode cX2_bestPlace 9 = .ok (.istore_n 3, 1) := by decide +kernel
theorem dX2_bestPlace_10 : decode cX2_bestPlace 10 = .ok (.iconst 0, 1) := by decide +kernel
theorem dX2_bestPlace_11 : decode cX2_bestPlace 11 = .ok (.istore 4, 2) := by decide +kernel
theorem dX2_bestPlace_13 : decode cX2_bestPlace 13 = .ok (.iload 4, 2) := by decide +kernel
theorem dX2_bestPlace_15 : decode cX2_bestPlace 15 = .ok (.aload_n 0, 1) := by decide +kernel
theorem dX2_bestPlace_16 : decode cX2_bestPlace 16 = .ok (.getfield 22, 3) := by decide +kernel
theorem dX2_bestPlace_19 : decode cX2_bestPlace 19 = .ok (.iconst 0, 1) := by decide +kernel
theorem dX2_bestPlace_20 : decode cX2_bestPlace 20 = .ok (.iaload, 1) := by decide +kernel
theorem dX2_bestPlace_21 : decode cX2_bestPlace 21 = .ok (.if_icmp .ge 35, 3) := by decide +kernel
theorem dX2_bestPlace_24 : decode cX2_bestPlace 24 = .ok (.aload_n 0, 1) := by decide +kernel
theorem dX2_bestPlace_25 : decode cX2_bestPlace 25 = .ok (.iload 4, 2) := by decide +kernel
theorem dX2_bestPlace_27 : decode cX2_bestPlace 27 = .ok (.invokevirtual 56, 3) := by decide +kernel
theorem dX2_bestPlace_30 : decode cX2_bestPlace 30 = .ok (.istore 5, 2) := by decide +kernel
theorem dX2_bestPlace_32 : decode cX2_bestPlace 32 = .ok (.iload_n 2, 1) := by decide +kernel
theorem dX2_bestPlace_33 : decode cX2_bestPlace 33 = .ok (.bipush (-6), 2) := by decide +kernel
theorem dX2_bestPlace_35 : decode cX2_bestPlace 35 = .ok (.if_icmp .eq 9, 3) := by decide +kernel
theorem dX2_bestPlace_38 : decode cX2_bestPlace 38 = .ok (.iload 5, 2) := by decide +kernel
theorem dX2_bestPlace_40 : decode cX2_bestPlace 40 = .ok (.iload_n 3, 1) := by decide +kernel
theorem dX2_bestPlace_41 : decode cX2_bestPlace 41 = .ok (.if_icmp .le 9, 3) := by decide +kernel
theorem dX2_bestPlace_44 : decode cX2_bestPlace 44 = .ok (.iload 4, 2) := by decide +kernel
theorem dX2_bestPlace_46 : decode cX2_bestPlace 46 = .ok (.istore_n 2, 1) := by decide +kernel
theorem dX2_bestPlace_47 : decode cX2_bestPlace 47 = .ok (.iload 5, 2) := by decide +kernel
theorem dX2_bestPlace_49 : decode cX2_bestPlace 49 = .ok (.istore_n 3, 1) := by decide +kernel
theorem dX2_bestPlace_50 : decode cX2_bestPlace 50 = .ok (.iinc 4 1, 3) := by decide +kernel
theorem dX2_bestPlace_53 : decode cX2_bestPlace 53 = .ok (.goto (-40), 3) := by decide +kernel
theorem dX2_bestPlace_56 : decode cX2_bestPlace 56 = .ok (.iload_n 2, 1) := by decide +kernel
theorem dX2_bestPlace_57 : decode cX2_bestPlace 57 = .ok (.ireturn, 1) := by decide +kernel
theorem dX2_look_0 : decode cX2_look 0 = .ok (.aload_n 0, 1) := by decide +kernel
theorem dX2_look_1 : decode cX2_look 1 = .ok (.getfield 25, 3) := by decide +kernel
theorem dX2_look_4 : decode cX2_look 4 = .ok (.ifCond .eq 15, 3) := by decide +kernel
theorem dX2_look_7 : decode cX2_look 7 = .ok (.aload_n 0, 1) := by decide +kernel
theorem dX2_look_8 : decode cX2_look 8 = .ok (.getfield 12, 3) := by decide +kernel
theorem dX2_look_11 : decode cX2_look 11 = .ok (.aload_n 1, 1) := by decide +kernel
theorem dX2_look_12 : decode cX2_look 12 = .ok (.invokevirtual 59, 3) := by decide +kernel
theorem dX2_look_15 : decode cX2_look 15 = .ok (.ifCond .eq 4, 3) := by decide +kernel
theorem dX2_look_18 : decode cX2_look 18 = .ok (.return_, 1) := by decide +kernel
theorem dX2_look_19 : decode cX2_look 19 = .ok (.aload_n 0, 1) := by decide +kernel
theorem dX2_look_20 : decode cX2_look 20 = .ok (.iconst 1, 1) := by decide +kernel
theorem dX2_look_21 : decode cX2_look 21 = .ok (.putfield 25, 3) := by decide +kernel
theorem dX2_look_24 : decode cX2_look 24 = .ok (.aload_n 0, 1) := by decide +kernel
theorem dX2_look_25 : decode cX2_look 25 = .ok (.getfield 12, 3) := by decide +kernel
theorem dX2_look_28 : decode cX2_look 28 = .ok (.aload_n 1, 1) := by decide +kernel
theorem dX2_look_29 : decode cX2_look 29 = .ok (.invokevirtual 63, 3) := by decide +kernel
theorem dX2_look_32 : decode cX2_look 32 = .ok (.aload_n 0, 1) := by decide +kernel
theorem dX2_look_33 : decode cX2_look 33 = .ok (.getfield 22, 3) := by decide +kernel
theorem dX2_look_36 : decode cX2_look 36 = .ok (.iconst (-1), 1) := by decide +kernel
theorem dX2_look_37 : decode cX2_look 37 = .ok (.invokestatic 66, 3) := by decide +kernel
theorem dX2_look_40 : decode cX2_look 40 = .ok (.aload_n 0, 1) := by decide +kernel
theorem dX2_look_41 : decode cX2_look 41 = .ok (.getfield 22, 3) := by decide +kernel
theorem dX2_look_44 : decode cX2_look 44 = .ok (.iconst 0, 1) := by decide +kernel
theorem dX2_look_45 : decode cX2_look 45 = .ok (.iconst 0, 1) := by decide +kernel
theorem dX2_look_46 : decode cX2_look 46 = .ok (.iastore, 1) := by decide +kernel
theorem dX2_look_47 : decode cX2_look 47 = .ok (.iconst 0, 1) := by decide +kernel
theorem dX2_look_48 : decode cX2_look 48 = .ok (.istore_n 2, 1) := by decide +kernel
theorem dX2_look_49 : decode cX2_look 49 = .ok (.iload_n 2, 1) := by decide +kernel
theorem dX2_look_50 : decode cX2_look 50 = .ok (.bipush 27, 2) := by decide +kernel
theorem dX2_look_52 : decode cX2_look 52 = .ok (.if_icmp .ge 14, 3) := by decide +kernel
theorem dX2_look_55 : decode cX2_look 55 = .ok (.aload_n 0, 1) := by decide +kernel
theorem dX2_look_56 : decode cX2_look 56 = .ok (.iload_n 2, 1) := by decide +kernel
theorem dX2_look_57 : decode cX2_look 57 = .ok (.invokevirtual 72, 3) := by decide +kernel
theorem dX2_look_60 : decode cX2_look 60 = .ok (.iinc 2 1, 3) := by decide +kernel
theorem dX2_look_63 : decode cX2_look 63 = .ok (.goto (-14), 3) := by decide +kernel
theorem dX2_look_66 : decode cX2_look 66 = .ok (.return_, 1) := by decide +kernel
theorem dX2_addPlans_0 : decode cX2_addPlans 0 = .ok (.iload_n 1, 1) := by decide +kernel
theorem dX2_addPlans_1 : decode cX2_addPlans 1 = .ok (.bipush 27, 2) := by decide +kernel
theorem dX2_addPlans_3 : decode cX2_addPlans 3 = .ok (.imul, 1) := by decide +kernel
theorem dX2_addPlans_4 : decode cX2_addPlans 4 = .ok (.istore_n 2, 1) := by decide +kernel
theorem dX2_addPlans_5 : decode cX2_addPlans 5 = .ok (.aload_n 0, 1) := by decide +kernel
theorem dX2_addPlans_6 : decode cX2_addPlans 6 = .ok (.getfield 12, 3) := by decide +kernel
theorem dX2_addPlans_9 : decode cX2_addPlans 9 = .ok (.iload_n 2, 1) := by decide +kernel
theorem dX2_addPlans_10 : decode cX2_addPlans 10 = .ok (.invokevirtual 41, 3) := by decide +kernel
theorem dX2_addPlans_13 : decode cX2_addPlans 13 = .ok (.aload_n 0, 1) := by decide +kernel
theorem dX2_addPlans_14 : decode cX2_addPlans 14 = .ok (.getfield 12, 3) := by decide +kernel
theorem dX2_addPlans_17 : decode cX2_addPlans 17 = .ok (.iconst 0, 1) := by decide +kernel
theorem dX2_addPlans_18 : decode cX2_addPlans 18 = .ok (.invokevirtual 75, 3) := by decide +kernel
theorem dX2_addPlans_21 : decode cX2_addPlans 21 = .ok (.istore_n 3, 1) := by decide +kernel
theorem dX2_addPlans_22 : decode cX2_addPlans 22 = .ok (.aload_n 0, 1) := by decide +kernel
theorem dX2_addPlans_23 : decode cX2_addPlans 23 = .ok (.getfield 12, 3) := by decide +kernel
theorem dX2_addPlans_26 : decode cX2_addPlans 26 = .ok (.iconst 1, 1) := by decide +kernel
theorem dX2_addPlans_27 : decode cX2_addPlans 27 = .ok (.invokevirtual 75, 3) := by decide +kernel
theorem dX2_addPlans_30 : decode cX2_addPlans 30 = .ok (.istore 4, 2) := by decide +kernel
theorem dX2_addPlans_32 : decode cX2_addPlans 32 = .ok (.aload_n 0, 1) := by decide +kernel
theorem dX2_addPlans_33 : decode cX2_addPlans 33 = .ok (.getfield 12, 3) := by decide +kernel
theorem dX2_addPlans_36 : decode cX2_addPlans 36 = .ok (.iconst 2, 1) := by decide +kernel
theorem dX2_addPlans_37 : decode cX2_addPlans 37 = .ok (.invokevirtual 75, 3) := by decide +kernel
theorem dX2_addPlans_40 : decode cX2_addPlans 40 = .ok (.istore 5, 2) := by decide +kernel
theorem dX2_addPlans_42 : decode cX2_addPlans 42 = .ok (.iconst 0, 1) := by decide +kernel
theorem dX2_addPlans_43 : decode cX2_addPlans 43 = .ok (.istore 6, 2) := by decide +kernel
theorem dX2_addPlans_45 : decode cX2_addPlans 45 = .ok (.iload 6, 2) := by decide +kernel
theorem dX2_addPlans_47 : decode cX2_addPlans 47 = .ok (.bipush 27, 2) := by decide +kernel
theorem dX2_addPlans_49 : decode cX2_addPlans 49 = .ok (.if_icmp .ge 115, 3) := by decide +kernel
theorem dX2_addPlans_52 : decode cX2_addPlans 52 = .ok (.iload_n 3, 1) := by decide +kernel
theorem dX2_addPlans_53 : decode cX2_addPlans 53 = .ok (.iload 6, 2) := by decide +kernel
theorem dX2_addPlans_55 : decode cX2_addPlans 55 = .ok (.bipush 9, 2) := by decide +kernel
theorem dX2_addPlans_57 : decode cX2_addPlans 57 = .ok (.idiv, 1) := by decide +kernel
theorem dX2_addPlans_58 : decode cX2_addPlans 58 = .ok (.invokestatic 78, 3) := by decide +kernel
theorem dX2_addPlans_61 : decode cX2_addPlans 61 = .ok (.ifCond .eq 97, 3) := by decide +kernel
theorem dX2_addPlans_64 : decode cX2_addPlans 64 = .ok (.iload 4, 2) := by decide +kernel
theorem dX2_addPlans_66 : decode cX2_addPlans 66 = .ok (.iload 6, 2) := by decide +kernel
theorem dX2_addPlans_68 : decode cX2_addPlans 68 = .ok (.iconst 3, 1) := by decide +kernel
theorem dX2_addPlans_69 : decode cX2_addPlans 69 = .ok (.idiv, 1) := by decide +kernel
theorem dX2_addPlans_70 : decode cX2_addPlans 70 = .ok (.iconst 3, 1) := by decide +kernel
theorem dX2_addPlans_71 : decode cX2_addPlans 71 = .ok (.irem, 1) := by decide +kernel
theorem dX2_addPlans_72 : decode cX2_addPlans 72 = .ok (.invokestatic 78, 3) := by decide +kernel
theorem dX2_addPlans_75 : decode cX2_addPlans 75 = .ok (.ifCond .eq 83, 3) := by decide +kernel
theorem dX2_addPlans_78 : decode cX2_addPlans 78 = .ok (.iload 5, 2) := by decide +kernel
theorem dX2_addPlans_80 : decode cX2_addPlans 80 = .ok (.iload 6, 2) := by decide +kernel
theorem dX2_addPlans_82 : decode cX2_addPlans 82 = .ok (.iconst 3, 1) := by decide +kernel
theorem dX2_addPlans_83 : decode cX2_addPlans 83 = .ok (.irem, 1) := by decide +kernel
theorem dX2_addPlans_84 : decode cX2_addPlans 84 = .ok (.invokestatic 78, 3) := by decide +kernel
theorem dX2_addPlans_87 : decode cX2_addPlans 87 = .ok (.ifCond .ne 6, 3) := by decide +kernel
theorem dX2_addPlans_90 : decode cX2_addPlans 90 = .ok (.goto 68, 3) := by decide +kernel
theorem dX2_addPlans_93 : decode cX2_addPlans 93 = .ok (.aload_n 0, 1) := by decide +kernel
theorem dX2_addPlans_94 : decode cX2_addPlans 94 = .ok (.getfield 12, 3) := by decide +kernel
theorem dX2_addPlans_97 : decode cX2_addPlans 97 = .ok (.iload_n 2, 1) := by decide +kernel
theorem dX2_addPlans_98 : decode cX2_addPlans 98 = .ok (.iload 6, 2) := by decide +kernel
theorem dX2_addPlans_100 : decode cX2_addPlans 100 = .ok (.iadd, 1) := by decide +kernel
theorem dX2_addPlans_101 : decode cX2_addPlans 101 = .ok (.invokevirtual 41, 3) := by decide +kernel
theorem dX2_addPlans_104 : decode cX2_addPlans 104 = .ok (.aload_n 0, 1) := by decide +kernel
theorem dX2_addPlans_105 : decode cX2_addPlans 105 = .ok (.getfield 22, 3) := by decide +kernel
theorem dX2_addPlans_108 : decode cX2_addPlans 108 = .ok (.iconst 0, 1) := by decide +kernel
theorem dX2_addPlans_109 : decode cX2_addPlans 109 = .ok (.iaload, 1) := by decide +kernel
theorem dX2_addPlans_110 : decode cX2_addPlans 110 = .ok (.istore 7, 2) := by decide +kernel
theorem dX2_addPlans_112 : decode cX2_addPlans 112 = .ok (.aload_n 0, 1) := by decide +kernel
theorem dX2_addPlans_113 : decode cX2_addPlans 113 = .ok (.getfield 12, 3) := by decide +kernel
theorem dX2_addPlans_116 : decode cX2_addPlans 116 = .ok (.invokevirtual 81, 3) := by decide +kernel
theorem dX2_addPlans_119 : decode cX2_addPlans 119 = .ok (.bipush (-6), 2) := by decide +kernel
theorem dX2_addPlans_121 : decode cX2_addPlans 121 = .ok (.if_icmp .ne 37, 3) := by decide +kernel
theorem dX2_addPlans_124 : decode cX2_addPlans 124 = .ok (.iload 7, 2) := by decide +kernel
theorem dX2_addPlans_126 : decode cX2_addPlans 126 = .ok (.aload_n 0, 1) := by decide +kernel
theorem dX2_addPlans_127 : decode cX2_addPlans 127 = .ok (.getfield 18, 3) := by decide +kernel
theorem dX2_addPlans_130 : decode cX2_addPlans 130 = .ok (.arraylength, 1) := by decide +kernel
theorem dX2_addPlans_131 : decode cX2_addPlans 131 = .ok (.invokestatic 33, 3) := by decide +kernel
theorem dX2_addPlans_134 : decode cX2_addPlans 134 = .ok (.ifCond .eq 24, 3) := by decide +kernel
theorem dX2_addPlans_137 : decode cX2_addPlans 137 = .ok (.aload_n 0, 1) := by decide +kernel
theorem dX2_addPlans_138 : decode cX2_addPlans 138 = .ok (.getfield 18, 3) := by decide +kernel
theorem dX2_addPlans_141 : decode cX2_addPlans 141 = .ok (.iload 7, 2) := by decide +kernel
theorem dX2_addPlans_143 : decode cX2_addPlans 143 = .ok (.iload_n 2, 1) := by decide +kernel
theorem dX2_addPlans_144 : decode cX2_addPlans 144 = .ok (.iload 6, 2) := by decide +kernel
theorem dX2_addPlans_146 : decode cX2_addPlans 146 = .ok (.iadd, 1) := by decide +kernel
theorem dX2_addPlans_147 : decode cX2_addPlans 147 = .ok (.iastore, 1) := by decide +kernel
theorem dX2_addPlans_148 : decode cX2_addPlans 148 = .ok (.aload_n 0, 1) := by decide +kernel
theorem dX2_addPlans_149 : decode cX2_addPlans 149 = .ok (.getfield 22, 3) := by decide +kernel
theorem dX2_addPlans_152 : decode cX2_addPlans 152 = .ok (.iconst 0, 1) := by decide +kernel
theorem dX2_addPlans_153 : decode cX2_addPlans 153 = .ok (.dup2, 1) := by decide +kernel
theorem dX2_addPlans_154 : decode cX2_addPlans 154 = .ok (.iaload, 1) := by decide +kernel
theorem dX2_addPlans_155 : decode cX2_addPlans 155 = .ok (.iconst 1, 1) := by decide +kernel
theorem dX2_addPlans_156 : decode cX2_addPlans 156 = .ok (.iadd, 1) := by decide +kernel
theorem dX2_addPlans_157 : decode cX2_addPlans 157 = .ok (.iastore, 1) := by decide +kernel
theorem dX2_addPlans_158 : decode cX2_addPlans 158 = .ok (.iinc 6 1, 3) := by decide +kernel
theorem dX2_addPlans_161 : decode cX2_addPlans 161 = .ok (.goto (-116), 3) := by decide +kernel
theorem dX2_addPlans_164 : decode cX2_addPlans 164 = .ok (.return_, 1) := by decide +kernel
theorem dX3_init_0 : decode cX3_init 0 = .ok (.aload_n 0, 1) := by decide +kernel
theorem dX3_init_1 : decode cX3_init 1 = .ok (.invokespecial 3, 3) := by decide +kernel
theorem dX3_init_4 : decode cX3_init 4 = .ok (.aload_n 0, 1) := by decide +kernel
theorem dX3_init_5 : decode cX3_init 5 = .ok (.new 9, 3) := by decide +kernel
theorem dX3_init_8 : decode cX3_init 8 = .ok (.dup, 1) := by decide +kernel
theorem dX3_init_9 : decode cX3_init 9 = .ok (.invokespecial 11, 3) := by decide +kernel
theorem dX3_init_12 : decode cX3_init 12 = .ok (.putfield 12, 3) := by decide +kernel
theorem dX3_init_15 : decode cX3_init 15 = .ok (.aload_n 0, 1) := by decide +kernel
theorem dX3_init_16 : decode cX3_init 16 = .ok (.new 16, 3) := by decide +kernel
theorem dX3_init_19 : decode cX3_init 19 = .ok (.dup, 1) := by decide +kernel
theorem dX3_init_20 : decode cX3_init 20 = .ok (.invokespecial 18, 3) := by decide +kernel
theorem dX3_init_23 : decode cX3_init 23 = .ok (.putfield 19, 3) := by decide +kernel
theorem dX3_init_26 : decode cX3_init 26 = .ok (.aload_n 0, 1) := by decide +kernel
theorem dX3_init_27 : decode cX3_init 27 = .ok (.new 23, 3) := by decide +kernel
theorem dX3_init_30 : decode cX3_init 30 = .ok (.dup, 1) := by decide +kernel
theorem dX3_init_31 : decode cX3_init 31 = .ok (.invokespecial 25, 3) := by decide +kernel
theorem dX3_init_34 : decode cX3_init 34 = .ok (.putfield 26, 3) := by decide +kernel
theorem dX3_init_37 : decode cX3_init 37 = .ok (.aload_n 0, 1) := by decide +kernel
theorem dX3_init_38 : decode cX3_init 38 = .ok (.sipush 432, 3) := by decide +kernel
theorem dX3_init_41 : decode cX3_init 41 = .ok (.newarray .int, 2) := by decide +kernel
theorem dX3_init_43 : decode cX3_init 43 = .ok (.putfield 30, 3) := by decide +kernel
theorem dX3_init_46 : decode cX3_init 46 = .ok (.aload_n 0, 1) := by decide +kernel
theorem dX3_init_47 : decode cX3_init 47 = .ok (.sipush 144, 3) := by decide +kernel
theorem dX3_init_50 : decode cX3_init 50 = .ok (.newarray .int, 2) := by decide +kernel
theorem dX3_init_52 : decode cX3_init 52 = .ok (.putfield 34, 3) := by decide +kernel
theorem dX3_init_55 : decode cX3_init 55 = .ok (.aload_n 0, 1) := by decide +kernel
theorem dX3_init_56 : decode cX3_init 56 = .ok (.iconst 2, 1) := by decide +kernel
theorem dX3_init_57 : decode cX3_init 57 = .ok (.newarray .boolean, 2) := by decide +kernel
theorem dX3_init_59 : decode cX3_init 59 = .ok (.putfield 37, 3) := by decide +kernel
theorem dX3_init_62 : decode cX3_init 62 = .ok (.aload_n 0, 1) := by decide +kernel
theorem dX3_init_63 : decode cX3_init 63 = .ok (.iconst 0, 1) := by decide +kernel
theorem dX3_init_64 : decode cX3_init 64 = .ok (.putfield 41, 3) := by decide +kernel
theorem dX3_init_67 : decode cX3_init 67 = .ok (.return_, 1) := by decide +kernel
theorem dX3_weight_0 : decode cX3_weight 0 = .ok (.aload_n 0, 1) := by decide +kernel
theorem dX3_weight_1 : decode cX3_weight 1 = .ok (.iload_n 1, 1) := by decide +kernel
theorem dX3_weight_2 : decode cX3_weight 2 = .ok (.iload_n 2, 1) := by decide +kernel
theorem dX3_weight_3 : decode cX3_weight 3 = .ok (.invokevirtual 45, 3) := by decide +kernel
theorem dX3_weight_6 : decode cX3_weight 6 = .ok (.istore_n 3, 1) := by decide +kernel
theorem dX3_weight_7 : decode cX3_weight 7 = .ok (.iload_n 3, 1) := by decide +kernel
theorem dX3_weight_8 : decode cX3_weight 8 = .ok (.ifCond .eq 5, 3) := by decide +kernel
theorem dX3_weight_11 : decode cX3_weight 11 = .ok (.iload_n 3, 1) := by decide +kernel
theorem dX3_weight_12 : decode cX3_weight 12 = .ok (.ireturn, 1) := by decide +kernel
theorem dX3_weight_13 : decode cX3_weight 13 = .ok (.aload_n 0, 1) := by decide +kernel
theorem dX3_weight_14 : decode cX3_weight 14 = .ok (.invokevirtual 49, 3) := by decide +kernel
theorem dX3_weight_17 : decode cX3_weight 17 = .ok (.aload_n 0, 1) := by decide +kernel
theorem dX3_weight_18 : decode cX3_weight 18 = .ok (.getfield 12, 3) := by decide +kernel
theorem dX3_weight_21 : decode cX3_weight 21 = .ok (.iload_n 1, 1) := by decide +kernel
theorem dX3_weight_22 : decode cX3_weight 22 = .ok (.invokestatic 52, 3) := by decide +kernel
theorem dX3_weight_25 : decode cX3_weight 25 = .ok (.iload_n 2, 1) := by decide +kernel
theorem dX3_weight_26 : decode cX3_weight 26 = .ok (.invokevirtual 56, 3) := by decide +kernel
theorem dX3_weight_29 : decode cX3_weight 29 = .ok (.ireturn, 1) := by decide +kernel
theorem dX3_pay_0 : decode cX3_pay 0 = .ok (.iload_n 2, 1) := by decide +kernel
theorem dX3_pay_1 : decode cX3_pay 1 = .ok (.iconst 3, 1) := by decide +kernel
theorem dX3_pay_2 : decode cX3_pay 2 = .ok (.invokestatic 59, 3) := by decide +kernel
theorem dX3_pay_5 : decode cX3_pay 5 = .ok (.ifCond .eq 20, 3) := by decide +kernel
theorem dX3_pay_8 : decode cX3_pay 8 = .ok (.iload_n 3, 1) := by decide +kernel
theorem dX3_pay_9 : decode cX3_pay 9 = .ok (.iconst 3, 1) := by decide +kernel
theorem dX3_pay_10 : decode cX3_pay 10 = .ok (.invokestatic 59, 3) := by decide +kernel
theorem dX3_pay_13 : decode cX3_pay 13 = .ok (.ifCond .eq 12, 3) := by decide +kernel
theorem dX3_pay_16 : decode cX3_pay 16 = .ok (.iload 4, 2) := by decide +kernel
theorem dX3_pay_18 : decode cX3_pay 18 = .ok (.iconst 3, 1) := by decide +kernel
theorem dX3_pay_19 : decode cX3_pay 19 = .ok (.invokestatic 59, 3) := by decide +kernel
theorem dX3_pay_22 : decode cX3_pay 22 = .ok (.ifCond .ne 5, 3) := by decide +kernel
theorem dX3_pay_25 : decode cX3_pay 25 = .ok (.iconst (-1), 1) := by decide +kernel
theorem dX3_pay_26 : decode cX3_pay 26 = .ok (.ireturn, 1) := by decide +kernel
theorem dX3_pay_27 : decode cX3_pay 27 = .ok (.iload_n 1, 1) := by decide +kernel
theorem dX3_pay_28 : decode cX3_pay 28 = .ok (.ifCond .eq 8, 3) := by decide +kernel
theorem dX3_pay_31 : decode cX3_pay 31 = .ok (.iload_n 1, 1) := by decide +kernel
theorem dX3_pay_32 : decode cX3_pay 32 = .ok (.iconst 1, 1) := by decide +kernel
theorem dX3_pay_33 : decode cX3_pay 33 = .ok (.if_icmp .ne 17, 3) := by decide +kernel
theorem dX3_pay_36 : decode cX3_pay 36 = .ok (.iload 5, 2) := by decide +kernel
theorem dX3_pay_38 : decode cX3_pay 38 = .ok (.bipush (-9), 2) := by decide +kernel
theorem dX3_pay_40 : decode cX3_pay 40 = .ok (.if_icmp .lt 10, 3) := by decide +kernel
theorem dX3_pay_43 : decode cX3_pay 43 = .ok (.iload 5, 2) := by decide +kernel
theorem dX3_pay_45 : decode cX3_pay 45 = .ok (.bipush 9, 2) := by decide +kernel
theorem dX3_pay_47 : decode cX3_pay 47 = .ok (.if_icmp .le 6, 3) := by decide +kernel
theorem dX3_pay_50 : decode cX3_pay 50 = .ok (.bipush (-2), 2) := by decide +kernel
theorem dX3_pay_52 : decode cX3_pay 52 = .ok (.ireturn, 1) := by decide +kernel
theorem dX3_pay_53 : decode cX3_pay 53 = .ok (.aload_n 0, 1) := by decide +kernel
theorem dX3_pay_54 : decode cX3_pay 54 = .ok (.invokevirtual 49, 3) := by decide +kernel
theorem dX3_pay_57 : decode cX3_pay 57 = .ok (.aload_n 0, 1) := by decide +kernel
theorem dX3_pay_58 : decode cX3_pay 58 = .ok (.getfield 12, 3) := by decide +kernel
theorem dX3_pay_61 : decode cX3_pay 61 = .ok (.iload_n 1, 1) := by decide +kernel
theorem dX3_pay_62 : decode cX3_pay 62 = .ok (.iload_n 2, 1) := by decide +kernel
theorem dX3_pay_63 : decode cX3_pay 63 = .ok (.iload_n 3, 1) := by decide +kernel
theorem dX3_pay_64 : decode cX3_pay 64 = .ok (.iload 4, 2) := by decide +kernel
theorem dX3_pay_66 : decode cX3_pay 66 = .ok (.invokestatic 63, 3) := by decide +kernel
theorem dX3_pay_69 : decode cX3_pay 69 = .ok (.iload 5, 2) := by decide +kernel
theorem dX3_pay_71 : decode cX3_pay 71 = .ok (.invokevirtual 56, 3) := by decide +kernel
theorem dX3_pay_74 : decode cX3_pay 74 = .ok (.bipush 100, 2) := by decide +kernel
theorem dX3_pay_76 : decode cX3_pay 76 = .ok (.iadd, 1) := by decide +kernel
theorem dX3_pay_77 : decode cX3_pay 77 = .ok (.ireturn, 1) := by decide +kernel
theorem dX3_believe_0 : decode cX3_believe 0 = .ok (.aload_n 0, 1) := by decide +kernel
theorem dX3_believe_1 : decode cX3_believe 1 = .ok (.iload_n 1, 1) := by decide +kernel
theorem dX3_believe_2 : decode cX3_believe 2 = .ok (.iload_n 2, 1) := by decide +kernel
theorem dX3_believe_3 : decode cX3_believe 3 = .ok (.iload_n 3, 1) := by decide +kernel
theorem dX3_believe_4 : decode cX3_believe 4 = .ok (.invokevirtual 67, 3) := by decide +kernel
theorem dX3_believe_7 : decode cX3_believe 7 = .ok (.istore 4, 2) := by decide +kernel
theorem dX3_believe_9 : decode cX3_believe 9 = .ok (.iload 4, 2) := by decide +kernel
theorem dX3_believe_11 : decode cX3_believe 11 = .ok (.ifCond .eq 6, 3) := by decide +kernel
theorem dX3_believe_14 : decode cX3_believe 14 = .ok (.iload 4, 2) := by decide +kernel
theorem dX3_believe_16 : decode cX3_believe 16 = .ok (.ireturn, 1) := by decide +kernel
theorem dX3_believe_17 : decode cX3_believe 17 = .ok (.aload_n 0, 1) := by decide +kernel
theorem dX3_believe_18 : decode cX3_believe 18 = .ok (.invokevirtual 49, 3) := by decide +kernel
theorem dX3_believe_21 : decode cX3_believe 21 = .ok (.aload_n 0, 1) := by decide +kernel
theorem dX3_believe_22 : decode cX3_believe 22 = .ok (.getfield 12, 3) := by decide +kernel
theorem dX3_believe_25 : decode cX3_believe 25 = .ok (.iload_n 1, 1) := by decide +kernel
theorem dX3_believe_26 : decode cX3_believe 26 = .ok (.iload_n 2, 1) := by decide +kernel
theorem dX3_believe_27 : decode cX3_believe 27 = .ok (.invokestatic 71, 3) := by decide +kernel
theorem dX3_believe_30 : decode cX3_believe 30 = .ok (.iload_n 3, 1) := by decide +kernel
theorem dX3_believe_31 : decode cX3_believe 31 = .ok (.invokevirtual 56, 3) := by decide +kernel
theorem dX3_believe_34 : decode cX3_believe 34 = .ok (.ireturn, 1) := by decide +kernel
theorem dX3_send_0 : decode cX3_send 0 = .ok (.iload_n 1, 1) := by decide +kernel
theorem dX3_send_1 : decode cX3_send 1 = .ok (.iconst 3, 1) := by decide +kernel
theorem dX3_send_2 : decode cX3_send 2 = .ok (.invokestatic 59, 3) := by decide +kernel
theorem dX3_send_5 : decode cX3_send 5 = .ok (.ifCond .eq 11, 3) := by decide +kernel
theorem dX3_send_8 : decode cX3_send 8 = .ok (.iload_n 2, 1) := by decide +kernel
theorem dX3_send_9 : decode cX3_send 9 = .ok (.iconst 3, 1) := by decide +kernel
theorem dX3_send_10 : decode cX3_send 10 = .ok (.invokestatic 59, 3) := by decide +kernel
theorem dX3_send_13 : decode cX3_send 13 = .ok (.ifCond .ne 5, 3) := by decide +kernel
theorem dX3_send_16 : decode cX3_send 16 = .ok (.iconst (-1), 1) := by decide +kernel
theorem dX3_send_17 : decode cX3_send 17 = .ok (.ireturn, 1) := by decide +kernel
theorem dX3_send_18 : decode cX3_send 18 = .ok (.aload_n 0, 1) := by decide +kernel
theorem dX3_send_19 : decode cX3_send 19 = .ok (.invokevirtual 49, 3) := by decide +kernel
theorem dX3_send_22 : decode cX3_send 22 = .ok (.aload_n 0, 1) := by decide +kernel
theorem dX3_send_23 : decode cX3_send 23 = .ok (.getfield 12, 3) := by decide +kernel
theorem dX3_send_26 : decode cX3_send 26 = .ok (.iload_n 1, 1) := by decide +kernel
theorem dX3_send_27 : decode cX3_send 27 = .ok (.invokestatic 74, 3) := by decide +kernel
theorem dX3_send_30 : decode cX3_send 30 = .ok (.iload_n 2, 1) := by decide +kernel
theorem dX3_send_31 : decode cX3_send 31 = .ok (.invokevirtual 56, 3) := by decide +kernel
theorem dX3_send_34 : decode cX3_send 34 = .ok (.ireturn, 1) := by decide +kernel
theorem dX3_answer_0 : decode cX3_answer 0 = .ok (.iload_n 1, 1) := by decide +kernel
theorem dX3_answer_1 : decode cX3_answer 1 = .ok (.iconst 3, 1) := by decide +kernel
theorem dX3_answer_2 : decode cX3_answer 2 = .ok (.invokestatic 59, 3) := by decide +kernel
theorem dX3_answer_5 : decode cX3_answer 5 = .ok (.ifCond .eq 11, 3) := by decide +kernel
theorem dX3_answer_8 : decode cX3_answer 8 = .ok (.iload_n 2, 1) := by decide +kernel
theorem dX3_answer_9 : decode cX3_answer 9 = .ok (.iconst 3, 1) := by decide +kernel
theorem dX3_answer_10 : decode cX3_answer 10 = .ok (.invokestatic 59, 3) := by decide +kernel
theorem dX3_answer_13 : decode cX3_answer 13 = .ok (.ifCond .ne 5, 3) := by decide +kernel
theorem dX3_answer_16 : decode cX3_answer 16 = .ok (.iconst (-1), 1) := by decide +kernel
theorem dX3_answer_17 : decode cX3_answer 17 = .ok (.ireturn, 1) := by decide +kernel
theorem dX3_answer_18 : decode cX3_answer 18 = .ok (.aload_n 0, 1) := by decide +kernel
theorem dX3_answer_19 : decode cX3_answer 19 = .ok (.invokevirtual 49, 3) := by decide +kernel
theorem dX3_answer_22 : decode cX3_answer 22 = .ok (.aload_n 0, 1) := by decide +kernel
theorem dX3_answer_23 : decode cX3_answer 23 = .ok (.getfield 12, 3) := by decide +kernel
theorem dX3_answer_26 : decode cX3_answer 26 = .ok (.iload_n 1, 1) := by decide +kernel
theorem dX3_answer_27 : decode cX3_answer 27 = .ok (.invokestatic 77, 3) := by decide +kernel
theorem dX3_answer_30 : decode cX3_answer 30 = .ok (.iload_n 2, 1) := by decide +kernel
theorem dX3_answer_31 : decode cX3_answer 31 = .ok (.invokevirtual 56, 3) := by decide +kernel
theorem dX3_answer_34 : decode cX3_answer 34 = .ok (.ireturn, 1) := by decide +kernel
theorem dX3_adopt_0 : decode cX3_adopt 0 = .ok (.aload_n 0, 1) := by decide +kernel
theorem dX3_adopt_1 : decode cX3_adopt 1 = .ok (.getfield 19, 3) := by decide +kernel
theorem dX3_adopt_4 : decode cX3_adopt 4 = .ok (.aload_n 0, 1) := by decide +kernel
theorem dX3_adopt_5 : decode cX3_adopt 5 = .ok (.getfield 12, 3) := by decide +kernel
theorem dX3_adopt_8 : decode cX3_adopt 8 = .ok (.iconst 0, 1) := by decide +kernel
theorem dX3_adopt_9 : decode cX3_adopt 9 = .ok (.invokevirtual 80, 3) := by decide +kernel
theorem dX3_adopt_12 : decode cX3_adopt 12 = .ok (.istore_n 2, 1) := by decide +kernel
theorem dX3_adopt_13 : decode cX3_adopt 13 = .ok (.iload_n 1, 1) := by decide +kernel
theorem dX3_adopt_14 : decode cX3_adopt 14 = .ok (.iload_n 2, 1) := by decide +kernel
theorem dX3_adopt_15 : decode cX3_adopt 15 = .ok (.invokestatic 59, 3) := by decide +kernel
theorem dX3_adopt_18 : decode cX3_adopt 18 = .ok (.ifCond .ne 5, 3) := by decide +kernel
theorem dX3_adopt_21 : decode cX3_adopt 21 = .ok (.iconst (-1), 1) := by decide +kernel
theorem dX3_adopt_22 : decode cX3_adopt 22 = .ok (.ireturn, 1) := by decide +kernel
theorem dX3_adopt_23 : decode cX3_adopt 23 = .ok (.aload_n 0, 1) := by decide +kernel
theorem dX3_adopt_24 : decode cX3_adopt 24 = .ok (.invokevirtual 49, 3) := by decide +kernel
theorem dX3_adopt_27 : decode cX3_adopt 27 = .ok (.aload_n 0, 1) := by decide +kernel
theorem dX3_adopt_28 : decode cX3_adopt 28 = .ok (.getfield 12, 3) := by decide +kernel
theorem dX3_adopt_31 : decode cX3_adopt 31 = .ok (.aload_n 0, 1) := by decide +kernel
theorem dX3_adopt_32 : decode cX3_adopt 32 = .ok (.getfield 19, 3) := by decide +kernel
theorem dX3_adopt_35 : decode cX3_adopt 35 = .ok (.iload_n 1, 1) := by decide +kernel
theorem dX3_adopt_36 : decode cX3_adopt 36 = .ok (.invokevirtual 84, 3) := by decide +kernel
theorem dX3_adopt_39 : decode cX3_adopt 39 = .ok (.invokevirtual 87, 3) := by decide +kernel
theorem dX3_adopt_42 : decode cX3_adopt 42 = .ok (.iload_n 2, 1) := by decide +kernel
theorem dX3_adopt_43 : decode cX3_adopt 43 = .ok (.ireturn, 1) := by decide +kernel
theorem dX3_payoff_0 : decode cX3_payoff 0 = .ok (.iload_n 2, 1) := by decide +kernel
theorem dX3_payoff_1 : decode cX3_payoff 1 = .ok (.iconst 3, 1) := by decide +kernel
theorem dX3_payoff_2 : decode cX3_payoff 2 = .ok (.invokestatic 59, 3) := by decide +kernel
theorem dX3_payoff_5 : decode cX3_payoff 5 = .ok (.ifCond .eq 20, 3) := by decide +kernel
theorem dX3_payoff_8 : decode cX3_payoff 8 = .ok (.iload_n 3, 1) := by decide +kernel
theorem dX3_payoff_9 : decode cX3_payoff 9 = .ok (.iconst 3, 1) := by decide +kernel
theorem dX3_payoff_10 : decode cX3_payoff 10 = .ok (.invokestatic 59, 3) := by decide +kernel
theorem dX3_payoff_13 : decode cX3_payoff 13 = .ok (.ifCond .eq 12, 3) := by decide +kernel
theorem dX3_payoff_16 : decode cX3_payoff 16 = .ok (.iload 4, 2) := by decide +kernel
theorem dX3_payoff_18 : decode cX3_payoff 18 = .ok (.iconst 3, 1) := by decide +kernel
theorem dX3_payoff_19 : decode cX3_payoff 19 = .ok (.invokestatic 59, 3) := by decide +kernel
theorem dX3_payoff_22 : decode cX3_payoff 22 = .ok (.ifCond .ne 5, 3) := by decide +kernel
theorem dX3_payoff_25 : decode cX3_payoff 25 = .ok (.iconst (-1), 1) := by decide +kernel
theorem dX3_payoff_26 : decode cX3_payoff 26 = .ok (.ireturn, 1) := by decide +kernel
theorem dX3_payoff_27 : decode cX3_payoff 27 = .ok (.iload_n 1, 1) := by decide +kernel
theorem dX3_payoff_28 : decode cX3_payoff 28 = .ok (.ifCond .eq 11, 3) := by decide +kernel
theorem dX3_payoff_31 : decode cX3_payoff 31 = .ok (.iload_n 1, 1) := by decide +kernel
theorem dX3_payoff_32 : decode cX3_payoff 32 = .ok (.iconst 1, 1) := by decide +kernel
theorem dX3_payoff_33 : decode cX3_payoff 33 = .ok (.if_icmp .eq 6, 3) := by decide +kernel
theorem dX3_payoff_36 : decode cX3_payoff 36 = .ok (.bipush (-2), 2) := by decide +kernel
theorem dX3_payoff_38 : decode cX3_payoff 38 = .ok (.ireturn, 1) := by decide +kernel
theorem dX3_payoff_39 : decode cX3_payoff 39 = .ok (.aload_n 0, 1) := by decide +kernel
theorem dX3_payoff_40 : decode cX3_payoff 40 = .ok (.getfield 12, 3) := by decide +kernel
theorem dX3_payoff_43 : decode cX3_payoff 43 = .ok (.iload_n 1, 1) := by decide +kernel
theorem dX3_payoff_44 : decode cX3_payoff 44 = .ok (.iload_n 2, 1) := by decide +kernel
theorem dX3_payoff_45 : decode cX3_payoff 45 = .ok (.iload_n 3, 1) := by decide +kernel
theorem dX3_payoff_46 : decode cX3_payoff 46 = .ok (.iload 4, 2) := by decide +kernel
theorem dX3_payoff_48 : decode cX3_payoff 48 = .ok (.invokestatic 63, 3) := by decide +kernel
theorem dX3_payoff_51 : decode cX3_payoff 51 = .ok (.invokevirtual 91, 3) := by decide +kernel
theorem dX3_payoff_54 : decode cX3_payoff 54 = .ok (.bipush 100, 2) := by decide +kernel
theorem dX3_payoff_56 : decode cX3_payoff 56 = .ok (.iadd, 1) := by decide +kernel
theorem dX3_payoff_57 : decode cX3_payoff 57 = .ok (.ireturn, 1) := by decide +kernel
theorem dX3_ofType_0 : decode cX3_ofType 0 = .ok (.iload_n 1, 1) := by decide +kernel
theorem dX3_ofType_1 : decode cX3_ofType 1 = .ok (.iconst 3, 1) := by decide +kernel
theorem dX3_ofType_2 : decode cX3_ofType 2 = .ok (.invokestatic 59, 3) := by decide +kernel
theorem dX3_ofType_5 : decode cX3_ofType 5 = .ok (.ifCond .ne 5, 3) := by decide +kernel
theorem dX3_ofType_8 : decode cX3_ofType 8 = .ok (.iconst (-1), 1) := by decide +kernel
theorem dX3_ofType_9 : decode cX3_ofType 9 = .ok (.ireturn, 1) := by decide +kernel
theorem dX3_ofType_10 : decode cX3_ofType 10 = .ok (.iload_n 2, 1) := by decide +kernel
theorem dX3_ofType_11 : decode cX3_ofType 11 = .ok (.tableswitch 104 0 4 #[33, 45, 57, 69, 78], 33) := by decide +kernel
theorem dX3_ofType_44 : decode cX3_ofType 44 = .ok (.aload_n 0, 1) := by decide +kernel
theorem dX3_ofType_45 : decode cX3_ofType 45 = .ok (.getfield 12, 3) := by decide +kernel
theorem dX3_ofType_48 : decode cX3_ofType 48 = .ok (.iload_n 1, 1) := by decide +kernel
theorem dX3_ofType_49 : decode cX3_ofType 49 = .ok (.invokestatic 52, 3) := by decide +kernel
theorem dX3_ofType_52 : decode cX3_ofType 52 = .ok (.invokevirtual 91, 3) := by decide +kernel
theorem dX3_ofType_55 : decode cX3_ofType 55 = .ok (.ireturn, 1) := by decide +kernel
theorem dX3_ofType_56 : decode cX3_ofType 56 = .ok (.aload_n 0, 1) := by decide +kernel
theorem dX3_ofType_57 : decode cX3_ofType 57 = .ok (.getfield 12, 3) := by decide +kernel
theorem dX3_ofType_60 : decode cX3_ofType 60 = .ok (.iload_n 1, 1) := by decide +kernel
theorem dX3_ofType_61 : decode cX3_ofType 61 = .ok (.invokestatic 74, 3) := by decide +kernel
theorem dX3_ofType_64 : decode cX3_ofType 64 = .ok (.invokevirtual 91, 3) := by decide +kernel
theorem dX3_ofType_67 : decode cX3_ofType 67 = .ok (.ireturn, 1) := by decide +kernel
theorem dX3_ofType_68 : decode cX3_ofType 68 = .ok (.aload_n 0, 1) := by decide +kernel
theorem dX3_ofType_69 : decode cX3_ofType 69 = .ok (.getfield 12, 3) := by decide +kernel
theorem dX3_ofType_72 : decode cX3_ofType 72 = .ok (.iload_n 1, 1) := by decide +kernel
theorem dX3_ofType_73 : decode cX3_ofType 73 = .ok (.invokevirtual 94, 3) := by decide +kernel
theorem dX3_ofType_76 : decode cX3_ofType 76 = .ok (.bipush 100, 2) := by decide +kernel
theorem dX3_ofType_78 : decode cX3_ofType 78 = .ok (.iadd, 1) := by decide +kernel
theorem dX3_ofType_79 : decode cX3_ofType 79 = .ok (.ireturn, 1) := by decide +kernel
theorem dX3_ofType_80 : decode cX3_ofType 80 = .ok (.aload_n 0, 1) := by decide +kernel
theorem dX3_ofType_81 : decode cX3_ofType 81 = .ok (.getfield 12, 3) := by decide +kernel
theorem dX3_ofType_84 : decode cX3_ofType 84 = .ok (.iload_n 1, 1) := by decide +kernel
theorem dX3_ofType_85 : decode cX3_ofType 85 = .ok (.invokevirtual 97, 3) := by decide +kernel
theorem dX3_ofType_88 : decode cX3_ofType 88 = .ok (.ireturn, 1) := by decide +kernel
theorem dX3_ofType_89 : decode cX3_ofType 89 = .ok (.aload_n 0, 1) := by decide +kernel
theorem dX3_ofType_90 : decode cX3_ofType 90 = .ok (.getfield 12, 3) := by decide +kernel
theorem dX3_ofType_93 : decode cX3_ofType 93 = .ok (.iload_n 1, 1) := by decide +kernel
theorem dX3_ofType_94 : decode cX3_ofType 94 = .ok (.aload_n 0, 1) := by decide +kernel
theorem dX3_ofType_95 : decode cX3_ofType 95 = .ok (.getfield 12, 3) := by decide +kernel
theorem dX3_ofType_98 : decode cX3_ofType 98 = .ok (.iload_n 1, 1) := by decide +kernel
theorem dX3_ofType_99 : decode cX3_ofType 99 = .ok (.invokevirtual 97, 3) := by decide +kernel
theorem dX3_ofType_102 : decode cX3_ofType 102 = .ok (.invokevirtual 100, 3) := by decide +kernel
theorem dX3_ofType_105 : decode cX3_ofType 105 = .ok (.aload_n 0, 1) := by decide +kernel
theorem dX3_ofType_106 : decode cX3_ofType 106 = .ok (.getfield 12, 3) := by decide +kernel
theorem dX3_ofType_109 : decode cX3_ofType 109 = .ok (.iload_n 1, 1) := by decide +kernel
theorem dX3_ofType_110 : decode cX3_ofType 110 = .ok (.invokevirtual 94, 3) := by decide +kernel
theorem dX3_ofType_113 : decode cX3_ofType 113 = .ok (.isub, 1) := by decide +kernel
theorem dX3_ofType_114 : decode cX3_ofType 114 = .ok (.ireturn, 1) := by decide +kernel
theorem dX3_ofType_115 : decode cX3_ofType 115 = .ok (.bipush (-2), 2) := by decide +kernel
theorem dX3_ofType_117 : decode cX3_ofType 117 = .ok (.ireturn, 1) := by decide +kernel
theorem dX3_ofMessage_0 : decode cX3_ofMessage 0 = .ok (.iload_n 1, 1) := by decide +kernel
theorem dX3_ofMessage_1 : decode cX3_ofMessage 1 = .ok (.iconst 3, 1) := by decide +kernel
theorem dX3_ofMessage_2 : decode cX3_ofMessage 2 = .ok (.invokestatic 59, 3) := by decide +kernel
theorem dX3_ofMessage_5 : decode cX3_ofMessage 5 = .ok (.ifCond .ne 5, 3) := by decide +kernel
theorem dX3_ofMessage_8 : decode cX3_ofMessage 8 = .ok (.iconst (-1), 1) := by decide +kernel
theorem dX3_ofMessage_9 : decode cX3_ofMessage 9 = .ok (.ireturn, 1) := by decide +kernel
theorem dX3_ofMessage_10 : decode cX3_ofMessage 10 = .ok (.iload_n 2, 1) := by decide +kernel
theorem dX3_ofMessage_11 : decode cX3_ofMessage 11 = .ok (.tableswitch 109 0 5 #[37, 54, 66, 75, 84, 93], 37) := by decide +kernel
theorem dX3_ofMessage_48 : decode cX3_ofMessage 48 = .ok (.aload_n 0, 1) := by decide +kernel
theorem dX3_ofMessage_49 : decode cX3_ofMessage 49 = .ok (.getfield 12, 3) := by decide +kernel
theorem dX3_ofMessage_52 : decode cX3_ofMessage 52 = .ok (.iload_n 1, 1) := by decide +kernel
theorem dX3_ofMessage_53 : decode cX3_ofMessage 53 = .ok (.invokevirtual 103, 3) := by decide +kernel
theorem dX3_ofMessage_56 : decode cX3_ofMessage 56 = .ok (.ifCond .eq 7, 3) := by decide +kernel
theorem dX3_ofMessage_59 : decode cX3_ofMessage 59 = .ok (.iconst 1, 1) := by decide +kernel
theorem dX3_ofMessage_60 : decode cX3_ofMessage 60 = .ok (.goto 4, 3) := by decide +kernel
theorem dX3_ofMessage_63 : decode cX3_ofMessage 63 = .ok (.iconst 0, 1) := by decide +kernel
theorem dX3_ofMessage_64 : decode cX3_ofMessage 64 = .ok (.ireturn, 1) := by decide +kernel
theorem dX3_ofMessage_65 : decode cX3_ofMessage 65 = .ok (.aload_n 0, 1) := by decide +kernel
theorem dX3_ofMessage_66 : decode cX3_ofMessage 66 = .ok (.getfield 12, 3) := by decide +kernel
theorem dX3_ofMessage_69 : decode cX3_ofMessage 69 = .ok (.iload_n 1, 1) := by decide +kernel
theorem dX3_ofMessage_70 : decode cX3_ofMessage 70 = .ok (.invokestatic 77, 3) := by decide +kernel
theorem dX3_ofMessage_73 : decode cX3_ofMessage 73 = .ok (.invokevirtual 91, 3) := by decide +kernel
theorem dX3_ofMessage_76 : decode cX3_ofMessage 76 = .ok (.ireturn, 1) := by decide +kernel
theorem dX3_ofMessage_77 : decode cX3_ofMessage 77 = .ok (.aload_n 0, 1) := by decide +kernel
theorem dX3_ofMessage_78 : decode cX3_ofMessage 78 = .ok (.getfield 12, 3) := by decide +kernel
theorem dX3_ofMessage_81 : decode cX3_ofMessage 81 = .ok (.iload_n 1, 1) := by decide +kernel
theorem dX3_ofMessage_82 : decode cX3_ofMessage 82 = .ok (.invokevirtual 106, 3) := by decide +kernel
theorem dX3_ofMessage_85 : decode cX3_ofMessage 85 = .ok (.ireturn, 1) := by decide +kernel
theorem dX3_ofMessage_86 : decode cX3_ofMessage 86 = .ok (.aload_n 0, 1) := by decide +kernel
theorem dX3_ofMessage_87 : decode cX3_ofMessage 87 = .ok (.getfield 12, 3) := by decide +kernel
theorem dX3_ofMessage_90 : decode cX3_ofMessage 90 = .ok (.iload_n 1, 1) := by decide +kernel
theorem dX3_ofMessage_91 : decode cX3_ofMessage 91 = .ok (.invokevirtual 103, 3) := by decide +kernel
theorem dX3_ofMessage_94 : decode cX3_ofMessage 94 = .ok (.ireturn, 1) := by decide +kernel
theorem dX3_ofMessage_95 : decode cX3_ofMessage 95 = .ok (.aload_n 0, 1) := by decide +kernel
theorem dX3_ofMessage_96 : decode cX3_ofMessage 96 = .ok (.getfield 12, 3) := by decide +kernel
theorem dX3_ofMessage_99 : decode cX3_ofMessage 99 = .ok (.iload_n 1, 1) := by decide +kernel
theorem dX3_ofMessage_100 : decode cX3_ofMessage 100 = .ok (.invokevirtual 109, 3) := by decide +kernel
theorem dX3_ofMessage_103 : decode cX3_ofMessage 103 = .ok (.ireturn, 1) := by decide +kernel
theorem dX3_ofMessage_104 : decode cX3_ofMessage 104 = .ok (.aload_n 0, 1) := by decide +kernel
theorem dX3_ofMessage_105 : decode cX3_ofMessage 105 = .ok (.getfield 12, 3) := by decide +kernel
theorem dX3_ofMessage_108 : decode cX3_ofMessage 108 = .ok (.iload_n 1, 1) := by decide +kernel
theorem dX3_ofMessage_109 : decode cX3_ofMessage 109 = .ok (.aload_n 0, 1) := by decide +kernel
theorem dX3_ofMessage_110 : decode cX3_ofMessage 110 = .ok (.getfield 12, 3) := by decide +kernel
theorem dX3_ofMessage_113 : decode cX3_ofMessage 113 = .ok (.invokevirtual 112, 3) := by decide +kernel
theorem dX3_ofMessage_116 : decode cX3_ofMessage 116 = .ok (.invokevirtual 116, 3) := by decide +kernel
theorem dX3_ofMessage_119 : decode cX3_ofMessage 119 = .ok (.ireturn, 1) := by decide +kernel
theorem dX3_ofMessage_120 : decode cX3_ofMessage 120 = .ok (.bipush (-2), 2) := by decide +kernel
theorem dX3_ofMessage_122 : decode cX3_ofMessage 122 = .ok (.ireturn, 1) := by decide +kernel
theorem dX3_belief_0 : decode cX3_belief 0 = .ok (.iload_n 1, 1) := by decide +kernel
theorem dX3_belief_1 : decode cX3_belief 1 = .ok (.iconst 3, 1) := by decide +kernel
theorem dX3_belief_2 : decode cX3_belief 2 = .ok (.invokestatic 59, 3) := by decide +kernel
theorem dX3_belief_5 : decode cX3_belief 5 = .ok (.ifCond .eq 11, 3) := by decide +kernel
theorem dX3_belief_8 : decode cX3_belief 8 = .ok (.iload_n 2, 1) := by decide +kernel
theorem dX3_belief_9 : decode cX3_belief 9 = .ok (.iconst 3, 1) := by decide +kernel
theorem dX3_belief_10 : decode cX3_belief 10 = .ok (.invokestatic 59, 3) := by decide +kernel
theorem dX3_belief_13 : decode cX3_belief 13 = .ok (.ifCond .ne 5, 3) := by decide +kernel
theorem dX3_belief_16 : decode cX3_belief 16 = .ok (.iconst (-1), 1) := by decide +kernel
theorem dX3_belief_17 : decode cX3_belief 17 = .ok (.ireturn, 1) := by decide +kernel
theorem dX3_belief_18 : decode cX3_belief 18 = .ok (.aload_n 0, 1) := by decide +kernel
theorem dX3_belief_19 : decode cX3_belief 19 = .ok (.getfield 12, 3) := by decide +kernel
theorem dX3_belief_22 : decode cX3_belief 22 = .ok (.iload_n 1, 1) := by decide +kernel
theorem dX3_belief_23 : decode cX3_belief 23 = .ok (.iload_n 2, 1) := by decide +kernel
theorem dX3_belief_24 : decode cX3_belief 24 = .ok (.invokevirtual 119, 3) := by decide +kernel
theorem dX3_belief_27 : decode cX3_belief 27 = .ok (.istore 4, 2) := by decide +kernel
theorem dX3_belief_29 : decode cX3_belief 29 = .ok (.aload_n 0, 1) := by decide +kernel
theorem dX3_belief_30 : decode cX3_belief 30 = .ok (.getfield 12, 3) := by decide +kernel
theorem dX3_belief_33 : decode cX3_belief 33 = .ok (.iload_n 1, 1) := by decide +kernel
theorem dX3_belief_34 : decode cX3_belief 34 = .ok (.invokevirtual 122, 3) := by decide +kernel
theorem dX3_belief_37 : decode cX3_belief 37 = .ok (.istore 5, 2) := by decide +kernel
theorem dX3_belief_39 : decode cX3_belief 39 = .ok (.iload_n 3, 1) := by decide +kernel
theorem dX3_belief_40 : decode cX3_belief 40 = .ok (.lookupswitch 48 #[(0, 28), (1, 38)], 28) := by decide +kernel
theorem dX3_belief_68 : decode cX3_belief 68 = .ok (.iload 4, 2) := by decide +kernel
theorem dX3_belief_70 : decode cX3_belief 70 = .ok (.iload 4, 2) := by decide +kernel
theorem dX3_belief_72 : decode cX3_belief 72 = .ok (.iload 5, 2) := by decide +kernel
theorem dX3_belief_74 : decode cX3_belief 74 = .ok (.invokestatic 125, 3) := by decide +kernel
theorem dX3_belief_77 : decode cX3_belief 77 = .ok (.ireturn, 1) := by decide +kernel
theorem dX3_belief_78 : decode cX3_belief 78 = .ok (.iload 5, 2) := by decide +kernel
theorem dX3_belief_80 : decode cX3_belief 80 = .ok (.iload 4, 2) := by decide +kernel
theorem dX3_belief_82 : decode cX3_belief 82 = .ok (.iload 5, 2) := by decide +kernel
theorem dX3_belief_84 : decode cX3_belief 84 = .ok (.invokestatic 125, 3) := by decide +kernel
theorem dX3_belief_87 : decode cX3_belief 87 = .ok (.ireturn, 1) := by decide +kernel
theorem dX3_belief_88 : decode cX3_belief 88 = .ok (.bipush (-2), 2) := by decide +kernel
theorem dX3_belief_90 : decode cX3_belief 90 = .ok (.ireturn, 1) := by decide +kernel
theorem dX3_mean_0 : decode cX3_mean 0 = .ok (.iload_n 1, 1) := by decide +kernel
theorem dX3_mean_1 : decode cX3_mean 1 = .ok (.iconst 3, 1) := by decide +kernel
theorem dX3_mean_2 : decode cX3_mean 2 = .ok (.invokestatic 59, 3) := by decide +kernel
theorem dX3_mean_5 : decode cX3_mean 5 = .ok (.ifCond .eq 11, 3) := by decide +kernel
theorem dX3_mean_8 : decode cX3_mean 8 = .ok (.iload_n 2, 1) := by decide +kernel
theorem dX3_mean_9 : decode cX3_mean 9 = .ok (.iconst 3, 1) := by decide +kernel
theorem dX3_mean_10 : decode cX3_mean 10 = .ok (.invokestatic 59, 3) := by decide +kernel
theorem dX3_mean_13 : decode cX3_mean 13 = .ok (.ifCond .ne 5, 3) := by decide +kernel
theorem dX3_mean_16 : decode cX3_mean 16 = .ok (.iconst (-1), 1) := by decide +kernel
theorem dX3_mean_17 : decode cX3_mean 17 = .ok (.ireturn, 1) := by decide +kernel
theorem dX3_mean_18 : decode cX3_mean 18 = .ok (.aload_n 0, 1) := by decide +kernel
theorem dX3_mean_19 : decode cX3_mean 19 = .ok (.getfield 12, 3) := by decide +kernel
theorem dX3_mean_22 : decode cX3_mean 22 = .ok (.iload_n 1, 1) := by decide +kernel
theorem dX3_mean_23 : decode cX3_mean 23 = .ok (.iload_n 2, 1) := by decide +kernel
theorem dX3_mean_24 : decode cX3_mean 24 = .ok (.invokevirtual 128, 3) := by decide +kernel
theorem dX3_mean_27 : decode cX3_mean 27 = .ok (.istore 4, 2) := by decide +kernel
theorem dX3_mean_29 : decode cX3_mean 29 = .ok (.aload_n 0, 1) := by decide +kernel
theorem dX3_mean_30 : decode cX3_mean 30 = .ok (.getfield 12, 3) := by decide +kernel
theorem dX3_mean_33 : decode cX3_mean 33 = .ok (.iload_n 1, 1) := by decide +kernel
theorem dX3_mean_34 : decode cX3_mean 34 = .ok (.invokevirtual 122, 3) := by decide +kernel
theorem dX3_mean_37 : decode cX3_mean 37 = .ok (.istore 5, 2) := by decide +kernel
theorem dX3_mean_39 : decode cX3_mean 39 = .ok (.iload_n 3, 1) := by decide +kernel
theorem dX3_mean_40 : decode cX3_mean 40 = .ok (.lookupswitch 52 #[(0, 28), (1, 42)], 28) := by decide +kernel
theorem dX3_mean_68 : decode cX3_mean 68 = .ok (.iload 4, 2) := by decide +kernel
theorem dX3_mean_70 : decode cX3_mean 70 = .ok (.iload 4, 2) := by decide +kernel
theorem dX3_mean_72 : decode cX3_mean 72 = .ok (.iload 5, 2) := by decide +kernel
theorem dX3_mean_74 : decode cX3_mean 74 = .ok (.invokestatic 125, 3) := by decide +kernel
theorem dX3_mean_77 : decode cX3_mean 77 = .ok (.sipush 1000, 3) := by decide +kernel
theorem dX3_mean_80 : decode cX3_mean 80 = .ok (.iadd, 1) := by decide +kernel
theorem dX3_mean_81 : decode cX3_mean 81 = .ok (.ireturn, 1) := by decide +kernel
theorem dX3_mean_82 : decode cX3_mean 82 = .ok (.iload 5, 2) := by decide +kernel
theorem dX3_mean_84 : decode cX3_mean 84 = .ok (.iload 4, 2) := by decide +kernel
theorem dX3_mean_86 : decode cX3_mean 86 = .ok (.iload 5, 2) := by decide +kernel
theorem dX3_mean_88 : decode cX3_mean 88 = .ok (.invokestatic 125, 3) := by decide +kernel
theorem dX3_mean_91 : decode cX3_mean 91 = .ok (.ireturn, 1) := by decide +kernel
theorem dX3_mean_92 : decode cX3_mean 92 = .ok (.bipush (-2), 2) := by decide +kernel
theorem dX3_mean_94 : decode cX3_mean 94 = .ok (.ireturn, 1) := by decide +kernel
theorem dX3_why_0 : decode cX3_why 0 = .ok (.iload_n 1, 1) := by decide +kernel
theorem dX3_why_1 : decode cX3_why 1 = .ok (.ifCond .eq 11, 3) := by decide +kernel
theorem dX3_why_4 : decode cX3_why 4 = .ok (.iload_n 1, 1) := by decide +kernel
theorem dX3_why_5 : decode cX3_why 5 = .ok (.iconst 1, 1) := by decide +kernel
theorem dX3_why_6 : decode cX3_why 6 = .ok (.if_icmp .eq 6, 3) := by decide +kernel
theorem dX3_why_9 : decode cX3_why 9 = .ok (.bipush (-2), 2) := by decide +kernel
theorem dX3_why_11 : decode cX3_why 11 = .ok (.ireturn, 1) := by decide +kernel
theorem dX3_why_12 : decode cX3_why 12 = .ok (.aload_n 0, 1) := by decide +kernel
theorem dX3_why_13 : decode cX3_why 13 = .ok (.getfield 12, 3) := by decide +kernel
theorem dX3_why_16 : decode cX3_why 16 = .ok (.invokevirtual 131, 3) := by decide +kernel
theorem dX3_why_19 : decode cX3_why 19 = .ok (.istore_n 2, 1) := by decide +kernel
theorem dX3_why_20 : decode cX3_why 20 = .ok (.iload_n 2, 1) := by decide +kernel
theorem dX3_why_21 : decode cX3_why 21 = .ok (.bipush (-6), 2) := by decide +kernel
theorem dX3_why_23 : decode cX3_why 23 = .ok (.if_icmp .eq 13, 3) := by decide +kernel
theorem dX3_why_26 : decode cX3_why 26 = .ok (.iload_n 1, 1) := by decide +kernel
theorem dX3_why_27 : decode cX3_why 27 = .ok (.ifCond .ne 7, 3) := by decide +kernel
theorem dX3_why_30 : decode cX3_why 30 = .ok (.iconst 1, 1) := by decide +kernel
theorem dX3_why_31 : decode cX3_why 31 = .ok (.goto 4, 3) := by decide +kernel
theorem dX3_why_34 : decode cX3_why 34 = .ok (.iload_n 2, 1) := by decide +kernel
theorem dX3_why_35 : decode cX3_why 35 = .ok (.ireturn, 1) := by decide +kernel
theorem dX3_why_36 : decode cX3_why 36 = .ok (.aload_n 0, 1) := by decide +kernel
theorem dX3_why_37 : decode cX3_why 37 = .ok (.getfield 12, 3) := by decide +kernel
theorem dX3_why_40 : decode cX3_why 40 = .ok (.invokevirtual 134, 3) := by decide +kernel
theorem dX3_why_43 : decode cX3_why 43 = .ok (.istore_n 3, 1) := by decide +kernel
theorem dX3_why_44 : decode cX3_why 44 = .ok (.iload_n 3, 1) := by decide +kernel
theorem dX3_why_45 : decode cX3_why 45 = .ok (.bipush (-6), 2) := by decide +kernel
theorem dX3_why_47 : decode cX3_why 47 = .ok (.if_icmp .eq 13, 3) := by decide +kernel
theorem dX3_why_50 : decode cX3_why 50 = .ok (.iload_n 1, 1) := by decide +kernel
theorem dX3_why_51 : decode cX3_why 51 = .ok (.ifCond .ne 7, 3) := by decide +kernel
theorem dX3_why_54 : decode cX3_why 54 = .ok (.iconst 2, 1) := by decide +kernel
theorem dX3_why_55 : decode cX3_why 55 = .ok (.goto 4, 3) := by decide +kernel
theorem dX3_why_58 : decode cX3_why 58 = .ok (.iload_n 3, 1) := by decide +kernel
theorem dX3_why_59 : decode cX3_why 59 = .ok (.ireturn, 1) := by decide +kernel
theorem dX3_why_60 : decode cX3_why 60 = .ok (.iload_n 1, 1) := by decide +kernel
theorem dX3_why_61 : decode cX3_why 61 = .ok (.ifCond .ne 7, 3) := by decide +kernel
theorem dX3_why_64 : decode cX3_why 64 = .ok (.iconst 0, 1) := by decide +kernel
theorem dX3_why_65 : decode cX3_why 65 = .ok (.goto 5, 3) := by decide +kernel
theorem dX3_why_68 : decode cX3_why 68 = .ok (.bipush (-6), 2) := by decide +kernel
theorem dX3_why_70 : decode cX3_why 70 = .ok (.ireturn, 1) := by decide +kernel
theorem dX3_count_0 : decode cX3_count 0 = .ok (.iload_n 1, 1) := by decide +kernel
theorem dX3_count_1 : decode cX3_count 1 = .ok (.tableswitch 134 0 7 #[47, 63, 71, 97, 105, 113, 121, 129], 47) := by decide +kernel
theorem dX3_count_48 : decode cX3_count 48 = .ok (.aload_n 0, 1) := by decide +kernel
theorem dX3_count_49 : decode cX3_count 49 = .ok (.getfield 12, 3) := by decide +kernel
theorem dX3_count_52 : decode cX3_count 52 = .ok (.invokevirtual 137, 3) := by decide +kernel
theorem dX3_count_55 : decode cX3_count 55 = .ok (.ifCond .eq 7, 3) := by decide +kernel
theorem dX3_count_58 : decode cX3_count 58 = .ok (.iconst 1, 1) := by decide +kernel
theorem dX3_count_59 : decode cX3_count 59 = .ok (.goto 4, 3) := by decide +kernel
theorem dX3_count_62 : decode cX3_count 62 = .ok (.iconst 0, 1) := by decide +kernel
theorem dX3_count_63 : decode cX3_count 63 = .ok (.ireturn, 1) := by decide +kernel
theorem dX3_count_64 : decode cX3_count 64 = .ok (.aload_n 0, 1) := by decide +kernel
theorem dX3_count_65 : decode cX3_count 65 = .ok (.getfield 12, 3) := by decide +kernel
theorem dX3_count_68 : decode cX3_count 68 = .ok (.invokevirtual 141, 3) := by decide +kernel
theorem dX3_count_71 : decode cX3_count 71 = .ok (.ireturn, 1) := by decide +kernel
theorem dX3_count_72 : decode cX3_count 72 = .ok (.aload_n 0, 1) := by decide +kernel
theorem dX3_count_73 : decode cX3_count 73 = .ok (.getfield 12, 3) := by decide +kernel
theorem dX3_count_76 : decode cX3_count 76 = .ok (.invokevirtual 137, 3) := by decide +kernel
theorem dX3_count_79 : decode cX3_count 79 = .ok (.ifCond .eq 17, 3) := by decide +kernel
theorem dX3_count_82 : decode cX3_count 82 = .ok (.aload_n 0, 1) := by decide +kernel
theorem dX3_count_83 : decode cX3_count 83 = .ok (.getfield 12, 3) := by decide +kernel
theorem dX3_count_86 : decode cX3_count 86 = .ok (.invokevirtual 144, 3) := by decide +kernel
theorem dX3_count_89 : decode cX3_count 89 = .ok (.ifCond .eq 7, 3) := by decide +kernel
theorem dX3_count_92 : decode cX3_count 92 = .ok (.iconst 1, 1) := by decide +kernel
theorem dX3_count_93 : decode cX3_count 93 = .ok (.goto 4, 3) := by decide +kernel
theorem dX3_count_96 : decode cX3_count 96 = .ok (.iconst 0, 1) := by decide +kernel
theorem dX3_count_97 : decode cX3_count 97 = .ok (.ireturn, 1) := by decide +kernel
theorem dX3_count_98 : decode cX3_count 98 = .ok (.aload_n 0, 1) := by decide +kernel
theorem dX3_count_99 : decode cX3_count 99 = .ok (.getfield 12, 3) := by decide +kernel
theorem dX3_count_102 : decode cX3_count 102 = .ok (.invokevirtual 112, 3) := by decide +kernel
theorem dX3_count_105 : decode cX3_count 105 = .ok (.ireturn, 1) := by decide +kernel
theorem dX3_count_106 : decode cX3_count 106 = .ok (.aload_n 0, 1) := by decide +kernel
theorem dX3_count_107 : decode cX3_count 107 = .ok (.getfield 12, 3) := by decide +kernel
theorem dX3_count_110 : decode cX3_count 110 = .ok (.invokevirtual 147, 3) := by decide +kernel
theorem dX3_count_113 : decode cX3_count 113 = .ok (.ireturn, 1) := by decide +kernel
theorem dX3_count_114 : decode cX3_count 114 = .ok (.aload_n 0, 1) := by decide +kernel
theorem dX3_count_115 : decode cX3_count 115 = .ok (.getfield 12, 3) := by decide +kernel
theorem dX3_count_118 : decode cX3_count 118 = .ok (.invokevirtual 150, 3) := by decide +kernel
theorem dX3_count_121 : decode cX3_count 121 = .ok (.ireturn, 1) := by decide +kernel
theorem dX3_count_122 : decode cX3_count 122 = .ok (.aload_n 0, 1) := by decide +kernel
theorem dX3_count_123 : decode cX3_count 123 = .ok (.getfield 26, 3) := by decide +kernel
theorem dX3_count_126 : decode cX3_count 126 = .ok (.invokevirtual 153, 3) := by decide +kernel
theorem dX3_count_129 : decode cX3_count 129 = .ok (.ireturn, 1) := by decide +kernel
theorem dX3_count_130 : decode cX3_count 130 = .ok (.aload_n 0, 1) := by decide +kernel
theorem dX3_count_131 : decode cX3_count 131 = .ok (.getfield 41, 3) := by decide +kernel
theorem dX3_count_134 : decode cX3_count 134 = .ok (.ireturn, 1) := by decide +kernel
theorem dX3_count_135 : decode cX3_count 135 = .ok (.bipush (-2), 2) := by decide +kernel
theorem dX3_count_137 : decode cX3_count 137 = .ok (.ireturn, 1) := by decide +kernel
theorem dX3_plans_0 : decode cX3_plans 0 = .ok (.iload_n 1, 1) := by decide +kernel
theorem dX3_plans_1 : decode cX3_plans 1 = .ok (.iconst 5, 1) := by decide +kernel
theorem dX3_plans_2 : decode cX3_plans 2 = .ok (.invokestatic 59, 3) := by decide +kernel
theorem dX3_plans_5 : decode cX3_plans 5 = .ok (.ifCond .ne 6, 3) := by decide +kernel
theorem dX3_plans_8 : decode cX3_plans 8 = .ok (.bipush (-2), 2) := by decide +kernel
theorem dX3_plans_10 : decode cX3_plans 10 = .ok (.ireturn, 1) := by decide +kernel
theorem dX3_plans_11 : decode cX3_plans 11 = .ok (.aload_n 0, 1) := by decide +kernel
theorem dX3_plans_12 : decode cX3_plans 12 = .ok (.getfield 19, 3) := by decide +kernel
theorem dX3_plans_15 : decode cX3_plans 15 = .ok (.aload_n 0, 1) := by decide +kernel
theorem dX3_plans_16 : decode cX3_plans 16 = .ok (.getfield 12, 3) := by decide +kernel
theorem dX3_plans_19 : decode cX3_plans 19 = .ok (.iload_n 1, 1) := by decide +kernel
theorem dX3_plans_20 : decode cX3_plans 20 = .ok (.invokevirtual 80, 3) := by decide +kernel
theorem dX3_plans_23 : decode cX3_plans 23 = .ok (.ireturn, 1) := by decide +kernel
theorem dX3_planAt_0 : decode cX3_planAt 0 = .ok (.iload_n 1, 1) := by decide +kernel
theorem dX3_planAt_1 : decode cX3_planAt 1 = .ok (.aload_n 0, 1) := by decide +kernel
theorem dX3_planAt_2 : decode cX3_planAt 2 = .ok (.getfield 19, 3) := by decide +kernel
theorem dX3_planAt_5 : decode cX3_planAt 5 = .ok (.aload_n 0, 1) := by decide +kernel
theorem dX3_planAt_6 : decode cX3_planAt 6 = .ok (.getfield 12, 3) := by decide +kernel
theorem dX3_planAt_9 : decode cX3_planAt 9 = .ok (.iconst 0, 1) := by decide +kernel
theorem dX3_planAt_10 : decode cX3_planAt 10 = .ok (.invokevirtual 80, 3) := by decide +kernel
theorem dX3_planAt_13 : decode cX3_planAt 13 = .ok (.invokestatic 59, 3) := by decide +kernel
theorem dX3_planAt_16 : decode cX3_planAt 16 = .ok (.ifCond .ne 5, 3) := by decide +kernel
theorem dX3_planAt_19 : decode cX3_planAt 19 = .ok (.iconst (-1), 1) := by decide +kernel
theorem dX3_planAt_20 : decode cX3_planAt 20 = .ok (.ireturn, 1) := by decide +kernel
theorem dX3_planAt_21 : decode cX3_planAt 21 = .ok (.aload_n 0, 1) := by decide +kernel
theorem dX3_planAt_22 : decode cX3_planAt 22 = .ok (.getfield 19, 3) := by decide +kernel
theorem dX3_planAt_25 : decode cX3_planAt 25 = .ok (.iload_n 1, 1) := by decide +kernel
theorem dX3_planAt_26 : decode cX3_planAt 26 = .ok (.invokevirtual 84, 3) := by decide +kernel
theorem dX3_planAt_29 : decode cX3_planAt 29 = .ok (.ireturn, 1) := by decide +kernel
theorem dX3_bestAnswer_0 : decode cX3_bestAnswer 0 = .ok (.iload_n 1, 1) := by decide +kernel
theorem dX3_bestAnswer_1 : decode cX3_bestAnswer 1 = .ok (.iconst 3, 1) := by decide +kernel
theorem dX3_bestAnswer_2 : decode cX3_bestAnswer 2 = .ok (.invokestatic 59, 3) := by decide +kernel
theorem dX3_bestAnswer_5 : decode cX3_bestAnswer 5 = .ok (.ifCond .ne 5, 3) := by decide +kernel
theorem dX3_bestAnswer_8 : decode cX3_bestAnswer 8 = .ok (.iconst (-1), 1) := by decide +kernel
theorem dX3_bestAnswer_9 : decode cX3_bestAnswer 9 = .ok (.ireturn, 1) := by decide +kernel
theorem dX3_bestAnswer_10 : decode cX3_bestAnswer 10 = .ok (.aload_n 0, 1) := by decide +kernel
theorem dX3_bestAnswer_11 : decode cX3_bestAnswer 11 = .ok (.getfield 12, 3) := by decide +kernel
theorem dX3_bestAnswer_14 : decode cX3_bestAnswer 14 = .ok (.iload_n 1, 1) := by decide +kernel
theorem dX3_bestAnswer_15 : decode cX3_bestAnswer 15 = .ok (.invokevirtual 106, 3) := by decide +kernel
theorem dX3_bestAnswer_18 : decode cX3_bestAnswer 18 = .ok (.invokestatic 156, 3) := by decide +kernel
theorem dX3_bestAnswer_21 : decode cX3_bestAnswer 21 = .ok (.ireturn, 1) := by decide +kernel
theorem dX3_bestPlan_0 : decode cX3_bestPlan 0 = .ok (.iload_n 1, 1) := by decide +kernel
theorem dX3_bestPlan_1 : decode cX3_bestPlan 1 = .ok (.ifCond .eq 11, 3) := by decide +kernel
theorem dX3_bestPlan_4 : decode cX3_bestPlan 4 = .ok (.iload_n 1, 1) := by decide +kernel
theorem dX3_bestPlan_5 : decode cX3_bestPlan 5 = .ok (.iconst 1, 1) := by decide +kernel
theorem dX3_bestPlan_6 : decode cX3_bestPlan 6 = .ok (.if_icmp .eq 6, 3) := by decide +kernel
theorem dX3_bestPlan_9 : decode cX3_bestPlan 9 = .ok (.bipush (-2), 2) := by decide +kernel
theorem dX3_bestPlan_11 : decode cX3_bestPlan 11 = .ok (.ireturn, 1) := by decide +kernel
theorem dX3_bestPlan_12 : decode cX3_bestPlan 12 = .ok (.aload_n 0, 1) := by decide +kernel
theorem dX3_bestPlan_13 : decode cX3_bestPlan 13 = .ok (.getfield 19, 3) := by decide +kernel
theorem dX3_bestPlan_16 : decode cX3_bestPlan 16 = .ok (.aload_n 0, 1) := by decide +kernel
theorem dX3_bestPlan_17 : decode cX3_bestPlan 17 = .ok (.getfield 12, 3) := by decide +kernel
theorem dX3_bestPlan_20 : decode cX3_bestPlan 20 = .ok (.invokevirtual 159, 3) := by decide +kernel
theorem dX3_bestPlan_23 : decode cX3_bestPlan 23 = .ok (.istore_n 2, 1) := by decide +kernel
theorem dX3_bestPlan_24 : decode cX3_bestPlan 24 = .ok (.iload_n 2, 1) := by decide +kernel
theorem dX3_bestPlan_25 : decode cX3_bestPlan 25 = .ok (.bipush (-6), 2) := by decide +kernel
theorem dX3_bestPlan_27 : decode cX3_bestPlan 27 = .ok (.if_icmp .ne 6, 3) := by decide +kernel
theorem dX3_bestPlan_30 : decode cX3_bestPlan 30 = .ok (.bipush (-6), 2) := by decide +kernel
theorem dX3_bestPlan_32 : decode cX3_bestPlan 32 = .ok (.ireturn, 1) := by decide +kernel
theorem dX3_bestPlan_33 : decode cX3_bestPlan 33 = .ok (.iload_n 1, 1) := by decide +kernel
theorem dX3_bestPlan_34 : decode cX3_bestPlan 34 = .ok (.ifCond .ne 14, 3) := by decide +kernel
theorem dX3_bestPlan_37 : decode cX3_bestPlan 37 = .ok (.aload_n 0, 1) := by decide +kernel
theorem dX3_bestPlan_38 : decode cX3_bestPlan 38 = .ok (.getfield 19, 3) := by decide +kernel
theorem dX3_bestPlan_41 : decode cX3_bestPlan 41 = .ok (.iload_n 2, 1) := by decide +kernel
theorem dX3_bestPlan_42 : decode cX3_bestPlan 42 = .ok (.invokevirtual 84, 3) := by decide +kernel
theorem dX3_bestPlan_45 : decode cX3_bestPlan 45 = .ok (.goto 15, 3) := by decide +kernel
theorem dX3_bestPlan_48 : decode cX3_bestPlan 48 = .ok (.aload_n 0, 1) := by decide +kernel
theorem dX3_bestPlan_49 : decode cX3_bestPlan 49 = .ok (.getfield 19, 3) := by decide +kernel
theorem dX3_bestPlan_52 : decode cX3_bestPlan 52 = .ok (.iload_n 2, 1) := by decide +kernel
theorem dX3_bestPlan_53 : decode cX3_bestPlan 53 = .ok (.invokevirtual 163, 3) := by decide +kernel
theorem dX3_bestPlan_56 : decode cX3_bestPlan 56 = .ok (.sipush 1000, 3) := by decide +kernel
theorem dX3_bestPlan_59 : decode cX3_bestPlan 59 = .ok (.iadd, 1) := by decide +kernel
theorem dX3_bestPlan_60 : decode cX3_bestPlan 60 = .ok (.ireturn, 1) := by decide +kernel
theorem dX3_put_0 : decode cX3_put 0 = .ok (.lload_n 1, 1) := by decide +kernel
theorem dX3_put_1 : decode cX3_put 1 = .ok (.invokestatic 166, 3) := by decide +kernel
theorem dX3_put_4 : decode cX3_put 4 = .ok (.istore_n 3, 1) := by decide +kernel
theorem dX3_put_5 : decode cX3_put 5 = .ok (.iload_n 3, 1) := by decide +kernel
theorem dX3_put_6 : decode cX3_put 6 = .ok (.ifCond .ne 6, 3) := by decide +kernel
theorem dX3_put_9 : decode cX3_put 9 = .ok (.bipush (-2), 2) := by decide +kernel
theorem dX3_put_11 : decode cX3_put 11 = .ok (.ireturn, 1) := by decide +kernel
theorem dX3_put_12 : decode cX3_put 12 = .ok (.aload_n 0, 1) := by decide +kernel
theorem dX3_put_13 : decode cX3_put 13 = .ok (.getfield 26, 3) := by decide +kernel
theorem dX3_put_16 : decode cX3_put 16 = .ok (.invokevirtual 153, 3) := by decide +kernel
theorem dX3_put_19 : decode cX3_put 19 = .ok (.iload_n 3, 1) := by decide +kernel
theorem dX3_put_20 : decode cX3_put 20 = .ok (.iadd, 1) := by decide +kernel
theorem dX3_put_21 : decode cX3_put 21 = .ok (.bipush 80, 2) := by decide +kernel
theorem dX3_put_23 : decode cX3_put 23 = .ok (.if_icmp .le 6, 3) := by decide +kernel
theorem dX3_put_26 : decode cX3_put 26 = .ok (.bipush (-4), 2) := by decide +kernel
theorem dX3_put_28 : decode cX3_put 28 = .ok (.ireturn, 1) := by decide +kernel
theorem dX3_put_29 : decode cX3_put 29 = .ok (.iload_n 3, 1) := by decide +kernel
theorem dX3_put_30 : decode cX3_put 30 = .ok (.iconst 1, 1) := by decide +kernel
theorem dX3_put_31 : decode cX3_put 31 = .ok (.isub, 1) := by decide +kernel
theorem dX3_put_32 : decode cX3_put 32 = .ok (.istore 4, 2) := by decide +kernel
theorem dX3_put_34 : decode cX3_put 34 = .ok (.iload 4, 2) := by decide +kernel
theorem dX3_put_36 : decode cX3_put 36 = .ok (.ifCond .lt 22, 3) := by decide +kernel
theorem dX3_put_39 : decode cX3_put 39 = .ok (.aload_n 0, 1) := by decide +kernel
theorem dX3_put_40 : decode cX3_put 40 = .ok (.getfield 26, 3) := by decide +kernel
theorem dX3_put_43 : decode cX3_put 43 = .ok (.lload_n 1, 1) := by decide +kernel
theorem dX3_put_44 : decode cX3_put 44 = .ok (.iload 4, 2) := by decide +kernel
theorem dX3_put_46 : decode cX3_put 46 = .ok (.invokestatic 170, 3) := by decide +kernel
theorem dX3_put_49 : decode cX3_put 49 = .ok (.invokevirtual 174, 3) := by decide +kernel
theorem dX3_put_52 : decode cX3_put 52 = .ok (.iinc 4 (-1), 3) := by decide +kernel
theorem dX3_put_55 : decode cX3_put 55 = .ok (.goto (-21), 3) := by decide +kernel
theorem dX3_put_58 : decode cX3_put 58 = .ok (.aload_n 0, 1) := by decide +kernel
theorem dX3_put_59 : decode cX3_put 59 = .ok (.getfield 26, 3) := by decide +kernel
theorem dX3_put_62 : decode cX3_put 62 = .ok (.invokevirtual 153, 3) := by decide +kernel
theorem dX3_put_65 : decode cX3_put 65 = .ok (.ireturn, 1) := by decide +kernel
theorem dX3_wipe_0 : decode cX3_wipe 0 = .ok (.aload_n 0, 1) := by decide +kernel
theorem dX3_wipe_1 : decode cX3_wipe 1 = .ok (.getfield 26, 3) := by decide +kernel
theorem dX3_wipe_4 : decode cX3_wipe 4 = .ok (.invokevirtual 153, 3) := by decide +kernel
theorem dX3_wipe_7 : decode cX3_wipe 7 = .ok (.istore_n 1, 1) := by decide +kernel
theorem dX3_wipe_8 : decode cX3_wipe 8 = .ok (.aload_n 0, 1) := by decide +kernel
theorem dX3_wipe_9 : decode cX3_wipe 9 = .ok (.getfield 26, 3) := by decide +kernel
theorem dX3_wipe_12 : decode cX3_wipe 12 = .ok (.invokevirtual 177, 3) := by decide +kernel
theorem dX3_wipe_15 : decode cX3_wipe 15 = .ok (.iload_n 1, 1) := by decide +kernel
theorem dX3_wipe_16 : decode cX3_wipe 16 = .ok (.ireturn, 1) := by decide +kernel
theorem dX3_fault_0 : decode cX3_fault 0 = .ok (.aload_n 0, 1) := by decide +kernel
theorem dX3_fault_1 : decode cX3_fault 1 = .ok (.getfield 26, 3) := by decide +kernel
theorem dX3_fault_4 : decode cX3_fault 4 = .ok (.invokevirtual 180, 3) := by decide +kernel
theorem dX3_fault_7 : decode cX3_fault 7 = .ok (.ireturn, 1) := by decide +kernel
theorem dX3_carryOut_0 : decode cX3_carryOut 0 = .ok (.aload_n 0, 1) := by decide +kernel
theorem dX3_carryOut_1 : decode cX3_carryOut 1 = .ok (.getfield 26, 3) := by decide +kernel
theorem dX3_carryOut_4 : decode cX3_carryOut 4 = .ok (.invokevirtual 180, 3) := by decide +kernel
theorem dX3_carryOut_7 : decode cX3_carryOut 7 = .ok (.bipush (-6), 2) := by decide +kernel
theorem dX3_carryOut_9 : decode cX3_carryOut 9 = .ok (.if_icmp .eq 6, 3) := by decide +kernel
theorem dX3_carryOut_12 : decode cX3_carryOut 12 = .ok (.bipush (-3), 2) := by decide +kernel
theorem dX3_carryOut_14 : decode cX3_carryOut 14 = .ok (.ireturn, 1) := by decide +kernel
theorem dX3_carryOut_15 : decode cX3_carryOut 15 = .ok (.aload_n 0, 1) := by decide +kernel
theorem dX3_carryOut_16 : decode cX3_carryOut 16 = .ok (.invokevirtual 49, 3) := by decide +kernel
theorem dX3_carryOut_19 : decode cX3_carryOut 19 = .ok (.iconst 0, 1) := by decide +kernel
theorem dX3_carryOut_20 : decode cX3_carryOut 20 = .ok (.istore_n 1, 1) := by decide +kernel
theorem dX3_carryOut_21 : decode cX3_carryOut 21 = .ok (.iconst 0, 1) := by decide +kernel
theorem dX3_carryOut_22 : decode cX3_carryOut 22 = .ok (.istore_n 2, 1) := by decide +kernel
theorem dX3_carryOut_23 : decode cX3_carryOut 23 = .ok (.iload_n 1, 1) := by decide +kernel
theorem dX3_carryOut_24 : decode cX3_carryOut 24 = .ok (.bipush 80, 2) := by decide +kernel
theorem dX3_carryOut_26 : decode cX3_carryOut 26 = .ok (.if_icmp .ge 39, 3) := by decide +kernel
theorem dX3_carryOut_29 : decode cX3_carryOut 29 = .ok (.iload_n 2, 1) := by decide +kernel
theorem dX3_carryOut_30 : decode cX3_carryOut 30 = .ok (.aload_n 0, 1) := by decide +kernel
theorem dX3_carryOut_31 : decode cX3_carryOut 31 = .ok (.getfield 26, 3) := by decide +kernel
theorem dX3_carryOut_34 : decode cX3_carryOut 34 = .ok (.invokevirtual 153, 3) := by decide +kernel
theorem dX3_carryOut_37 : decode cX3_carryOut 37 = .ok (.if_icmp .ge 28, 3) := by decide +kernel
theorem dX3_carryOut_40 : decode cX3_carryOut 40 = .ok (.aload_n 0, 1) := by decide +kernel
theorem dX3_carryOut_41 : decode cX3_carryOut 41 = .ok (.iload_n 2, 1) := by decide +kernel
theorem dX3_carryOut_42 : decode cX3_carryOut 42 = .ok (.invokevirtual 183, 3) := by decide +kernel
theorem dX3_carryOut_45 : decode cX3_carryOut 45 = .ok (.ifCond .eq 20, 3) := by decide +kernel
theorem dX3_carryOut_48 : decode cX3_carryOut 48 = .ok (.iinc 1 1, 3) := by decide +kernel
theorem dX3_carryOut_51 : decode cX3_carryOut 51 = .ok (.aload_n 0, 1) := by decide +kernel
theorem dX3_carryOut_52 : decode cX3_carryOut 52 = .ok (.getfield 26, 3) := by decide +kernel
theorem dX3_carryOut_55 : decode cX3_carryOut 55 = .ok (.iload_n 2, 1) := by decide +kernel
theorem dX3_carryOut_56 : decode cX3_carryOut 56 = .ok (.invokevirtual 187, 3) := by decide +kernel
theorem dX3_carryOut_59 : decode cX3_carryOut 59 = .ok (.iconst 1, 1) := by decide +kernel
theorem dX3_carryOut_60 : decode cX3_carryOut 60 = .ok (.iadd, 1) := by decide +kernel
theorem dX3_carryOut_61 : decode cX3_carryOut 61 = .ok (.istore_n 2, 1) := by decide +kernel
theorem dX3_carryOut_62 : decode cX3_carryOut 62 = .ok (.goto (-39), 3) := by decide +kernel
theorem dX3_carryOut_65 : decode cX3_carryOut 65 = .ok (.aload_n 0, 1) := by decide +kernel
theorem dX3_carryOut_66 : decode cX3_carryOut 66 = .ok (.getfield 26, 3) := by decide +kernel
theorem dX3_carryOut_69 : decode cX3_carryOut 69 = .ok (.invokevirtual 177, 3) := by decide +kernel
theorem dX3_carryOut_72 : decode cX3_carryOut 72 = .ok (.iload_n 1, 1) := by decide +kernel
theorem dX3_carryOut_73 : decode cX3_carryOut 73 = .ok (.ireturn, 1) := by decide +kernel
theorem dX3_undo_0 : decode cX3_undo 0 = .ok (.aload_n 0, 1) := by decide +kernel
theorem dX3_undo_1 : decode cX3_undo 1 = .ok (.getfield 41, 3) := by decide +kernel
theorem dX3_undo_4 : decode cX3_undo 4 = .ok (.ifCond .gt 6, 3) := by decide +kernel
theorem dX3_undo_7 : decode cX3_undo 7 = .ok (.bipush (-5), 2) := by decide +kernel
theorem dX3_undo_9 : decode cX3_undo 9 = .ok (.ireturn, 1) := by decide +kernel
theorem dX3_undo_10 : decode cX3_undo 10 = .ok (.aload_n 0, 1) := by decide +kernel
theorem dX3_undo_11 : decode cX3_undo 11 = .ok (.dup, 1) := by decide +kernel
theorem dX3_undo_12 : decode cX3_undo 12 = .ok (.getfield 41, 3) := by decide +kernel
theorem dX3_undo_15 : decode cX3_undo 15 = .ok (.iconst 1, 1) := by decide +kernel
theorem dX3_undo_16 : decode cX3_undo 16 = .ok (.isub, 1) := by decide +kernel
theorem dX3_undo_17 : decode cX3_undo 17 = .ok (.putfield 41, 3) := by decide +kernel
theorem dX3_undo_20 : decode cX3_undo 20 = .ok (.aload_n 0, 1) := by decide +kernel
theorem dX3_undo_21 : decode cX3_undo 21 = .ok (.getfield 12, 3) := by decide +kernel
theorem dX3_undo_24 : decode cX3_undo 24 = .ok (.aload_n 0, 1) := by decide +kernel
theorem dX3_undo_25 : decode cX3_undo 25 = .ok (.getfield 30, 3) := by decide +kernel
theorem dX3_undo_28 : decode cX3_undo 28 = .ok (.aload_n 0, 1) := by decide +kernel
theorem dX3_undo_29 : decode cX3_undo 29 = .ok (.getfield 41, 3) := by decide +kernel
theorem dX3_undo_32 : decode cX3_undo 32 = .ok (.bipush 72, 2) := by decide +kernel
theorem dX3_undo_34 : decode cX3_undo 34 = .ok (.imul, 1) := by decide +kernel
theorem dX3_undo_35 : decode cX3_undo 35 = .ok (.invokevirtual 190, 3) := by decide +kernel
theorem dX3_undo_38 : decode cX3_undo 38 = .ok (.aload_n 0, 1) := by decide +kernel
theorem dX3_undo_39 : decode cX3_undo 39 = .ok (.getfield 41, 3) := by decide +kernel
theorem dX3_undo_42 : decode cX3_undo 42 = .ok (.ireturn, 1) := by decide +kernel
theorem dX3_save_0 : decode cX3_save 0 = .ok (.iload_n 1, 1) := by decide +kernel
theorem dX3_save_1 : decode cX3_save 1 = .ok (.aload_n 0, 1) := by decide +kernel
theorem dX3_save_2 : decode cX3_save 2 = .ok (.getfield 37, 3) := by decide +kernel
theorem dX3_save_5 : decode cX3_save 5 = .ok (.arraylength, 1) := by decide +kernel
theorem dX3_save_6 : decode cX3_save 6 = .ok (.invokestatic 59, 3) := by decide +kernel
theorem dX3_save_9 : decode cX3_save 9 = .ok (.ifCond .ne 6, 3) := by decide +kernel
theorem dX3_save_12 : decode cX3_save 12 = .ok (.bipush (-2), 2) := by decide +kernel
theorem dX3_save_14 : decode cX3_save 14 = .ok (.ireturn, 1) := by decide +kernel
theorem dX3_save_15 : decode cX3_save 15 = .ok (.aload_n 0, 1) := by decide +kernel
theorem dX3_save_16 : decode cX3_save 16 = .ok (.getfield 12, 3) := by decide +kernel
theorem dX3_save_19 : decode cX3_save 19 = .ok (.aload_n 0, 1) := by decide +kernel
theorem dX3_save_20 : decode cX3_save 20 = .ok (.getfield 34, 3) := by decide +kernel
theorem dX3_save_23 : decode cX3_save 23 = .ok (.iload_n 1, 1) := by decide +kernel
theorem dX3_save_24 : decode cX3_save 24 = .ok (.bipush 72, 2) := by decide +kernel
theorem dX3_save_26 : decode cX3_save 26 = .ok (.imul, 1) := by decide +kernel
theorem dX3_save_27 : decode cX3_save 27 = .ok (.invokevirtual 194, 3) := by decide +kernel
theorem dX3_save_30 : decode cX3_save 30 = .ok (.aload_n 0, 1) := by decide +kernel
theorem dX3_save_31 : decode cX3_save 31 = .ok (.getfield 37, 3) := by decide +kernel
theorem dX3_save_34 : decode cX3_save 34 = .ok (.iload_n 1, 1) := by decide +kernel
theorem dX3_save_35 : decode cX3_save 35 = .ok (.iconst 1, 1) := by decide +kernel
theorem dX3_save_36 : decode cX3_save 36 = .ok (.bastore, 1) := by decide +kernel
theorem dX3_save_37 : decode cX3_save 37 = .ok (.aload_n 0, 1) := by decide +kernel
theorem dX3_save_38 : decode cX3_save 38 = .ok (.getfield 12, 3) := by decide +kernel
theorem dX3_save_41 : decode cX3_save 41 = .ok (.invokevirtual 150, 3) := by decide +kernel
theorem dX3_save_44 : decode cX3_save 44 = .ok (.ireturn, 1) := by decide +kernel
theorem dX3_restore_0 : decode cX3_restore 0 = .ok (.iload_n 1, 1) := by decide +kernel
theorem dX3_restore_1 : decode cX3_restore 1 = .ok (.aload_n 0, 1) := by decide +kernel
theorem dX3_restore_2 : decode cX3_restore 2 = .ok (.getfield 37, 3) := by decide +kernel
theorem dX3_restore_5 : decode cX3_restore 5 = .ok (.arraylength, 1) := by decide +kernel
theorem dX3_restore_6 : decode cX3_restore 6 = .ok (.invokestatic 59, 3) := by decide +kernel
theorem dX3_restore_9 : decode cX3_restore 9 = .ok (.ifCond .ne 6, 3) := by decide +kernel
theorem dX3_restore_12 : decode cX3_restore 12 = .ok (.bipush (-2), 2) := by decide +kernel
theorem dX3_restore_14 : decode cX3_restore 14 = .ok (.ireturn, 1) := by decide +kernel
theorem dX3_restore_15 : decode cX3_restore 15 = .ok (.aload_n 0, 1) := by decide +kernel
theorem dX3_restore_16 : decode cX3_restore 16 = .ok (.getfield 37, 3) := by decide +kernel
theorem dX3_restore_19 : decode cX3_restore 19 = .ok (.iload_n 1, 1) := by decide +kernel
theorem dX3_restore_20 : decode cX3_restore 20 = .ok (.baload, 1) := by decide +kernel
theorem dX3_restore_21 : decode cX3_restore 21 = .ok (.ifCond .ne 6, 3) := by decide +kernel
theorem dX3_restore_24 : decode cX3_restore 24 = .ok (.bipush (-5), 2) := by decide +kernel
theorem dX3_restore_26 : decode cX3_restore 26 = .ok (.ireturn, 1) := by decide +kernel
theorem dX3_restore_27 : decode cX3_restore 27 = .ok (.aload_n 0, 1) := by decide +kernel
theorem dX3_restore_28 : decode cX3_restore 28 = .ok (.invokevirtual 49, 3) := by decide +kernel
theorem dX3_restore_31 : decode cX3_restore 31 = .ok (.aload_n 0, 1) := by decide +kernel
theorem dX3_restore_32 : decode cX3_restore 32 = .ok (.getfield 12, 3) := by decide +kernel
theorem dX3_restore_35 : decode cX3_restore 35 = .ok (.aload_n 0, 1) := by decide +kernel
theorem dX3_restore_36 : decode cX3_restore 36 = .ok (.getfield 34, 3) := by decide +kernel
theorem dX3_restore_39 : decode cX3_restore 39 = .ok (.iload_n 1, 1) := by decide +kernel
theorem dX3_restore_40 : decode cX3_restore 40 = .ok (.bipush 72, 2) := by decide +kernel
theorem dX3_restore_42 : decode cX3_restore 42 = .ok (.imul, 1) := by decide +kernel
theorem dX3_restore_43 : decode cX3_restore 43 = .ok (.invokevirtual 190, 3) := by decide +kernel
theorem dX3_restore_46 : decode cX3_restore 46 = .ok (.aload_n 0, 1) := by decide +kernel
theorem dX3_restore_47 : decode cX3_restore 47 = .ok (.getfield 12, 3) := by decide +kernel
theorem dX3_restore_50 : decode cX3_restore 50 = .ok (.invokevirtual 150, 3) := by decide +kernel
theorem dX3_restore_53 : decode cX3_restore 53 = .ok (.ireturn, 1) := by decide +kernel
theorem dX3_isWithin_0 : decode cX3_isWithin 0 = .ok (.iload_n 0, 1) := by decide +kernel
theorem dX3_isWithin_1 : decode cX3_isWithin 1 = .ok (.ifCond .lt 12, 3) := by decide +kernel
theorem dX3_isWithin_4 : decode cX3_isWithin 4 = .ok (.iload_n 0, 1) := by decide +kernel
theorem dX3_isWithin_5 : decode cX3_isWithin 5 = .ok (.iload_n 1, 1) := by decide +kernel
theorem dX3_isWithin_6 : decode cX3_isWithin 6 = .ok (.if_icmp .ge 7, 3) := by decide +kernel
theorem dX3_isWithin_9 : decode cX3_isWithin 9 = .ok (.iconst 1, 1) := by decide +kernel
theorem dX3_isWithin_10 : decode cX3_isWithin 10 = .ok (.goto 4, 3) := by decide +kernel
theorem dX3_isWithin_13 : decode cX3_isWithin 13 = .ok (.iconst 0, 1) := by decide +kernel
theorem dX3_isWithin_14 : decode cX3_isWithin 14 = .ok (.ireturn, 1) := by decide +kernel
theorem dX3_has_0 : decode cX3_has 0 = .ok (.iload_n 0, 1) := by decide +kernel
theorem dX3_has_1 : decode cX3_has 1 = .ok (.iload_n 1, 1) := by decide +kernel
theorem dX3_has_2 : decode cX3_has 2 = .ok (.ishr, 1) := by decide +kernel
theorem dX3_has_3 : decode cX3_has 3 = .ok (.iconst 1, 1) := by decide +kernel
theorem dX3_has_4 : decode cX3_has 4 = .ok (.iand, 1) := by decide +kernel
theorem dX3_has_5 : decode cX3_has 5 = .ok (.iconst 1, 1) := by decide +kernel
theorem dX3_has_6 : decode cX3_has 6 = .ok (.if_icmp .ne 7, 3) := by decide +kernel
theorem dX3_has_9 : decode cX3_has 9 = .ok (.iconst 1, 1) := by decide +kernel
theorem dX3_has_10 : decode cX3_has 10 = .ok (.goto 4, 3) := by decide +kernel
theorem dX3_has_13 : decode cX3_has 13 = .ok (.iconst 0, 1) := by decide +kernel
theorem dX3_has_14 : decode cX3_has 14 = .ok (.ireturn, 1) := by decide +kernel
theorem dX3_lowestIn_0 : decode cX3_lowestIn 0 = .ok (.iconst 0, 1) := by decide +kernel
theorem dX3_lowestIn_1 : decode cX3_lowestIn 1 = .ok (.istore_n 1, 1) := by decide +kernel
theorem dX3_lowestIn_2 : decode cX3_lowestIn 2 = .ok (.iload_n 1, 1) := by decide +kernel
theorem dX3_lowestIn_3 : decode cX3_lowestIn 3 = .ok (.iconst 3, 1) := by decide +kernel
theorem dX3_lowestIn_4 : decode cX3_lowestIn 4 = .ok (.if_icmp .ge 19, 3) := by decide +kernel
theorem dX3_lowestIn_7 : decode cX3_lowestIn 7 = .ok (.iload_n 0, 1) := by decide +kernel
theorem dX3_lowestIn_8 : decode cX3_lowestIn 8 = .ok (.iload_n 1, 1) := by decide +kernel
theorem dX3_lowestIn_9 : decode cX3_lowestIn 9 = .ok (.invokestatic 197, 3) := by decide +kernel
theorem dX3_lowestIn_12 : decode cX3_lowestIn 12 = .ok (.ifCond .eq 5, 3) := by decide +kernel
theorem dX3_lowestIn_15 : decode cX3_lowestIn 15 = .ok (.iload_n 1, 1) := by decide +kernel
theorem dX3_lowestIn_16 : decode cX3_lowestIn 16 = .ok (.ireturn, 1) := by decide +kernel
theorem dX3_lowestIn_17 : decode cX3_lowestIn 17 = .ok (.iinc 1 1, 3) := by decide +kernel
theorem dX3_lowestIn_20 : decode cX3_lowestIn 20 = .ok (.goto (-18), 3) := by decide +kernel
theorem dX3_lowestIn_23 : decode cX3_lowestIn 23 = .ok (.bipush (-6), 2) := by decide +kernel
theorem dX3_lowestIn_25 : decode cX3_lowestIn 25 = .ok (.ireturn, 1) := by decide +kernel
theorem dX3_shortened_0 : decode cX3_shortened 0 = .ok (.iload_n 1, 1) := by decide +kernel
theorem dX3_shortened_1 : decode cX3_shortened 1 = .ok (.invokestatic 200, 3) := by decide +kernel
theorem dX3_shortened_4 : decode cX3_shortened 4 = .ok (.istore_n 3, 1) := by decide +kernel
theorem dX3_shortened_5 : decode cX3_shortened 5 = .ok (.iload_n 2, 1) := by decide +kernel
theorem dX3_shortened_6 : decode cX3_shortened 6 = .ok (.istore 4, 2) := by decide +kernel
theorem dX3_shortened_8 : decode cX3_shortened 8 = .ok (.iconst 0, 1) := by decide +kernel
theorem dX3_shortened_9 : decode cX3_shortened 9 = .ok (.istore 5, 2) := by decide +kernel
theorem dX3_shortened_11 : decode cX3_shortened 11 = .ok (.iload 5, 2) := by decide +kernel
theorem dX3_shortened_13 : decode cX3_shortened 13 = .ok (.bipush 100, 2) := by decide +kernel
theorem dX3_shortened_15 : decode cX3_shortened 15 = .ok (.if_icmp .ge 27, 3) := by decide +kernel
theorem dX3_shortened_18 : decode cX3_shortened 18 = .ok (.iload 4, 2) := by decide +kernel
theorem dX3_shortened_20 : decode cX3_shortened 20 = .ok (.ifCond .eq 22, 3) := by decide +kernel
theorem dX3_shortened_23 : decode cX3_shortened 23 = .ok (.iload_n 3, 1) := by decide +kernel
theorem dX3_shortened_24 : decode cX3_shortened 24 = .ok (.iload 4, 2) := by decide +kernel
theorem dX3_shortened_26 : decode cX3_shortened 26 = .ok (.irem, 1) := by decide +kernel
theorem dX3_shortened_27 : decode cX3_shortened 27 = .ok (.istore 6, 2) := by decide +kernel
theorem dX3_shortened_29 : decode cX3_shortened 29 = .ok (.iload 4, 2) := by decide +kernel
theorem dX3_shortened_31 : decode cX3_shortened 31 = .ok (.istore_n 3, 1) := by decide +kernel
theorem dX3_shortened_32 : decode cX3_shortened 32 = .ok (.iload 6, 2) := by decide +kernel
theorem dX3_shortened_34 : decode cX3_shortened 34 = .ok (.istore 4, 2) := by decide +kernel
theorem dX3_shortened_36 : decode cX3_shortened 36 = .ok (.iinc 5 1, 3) := by decide +kernel
theorem dX3_shortened_39 : decode cX3_shortened 39 = .ok (.goto (-28), 3) := by decide +kernel
theorem dX3_shortened_42 : decode cX3_shortened 42 = .ok (.iload_n 3, 1) := by decide +kernel
theorem dX3_shortened_43 : decode cX3_shortened 43 = .ok (.ifCond .ne 7, 3) := by decide +kernel
theorem dX3_shortened_46 : decode cX3_shortened 46 = .ok (.iload_n 0, 1) := by decide +kernel
theorem dX3_shortened_47 : decode cX3_shortened 47 = .ok (.goto 6, 3) := by decide +kernel
theorem dX3_shortened_50 : decode cX3_shortened 50 = .ok (.iload_n 0, 1) := by decide +kernel
theorem dX3_shortened_51 : decode cX3_shortened 51 = .ok (.iload_n 3, 1) := by decide +kernel
theorem dX3_shortened_52 : decode cX3_shortened 52 = .ok (.idiv, 1) := by decide +kernel
theorem dX3_shortened_53 : decode cX3_shortened 53 = .ok (.ireturn, 1) := by decide +kernel
theorem dX3_weightError_0 : decode cX3_weightError 0 = .ok (.iload_n 1, 1) := by decide +kernel
theorem dX3_weightError_1 : decode cX3_weightError 1 = .ok (.iconst 3, 1) := by decide +kernel
theorem dX3_weightError_2 : decode cX3_weightError 2 = .ok (.invokestatic 59, 3) := by decide +kernel
theorem dX3_weightError_5 : decode cX3_weightError 5 = .ok (.ifCond .ne 5, 3) := by decide +kernel
theorem dX3_weightError_8 : decode cX3_weightError 8 = .ok (.iconst (-1), 1) := by decide +kernel
theorem dX3_weightError_9 : decode cX3_weightError 9 = .ok (.ireturn, 1) := by decide +kernel
theorem dX3_weightError_10 : decode cX3_weightError 10 = .ok (.iload_n 2, 1) := by decide +kernel
theorem dX3_weightError_11 : decode cX3_weightError 11 = .ok (.ifCond .lt 9, 3) := by decide +kernel
theorem dX3_weightError_14 : decode cX3_weightError 14 = .ok (.iload_n 2, 1) := by decide +kernel
theorem dX3_weightError_15 : decode cX3_weightError 15 = .ok (.bipush 9, 2) := by decide +kernel
theorem dX3_weightError_17 : decode cX3_weightError 17 = .ok (.if_icmp .le 6, 3) := by decide +kernel
theorem dX3_weightError_20 : decode cX3_weightError 20 = .ok (.bipush (-2), 2) := by decide +kernel
theorem dX3_weightError_22 : decode cX3_weightError 22 = .ok (.ireturn, 1) := by decide +kernel
theorem dX3_weightError_23 : decode cX3_weightError 23 = .ok (.aload_n 0, 1) := by decide +kernel
theorem dX3_weightError_24 : decode cX3_weightError 24 = .ok (.getfield 12, 3) := by decide +kernel
theorem dX3_weightError_27 : decode cX3_weightError 27 = .ok (.invokevirtual 205, 3) := by decide +kernel
theorem dX3_weightError_30 : decode cX3_weightError 30 = .ok (.aload_n 0, 1) := by decide +kernel
theorem dX3_weightError_31 : decode cX3_weightError 31 = .ok (.getfield 12, 3) := by decide +kernel
theorem dX3_weightError_34 : decode cX3_weightError 34 = .ok (.iload_n 1, 1) := by decide +kernel
theorem dX3_weightError_35 : decode cX3_weightError 35 = .ok (.invokestatic 52, 3) := by decide +kernel
theorem dX3_weightError_38 : decode cX3_weightError 38 = .ok (.invokevirtual 91, 3) := by decide +kernel
theorem dX3_weightError_41 : decode cX3_weightError 41 = .ok (.isub, 1) := by decide +kernel
theorem dX3_weightError_42 : decode cX3_weightError 42 = .ok (.istore_n 3, 1) := by decide +kernel
theorem dX3_weightError_43 : decode cX3_weightError 43 = .ok (.iload_n 3, 1) := by decide +kernel
theorem dX3_weightError_44 : decode cX3_weightError 44 = .ok (.iload_n 2, 1) := by decide +kernel
theorem dX3_weightError_45 : decode cX3_weightError 45 = .ok (.iadd, 1) := by decide +kernel
theorem dX3_weightError_46 : decode cX3_weightError 46 = .ok (.ifCond .ne 8, 3) := by decide +kernel
theorem dX3_weightError_49 : decode cX3_weightError 49 = .ok (.bipush (-5), 2) := by decide +kernel
theorem dX3_weightError_51 : decode cX3_weightError 51 = .ok (.goto 4, 3) := by decide +kernel
theorem dX3_weightError_54 : decode cX3_weightError 54 = .ok (.iconst 0, 1) := by decide +kernel
theorem dX3_weightError_55 : decode cX3_weightError 55 = .ok (.ireturn, 1) := by decide +kernel
theorem dX3_beliefError_0 : decode cX3_beliefError 0 = .ok (.iload_n 1, 1) := by decide +kernel
theorem dX3_beliefError_1 : decode cX3_beliefError 1 = .ok (.iconst 3, 1) := by decide +kernel
theorem dX3_beliefError_2 : decode cX3_beliefError 2 = .ok (.invokestatic 59, 3) := by decide +kernel
theorem dX3_beliefError_5 : decode cX3_beliefError 5 = .ok (.ifCond .eq 11, 3) := by decide +kernel
theorem dX3_beliefError_8 : decode cX3_beliefError 8 = .ok (.iload_n 2, 1) := by decide +kernel
theorem dX3_beliefError_9 : decode cX3_beliefError 9 = .ok (.iconst 3, 1) := by decide +kernel
theorem dX3_beliefError_10 : decode cX3_beliefError 10 = .ok (.invokestatic 59, 3) := by decide +kernel
theorem dX3_beliefError_13 : decode cX3_beliefError 13 = .ok (.ifCond .ne 5, 3) := by decide +kernel
theorem dX3_beliefError_16 : decode cX3_beliefError 16 = .ok (.iconst (-1), 1) := by decide +kernel
theorem dX3_beliefError_17 : decode cX3_beliefError 17 = .ok (.ireturn, 1) := by decide +kernel
theorem dX3_beliefError_18 : decode cX3_beliefError 18 = .ok (.iload_n 3, 1) := by decide +kernel
theorem dX3_beliefError_19 : decode cX3_beliefError 19 = .ok (.ifCond .lt 9, 3) := by decide +kernel
theorem dX3_beliefError_22 : decode cX3_beliefError 22 = .ok (.iload_n 3, 1) := by decide +kernel
theorem dX3_beliefError_23 : decode cX3_beliefError 23 = .ok (.bipush 9, 2) := by decide +kernel
theorem dX3_beliefError_25 : decode cX3_beliefError 25 = .ok (.if_icmp .le 6, 3) := by decide +kernel
theorem dX3_beliefError_28 : decode cX3_beliefError 28 = .ok (.bipush (-2), 2) := by decide +kernel
theorem dX3_beliefError_30 : decode cX3_beliefError 30 = .ok (.ireturn, 1) := by decide +kernel
theorem dX3_beliefError_31 : decode cX3_beliefError 31 = .ok (.aload_n 0, 1) := by decide +kernel
theorem dX3_beliefError_32 : decode cX3_beliefError 32 = .ok (.getfield 12, 3) := by decide +kernel
theorem dX3_beliefError_35 : decode cX3_beliefError 35 = .ok (.iload_n 1, 1) := by decide +kernel
theorem dX3_beliefError_36 : decode cX3_beliefError 36 = .ok (.invokevirtual 208, 3) := by decide +kernel
theorem dX3_beliefError_39 : decode cX3_beliefError 39 = .ok (.aload_n 0, 1) := by decide +kernel
theorem dX3_beliefError_40 : decode cX3_beliefError 40 = .ok (.getfield 12, 3) := by decide +kernel
theorem dX3_beliefError_43 : decode cX3_beliefError 43 = .ok (.iload_n 1, 1) := by decide +kernel
theorem dX3_beliefError_44 : decode cX3_beliefError 44 = .ok (.iload_n 2, 1) := by decide +kernel
theorem dX3_beliefError_45 : decode cX3_beliefError 45 = .ok (.invokestatic 71, 3) := by decide +kernel
theorem dX3_beliefError_48 : decode cX3_beliefError 48 = .ok (.invokevirtual 91, 3) := by decide +kernel
theorem dX3_beliefError_51 : decode cX3_beliefError 51 = .ok (.isub, 1) := by decide +kernel
theorem dX3_beliefError_52 : decode cX3_beliefError 52 = .ok (.istore 4, 2) := by decide +kernel
theorem dX3_beliefError_54 : decode cX3_beliefError 54 = .ok (.iload 4, 2) := by decide +kernel
theorem dX3_beliefError_56 : decode cX3_beliefError 56 = .ok (.iload_n 3, 1) := by decide +kernel
theorem dX3_beliefError_57 : decode cX3_beliefError 57 = .ok (.iadd, 1) := by decide +kernel
theorem dX3_beliefError_58 : decode cX3_beliefError 58 = .ok (.ifCond .ne 8, 3) := by decide +kernel
theorem dX3_beliefError_61 : decode cX3_beliefError 61 = .ok (.bipush (-5), 2) := by decide +kernel
theorem dX3_beliefError_63 : decode cX3_beliefError 63 = .ok (.goto 4, 3) := by decide +kernel
theorem dX3_beliefError_66 : decode cX3_beliefError 66 = .ok (.iconst 0, 1) := by decide +kernel
theorem dX3_beliefError_67 : decode cX3_beliefError 67 = .ok (.ireturn, 1) := by decide +kernel
theorem dX3_record_0 : decode cX3_record 0 = .ok (.aload_n 0, 1) := by decide +kernel
theorem dX3_record_1 : decode cX3_record 1 = .ok (.getfield 41, 3) := by decide +kernel
theorem dX3_record_4 : decode cX3_record 4 = .ok (.bipush 6, 2) := by decide +kernel
theorem dX3_record_6 : decode cX3_record 6 = .ok (.if_icmp .lt 25, 3) := by decide +kernel
theorem dX3_record_9 : decode cX3_record 9 = .ok (.aload_n 0, 1) := by decide +kernel
theorem dX3_record_10 : decode cX3_record 10 = .ok (.getfield 30, 3) := by decide +kernel
theorem dX3_record_13 : decode cX3_record 13 = .ok (.bipush 72, 2) := by decide +kernel
theorem dX3_record_15 : decode cX3_record 15 = .ok (.aload_n 0, 1) := by decide +kernel
theorem dX3_record_16 : decode cX3_record 16 = .ok (.getfield 30, 3) := by decide +kernel
theorem dX3_record_19 : decode cX3_record 19 = .ok (.iconst 0, 1) := by decide +kernel
theorem dX3_record_20 : decode cX3_record 20 = .ok (.sipush 360, 3) := by decide +kernel
theorem dX3_record_23 : decode cX3_record 23 = .ok (.invokestatic 211, 3) := by decide +kernel
theorem dX3_record_26 : decode cX3_record 26 = .ok (.aload_n 0, 1) := by decide +kernel
theorem dX3_record_27 : decode cX3_record 27 = .ok (.iconst 5, 1) := by decide +kernel
theorem dX3_record_28 : decode cX3_record 28 = .ok (.putfield 41, 3) := by decide +kernel
theorem dX3_record_31 : decode cX3_record 31 = .ok (.aload_n 0, 1) := by decide +kernel
theorem dX3_record_32 : decode cX3_record 32 = .ok (.getfield 12, 3) := by decide +kernel
theorem dX3_record_35 : decode cX3_record 35 = .ok (.aload_n 0, 1) := by decide +kernel
theorem dX3_record_36 : decode cX3_record 36 = .ok (.getfield 30, 3) := by decide +kernel
theorem dX3_record_39 : decode cX3_record 39 = .ok (.aload_n 0, 1) := by decide +kernel
theorem dX3_record_40 : decode cX3_record 40 = .ok (.getfield 41, 3) := by decide +kernel
theorem dX3_record_43 : decode cX3_record 43 = .ok (.bipush 72, 2) := by decide +kernel
theorem dX3_record_45 : decode cX3_record 45 = .ok (.imul, 1) := by decide +kernel
theorem dX3_record_46 : decode cX3_record 46 = .ok (.invokevirtual 194, 3) := by decide +kernel
theorem dX3_record_49 : decode cX3_record 49 = .ok (.aload_n 0, 1) := by decide +kernel
theorem dX3_record_50 : decode cX3_record 50 = .ok (.dup, 1) := by decide +kernel
theorem dX3_record_51 : decode cX3_record 51 = .ok (.getfield 41, 3) := by decide +kernel
theorem dX3_record_54 : decode cX3_record 54 = .ok (.iconst 1, 1) := by decide +kernel
theorem dX3_record_55 : decode cX3_record 55 = .ok (.iadd, 1) := by decide +kernel
theorem dX3_record_56 : decode cX3_record 56 = .ok (.putfield 41, 3) := by decide +kernel
theorem dX3_record_59 : decode cX3_record 59 = .ok (.return_, 1) := by decide +kernel
theorem dX3_charactersIn_0 : decode cX3_charactersIn 0 = .ok (.iconst 0, 1) := by decide +kernel
theorem dX3_charactersIn_1 : decode cX3_charactersIn 1 = .ok (.istore_n 2, 1) := by decide +kernel
theorem dX3_charactersIn_2 : decode cX3_charactersIn 2 = .ok (.iload_n 2, 1) := by decide +kernel
theorem dX3_charactersIn_3 : decode cX3_charactersIn 3 = .ok (.bipush 8, 2) := by decide +kernel
theorem dX3_charactersIn_5 : decode cX3_charactersIn 5 = .ok (.if_icmp .ge 50, 3) := by decide +kernel
theorem dX3_charactersIn_8 : decode cX3_charactersIn 8 = .ok (.lload_n 0, 1) := by decide +kernel
theorem dX3_charactersIn_9 : decode cX3_charactersIn 9 = .ok (.iload_n 2, 1) := by decide +kernel
theorem dX3_charactersIn_10 : decode cX3_charactersIn 10 = .ok (.invokestatic 170, 3) := by decide +kernel
theorem dX3_charactersIn_13 : decode cX3_charactersIn 13 = .ok (.istore_n 3, 1) := by decide +kernel
theorem dX3_charactersIn_14 : decode cX3_charactersIn 14 = .ok (.iload_n 3, 1) := by decide +kernel
theorem dX3_charactersIn_15 : decode cX3_charactersIn 15 = .ok (.ifCond .ne 20, 3) := by decide +kernel
theorem dX3_charactersIn_18 : decode cX3_charactersIn 18 = .ok (.lload_n 0, 1) := by decide +kernel
theorem dX3_charactersIn_19 : decode cX3_charactersIn 19 = .ok (.bipush 8, 2) := by decide +kernel
theorem dX3_charactersIn_21 : decode cX3_charactersIn 21 = .ok (.iload_n 2, 1) := by decide +kernel
theorem dX3_charactersIn_22 : decode cX3_charactersIn 22 = .ok (.imul, 1) := by decide +kernel
theorem dX3_charactersIn_23 : decode cX3_charactersIn 23 = .ok (.lushr, 1) := by decide +kernel
theorem dX3_charactersIn_24 : decode cX3_charactersIn 24 = .ok (.lconst 0, 1) := by decide +kernel
theorem dX3_charactersIn_25 : decode cX3_charactersIn 25 = .ok (.lcmp, 1) := by decide +kernel
theorem dX3_charactersIn_26 : decode cX3_charactersIn 26 = .ok (.ifCond .ne 7, 3) := by decide +kernel
theorem dX3_charactersIn_29 : decode cX3_charactersIn 29 = .ok (.iload_n 2, 1) := by decide +kernel
theorem dX3_charactersIn_30 : decode cX3_charactersIn 30 = .ok (.goto 4, 3) := by decide +kernel
theorem dX3_charactersIn_33 : decode cX3_charactersIn 33 = .ok (.iconst 0, 1) := by decide +kernel
theorem dX3_charactersIn_34 : decode cX3_charactersIn 34 = .ok (.ireturn, 1) := by decide +kernel
theorem dX3_charactersIn_35 : decode cX3_charactersIn 35 = .ok (.iload_n 3, 1) := by decide +kernel
theorem dX3_charactersIn_36 : decode cX3_charactersIn 36 = .ok (.bipush 33, 2) := by decide +kernel
theorem dX3_charactersIn_38 : decode cX3_charactersIn 38 = .ok (.if_icmp .lt 9, 3) := by decide +kernel
theorem dX3_charactersIn_41 : decode cX3_charactersIn 41 = .ok (.iload_n 3, 1) := by decide +kernel
theorem dX3_charactersIn_42 : decode cX3_charactersIn 42 = .ok (.bipush 126, 2) := by decide +kernel
theorem dX3_charactersIn_44 : decode cX3_charactersIn 44 = .ok (.if_icmp .le 5, 3) := by decide +kernel
theorem dX3_charactersIn_47 : decode cX3_charactersIn 47 = .ok (.iconst 0, 1) := by decide +kernel
theorem dX3_charactersIn_48 : decode cX3_charactersIn 48 = .ok (.ireturn, 1) := by decide +kernel
theorem dX3_charactersIn_49 : decode cX3_charactersIn 49 = .ok (.iinc 2 1, 3) := by decide +kernel
theorem dX3_charactersIn_52 : decode cX3_charactersIn 52 = .ok (.goto (-50), 3) := by decide +kernel
theorem dX3_charactersIn_55 : decode cX3_charactersIn 55 = .ok (.bipush 8, 2) := by decide +kernel
theorem dX3_charactersIn_57 : decode cX3_charactersIn 57 = .ok (.ireturn, 1) := by decide +kernel
theorem dX3_characterOf_0 : decode cX3_characterOf 0 = .ok (.lload_n 0, 1) := by decide +kernel
theorem dX3_characterOf_1 : decode cX3_characterOf 1 = .ok (.bipush 8, 2) := by decide +kernel
theorem dX3_characterOf_3 : decode cX3_characterOf 3 = .ok (.iload_n 2, 1) := by decide +kernel
theorem dX3_characterOf_4 : decode cX3_characterOf 4 = .ok (.imul, 1) := by decide +kernel
theorem dX3_characterOf_5 : decode cX3_characterOf 5 = .ok (.lushr, 1) := by decide +kernel
theorem dX3_characterOf_6 : decode cX3_characterOf 6 = .ok (.l2i, 1) := by decide +kernel
theorem dX3_characterOf_7 : decode cX3_characterOf 7 = .ok (.sipush 255, 3) := by decide +kernel
theorem dX3_characterOf_10 : decode cX3_characterOf 10 = .ok (.iand, 1) := by decide +kernel
theorem dX3_characterOf_11 : decode cX3_characterOf 11 = .ok (.ireturn, 1) := by decide +kernel
theorem dX3_isDone_0 : decode cX3_isDone 0 = .ok (.aload_n 0, 1) := by decide +kernel
theorem dX3_isDone_1 : decode cX3_isDone 1 = .ok (.getfield 26, 3) := by decide +kernel
theorem dX3_isDone_4 : decode cX3_isDone 4 = .ok (.iload_n 1, 1) := by decide +kernel
theorem dX3_isDone_5 : decode cX3_isDone 5 = .ok (.iconst 1, 1) := by decide +kernel
theorem dX3_isDone_6 : decode cX3_isDone 6 = .ok (.iadd, 1) := by decide +kernel
theorem dX3_isDone_7 : decode cX3_isDone 7 = .ok (.invokevirtual 217, 3) := by decide +kernel
theorem dX3_isDone_10 : decode cX3_isDone 10 = .ok (.istore_n 2, 1) := by decide +kernel
theorem dX3_isDone_11 : decode cX3_isDone 11 = .ok (.aload_n 0, 1) := by decide +kernel
theorem dX3_isDone_12 : decode cX3_isDone 12 = .ok (.getfield 26, 3) := by decide +kernel
theorem dX3_isDone_15 : decode cX3_isDone 15 = .ok (.iload_n 1, 1) := by decide +kernel
theorem dX3_isDone_16 : decode cX3_isDone 16 = .ok (.iconst 2, 1) := by decide +kernel
theorem dX3_isDone_17 : decode cX3_isDone 17 = .ok (.iadd, 1) := by decide +kernel
theorem dX3_isDone_18 : decode cX3_isDone 18 = .ok (.invokevirtual 217, 3) := by decide +kernel
theorem dX3_isDone_21 : decode cX3_isDone 21 = .ok (.istore_n 3, 1) := by decide +kernel
theorem dX3_isDone_22 : decode cX3_isDone 22 = .ok (.aload_n 0, 1) := by decide +kernel
theorem dX3_isDone_23 : decode cX3_isDone 23 = .ok (.getfield 26, 3) := by decide +kernel
theorem dX3_isDone_26 : decode cX3_isDone 26 = .ok (.iload_n 1, 1) := by decide +kernel
theorem dX3_isDone_27 : decode cX3_isDone 27 = .ok (.iconst 3, 1) := by decide +kernel
theorem dX3_isDone_28 : decode cX3_isDone 28 = .ok (.iadd, 1) := by decide +kernel
theorem dX3_isDone_29 : decode cX3_isDone 29 = .ok (.invokevirtual 217, 3) := by decide +kernel
theorem dX3_isDone_32 : decode cX3_isDone 32 = .ok (.istore 4, 2) := by decide +kernel
theorem dX3_isDone_34 : decode cX3_isDone 34 = .ok (.aload_n 0, 1) := by decide +kernel
theorem dX3_isDone_35 : decode cX3_isDone 35 = .ok (.getfield 26, 3) := by decide +kernel
theorem dX3_isDone_38 : decode cX3_isDone 38 = .ok (.iload_n 1, 1) := by decide +kernel
theorem dX3_isDone_39 : decode cX3_isDone 39 = .ok (.invokevirtual 220, 3) := by decide +kernel
theorem dX3_isDone_42 : decode cX3_isDone 42 = .ok (.istore 5, 2) := by decide +kernel
theorem dX3_isDone_44 : decode cX3_isDone 44 = .ok (.aload_n 0, 1) := by decide +kernel
theorem dX3_isDone_45 : decode cX3_isDone 45 = .ok (.getfield 26, 3) := by decide +kernel
theorem dX3_isDone_48 : decode cX3_isDone 48 = .ok (.iload_n 1, 1) := by decide +kernel
theorem dX3_isDone_49 : decode cX3_isDone 49 = .ok (.invokevirtual 223, 3) := by decide +kernel
theorem dX3_isDone_52 : decode cX3_isDone 52 = .ok (.lookupswitch 154 #[(97, 90), (111, 134), (115, 78), (117, 102), (118, 118), (119, 60)], 60) := by decide +kernel
theorem dX3_isDone_112 : decode cX3_isDone 112 = .ok (.aload_n 0, 1) := by decide +kernel
theorem dX3_isDone_113 : decode cX3_isDone 113 = .ok (.aload_n 0, 1) := by decide +kernel
theorem dX3_isDone_114 : decode cX3_isDone 114 = .ok (.iload_n 2, 1) := by decide +kernel
theorem dX3_isDone_115 : decode cX3_isDone 115 = .ok (.iload 5, 2) := by decide +kernel
theorem dX3_isDone_117 : decode cX3_isDone 117 = .ok (.invokevirtual 45, 3) := by decide +kernel
theorem dX3_isDone_120 : decode cX3_isDone 120 = .ok (.iload_n 2, 1) := by decide +kernel
theorem dX3_isDone_121 : decode cX3_isDone 121 = .ok (.invokestatic 52, 3) := by decide +kernel
theorem dX3_isDone_124 : decode cX3_isDone 124 = .ok (.iload 5, 2) := by decide +kernel
theorem dX3_isDone_126 : decode cX3_isDone 126 = .ok (.invokevirtual 226, 3) := by decide +kernel
theorem dX3_isDone_129 : decode cX3_isDone 129 = .ok (.ireturn, 1) := by decide +kernel
theorem dX3_isDone_130 : decode cX3_isDone 130 = .ok (.aload_n 0, 1) := by decide +kernel
theorem dX3_isDone_131 : decode cX3_isDone 131 = .ok (.iconst 0, 1) := by decide +kernel
theorem dX3_isDone_132 : decode cX3_isDone 132 = .ok (.iload_n 2, 1) := by decide +kernel
theorem dX3_isDone_133 : decode cX3_isDone 133 = .ok (.invokestatic 74, 3) := by decide +kernel
theorem dX3_isDone_136 : decode cX3_isDone 136 = .ok (.iload 5, 2) := by decide +kernel
theorem dX3_isDone_138 : decode cX3_isDone 138 = .ok (.invokevirtual 226, 3) := by decide +kernel
theorem dX3_isDone_141 : decode cX3_isDone 141 = .ok (.ireturn, 1) := by decide +kernel
theorem dX3_isDone_142 : decode cX3_isDone 142 = .ok (.aload_n 0, 1) := by decide +kernel
theorem dX3_isDone_143 : decode cX3_isDone 143 = .ok (.iconst 0, 1) := by decide +kernel
theorem dX3_isDone_144 : decode cX3_isDone 144 = .ok (.iload_n 2, 1) := by decide +kernel
theorem dX3_isDone_145 : decode cX3_isDone 145 = .ok (.invokestatic 77, 3) := by decide +kernel
theorem dX3_isDone_148 : decode cX3_isDone 148 = .ok (.iload 5, 2) := by decide +kernel
theorem dX3_isDone_150 : decode cX3_isDone 150 = .ok (.invokevirtual 226, 3) := by decide +kernel
theorem dX3_isDone_153 : decode cX3_isDone 153 = .ok (.ireturn, 1) := by decide +kernel
theorem dX3_isDone_154 : decode cX3_isDone 154 = .ok (.aload_n 0, 1) := by decide +kernel
theorem dX3_isDone_155 : decode cX3_isDone 155 = .ok (.iconst 0, 1) := by decide +kernel
theorem dX3_isDone_156 : decode cX3_isDone 156 = .ok (.iconst 0, 1) := by decide +kernel
theorem dX3_isDone_157 : decode cX3_isDone 157 = .ok (.iload_n 2, 1) := by decide +kernel
theorem dX3_isDone_158 : decode cX3_isDone 158 = .ok (.iload_n 3, 1) := by decide +kernel
theorem dX3_isDone_159 : decode cX3_isDone 159 = .ok (.iload 4, 2) := by decide +kernel
theorem dX3_isDone_161 : decode cX3_isDone 161 = .ok (.invokestatic 63, 3) := by decide +kernel
theorem dX3_isDone_164 : decode cX3_isDone 164 = .ok (.iload 5, 2) := by decide +kernel
theorem dX3_isDone_166 : decode cX3_isDone 166 = .ok (.invokevirtual 226, 3) := by decide +kernel
theorem dX3_isDone_169 : decode cX3_isDone 169 = .ok (.ireturn, 1) := by decide +kernel
theorem dX3_isDone_170 : decode cX3_isDone 170 = .ok (.aload_n 0, 1) := by decide +kernel
theorem dX3_isDone_171 : decode cX3_isDone 171 = .ok (.iconst 0, 1) := by decide +kernel
theorem dX3_isDone_172 : decode cX3_isDone 172 = .ok (.iconst 1, 1) := by decide +kernel
theorem dX3_isDone_173 : decode cX3_isDone 173 = .ok (.iload_n 2, 1) := by decide +kernel
theorem dX3_isDone_174 : decode cX3_isDone 174 = .ok (.iload_n 3, 1) := by decide +kernel
theorem dX3_isDone_175 : decode cX3_isDone 175 = .ok (.iload 4, 2) := by decide +kernel
theorem dX3_isDone_177 : decode cX3_isDone 177 = .ok (.invokestatic 63, 3) := by decide +kernel
theorem dX3_isDone_180 : decode cX3_isDone 180 = .ok (.iload 5, 2) := by decide +kernel
theorem dX3_isDone_182 : decode cX3_isDone 182 = .ok (.invokevirtual 226, 3) := by decide +kernel
theorem dX3_isDone_185 : decode cX3_isDone 185 = .ok (.ireturn, 1) := by decide +kernel
theorem dX3_isDone_186 : decode cX3_isDone 186 = .ok (.aload_n 0, 1) := by decide +kernel
theorem dX3_isDone_187 : decode cX3_isDone 187 = .ok (.aload_n 0, 1) := by decide +kernel
theorem dX3_isDone_188 : decode cX3_isDone 188 = .ok (.iload_n 2, 1) := by decide +kernel
theorem dX3_isDone_189 : decode cX3_isDone 189 = .ok (.iload_n 3, 1) := by decide +kernel
theorem dX3_isDone_190 : decode cX3_isDone 190 = .ok (.iload 5, 2) := by decide +kernel
theorem dX3_isDone_192 : decode cX3_isDone 192 = .ok (.invokevirtual 67, 3) := by decide +kernel
theorem dX3_isDone_195 : decode cX3_isDone 195 = .ok (.iload_n 2, 1) := by decide +kernel
theorem dX3_isDone_196 : decode cX3_isDone 196 = .ok (.iload_n 3, 1) := by decide +kernel
theorem dX3_isDone_197 : decode cX3_isDone 197 = .ok (.invokestatic 71, 3) := by decide +kernel
theorem dX3_isDone_200 : decode cX3_isDone 200 = .ok (.iload 5, 2) := by decide +kernel
theorem dX3_isDone_202 : decode cX3_isDone 202 = .ok (.invokevirtual 226, 3) := by decide +kernel
theorem dX3_isDone_205 : decode cX3_isDone 205 = .ok (.ireturn, 1) := by decide +kernel
theorem dX3_isDone_206 : decode cX3_isDone 206 = .ok (.iconst 0, 1) := by decide +kernel
theorem dX3_isDone_207 : decode cX3_isDone 207 = .ok (.ireturn, 1) := by decide +kernel
theorem dX3_isChanged_0 : decode cX3_isChanged 0 = .ok (.iload_n 1, 1) := by decide +kernel
theorem dX3_isChanged_1 : decode cX3_isChanged 1 = .ok (.ifCond .eq 5, 3) := by decide +kernel
theorem dX3_isChanged_4 : decode cX3_isChanged 4 = .ok (.iconst 0, 1) := by decide +kernel
theorem dX3_isChanged_5 : decode cX3_isChanged 5 = .ok (.ireturn, 1) := by decide +kernel
theorem dX3_isChanged_6 : decode cX3_isChanged 6 = .ok (.aload_n 0, 1) := by decide +kernel
theorem dX3_isChanged_7 : decode cX3_isChanged 7 = .ok (.getfield 12, 3) := by decide +kernel
theorem dX3_isChanged_10 : decode cX3_isChanged 10 = .ok (.iload_n 2, 1) := by decide +kernel
theorem dX3_isChanged_11 : decode cX3_isChanged 11 = .ok (.iload_n 3, 1) := by decide +kernel
theorem dX3_isChanged_12 : decode cX3_isChanged 12 = .ok (.invokevirtual 56, 3) := by decide +kernel
theorem dX3_isChanged_15 : decode cX3_isChanged 15 = .ok (.pop, 1) := by decide +kernel
theorem dX3_isChanged_16 : decode cX3_isChanged 16 = .ok (.iconst 1, 1) := by decide +kernel
theorem dX3_isChanged_17 : decode cX3_isChanged 17 = .ok (.ireturn, 1) := by decide +kernel
theorem dX4_init_0 : decode cX4_init 0 = .ok (.aload_n 0, 1) := by decide +kernel
theorem dX4_init_1 : decode cX4_init 1 = .ok (.invokespecial 1, 3) := by decide +kernel
theorem dX4_init_4 : decode cX4_init 4 = .ok (.aload_n 0, 1) := by decide +kernel
theorem dX4_init_5 : decode cX4_init 5 = .ok (.bipush 72, 2) := by decide +kernel
theorem dX4_init_7 : decode cX4_init 7 = .ok (.newarray .int, 2) := by decide +kernel
theorem dX4_init_9 : decode cX4_init 9 = .ok (.putfield 7, 3) := by decide +kernel
theorem dX4_init_12 : decode cX4_init 12 = .ok (.aload_n 0, 1) := by decide +kernel
theorem dX4_init_13 : decode cX4_init 13 = .ok (.sipush 432, 3) := by decide +kernel
theorem dX4_init_16 : decode cX4_init 16 = .ok (.newarray .int, 2) := by decide +kernel
theorem dX4_init_18 : decode cX4_init 18 = .ok (.putfield 13, 3) := by decide +kernel
theorem dX4_init_21 : decode cX4_init 21 = .ok (.aload_n 0, 1) := by decide +kernel
theorem dX4_init_22 : decode cX4_init 22 = .ok (.sipush 144, 3) := by decide +kernel
theorem dX4_init_25 : decode cX4_init 25 = .ok (.newarray .int, 2) := by decide +kernel
theorem dX4_init_27 : decode cX4_init 27 = .ok (.putfield 16, 3) := by decide +kernel
theorem dX4_init_30 : decode cX4_init 30 = .ok (.aload_n 0, 1) := by decide +kernel
theorem dX4_init_31 : decode cX4_init 31 = .ok (.iconst 2, 1) := by decide +kernel
theorem dX4_init_32 : decode cX4_init 32 = .ok (.newarray .boolean, 2) := by decide +kernel
theorem dX4_init_34 : decode cX4_init 34 = .ok (.putfield 19, 3) := by decide +kernel
theorem dX4_init_37 : decode cX4_init 37 = .ok (.aload_n 0, 1) := by decide +kernel
theorem dX4_init_38 : decode cX4_init 38 = .ok (.bipush 80, 2) := by decide +kernel
theorem dX4_init_40 : decode cX4_init 40 = .ok (.newarray .int, 2) := by decide +kernel
theorem dX4_init_42 : decode cX4_init 42 = .ok (.putfield 23, 3) := by decide +kernel
theorem dX4_init_45 : decode cX4_init 45 = .ok (.aload_n 0, 1) := by decide +kernel
theorem dX4_init_46 : decode cX4_init 46 = .ok (.bipush 85, 2) := by decide +kernel
theorem dX4_init_48 : decode cX4_init 48 = .ok (.newarray .int, 2) := by decide +kernel
theorem dX4_init_50 : decode cX4_init 50 = .ok (.putfield 26, 3) := by decide +kernel
theorem dX4_init_53 : decode cX4_init 53 = .ok (.aload_n 0, 1) := by decide +kernel
theorem dX4_init_54 : decode cX4_init 54 = .ok (.bipush 6, 2) := by decide +kernel
theorem dX4_init_56 : decode cX4_init 56 = .ok (.newarray .int, 2) := by decide +kernel
theorem dX4_init_58 : decode cX4_init 58 = .ok (.putfield 29, 3) := by decide +kernel
theorem dX4_init_61 : decode cX4_init 61 = .ok (.aload_n 0, 1) := by decide +kernel
theorem dX4_init_62 : decode cX4_init 62 = .ok (.iconst 3, 1) := by decide +kernel
theorem dX4_init_63 : decode cX4_init 63 = .ok (.newarray .int, 2) := by decide +kernel
theorem dX4_init_65 : decode cX4_init 65 = .ok (.putfield 32, 3) := by decide +kernel
theorem dX4_init_68 : decode cX4_init 68 = .ok (.iconst 0, 1) := by decide +kernel
theorem dX4_init_69 : decode cX4_init 69 = .ok (.istore_n 1, 1) := by decide +kernel
theorem dX4_init_70 : decode cX4_init 70 = .ok (.iload_n 1, 1) := by decide +kernel
theorem dX4_init_71 : decode cX4_init 71 = .ok (.iconst 3, 1) := by decide +kernel
theorem dX4_init_72 : decode cX4_init 72 = .ok (.if_icmp .ge 16, 3) := by decide +kernel
theorem dX4_init_75 : decode cX4_init 75 = .ok (.aload_n 0, 1) := by decide +kernel
theorem dX4_init_76 : decode cX4_init 76 = .ok (.getfield 7, 3) := by decide +kernel
theorem dX4_init_79 : decode cX4_init 79 = .ok (.iload_n 1, 1) := by decide +kernel
theorem dX4_init_80 : decode cX4_init 80 = .ok (.iconst 1, 1) := by decide +kernel
theorem dX4_init_81 : decode cX4_init 81 = .ok (.iastore, 1) := by decide +kernel
theorem dX4_init_82 : decode cX4_init 82 = .ok (.iinc 1 1, 3) := by decide +kernel
theorem dX4_init_85 : decode cX4_init 85 = .ok (.goto (-15), 3) := by decide +kernel
theorem dX4_init_88 : decode cX4_init 88 = .ok (.iconst 0, 1) := by decide +kernel
theorem dX4_init_89 : decode cX4_init 89 = .ok (.istore_n 1, 1) := by decide +kernel
theorem dX4_init_90 : decode cX4_init 90 = .ok (.iload_n 1, 1) := by decide +kernel
theorem dX4_init_91 : decode cX4_init 91 = .ok (.bipush 9, 2) := by decide +kernel
theorem dX4_init_93 : decode cX4_init 93 = .ok (.if_icmp .ge 19, 3) := by decide +kernel
theorem dX4_init_96 : decode cX4_init 96 = .ok (.aload_n 0, 1) := by decide +kernel
theorem dX4_init_97 : decode cX4_init 97 = .ok (.getfield 7, 3) := by decide +kernel
theorem dX4_init_100 : decode cX4_init 100 = .ok (.bipush 57, 2) := by decide +kernel
theorem dX4_init_102 : decode cX4_init 102 = .ok (.iload_n 1, 1) := by decide +kernel
theorem dX4_init_103 : decode cX4_init 103 = .ok (.iadd, 1) := by decide +kernel
theorem dX4_init_104 : decode cX4_init 104 = .ok (.iconst 1, 1) := by decide +kernel
theorem dX4_init_105 : decode cX4_init 105 = .ok (.iastore, 1) := by decide +kernel
theorem dX4_init_106 : decode cX4_init 106 = .ok (.iinc 1 1, 3) := by decide +kernel
theorem dX4_init_109 : decode cX4_init 109 = .ok (.goto (-19), 3) := by decide +kernel
theorem dX4_init_112 : decode cX4_init 112 = .ok (.return_, 1) := by decide +kernel
theorem dX4_in_0 : decode cX4_in 0 = .ok (.iload_n 0, 1) := by decide +kernel
theorem dX4_in_1 : decode cX4_in 1 = .ok (.iload_n 1, 1) := by decide +kernel
theorem dX4_in_2 : decode cX4_in 2 = .ok (.if_icmp .lt 12, 3) := by decide +kernel
theorem dX4_in_5 : decode cX4_in 5 = .ok (.iload_n 0, 1) := by decide +kernel
theorem dX4_in_6 : decode cX4_in 6 = .ok (.iload_n 2, 1) := by decide +kernel
theorem dX4_in_7 : decode cX4_in 7 = .ok (.if_icmp .gt 7, 3) := by decide +kernel
theorem dX4_in_10 : decode cX4_in 10 = .ok (.iconst 1, 1) := by decide +kernel
theorem dX4_in_11 : decode cX4_in 11 = .ok (.goto 4, 3) := by decide +kernel
theorem dX4_in_14 : decode cX4_in 14 = .ok (.iconst 0, 1) := by decide +kernel
theorem dX4_in_15 : decode cX4_in 15 = .ok (.ireturn, 1) := by decide +kernel
theorem dX4_isOne_0 : decode cX4_isOne 0 = .ok (.iload_n 0, 1) := by decide +kernel
theorem dX4_isOne_1 : decode cX4_isOne 1 = .ok (.iconst 0, 1) := by decide +kernel
theorem dX4_isOne_2 : decode cX4_isOne 2 = .ok (.iconst 2, 1) := by decide +kernel
theorem dX4_isOne_3 : decode cX4_isOne 3 = .ok (.invokestatic 35, 3) := by decide +kernel
theorem dX4_isOne_6 : decode cX4_isOne 6 = .ok (.ireturn, 1) := by decide +kernel
theorem dX4_lays_0 : decode cX4_lays 0 = .ok (.iconst 0, 1) := by decide +kernel
theorem dX4_lays_1 : decode cX4_lays 1 = .ok (.istore 4, 2) := by decide +kernel
theorem dX4_lays_3 : decode cX4_lays 3 = .ok (.iload 4, 2) := by decide +kernel
theorem dX4_lays_5 : decode cX4_lays 5 = .ok (.bipush 72, 2) := by decide +kernel
theorem dX4_lays_7 : decode cX4_lays 7 = .ok (.if_icmp .ge 21, 3) := by decide +kernel
theorem dX4_lays_10 : decode cX4_lays 10 = .ok (.aload_n 2, 1) := by decide +kernel
theorem dX4_lays_11 : decode cX4_lays 11 = .ok (.iload_n 3, 1) := by decide +kernel
theorem dX4_lays_12 : decode cX4_lays 12 = .ok (.iload 4, 2) := by decide +kernel
theorem dX4_lays_14 : decode cX4_lays 14 = .ok (.iadd, 1) := by decide +kernel
theorem dX4_lays_15 : decode cX4_lays 15 = .ok (.aload_n 0, 1) := by decide +kernel
theorem dX4_lays_16 : decode cX4_lays 16 = .ok (.iload_n 1, 1) := by decide +kernel
theorem dX4_lays_17 : decode cX4_lays 17 = .ok (.iload 4, 2) := by decide +kernel
theorem dX4_lays_19 : decode cX4_lays 19 = .ok (.iadd, 1) := by decide +kernel
theorem dX4_lays_20 : decode cX4_lays 20 = .ok (.iaload, 1) := by decide +kernel
theorem dX4_lays_21 : decode cX4_lays 21 = .ok (.iastore, 1) := by decide +kernel
theorem dX4_lays_22 : decode cX4_lays 22 = .ok (.iinc 4 1, 3) := by decide +kernel
theorem dX4_lays_25 : decode cX4_lays 25 = .ok (.goto (-22), 3) := by decide +kernel
theorem dX4_lays_28 : decode cX4_lays 28 = .ok (.return_, 1) := by decide +kernel
theorem dX4_records_0 : decode cX4_records 0 = .ok (.aload_n 0, 1) := by decide +kernel
theorem dX4_records_1 : decode cX4_records 1 = .ok (.getfield 39, 3) := by decide +kernel
theorem dX4_records_4 : decode cX4_records 4 = .ok (.bipush 6, 2) := by decide +kernel
theorem dX4_records_6 : decode cX4_records 6 = .ok (.if_icmp .ne 43, 3) := by decide +kernel
theorem dX4_records_9 : decode cX4_records 9 = .ok (.iconst 0, 1) := by decide +kernel
theorem dX4_records_10 : decode cX4_records 10 = .ok (.istore_n 1, 1) := by decide +kernel
theorem dX4_records_11 : decode cX4_records 11 = .ok (.iload_n 1, 1) := by decide +kernel
theorem dX4_records_12 : decode cX4_records 12 = .ok (.sipush 360, 3) := by decide +kernel
theorem dX4_records_15 : decode cX4_records 15 = .ok (.if_icmp .ge 24, 3) := by decide +kernel
theorem dX4_records_18 : decode cX4_records 18 = .ok (.aload_n 0, 1) := by decide +kernel
theorem dX4_records_19 : decode cX4_records 19 = .ok (.getfield 13, 3) := by decide +kernel
theorem dX4_records_22 : decode cX4_records 22 = .ok (.iload_n 1, 1) := by decide +kernel
theorem dX4_records_23 : decode cX4_records 23 = .ok (.aload_n 0, 1) := by decide +kernel
theorem dX4_records_24 : decode cX4_records 24 = .ok (.getfield 13, 3) := by decide +kernel
theorem dX4_records_27 : decode cX4_records 27 = .ok (.iload_n 1, 1) := by decide +kernel
theorem dX4_records_28 : decode cX4_records 28 = .ok (.bipush 72, 2) := by decide +kernel
theorem dX4_records_30 : decode cX4_records 30 = .ok (.iadd, 1) := by decide +kernel
theorem dX4_records_31 : decode cX4_records 31 = .ok (.iaload, 1) := by decide +kernel
theorem dX4_records_32 : decode cX4_records 32 = .ok (.iastore, 1) := by decide +kernel
theorem dX4_records_33 : decode cX4_records 33 = .ok (.iinc 1 1, 3) := by decide +kernel
theorem dX4_records_36 : decode cX4_records 36 = .ok (.goto (-25), 3) := by decide +kernel
theorem dX4_records_39 : decode cX4_records 39 = .ok (.aload_n 0, 1) := by decide +kernel
theorem dX4_records_40 : decode cX4_records 40 = .ok (.dup, 1) := by decide +kernel
theorem dX4_records_41 : decode cX4_records 41 = .ok (.getfield 39, 3) := by decide +kernel
theorem dX4_records_44 : decode cX4_records 44 = .ok (.iconst 1, 1) := by decide +kernel
theorem dX4_records_45 : decode cX4_records 45 = .ok (.isub, 1) := by decide +kernel
theorem dX4_records_46 : decode cX4_records 46 = .ok (.putfield 39, 3) := by decide +kernel
theorem dX4_records_49 : decode cX4_records 49 = .ok (.aload_n 0, 1) := by decide +kernel
theorem dX4_records_50 : decode cX4_records 50 = .ok (.getfield 7, 3) := by decide +kernel
theorem dX4_records_53 : decode cX4_records 53 = .ok (.iconst 0, 1) := by decide +kernel
theorem dX4_records_54 : decode cX4_records 54 = .ok (.aload_n 0, 1) := by decide +kernel
theorem dX4_records_55 : decode cX4_records 55 = .ok (.getfield 13, 3) := by decide +kernel
theorem dX4_records_58 : decode cX4_records 58 = .ok (.bipush 72, 2) := by decide +kernel
theorem dX4_records_60 : decode cX4_records 60 = .ok (.aload_n 0, 1) := by decide +kernel
theorem dX4_records_61 : decode cX4_records 61 = .ok (.getfield 39, 3) := by decide +kernel
theorem dX4_records_64 : decode cX4_records 64 = .ok (.imul, 1) := by decide +kernel
theorem dX4_records_65 : decode cX4_records 65 = .ok (.invokestatic 43, 3) := by decide +kernel
theorem dX4_records_68 : decode cX4_records 68 = .ok (.aload_n 0, 1) := by decide +kernel
theorem dX4_records_69 : decode cX4_records 69 = .ok (.dup, 1) := by decide +kernel
theorem dX4_records_70 : decode cX4_records 70 = .ok (.getfield 39, 3) := by decide +kernel
theorem dX4_records_73 : decode cX4_records 73 = .ok (.iconst 1, 1) := by decide +kernel
theorem dX4_records_74 : decode cX4_records 74 = .ok (.iadd, 1) := by decide +kernel
theorem dX4_records_75 : decode cX4_records 75 = .ok (.putfield 39, 3) := by decide +kernel
theorem dX4_records_78 : decode cX4_records 78 = .ok (.return_, 1) := by decide +kernel
theorem dX4_undo_0 : decode cX4_undo 0 = .ok (.aload_n 0, 1) := by decide +kernel
theorem dX4_undo_1 : decode cX4_undo 1 = .ok (.getfield 39, 3) := by decide +kernel
theorem dX4_undo_4 : decode cX4_undo 4 = .ok (.ifCond .ne 6, 3) := by decide +kernel
theorem dX4_undo_7 : decode cX4_undo 7 = .ok (.bipush (-5), 2) := by decide +kernel
theorem dX4_undo_9 : decode cX4_undo 9 = .ok (.ireturn, 1) := by decide +kernel
theorem dX4_undo_10 : decode cX4_undo 10 = .ok (.aload_n 0, 1) := by decide +kernel
theorem dX4_undo_11 : decode cX4_undo 11 = .ok (.dup, 1) := by decide +kernel
theorem dX4_undo_12 : decode cX4_undo 12 = .ok (.getfield 39, 3) := by decide +kernel
theorem dX4_undo_15 : decode cX4_undo 15 = .ok (.iconst 1, 1) := by decide +kernel
theorem dX4_undo_16 : decode cX4_undo 16 = .ok (.isub, 1) := by decide +kernel
theorem dX4_undo_17 : decode cX4_undo 17 = .ok (.putfield 39, 3) := by decide +kernel
theorem dX4_undo_20 : decode cX4_undo 20 = .ok (.aload_n 0, 1) := by decide +kernel
theorem dX4_undo_21 : decode cX4_undo 21 = .ok (.getfield 13, 3) := by decide +kernel
theorem dX4_undo_24 : decode cX4_undo 24 = .ok (.bipush 72, 2) := by decide +kernel
theorem dX4_undo_26 : decode cX4_undo 26 = .ok (.aload_n 0, 1) := by decide +kernel
theorem dX4_undo_27 : decode cX4_undo 27 = .ok (.getfield 39, 3) := by decide +kernel
theorem dX4_undo_30 : decode cX4_undo 30 = .ok (.imul, 1) := by decide +kernel
theorem dX4_undo_31 : decode cX4_undo 31 = .ok (.aload_n 0, 1) := by decide +kernel
theorem dX4_undo_32 : decode cX4_undo 32 = .ok (.getfield 7, 3) := by decide +kernel
theorem dX4_undo_35 : decode cX4_undo 35 = .ok (.iconst 0, 1) := by decide +kernel
theorem dX4_undo_36 : decode cX4_undo 36 = .ok (.invokestatic 43, 3) := by decide +kernel
theorem dX4_undo_39 : decode cX4_undo 39 = .ok (.aload_n 0, 1) := by decide +kernel
theorem dX4_undo_40 : decode cX4_undo 40 = .ok (.getfield 39, 3) := by decide +kernel
theorem dX4_undo_43 : decode cX4_undo 43 = .ok (.ireturn, 1) := by decide +kernel
theorem dX4_code_0 : decode cX4_code 0 = .ok (.iconst 0, 1) := by decide +kernel
theorem dX4_code_1 : decode cX4_code 1 = .ok (.istore_n 1, 1) := by decide +kernel
theorem dX4_code_2 : decode cX4_code 2 = .ok (.iconst 0, 1) := by decide +kernel
theorem dX4_code_3 : decode cX4_code 3 = .ok (.istore_n 2, 1) := by decide +kernel
theorem dX4_code_4 : decode cX4_code 4 = .ok (.iload_n 2, 1) := by decide +kernel
theorem dX4_code_5 : decode cX4_code 5 = .ok (.bipush 6, 2) := by decide +kernel
theorem dX4_code_7 : decode cX4_code 7 = .ok (.if_icmp .ge 23, 3) := by decide +kernel
theorem dX4_code_10 : decode cX4_code 10 = .ok (.iconst 3, 1) := by decide +kernel
theorem dX4_code_11 : decode cX4_code 11 = .ok (.iload_n 1, 1) := by decide +kernel
theorem dX4_code_12 : decode cX4_code 12 = .ok (.imul, 1) := by decide +kernel
theorem dX4_code_13 : decode cX4_code 13 = .ok (.aload_n 0, 1) := by decide +kernel
theorem dX4_code_14 : decode cX4_code 14 = .ok (.getfield 7, 3) := by decide +kernel
theorem dX4_code_17 : decode cX4_code 17 = .ok (.bipush 66, 2) := by decide +kernel
theorem dX4_code_19 : decode cX4_code 19 = .ok (.iload_n 2, 1) := by decide +kernel
theorem dX4_code_20 : decode cX4_code 20 = .ok (.iadd, 1) := by decide +kernel
theorem dX4_code_21 : decode cX4_code 21 = .ok (.iaload, 1) := by decide +kernel
theorem dX4_code_22 : decode cX4_code 22 = .ok (.iadd, 1) := by decide +kernel
theorem dX4_code_23 : decode cX4_code 23 = .ok (.istore_n 1, 1) := by decide +kernel
theorem dX4_code_24 : decode cX4_code 24 = .ok (.iinc 2 1, 3) := by decide +kernel
theorem dX4_code_27 : decode cX4_code 27 = .ok (.goto (-23), 3) := by decide +kernel
theorem dX4_code_30 : decode cX4_code 30 = .ok (.iload_n 1, 1) := by decide +kernel
theorem dX4_code_31 : decode cX4_code 31 = .ok (.ireturn, 1) := by decide +kernel
theorem dX4_save_0 : decode cX4_save 0 = .ok (.iload_n 1, 1) := by decide +kernel
theorem dX4_save_1 : decode cX4_save 1 = .ok (.iconst 0, 1) := by decide +kernel
theorem dX4_save_2 : decode cX4_save 2 = .ok (.iconst 1, 1) := by decide +kernel
theorem dX4_save_3 : decode cX4_save 3 = .ok (.invokestatic 35, 3) := by decide +kernel
theorem dX4_save_6 : decode cX4_save 6 = .ok (.ifCond .ne 6, 3) := by decide +kernel
theorem dX4_save_9 : decode cX4_save 9 = .ok (.bipush (-2), 2) := by decide +kernel
theorem dX4_save_11 : decode cX4_save 11 = .ok (.ireturn, 1) := by decide +kernel
theorem dX4_save_12 : decode cX4_save 12 = .ok (.aload_n 0, 1) := by decide +kernel
theorem dX4_save_13 : decode cX4_save 13 = .ok (.getfield 7, 3) := by decide +kernel
theorem dX4_save_16 : decode cX4_save 16 = .ok (.iconst 0, 1) := by decide +kernel
theorem dX4_save_17 : decode cX4_save 17 = .ok (.aload_n 0, 1) := by decide +kernel
theorem dX4_save_18 : decode cX4_save 18 = .ok (.getfield 16, 3) := by decide +kernel
theorem dX4_save_21 : decode cX4_save 21 = .ok (.bipush 72, 2) := by decide +kernel
theorem dX4_save_23 : decode cX4_save 23 = .ok (.iload_n 1, 1) := by decide +kernel
theorem dX4_save_24 : decode cX4_save 24 = .ok (.imul, 1) := by decide +kernel
theorem dX4_save_25 : decode cX4_save 25 = .ok (.invokestatic 43, 3) := by decide +kernel
theorem dX4_save_28 : decode cX4_save 28 = .ok (.aload_n 0, 1) := by decide +kernel
theorem dX4_save_29 : decode cX4_save 29 = .ok (.getfield 19, 3) := by decide +kernel
theorem dX4_save_32 : decode cX4_save 32 = .ok (.iload_n 1, 1) := by decide +kernel
theorem dX4_save_33 : decode cX4_save 33 = .ok (.iconst 1, 1) := by decide +kernel
theorem dX4_save_34 : decode cX4_save 34 = .ok (.bastore, 1) := by decide +kernel
theorem dX4_save_35 : decode cX4_save 35 = .ok (.aload_n 0, 1) := by decide +kernel
theorem dX4_save_36 : decode cX4_save 36 = .ok (.invokevirtual 47, 3) := by decide +kernel
theorem dX4_save_39 : decode cX4_save 39 = .ok (.ireturn, 1) := by decide +kernel
theorem dX4_restore_0 : decode cX4_restore 0 = .ok (.iload_n 1, 1) := by decide +kernel
theorem dX4_restore_1 : decode cX4_restore 1 = .ok (.iconst 0, 1) := by decide +kernel
theorem dX4_restore_2 : decode cX4_restore 2 = .ok (.iconst 1, 1) := by decide +kernel
theorem dX4_restore_3 : decode cX4_restore 3 = .ok (.invokestatic 35, 3) := by decide +kernel
theorem dX4_restore_6 : decode cX4_restore 6 = .ok (.ifCond .ne 6, 3) := by decide +kernel
theorem dX4_restore_9 : decode cX4_restore 9 = .ok (.bipush (-2), 2) := by decide +kernel
theorem dX4_restore_11 : decode cX4_restore 11 = .ok (.ireturn, 1) := by decide +kernel
theorem dX4_restore_12 : decode cX4_restore 12 = .ok (.aload_n 0, 1) := by decide +kernel
theorem dX4_restore_13 : decode cX4_restore 13 = .ok (.getfield 19, 3) := by decide +kernel
theorem dX4_restore_16 : decode cX4_restore 16 = .ok (.iload_n 1, 1) := by decide +kernel
theorem dX4_restore_17 : decode cX4_restore 17 = .ok (.baload, 1) := by decide +kernel
theorem dX4_restore_18 : decode cX4_restore 18 = .ok (.ifCond .ne 6, 3) := by decide +kernel
theorem dX4_restore_21 : decode cX4_restore 21 = .ok (.bipush (-5), 2) := by decide +kernel
theorem dX4_restore_23 : decode cX4_restore 23 = .ok (.ireturn, 1) := by decide +kernel
theorem dX4_restore_24 : decode cX4_restore 24 = .ok (.aload_n 0, 1) := by decide +kernel
theorem dX4_restore_25 : decode cX4_restore 25 = .ok (.invokevirtual 51, 3) := by decide +kernel
theorem dX4_restore_28 : decode cX4_restore 28 = .ok (.aload_n 0, 1) := by decide +kernel
theorem dX4_restore_29 : decode cX4_restore 29 = .ok (.getfield 16, 3) := by decide +kernel
theorem dX4_restore_32 : decode cX4_restore 32 = .ok (.bipush 72, 2) := by decide +kernel
theorem dX4_restore_34 : decode cX4_restore 34 = .ok (.iload_n 1, 1) := by decide +kernel
theorem dX4_restore_35 : decode cX4_restore 35 = .ok (.imul, 1) := by decide +kernel
theorem dX4_restore_36 : decode cX4_restore 36 = .ok (.aload_n 0, 1) := by decide +kernel
theorem dX4_restore_37 : decode cX4_restore 37 = .ok (.getfield 7, 3) := by decide +kernel
theorem dX4_restore_40 : decode cX4_restore 40 = .ok (.iconst 0, 1) := by decide +kernel
theorem dX4_restore_41 : decode cX4_restore 41 = .ok (.invokestatic 43, 3) := by decide +kernel
theorem dX4_restore_44 : decode cX4_restore 44 = .ok (.aload_n 0, 1) := by decide +kernel
theorem dX4_restore_45 : decode cX4_restore 45 = .ok (.invokevirtual 47, 3) := by decide +kernel
theorem dX4_restore_48 : decode cX4_restore 48 = .ok (.ireturn, 1) := by decide +kernel
theorem dX4_looksAt_0 : decode cX4_looksAt 0 = .ok (.iload_n 1, 1) := by decide +kernel
theorem dX4_looksAt_1 : decode cX4_looksAt 1 = .ok (.istore_n 2, 1) := by decide +kernel
theorem dX4_looksAt_2 : decode cX4_looksAt 2 = .ok (.iconst 5, 1) := by decide +kernel
theorem dX4_looksAt_3 : decode cX4_looksAt 3 = .ok (.istore_n 3, 1) := by decide +kernel
theorem dX4_looksAt_4 : decode cX4_looksAt 4 = .ok (.iload_n 3, 1) := by decide +kernel
theorem dX4_looksAt_5 : decode cX4_looksAt 5 = .ok (.ifCond .lt 22, 3) := by decide +kernel
theorem dX4_looksAt_8 : decode cX4_looksAt 8 = .ok (.aload_n 0, 1) := by decide +kernel
theorem dX4_looksAt_9 : decode cX4_looksAt 9 = .ok (.getfield 29, 3) := by decide +kernel
theorem dX4_looksAt_12 : decode cX4_looksAt 12 = .ok (.iload_n 3, 1) := by decide +kernel
theorem dX4_looksAt_13 : decode cX4_looksAt 13 = .ok (.iload_n 2, 1) := by decide +kernel
theorem dX4_looksAt_14 : decode cX4_looksAt 14 = .ok (.iconst 3, 1) := by decide +kernel
theorem dX4_looksAt_15 : decode cX4_looksAt 15 = .ok (.irem, 1) := by decide +kernel
theorem dX4_looksAt_16 : decode cX4_looksAt 16 = .ok (.iastore, 1) := by decide +kernel
theorem dX4_looksAt_17 : decode cX4_looksAt 17 = .ok (.iload_n 2, 1) := by decide +kernel
theorem dX4_looksAt_18 : decode cX4_looksAt 18 = .ok (.iconst 3, 1) := by decide +kernel
theorem dX4_looksAt_19 : decode cX4_looksAt 19 = .ok (.idiv, 1) := by decide +kernel
theorem dX4_looksAt_20 : decode cX4_looksAt 20 = .ok (.istore_n 2, 1) := by decide +kernel
theorem dX4_looksAt_21 : decode cX4_looksAt 21 = .ok (.iinc 3 (-1), 3) := by decide +kernel
theorem dX4_looksAt_24 : decode cX4_looksAt 24 = .ok (.goto (-20), 3) := by decide +kernel
theorem dX4_looksAt_27 : decode cX4_looksAt 27 = .ok (.return_, 1) := by decide +kernel
theorem dX4_looks_0 : decode cX4_looks 0 = .ok (.aload_n 0, 1) := by decide +kernel
theorem dX4_looks_1 : decode cX4_looks 1 = .ok (.aload_n 0, 1) := by decide +kernel
theorem dX4_looks_2 : decode cX4_looks 2 = .ok (.invokevirtual 47, 3) := by decide +kernel
theorem dX4_looks_5 : decode cX4_looks 5 = .ok (.invokevirtual 54, 3) := by decide +kernel
theorem dX4_looks_8 : decode cX4_looks 8 = .ok (.return_, 1) := by decide +kernel
theorem dX4_place_0 : decode cX4_place 0 = .ok (.iconst 3, 1) := by decide +kernel
theorem dX4_place_1 : decode cX4_place 1 = .ok (.bipush 27, 2) := by decide +kernel
theorem dX4_place_3 : decode cX4_place 3 = .ok (.iload_n 0, 1) := by decide +kernel
theorem dX4_place_4 : decode cX4_place 4 = .ok (.imul, 1) := by decide +kernel
theorem dX4_place_5 : decode cX4_place 5 = .ok (.iadd, 1) := by decide +kernel
theorem dX4_place_6 : decode cX4_place 6 = .ok (.bipush 9, 2) := by decide +kernel
theorem dX4_place_8 : decode cX4_place 8 = .ok (.iload_n 1, 1) := by decide +kernel
theorem dX4_place_9 : decode cX4_place 9 = .ok (.imul, 1) := by decide +kernel
theorem dX4_place_10 : decode cX4_place 10 = .ok (.iadd, 1) := by decide +kernel
theorem dX4_place_11 : decode cX4_place 11 = .ok (.iconst 3, 1) := by decide +kernel
theorem dX4_place_12 : decode cX4_place 12 = .ok (.iload_n 2, 1) := by decide +kernel
theorem dX4_place_13 : decode cX4_place 13 = .ok (.imul, 1) := by decide +kernel
theorem dX4_place_14 : decode cX4_place 14 = .ok (.iadd, 1) := by decide +kernel
theorem dX4_place_15 : decode cX4_place 15 = .ok (.iload_n 3, 1) := by decide +kernel
theorem dX4_place_16 : decode cX4_place 16 = .ok (.iadd, 1) := by decide +kernel
theorem dX4_place_17 : decode cX4_place 17 = .ok (.ireturn, 1) := by decide +kernel
theorem dX4_isThere_0 : decode cX4_isThere 0 = .ok (.aload_n 0, 1) := by decide +kernel
theorem dX4_isThere_1 : decode cX4_isThere 1 = .ok (.getfield 7, 3) := by decide +kernel
theorem dX4_isThere_4 : decode cX4_isThere 4 = .ok (.iload_n 1, 1) := by decide +kernel
theorem dX4_isThere_5 : decode cX4_isThere 5 = .ok (.iaload, 1) := by decide +kernel
theorem dX4_isThere_6 : decode cX4_isThere 6 = .ok (.ifCond .le 7, 3) := by decide +kernel
theorem dX4_isThere_9 : decode cX4_isThere 9 = .ok (.iconst 1, 1) := by decide +kernel
theorem dX4_isThere_10 : decode cX4_isThere 10 = .ok (.goto 4, 3) := by decide +kernel
theorem dX4_isThere_13 : decode cX4_isThere 13 = .ok (.iconst 0, 1) := by decide +kernel
theorem dX4_isThere_14 : decode cX4_isThere 14 = .ok (.ireturn, 1) := by decide +kernel
theorem dX4_there_0 : decode cX4_there 0 = .ok (.iconst 0, 1) := by decide +kernel
theorem dX4_there_1 : decode cX4_there 1 = .ok (.istore_n 1, 1) := by decide +kernel
theorem dX4_there_2 : decode cX4_there 2 = .ok (.iconst 0, 1) := by decide +kernel
theorem dX4_there_3 : decode cX4_there 3 = .ok (.istore_n 2, 1) := by decide +kernel
theorem dX4_there_4 : decode cX4_there 4 = .ok (.iload_n 2, 1) := by decide +kernel
theorem dX4_there_5 : decode cX4_there 5 = .ok (.iconst 3, 1) := by decide +kernel
theorem dX4_there_6 : decode cX4_there 6 = .ok (.if_icmp .ge 27, 3) := by decide +kernel
theorem dX4_there_9 : decode cX4_there 9 = .ok (.iload_n 1, 1) := by decide +kernel
theorem dX4_there_10 : decode cX4_there 10 = .ok (.aload_n 0, 1) := by decide +kernel
theorem dX4_there_11 : decode cX4_there 11 = .ok (.iload_n 2, 1) := by decide +kernel
theorem dX4_there_12 : decode cX4_there 12 = .ok (.invokevirtual 58, 3) := by decide +kernel
theorem dX4_there_15 : decode cX4_there 15 = .ok (.ifCond .eq 9, 3) := by decide +kernel
theorem dX4_there_18 : decode cX4_there 18 = .ok (.iconst 1, 1) := by decide +kernel
theorem dX4_there_19 : decode cX4_there 19 = .ok (.iload_n 2, 1) := by decide +kernel
theorem dX4_there_20 : decode cX4_there 20 = .ok (.ishl, 1) := by decide +kernel
theorem dX4_there_21 : decode cX4_there 21 = .ok (.goto 4, 3) := by decide +kernel
theorem dX4_there_24 : decode cX4_there 24 = .ok (.iconst 0, 1) := by decide +kernel
theorem dX4_there_25 : decode cX4_there 25 = .ok (.ior, 1) := by decide +kernel
theorem dX4_there_26 : decode cX4_there 26 = .ok (.istore_n 1, 1) := by decide +kernel
theorem dX4_there_27 : decode cX4_there 27 = .ok (.iinc 2 1, 3) := by decide +kernel
theorem dX4_there_30 : decode cX4_there 30 = .ok (.goto (-26), 3) := by decide +kernel
theorem dX4_there_33 : decode cX4_there 33 = .ok (.iload_n 1, 1) := by decide +kernel
theorem dX4_there_34 : decode cX4_there 34 = .ok (.ireturn, 1) := by decide +kernel
theorem dX4_senders_0 : decode cX4_senders 0 = .ok (.iconst 0, 1) := by decide +kernel
theorem dX4_senders_1 : decode cX4_senders 1 = .ok (.istore_n 2, 1) := by decide +kernel
theorem dX4_senders_2 : decode cX4_senders 2 = .ok (.iconst 0, 1) := by decide +kernel
theorem dX4_senders_3 : decode cX4_senders 3 = .ok (.istore_n 3, 1) := by decide +kernel
theorem dX4_senders_4 : decode cX4_senders 4 = .ok (.iload_n 3, 1) := by decide +kernel
theorem dX4_senders_5 : decode cX4_senders 5 = .ok (.iconst 3, 1) := by decide +kernel
theorem dX4_senders_6 : decode cX4_senders 6 = .ok (.if_icmp .ge 37, 3) := by decide +kernel
theorem dX4_senders_9 : decode cX4_senders 9 = .ok (.iload_n 2, 1) := by decide +kernel
theorem dX4_senders_10 : decode cX4_senders 10 = .ok (.aload_n 0, 1) := by decide +kernel
theorem dX4_senders_11 : decode cX4_senders 11 = .ok (.iload_n 3, 1) := by decide +kernel
theorem dX4_senders_12 : decode cX4_senders 12 = .ok (.invokevirtual 58, 3) := by decide +kernel
theorem dX4_senders_15 : decode cX4_senders 15 = .ok (.ifCond .eq 19, 3) := by decide +kernel
theorem dX4_senders_18 : decode cX4_senders 18 = .ok (.aload_n 0, 1) := by decide +kernel
theorem dX4_senders_19 : decode cX4_senders 19 = .ok (.getfield 29, 3) := by decide +kernel
theorem dX4_senders_22 : decode cX4_senders 22 = .ok (.iload_n 3, 1) := by decide +kernel
theorem dX4_senders_23 : decode cX4_senders 23 = .ok (.iaload, 1) := by decide +kernel
theorem dX4_senders_24 : decode cX4_senders 24 = .ok (.iload_n 1, 1) := by decide +kernel
theorem dX4_senders_25 : decode cX4_senders 25 = .ok (.if_icmp .ne 9, 3) := by decide +kernel
theorem dX4_senders_28 : decode cX4_senders 28 = .ok (.iconst 1, 1) := by decide +kernel
theorem dX4_senders_29 : decode cX4_senders 29 = .ok (.iload_n 3, 1) := by decide +kernel
theorem dX4_senders_30 : decode cX4_senders 30 = .ok (.ishl, 1) := by decide +kernel
theorem dX4_senders_31 : decode cX4_senders 31 = .ok (.goto 4, 3) := by decide +kernel
theorem dX4_senders_34 : decode cX4_senders 34 = .ok (.iconst 0, 1) := by decide +kernel
theorem dX4_senders_35 : decode cX4_senders 35 = .ok (.ior, 1) := by decide +kernel
theorem dX4_senders_36 : decode cX4_senders 36 = .ok (.istore_n 2, 1) := by decide +kernel
theorem dX4_senders_37 : decode cX4_senders 37 = .ok (.iinc 3 1, 3) := by decide +kernel
theorem dX4_senders_40 : decode cX4_senders 40 = .ok (.goto (-36), 3) := by decide +kernel
theorem dX4_senders_43 : decode cX4_senders 43 = .ok (.iload_n 2, 1) := by decide +kernel
theorem dX4_senders_44 : decode cX4_senders 44 = .ok (.ireturn, 1) := by decide +kernel
theorem dX4_believes_0 : decode cX4_believes 0 = .ok (.aload_n 0, 1) := by decide +kernel
theorem dX4_believes_1 : decode cX4_believes 1 = .ok (.iload_n 1, 1) := by decide +kernel
theorem dX4_believes_2 : decode cX4_believes 2 = .ok (.invokevirtual 62, 3) := by decide +kernel
theorem dX4_believes_5 : decode cX4_believes 5 = .ok (.istore_n 2, 1) := by decide +kernel
theorem dX4_believes_6 : decode cX4_believes 6 = .ok (.iconst 0, 1) := by decide +kernel
theorem dX4_believes_7 : decode cX4_believes 7 = .ok (.istore_n 3, 1) := by decide +kernel
theorem dX4_believes_8 : decode cX4_believes 8 = .ok (.iload_n 3, 1) := by decide +kernel
theorem dX4_believes_9 : decode cX4_believes 9 = .ok (.iconst 3, 1) := by decide +kernel
theorem dX4_believes_10 : decode cX4_believes 10 = .ok (.if_icmp .ge 54, 3) := by decide +kernel
theorem dX4_believes_13 : decode cX4_believes 13 = .ok (.aload_n 0, 1) := by decide +kernel
theorem dX4_believes_14 : decode cX4_believes 14 = .ok (.getfield 32, 3) := by decide +kernel
theorem dX4_believes_17 : decode cX4_believes 17 = .ok (.iload_n 3, 1) := by decide +kernel
theorem dX4_believes_18 : decode cX4_believes 18 = .ok (.iload_n 2, 1) := by decide +kernel
theorem dX4_believes_19 : decode cX4_believes 19 = .ok (.ifCond .ne 19, 3) := by decide +kernel
theorem dX4_believes_22 : decode cX4_believes 22 = .ok (.aload_n 0, 1) := by decide +kernel
theorem dX4_believes_23 : decode cX4_believes 23 = .ok (.getfield 7, 3) := by decide +kernel
theorem dX4_believes_26 : decode cX4_believes 26 = .ok (.bipush 57, 2) := by decide +kernel
theorem dX4_believes_28 : decode cX4_believes 28 = .ok (.iconst 3, 1) := by decide +kernel
theorem dX4_believes_29 : decode cX4_believes 29 = .ok (.iload_n 1, 1) := by decide +kernel
theorem dX4_believes_30 : decode cX4_believes 30 = .ok (.imul, 1) := by decide +kernel
theorem dX4_believes_31 : decode cX4_believes 31 = .ok (.iadd, 1) := by decide +kernel
theorem dX4_believes_32 : decode cX4_believes 32 = .ok (.iload_n 3, 1) := by decide +kernel
theorem dX4_believes_33 : decode cX4_believes 33 = .ok (.iadd, 1) := by decide +kernel
theorem dX4_believes_34 : decode cX4_believes 34 = .ok (.iaload, 1) := by decide +kernel
theorem dX4_believes_35 : decode cX4_believes 35 = .ok (.goto 22, 3) := by decide +kernel
theorem dX4_believes_38 : decode cX4_believes 38 = .ok (.iload_n 2, 1) := by decide +kernel
theorem dX4_believes_39 : decode cX4_believes 39 = .ok (.iload_n 3, 1) := by decide +kernel
theorem dX4_believes_40 : decode cX4_believes 40 = .ok (.ishr, 1) := by decide +kernel
theorem dX4_believes_41 : decode cX4_believes 41 = .ok (.iconst 1, 1) := by decide +kernel
theorem dX4_believes_42 : decode cX4_believes 42 = .ok (.iand, 1) := by decide +kernel
theorem dX4_believes_43 : decode cX4_believes 43 = .ok (.iconst 1, 1) := by decide +kernel
theorem dX4_believes_44 : decode cX4_believes 44 = .ok (.if_icmp .ne 12, 3) := by decide +kernel
theorem dX4_believes_47 : decode cX4_believes 47 = .ok (.aload_n 0, 1) := by decide +kernel
theorem dX4_believes_48 : decode cX4_believes 48 = .ok (.getfield 7, 3) := by decide +kernel
theorem dX4_believes_51 : decode cX4_believes 51 = .ok (.iload_n 3, 1) := by decide +kernel
theorem dX4_believes_52 : decode cX4_believes 52 = .ok (.iaload, 1) := by decide +kernel
theorem dX4_believes_53 : decode cX4_believes 53 = .ok (.goto 4, 3) := by decide +kernel
theorem dX4_believes_56 : decode cX4_believes 56 = .ok (.iconst 0, 1) := by decide +kernel
theorem dX4_believes_57 : decode cX4_believes 57 = .ok (.iastore, 1) := by decide +kernel
theorem dX4_believes_58 : decode cX4_believes 58 = .ok (.iinc 3 1, 3) := by decide +kernel
theorem dX4_believes_61 : decode cX4_believes 61 = .ok (.goto (-53), 3) := by decide +kernel
theorem dX4_believes_64 : decode cX4_believes 64 = .ok (.return_, 1) := by decide +kernel
theorem dX4_worth_0 : decode cX4_worth 0 = .ok (.iconst 0, 1) := by decide +kernel
theorem dX4_worth_1 : decode cX4_worth 1 = .ok (.istore_n 3, 1) := by decide +kernel
theorem dX4_worth_2 : decode cX4_worth 2 = .ok (.iconst 0, 1) := by decide +kernel
theorem dX4_worth_3 : decode cX4_worth 3 = .ok (.istore 4, 2) := by decide +kernel
theorem dX4_worth_5 : decode cX4_worth 5 = .ok (.iload 4, 2) := by decide +kernel
theorem dX4_worth_7 : decode cX4_worth 7 = .ok (.iconst 3, 1) := by decide +kernel
theorem dX4_worth_8 : decode cX4_worth 8 = .ok (.if_icmp .ge 33, 3) := by decide +kernel
theorem dX4_worth_11 : decode cX4_worth 11 = .ok (.iload_n 3, 1) := by decide +kernel
theorem dX4_worth_12 : decode cX4_worth 12 = .ok (.aload_n 0, 1) := by decide +kernel
theorem dX4_worth_13 : decode cX4_worth 13 = .ok (.getfield 32, 3) := by decide +kernel
theorem dX4_worth_16 : decode cX4_worth 16 = .ok (.iload 4, 2) := by decide +kernel
theorem dX4_worth_18 : decode cX4_worth 18 = .ok (.iaload, 1) := by decide +kernel
theorem dX4_worth_19 : decode cX4_worth 19 = .ok (.aload_n 0, 1) := by decide +kernel
theorem dX4_worth_20 : decode cX4_worth 20 = .ok (.getfield 7, 3) := by decide +kernel
theorem dX4_worth_23 : decode cX4_worth 23 = .ok (.iconst 1, 1) := by decide +kernel
theorem dX4_worth_24 : decode cX4_worth 24 = .ok (.iload 4, 2) := by decide +kernel
theorem dX4_worth_26 : decode cX4_worth 26 = .ok (.iload_n 1, 1) := by decide +kernel
theorem dX4_worth_27 : decode cX4_worth 27 = .ok (.iload_n 2, 1) := by decide +kernel
theorem dX4_worth_28 : decode cX4_worth 28 = .ok (.invokestatic 66, 3) := by decide +kernel
theorem dX4_worth_31 : decode cX4_worth 31 = .ok (.iaload, 1) := by decide +kernel
theorem dX4_worth_32 : decode cX4_worth 32 = .ok (.imul, 1) := by decide +kernel
theorem dX4_worth_33 : decode cX4_worth 33 = .ok (.iadd, 1) := by decide +kernel
theorem dX4_worth_34 : decode cX4_worth 34 = .ok (.istore_n 3, 1) := by decide +kernel
theorem dX4_worth_35 : decode cX4_worth 35 = .ok (.iinc 4 1, 3) := by decide +kernel
theorem dX4_worth_38 : decode cX4_worth 38 = .ok (.goto (-33), 3) := by decide +kernel
theorem dX4_worth_41 : decode cX4_worth 41 = .ok (.iload_n 3, 1) := by decide +kernel
theorem dX4_worth_42 : decode cX4_worth 42 = .ok (.ireturn, 1) := by decide +kernel
theorem dX4_bestSet_0 : decode cX4_bestSet 0 = .ok (.aload_n 0, 1) := by decide +kernel
theorem dX4_bestSet_1 : decode cX4_bestSet 1 = .ok (.iload_n 1, 1) := by decide +kernel
theorem dX4_bestSet_2 : decode cX4_bestSet 2 = .ok (.iconst 0, 1) := by decide +kernel
theorem dX4_bestSet_3 : decode cX4_bestSet 3 = .ok (.invokevirtual 70, 3) := by decide +kernel
theorem dX4_bestSet_6 : decode cX4_bestSet 6 = .ok (.istore_n 2, 1) := by decide +kernel
theorem dX4_bestSet_7 : decode cX4_bestSet 7 = .ok (.iconst 1, 1) := by decide +kernel
theorem dX4_bestSet_8 : decode cX4_bestSet 8 = .ok (.istore_n 3, 1) := by decide +kernel
theorem dX4_bestSet_9 : decode cX4_bestSet 9 = .ok (.iconst 1, 1) := by decide +kernel
theorem dX4_bestSet_10 : decode cX4_bestSet 10 = .ok (.istore 4, 2) := by decide +kernel
theorem dX4_bestSet_12 : decode cX4_bestSet 12 = .ok (.iload 4, 2) := by decide +kernel
theorem dX4_bestSet_14 : decode cX4_bestSet 14 = .ok (.iconst 3, 1) := by decide +kernel
theorem dX4_bestSet_15 : decode cX4_bestSet 15 = .ok (.if_icmp .ge 61, 3) := by decide +kernel
theorem dX4_bestSet_18 : decode cX4_bestSet 18 = .ok (.aload_n 0, 1) := by decide +kernel
theorem dX4_bestSet_19 : decode cX4_bestSet 19 = .ok (.iload_n 1, 1) := by decide +kernel
theorem dX4_bestSet_20 : decode cX4_bestSet 20 = .ok (.iload 4, 2) := by decide +kernel
theorem dX4_bestSet_22 : decode cX4_bestSet 22 = .ok (.invokevirtual 70, 3) := by decide +kernel
theorem dX4_bestSet_25 : decode cX4_bestSet 25 = .ok (.istore 5, 2) := by decide +kernel
theorem dX4_bestSet_27 : decode cX4_bestSet 27 = .ok (.iload 5, 2) := by decide +kernel
theorem dX4_bestSet_29 : decode cX4_bestSet 29 = .ok (.iload_n 2, 1) := by decide +kernel
theorem dX4_bestSet_30 : decode cX4_bestSet 30 = .ok (.if_icmp .le 10, 3) := by decide +kernel
theorem dX4_bestSet_33 : decode cX4_bestSet 33 = .ok (.iconst 1, 1) := by decide +kernel
theorem dX4_bestSet_34 : decode cX4_bestSet 34 = .ok (.iload 4, 2) := by decide +kernel
theorem dX4_bestSet_36 : decode cX4_bestSet 36 = .ok (.ishl, 1) := by decide +kernel
theorem dX4_bestSet_37 : decode cX4_bestSet 37 = .ok (.goto 19, 3) := by decide +kernel
theorem dX4_bestSet_40 : decode cX4_bestSet 40 = .ok (.iload 5, 2) := by decide +kernel
theorem dX4_bestSet_42 : decode cX4_bestSet 42 = .ok (.iload_n 2, 1) := by decide +kernel
theorem dX4_bestSet_43 : decode cX4_bestSet 43 = .ok (.if_icmp .ne 12, 3) := by decide +kernel
theorem dX4_bestSet_46 : decode cX4_bestSet 46 = .ok (.iload_n 3, 1) := by decide +kernel
theorem dX4_bestSet_47 : decode cX4_bestSet 47 = .ok (.iconst 1, 1) := by decide +kernel
theorem dX4_bestSet_48 : decode cX4_bestSet 48 = .ok (.iload 4, 2) := by decide +kernel
theorem dX4_bestSet_50 : decode cX4_bestSet 50 = .ok (.ishl, 1) := by decide +kernel
theorem dX4_bestSet_51 : decode cX4_bestSet 51 = .ok (.ior, 1) := by decide +kernel
theorem dX4_bestSet_52 : decode cX4_bestSet 52 = .ok (.goto 4, 3) := by decide +kernel
theorem dX4_bestSet_55 : decode cX4_bestSet 55 = .ok (.iload_n 3, 1) := by decide +kernel
theorem dX4_bestSet_56 : decode cX4_bestSet 56 = .ok (.istore_n 3, 1) := by decide +kernel
theorem dX4_bestSet_57 : decode cX4_bestSet 57 = .ok (.iload 5, 2) := by decide +kernel
theorem dX4_bestSet_59 : decode cX4_bestSet 59 = .ok (.iload_n 2, 1) := by decide +kernel
theorem dX4_bestSet_60 : decode cX4_bestSet 60 = .ok (.if_icmp .le 8, 3) := by decide +kernel
theorem dX4_bestSet_63 : decode cX4_bestSet 63 = .ok (.iload 5, 2) := by decide +kernel
theorem dX4_bestSet_65 : decode cX4_bestSet 65 = .ok (.goto 4, 3) := by decide +kernel
theorem dX4_bestSet_68 : decode cX4_bestSet 68 = .ok (.iload_n 2, 1) := by decide +kernel
theorem dX4_bestSet_69 : decode cX4_bestSet 69 = .ok (.istore_n 2, 1) := by decide +kernel
theorem dX4_bestSet_70 : decode cX4_bestSet 70 = .ok (.iinc 4 1, 3) := by decide +kernel
theorem dX4_bestSet_73 : decode cX4_bestSet 73 = .ok (.goto (-61), 3) := by decide +kernel
theorem dX4_bestSet_76 : decode cX4_bestSet 76 = .ok (.iload_n 3, 1) := by decide +kernel
theorem dX4_bestSet_77 : decode cX4_bestSet 77 = .ok (.ireturn, 1) := by decide +kernel
theorem dX4_best_0 : decode cX4_best 0 = .ok (.aload_n 0, 1) := by decide +kernel
theorem dX4_best_1 : decode cX4_best 1 = .ok (.iload_n 1, 1) := by decide +kernel
theorem dX4_best_2 : decode cX4_best 2 = .ok (.invokevirtual 74, 3) := by decide +kernel
theorem dX4_best_5 : decode cX4_best 5 = .ok (.aload_n 0, 1) := by decide +kernel
theorem dX4_best_6 : decode cX4_best 6 = .ok (.iload_n 1, 1) := by decide +kernel
theorem dX4_best_7 : decode cX4_best 7 = .ok (.invokevirtual 77, 3) := by decide +kernel
theorem dX4_best_10 : decode cX4_best 10 = .ok (.ireturn, 1) := by decide +kernel
theorem dX4_has_0 : decode cX4_has 0 = .ok (.aload_n 0, 1) := by decide +kernel
theorem dX4_has_1 : decode cX4_has 1 = .ok (.getfield 7, 3) := by decide +kernel
theorem dX4_has_4 : decode cX4_has 4 = .ok (.iconst 0, 1) := by decide +kernel
theorem dX4_has_5 : decode cX4_has 5 = .ok (.iload_n 1, 1) := by decide +kernel
theorem dX4_has_6 : decode cX4_has 6 = .ok (.iload_n 2, 1) := by decide +kernel
theorem dX4_has_7 : decode cX4_has 7 = .ok (.aload_n 0, 1) := by decide +kernel
theorem dX4_has_8 : decode cX4_has 8 = .ok (.getfield 29, 3) := by decide +kernel
theorem dX4_has_11 : decode cX4_has 11 = .ok (.iconst 3, 1) := by decide +kernel
theorem dX4_has_12 : decode cX4_has 12 = .ok (.iload_n 2, 1) := by decide +kernel
theorem dX4_has_13 : decode cX4_has 13 = .ok (.iadd, 1) := by decide +kernel
theorem dX4_has_14 : decode cX4_has 14 = .ok (.iaload, 1) := by decide +kernel
theorem dX4_has_15 : decode cX4_has 15 = .ok (.invokestatic 66, 3) := by decide +kernel
theorem dX4_has_18 : decode cX4_has 18 = .ok (.iaload, 1) := by decide +kernel
theorem dX4_has_19 : decode cX4_has 19 = .ok (.ireturn, 1) := by decide +kernel
theorem dX4_payoffOf_0 : decode cX4_payoffOf 0 = .ok (.aload_n 0, 1) := by decide +kernel
theorem dX4_payoffOf_1 : decode cX4_payoffOf 1 = .ok (.iload_n 1, 1) := by decide +kernel
theorem dX4_payoffOf_2 : decode cX4_payoffOf 2 = .ok (.aload_n 0, 1) := by decide +kernel
theorem dX4_payoffOf_3 : decode cX4_payoffOf 3 = .ok (.getfield 29, 3) := by decide +kernel
theorem dX4_payoffOf_6 : decode cX4_payoffOf 6 = .ok (.iload_n 1, 1) := by decide +kernel
theorem dX4_payoffOf_7 : decode cX4_payoffOf 7 = .ok (.iaload, 1) := by decide +kernel
theorem dX4_payoffOf_8 : decode cX4_payoffOf 8 = .ok (.invokevirtual 80, 3) := by decide +kernel
theorem dX4_payoffOf_11 : decode cX4_payoffOf 11 = .ok (.ireturn, 1) := by decide +kernel
theorem dX4_most_0 : decode cX4_most 0 = .ok (.iconst 0, 1) := by decide +kernel
theorem dX4_most_1 : decode cX4_most 1 = .ok (.istore_n 2, 1) := by decide +kernel
theorem dX4_most_2 : decode cX4_most 2 = .ok (.iconst 1, 1) := by decide +kernel
theorem dX4_most_3 : decode cX4_most 3 = .ok (.istore_n 3, 1) := by decide +kernel
theorem dX4_most_4 : decode cX4_most 4 = .ok (.iload_n 3, 1) := by decide +kernel
theorem dX4_most_5 : decode cX4_most 5 = .ok (.iconst 3, 1) := by decide +kernel
theorem dX4_most_6 : decode cX4_most 6 = .ok (.if_icmp .ge 30, 3) := by decide +kernel
theorem dX4_most_9 : decode cX4_most 9 = .ok (.aload_n 0, 1) := by decide +kernel
theorem dX4_most_10 : decode cX4_most 10 = .ok (.iload_n 1, 1) := by decide +kernel
theorem dX4_most_11 : decode cX4_most 11 = .ok (.iload_n 3, 1) := by decide +kernel
theorem dX4_most_12 : decode cX4_most 12 = .ok (.invokevirtual 80, 3) := by decide +kernel
theorem dX4_most_15 : decode cX4_most 15 = .ok (.aload_n 0, 1) := by decide +kernel
theorem dX4_most_16 : decode cX4_most 16 = .ok (.iload_n 1, 1) := by decide +kernel
theorem dX4_most_17 : decode cX4_most 17 = .ok (.iload_n 2, 1) := by decide +kernel
theorem dX4_most_18 : decode cX4_most 18 = .ok (.invokevirtual 80, 3) := by decide +kernel
theorem dX4_most_21 : decode cX4_most 21 = .ok (.if_icmp .le 7, 3) := by decide +kernel
theorem dX4_most_24 : decode cX4_most 24 = .ok (.iload_n 3, 1) := by decide +kernel
theorem dX4_most_25 : decode cX4_most 25 = .ok (.goto 4, 3) := by decide +kernel
theorem dX4_most_28 : decode cX4_most 28 = .ok (.iload_n 2, 1) := by decide +kernel
theorem dX4_most_29 : decode cX4_most 29 = .ok (.istore_n 2, 1) := by decide +kernel
theorem dX4_most_30 : decode cX4_most 30 = .ok (.iinc 3 1, 3) := by decide +kernel
theorem dX4_most_33 : decode cX4_most 33 = .ok (.goto (-29), 3) := by decide +kernel
theorem dX4_most_36 : decode cX4_most 36 = .ok (.iload_n 2, 1) := by decide +kernel
theorem dX4_most_37 : decode cX4_most 37 = .ok (.ireturn, 1) := by decide +kernel
theorem dX4_unhappy_0 : decode cX4_unhappy 0 = .ok (.iconst 0, 1) := by decide +kernel
theorem dX4_unhappy_1 : decode cX4_unhappy 1 = .ok (.istore_n 1, 1) := by decide +kernel
theorem dX4_unhappy_2 : decode cX4_unhappy 2 = .ok (.iload_n 1, 1) := by decide +kernel
theorem dX4_unhappy_3 : decode cX4_unhappy 3 = .ok (.iconst 3, 1) := by decide +kernel
theorem dX4_unhappy_4 : decode cX4_unhappy 4 = .ok (.if_icmp .ge 37, 3) := by decide +kernel
theorem dX4_unhappy_7 : decode cX4_unhappy 7 = .ok (.aload_n 0, 1) := by decide +kernel
theorem dX4_unhappy_8 : decode cX4_unhappy 8 = .ok (.iload_n 1, 1) := by decide +kernel
theorem dX4_unhappy_9 : decode cX4_unhappy 9 = .ok (.invokevirtual 58, 3) := by decide +kernel
theorem dX4_unhappy_12 : decode cX4_unhappy 12 = .ok (.ifCond .eq 23, 3) := by decide +kernel
theorem dX4_unhappy_15 : decode cX4_unhappy 15 = .ok (.aload_n 0, 1) := by decide +kernel
theorem dX4_unhappy_16 : decode cX4_unhappy 16 = .ok (.iload_n 1, 1) := by decide +kernel
theorem dX4_unhappy_17 : decode cX4_unhappy 17 = .ok (.aload_n 0, 1) := by decide +kernel
theorem dX4_unhappy_18 : decode cX4_unhappy 18 = .ok (.iload_n 1, 1) := by decide +kernel
theorem dX4_unhappy_19 : decode cX4_unhappy 19 = .ok (.invokevirtual 83, 3) := by decide +kernel
theorem dX4_unhappy_22 : decode cX4_unhappy 22 = .ok (.invokevirtual 80, 3) := by decide +kernel
theorem dX4_unhappy_25 : decode cX4_unhappy 25 = .ok (.aload_n 0, 1) := by decide +kernel
theorem dX4_unhappy_26 : decode cX4_unhappy 26 = .ok (.iload_n 1, 1) := by decide +kernel
theorem dX4_unhappy_27 : decode cX4_unhappy 27 = .ok (.invokevirtual 86, 3) := by decide +kernel
theorem dX4_unhappy_30 : decode cX4_unhappy 30 = .ok (.if_icmp .le 5, 3) := by decide +kernel
theorem dX4_unhappy_33 : decode cX4_unhappy 33 = .ok (.iload_n 1, 1) := by decide +kernel
theorem dX4_unhappy_34 : decode cX4_unhappy 34 = .ok (.ireturn, 1) := by decide +kernel
theorem dX4_unhappy_35 : decode cX4_unhappy 35 = .ok (.iinc 1 1, 3) := by decide +kernel
theorem dX4_unhappy_38 : decode cX4_unhappy 38 = .ok (.goto (-36), 3) := by decide +kernel
theorem dX4_unhappy_41 : decode cX4_unhappy 41 = .ok (.bipush (-6), 2) := by decide +kernel
theorem dX4_unhappy_43 : decode cX4_unhappy 43 = .ok (.ireturn, 1) := by decide +kernel
theorem dX4_wrong_0 : decode cX4_wrong 0 = .ok (.iconst 0, 1) := by decide +kernel
theorem dX4_wrong_1 : decode cX4_wrong 1 = .ok (.istore_n 1, 1) := by decide +kernel
theorem dX4_wrong_2 : decode cX4_wrong 2 = .ok (.iload_n 1, 1) := by decide +kernel
theorem dX4_wrong_3 : decode cX4_wrong 3 = .ok (.iconst 3, 1) := by decide +kernel
theorem dX4_wrong_4 : decode cX4_wrong 4 = .ok (.if_icmp .ge 30, 3) := by decide +kernel
theorem dX4_wrong_7 : decode cX4_wrong 7 = .ok (.aload_n 0, 1) := by decide +kernel
theorem dX4_wrong_8 : decode cX4_wrong 8 = .ok (.iload_n 1, 1) := by decide +kernel
theorem dX4_wrong_9 : decode cX4_wrong 9 = .ok (.invokevirtual 89, 3) := by decide +kernel
theorem dX4_wrong_12 : decode cX4_wrong 12 = .ok (.aload_n 0, 1) := by decide +kernel
theorem dX4_wrong_13 : decode cX4_wrong 13 = .ok (.getfield 29, 3) := by decide +kernel
theorem dX4_wrong_16 : decode cX4_wrong 16 = .ok (.iconst 3, 1) := by decide +kernel
theorem dX4_wrong_17 : decode cX4_wrong 17 = .ok (.iload_n 1, 1) := by decide +kernel
theorem dX4_wrong_18 : decode cX4_wrong 18 = .ok (.iadd, 1) := by decide +kernel
theorem dX4_wrong_19 : decode cX4_wrong 19 = .ok (.iaload, 1) := by decide +kernel
theorem dX4_wrong_20 : decode cX4_wrong 20 = .ok (.ishr, 1) := by decide +kernel
theorem dX4_wrong_21 : decode cX4_wrong 21 = .ok (.iconst 1, 1) := by decide +kernel
theorem dX4_wrong_22 : decode cX4_wrong 22 = .ok (.iand, 1) := by decide +kernel
theorem dX4_wrong_23 : decode cX4_wrong 23 = .ok (.ifCond .ne 5, 3) := by decide +kernel
theorem dX4_wrong_26 : decode cX4_wrong 26 = .ok (.iload_n 1, 1) := by decide +kernel
theorem dX4_wrong_27 : decode cX4_wrong 27 = .ok (.ireturn, 1) := by decide +kernel
theorem dX4_wrong_28 : decode cX4_wrong 28 = .ok (.iinc 1 1, 3) := by decide +kernel
theorem dX4_wrong_31 : decode cX4_wrong 31 = .ok (.goto (-29), 3) := by decide +kernel
theorem dX4_wrong_34 : decode cX4_wrong 34 = .ok (.bipush (-6), 2) := by decide +kernel
theorem dX4_wrong_36 : decode cX4_wrong 36 = .ok (.ireturn, 1) := by decide +kernel
theorem dX4_holds_0 : decode cX4_holds 0 = .ok (.aload_n 0, 1) := by decide +kernel
theorem dX4_holds_1 : decode cX4_holds 1 = .ok (.invokevirtual 92, 3) := by decide +kernel
theorem dX4_holds_4 : decode cX4_holds 4 = .ok (.bipush (-6), 2) := by decide +kernel
theorem dX4_holds_6 : decode cX4_holds 6 = .ok (.if_icmp .ne 16, 3) := by decide +kernel
theorem dX4_holds_9 : decode cX4_holds 9 = .ok (.aload_n 0, 1) := by decide +kernel
theorem dX4_holds_10 : decode cX4_holds 10 = .ok (.invokevirtual 95, 3) := by decide +kernel
theorem dX4_holds_13 : decode cX4_holds 13 = .ok (.bipush (-6), 2) := by decide +kernel
theorem dX4_holds_15 : decode cX4_holds 15 = .ok (.if_icmp .ne 7, 3) := by decide +kernel
theorem dX4_holds_18 : decode cX4_holds 18 = .ok (.iconst 1, 1) := by decide +kernel
theorem dX4_holds_19 : decode cX4_holds 19 = .ok (.goto 4, 3) := by decide +kernel
theorem dX4_holds_22 : decode cX4_holds 22 = .ok (.iconst 0, 1) := by decide +kernel
theorem dX4_holds_23 : decode cX4_holds 23 = .ok (.ireturn, 1) := by decide +kernel
theorem dX4_sort_0 : decode cX4_sort 0 = .ok (.iconst 0, 1) := by decide +kernel
theorem dX4_sort_1 : decode cX4_sort 1 = .ok (.istore_n 1, 1) := by decide +kernel
theorem dX4_sort_2 : decode cX4_sort 2 = .ok (.iconst 0, 1) := by decide +kernel
theorem dX4_sort_3 : decode cX4_sort 3 = .ok (.istore_n 2, 1) := by decide +kernel
theorem dX4_sort_4 : decode cX4_sort 4 = .ok (.iconst 0, 1) := by decide +kernel
theorem dX4_sort_5 : decode cX4_sort 5 = .ok (.istore_n 3, 1) := by decide +kernel
theorem dX4_sort_6 : decode cX4_sort 6 = .ok (.iload_n 3, 1) := by decide +kernel
theorem dX4_sort_7 : decode cX4_sort 7 = .ok (.iconst 3, 1) := by decide +kernel
theorem dX4_sort_8 : decode cX4_sort 8 = .ok (.if_icmp .ge 48, 3) := by decide +kernel
theorem dX4_sort_11 : decode cX4_sort 11 = .ok (.iload_n 1, 1) := by decide +kernel
theorem dX4_sort_12 : decode cX4_sort 12 = .ok (.aload_n 0, 1) := by decide +kernel
theorem dX4_sort_13 : decode cX4_sort 13 = .ok (.iload_n 3, 1) := by decide +kernel
theorem dX4_sort_14 : decode cX4_sort 14 = .ok (.invokevirtual 58, 3) := by decide +kernel
theorem dX4_sort_17 : decode cX4_sort 17 = .ok (.ifCond .eq 7, 3) := by decide +kernel
theorem dX4_sort_20 : decode cX4_sort 20 = .ok (.iconst 1, 1) := by decide +kernel
theorem dX4_sort_21 : decode cX4_sort 21 = .ok (.goto 4, 3) := by decide +kernel
theorem dX4_sort_24 : decode cX4_sort 24 = .ok (.iconst 0, 1) := by decide +kernel
theorem dX4_sort_25 : decode cX4_sort 25 = .ok (.iadd, 1) := by decide +kernel
theorem dX4_sort_26 : decode cX4_sort 26 = .ok (.istore_n 1, 1) := by decide +kernel
theorem dX4_sort_27 : decode cX4_sort 27 = .ok (.iload_n 2, 1) := by decide +kernel
theorem dX4_sort_28 : decode cX4_sort 28 = .ok (.aload_n 0, 1) := by decide +kernel
theorem dX4_sort_29 : decode cX4_sort 29 = .ok (.iload_n 3, 1) := by decide +kernel
theorem dX4_sort_30 : decode cX4_sort 30 = .ok (.invokevirtual 58, 3) := by decide +kernel
theorem dX4_sort_33 : decode cX4_sort 33 = .ok (.ifCond .eq 14, 3) := by decide +kernel
theorem dX4_sort_36 : decode cX4_sort 36 = .ok (.iconst 1, 1) := by decide +kernel
theorem dX4_sort_37 : decode cX4_sort 37 = .ok (.aload_n 0, 1) := by decide +kernel
theorem dX4_sort_38 : decode cX4_sort 38 = .ok (.getfield 29, 3) := by decide +kernel
theorem dX4_sort_41 : decode cX4_sort 41 = .ok (.iload_n 3, 1) := by decide +kernel
theorem dX4_sort_42 : decode cX4_sort 42 = .ok (.iaload, 1) := by decide +kernel
theorem dX4_sort_43 : decode cX4_sort 43 = .ok (.ishl, 1) := by decide +kernel
theorem dX4_sort_44 : decode cX4_sort 44 = .ok (.goto 4, 3) := by decide +kernel
theorem dX4_sort_47 : decode cX4_sort 47 = .ok (.iconst 0, 1) := by decide +kernel
theorem dX4_sort_48 : decode cX4_sort 48 = .ok (.ior, 1) := by decide +kernel
theorem dX4_sort_49 : decode cX4_sort 49 = .ok (.istore_n 2, 1) := by decide +kernel
theorem dX4_sort_50 : decode cX4_sort 50 = .ok (.iinc 3 1, 3) := by decide +kernel
theorem dX4_sort_53 : decode cX4_sort 53 = .ok (.goto (-47), 3) := by decide +kernel
theorem dX4_sort_56 : decode cX4_sort 56 = .ok (.iload_n 2, 1) := by decide +kernel
theorem dX4_sort_57 : decode cX4_sort 57 = .ok (.iconst 1, 1) := by decide +kernel
theorem dX4_sort_58 : decode cX4_sort 58 = .ok (.iand, 1) := by decide +kernel
theorem dX4_sort_59 : decode cX4_sort 59 = .ok (.iload_n 2, 1) := by decide +kernel
theorem dX4_sort_60 : decode cX4_sort 60 = .ok (.iconst 1, 1) := by decide +kernel
theorem dX4_sort_61 : decode cX4_sort 61 = .ok (.ishr, 1) := by decide +kernel
theorem dX4_sort_62 : decode cX4_sort 62 = .ok (.iconst 1, 1) := by decide +kernel
theorem dX4_sort_63 : decode cX4_sort 63 = .ok (.iand, 1) := by decide +kernel
theorem dX4_sort_64 : decode cX4_sort 64 = .ok (.iadd, 1) := by decide +kernel
theorem dX4_sort_65 : decode cX4_sort 65 = .ok (.iload_n 2, 1) := by decide +kernel
theorem dX4_sort_66 : decode cX4_sort 66 = .ok (.iconst 2, 1) := by decide +kernel
theorem dX4_sort_67 : decode cX4_sort 67 = .ok (.ishr, 1) := by decide +kernel
theorem dX4_sort_68 : decode cX4_sort 68 = .ok (.iadd, 1) := by decide +kernel
theorem dX4_sort_69 : decode cX4_sort 69 = .ok (.istore_n 3, 1) := by decide +kernel
theorem dX4_sort_70 : decode cX4_sort 70 = .ok (.iload_n 3, 1) := by decide +kernel
theorem dX4_sort_71 : decode cX4_sort 71 = .ok (.iconst 1, 1) := by decide +kernel
theorem dX4_sort_72 : decode cX4_sort 72 = .ok (.if_icmp .ne 7, 3) := by decide +kernel
theorem dX4_sort_75 : decode cX4_sort 75 = .ok (.iconst 0, 1) := by decide +kernel
theorem dX4_sort_76 : decode cX4_sort 76 = .ok (.goto 13, 3) := by decide +kernel
theorem dX4_sort_79 : decode cX4_sort 79 = .ok (.iload_n 3, 1) := by decide +kernel
theorem dX4_sort_80 : decode cX4_sort 80 = .ok (.iload_n 1, 1) := by decide +kernel
theorem dX4_sort_81 : decode cX4_sort 81 = .ok (.if_icmp .ne 7, 3) := by decide +kernel
theorem dX4_sort_84 : decode cX4_sort 84 = .ok (.iconst 1, 1) := by decide +kernel
theorem dX4_sort_85 : decode cX4_sort 85 = .ok (.goto 4, 3) := by decide +kernel
theorem dX4_sort_88 : decode cX4_sort 88 = .ok (.iconst 2, 1) := by decide +kernel
theorem dX4_sort_89 : decode cX4_sort 89 = .ok (.ireturn, 1) := by decide +kernel
theorem dX4_possible_0 : decode cX4_possible 0 = .ok (.iconst 0, 1) := by decide +kernel
theorem dX4_possible_1 : decode cX4_possible 1 = .ok (.istore_n 3, 1) := by decide +kernel
theorem dX4_possible_2 : decode cX4_possible 2 = .ok (.iconst 1, 1) := by decide +kernel
theorem dX4_possible_3 : decode cX4_possible 3 = .ok (.istore 4, 2) := by decide +kernel
theorem dX4_possible_5 : decode cX4_possible 5 = .ok (.iload 4, 2) := by decide +kernel
theorem dX4_possible_7 : decode cX4_possible 7 = .ok (.bipush 125, 2) := by decide +kernel
theorem dX4_possible_9 : decode cX4_possible 9 = .ok (.if_icmp .ge 109, 3) := by decide +kernel
theorem dX4_possible_12 : decode cX4_possible 12 = .ok (.aload_n 0, 1) := by decide +kernel
theorem dX4_possible_13 : decode cX4_possible 13 = .ok (.getfield 32, 3) := by decide +kernel
theorem dX4_possible_16 : decode cX4_possible 16 = .ok (.iconst 0, 1) := by decide +kernel
theorem dX4_possible_17 : decode cX4_possible 17 = .ok (.iload 4, 2) := by decide +kernel
theorem dX4_possible_19 : decode cX4_possible 19 = .ok (.iconst 5, 1) := by decide +kernel
theorem dX4_possible_20 : decode cX4_possible 20 = .ok (.irem, 1) := by decide +kernel
theorem dX4_possible_21 : decode cX4_possible 21 = .ok (.iastore, 1) := by decide +kernel
theorem dX4_possible_22 : decode cX4_possible 22 = .ok (.aload_n 0, 1) := by decide +kernel
theorem dX4_possible_23 : decode cX4_possible 23 = .ok (.getfield 32, 3) := by decide +kernel
theorem dX4_possible_26 : decode cX4_possible 26 = .ok (.iconst 1, 1) := by decide +kernel
theorem dX4_possible_27 : decode cX4_possible 27 = .ok (.iload 4, 2) := by decide +kernel
theorem dX4_possible_29 : decode cX4_possible 29 = .ok (.iconst 5, 1) := by decide +kernel
theorem dX4_possible_30 : decode cX4_possible 30 = .ok (.idiv, 1) := by decide +kernel
theorem dX4_possible_31 : decode cX4_possible 31 = .ok (.iconst 5, 1) := by decide +kernel
theorem dX4_possible_32 : decode cX4_possible 32 = .ok (.irem, 1) := by decide +kernel
theorem dX4_possible_33 : decode cX4_possible 33 = .ok (.iastore, 1) := by decide +kernel
theorem dX4_possible_34 : decode cX4_possible 34 = .ok (.aload_n 0, 1) := by decide +kernel
theorem dX4_possible_35 : decode cX4_possible 35 = .ok (.getfield 32, 3) := by decide +kernel
theorem dX4_possible_38 : decode cX4_possible 38 = .ok (.iconst 2, 1) := by decide +kernel
theorem dX4_possible_39 : decode cX4_possible 39 = .ok (.iload 4, 2) := by decide +kernel
theorem dX4_possible_41 : decode cX4_possible 41 = .ok (.bipush 25, 2) := by decide +kernel
theorem dX4_possible_43 : decode cX4_possible 43 = .ok (.idiv, 1) := by decide +kernel
theorem dX4_possible_44 : decode cX4_possible 44 = .ok (.iastore, 1) := by decide +kernel
theorem dX4_possible_45 : decode cX4_possible 45 = .ok (.iconst 1, 1) := by decide +kernel
theorem dX4_possible_46 : decode cX4_possible 46 = .ok (.istore 5, 2) := by decide +kernel
theorem dX4_possible_48 : decode cX4_possible 48 = .ok (.iconst 0, 1) := by decide +kernel
theorem dX4_possible_49 : decode cX4_possible 49 = .ok (.istore 6, 2) := by decide +kernel
theorem dX4_possible_51 : decode cX4_possible 51 = .ok (.iload 6, 2) := by decide +kernel
theorem dX4_possible_53 : decode cX4_possible 53 = .ok (.iconst 3, 1) := by decide +kernel
theorem dX4_possible_54 : decode cX4_possible 54 = .ok (.if_icmp .ge 41, 3) := by decide +kernel
theorem dX4_possible_57 : decode cX4_possible 57 = .ok (.iload 5, 2) := by decide +kernel
theorem dX4_possible_59 : decode cX4_possible 59 = .ok (.ifCond .eq 27, 3) := by decide +kernel
theorem dX4_possible_62 : decode cX4_possible 62 = .ok (.aload_n 0, 1) := by decide +kernel
theorem dX4_possible_63 : decode cX4_possible 63 = .ok (.getfield 32, 3) := by decide +kernel
theorem dX4_possible_66 : decode cX4_possible 66 = .ok (.iload 6, 2) := by decide +kernel
theorem dX4_possible_68 : decode cX4_possible 68 = .ok (.iaload, 1) := by decide +kernel
theorem dX4_possible_69 : decode cX4_possible 69 = .ok (.ifCond .eq 13, 3) := by decide +kernel
theorem dX4_possible_72 : decode cX4_possible 72 = .ok (.iload_n 2, 1) := by decide +kernel
theorem dX4_possible_73 : decode cX4_possible 73 = .ok (.iload 6, 2) := by decide +kernel
theorem dX4_possible_75 : decode cX4_possible 75 = .ok (.ishr, 1) := by decide +kernel
theorem dX4_possible_76 : decode cX4_possible 76 = .ok (.iconst 1, 1) := by decide +kernel
theorem dX4_possible_77 : decode cX4_possible 77 = .ok (.iand, 1) := by decide +kernel
theorem dX4_possible_78 : decode cX4_possible 78 = .ok (.iconst 1, 1) := by decide +kernel
theorem dX4_possible_79 : decode cX4_possible 79 = .ok (.if_icmp .ne 7, 3) := by decide +kernel
theorem dX4_possible_82 : decode cX4_possible 82 = .ok (.iconst 1, 1) := by decide +kernel
theorem dX4_possible_83 : decode cX4_possible 83 = .ok (.goto 4, 3) := by decide +kernel
theorem dX4_possible_86 : decode cX4_possible 86 = .ok (.iconst 0, 1) := by decide +kernel
theorem dX4_possible_87 : decode cX4_possible 87 = .ok (.istore 5, 2) := by decide +kernel
theorem dX4_possible_89 : decode cX4_possible 89 = .ok (.iinc 6 1, 3) := by decide +kernel
theorem dX4_possible_92 : decode cX4_possible 92 = .ok (.goto (-41), 3) := by decide +kernel
theorem dX4_possible_95 : decode cX4_possible 95 = .ok (.iload_n 3, 1) := by decide +kernel
theorem dX4_possible_96 : decode cX4_possible 96 = .ok (.iload 5, 2) := by decide +kernel
theorem dX4_possible_98 : decode cX4_possible 98 = .ok (.ifCond .eq 11, 3) := by decide +kernel
theorem dX4_possible_101 : decode cX4_possible 101 = .ok (.aload_n 0, 1) := by decide +kernel
theorem dX4_possible_102 : decode cX4_possible 102 = .ok (.iload_n 1, 1) := by decide +kernel
theorem dX4_possible_103 : decode cX4_possible 103 = .ok (.invokevirtual 77, 3) := by decide +kernel
theorem dX4_possible_106 : decode cX4_possible 106 = .ok (.goto 4, 3) := by decide +kernel
theorem dX4_possible_109 : decode cX4_possible 109 = .ok (.iconst 0, 1) := by decide +kernel
theorem dX4_possible_110 : decode cX4_possible 110 = .ok (.ior, 1) := by decide +kernel
theorem dX4_possible_111 : decode cX4_possible 111 = .ok (.istore_n 3, 1) := by decide +kernel
theorem dX4_possible_112 : decode cX4_possible 112 = .ok (.iinc 4 1, 3) := by decide +kernel
theorem dX4_possible_115 : decode cX4_possible 115 = .ok (.goto (-110), 3) := by decide +kernel
theorem dX4_possible_118 : decode cX4_possible 118 = .ok (.iload_n 3, 1) := by decide +kernel
theorem dX4_possible_119 : decode cX4_possible 119 = .ok (.ireturn, 1) := by decide +kernel
theorem dX4_isBeyond_0 : decode cX4_isBeyond 0 = .ok (.iconst 1, 1) := by decide +kernel
theorem dX4_isBeyond_1 : decode cX4_isBeyond 1 = .ok (.istore 5, 2) := by decide +kernel
theorem dX4_isBeyond_3 : decode cX4_isBeyond 3 = .ok (.iconst 0, 1) := by decide +kernel
theorem dX4_isBeyond_4 : decode cX4_isBeyond 4 = .ok (.istore 6, 2) := by decide +kernel
theorem dX4_isBeyond_6 : decode cX4_isBeyond 6 = .ok (.iload 6, 2) := by decide +kernel
theorem dX4_isBeyond_8 : decode cX4_isBeyond 8 = .ok (.iconst 3, 1) := by decide +kernel
theorem dX4_isBeyond_9 : decode cX4_isBeyond 9 = .ok (.if_icmp .ge 90, 3) := by decide +kernel
theorem dX4_isBeyond_12 : decode cX4_isBeyond 12 = .ok (.aload_n 0, 1) := by decide +kernel
theorem dX4_isBeyond_13 : decode cX4_isBeyond 13 = .ok (.getfield 7, 3) := by decide +kernel
theorem dX4_isBeyond_16 : decode cX4_isBeyond 16 = .ok (.iconst 0, 1) := by decide +kernel
theorem dX4_isBeyond_17 : decode cX4_isBeyond 17 = .ok (.iload_n 1, 1) := by decide +kernel
theorem dX4_isBeyond_18 : decode cX4_isBeyond 18 = .ok (.iload_n 2, 1) := by decide +kernel
theorem dX4_isBeyond_19 : decode cX4_isBeyond 19 = .ok (.iload 6, 2) := by decide +kernel
theorem dX4_isBeyond_21 : decode cX4_isBeyond 21 = .ok (.invokestatic 66, 3) := by decide +kernel
theorem dX4_isBeyond_24 : decode cX4_isBeyond 24 = .ok (.iaload, 1) := by decide +kernel
theorem dX4_isBeyond_25 : decode cX4_isBeyond 25 = .ok (.istore 7, 2) := by decide +kernel
theorem dX4_isBeyond_27 : decode cX4_isBeyond 27 = .ok (.iload 4, 2) := by decide +kernel
theorem dX4_isBeyond_29 : decode cX4_isBeyond 29 = .ok (.ifCond .eq 21, 3) := by decide +kernel
theorem dX4_isBeyond_32 : decode cX4_isBeyond 32 = .ok (.aload_n 0, 1) := by decide +kernel
theorem dX4_isBeyond_33 : decode cX4_isBeyond 33 = .ok (.iload_n 1, 1) := by decide +kernel
theorem dX4_isBeyond_34 : decode cX4_isBeyond 34 = .ok (.invokevirtual 86, 3) := by decide +kernel
theorem dX4_isBeyond_37 : decode cX4_isBeyond 37 = .ok (.iload 7, 2) := by decide +kernel
theorem dX4_isBeyond_39 : decode cX4_isBeyond 39 = .ok (.if_icmp .le 7, 3) := by decide +kernel
theorem dX4_isBeyond_42 : decode cX4_isBeyond 42 = .ok (.iconst 1, 1) := by decide +kernel
theorem dX4_isBeyond_43 : decode cX4_isBeyond 43 = .ok (.goto 22, 3) := by decide +kernel
theorem dX4_isBeyond_46 : decode cX4_isBeyond 46 = .ok (.iconst 0, 1) := by decide +kernel
theorem dX4_isBeyond_47 : decode cX4_isBeyond 47 = .ok (.goto 18, 3) := by decide +kernel
theorem dX4_isBeyond_50 : decode cX4_isBeyond 50 = .ok (.aload_n 0, 1) := by decide +kernel
theorem dX4_isBeyond_51 : decode cX4_isBeyond 51 = .ok (.iload_n 1, 1) := by decide +kernel
theorem dX4_isBeyond_52 : decode cX4_isBeyond 52 = .ok (.invokevirtual 86, 3) := by decide +kernel
theorem dX4_isBeyond_55 : decode cX4_isBeyond 55 = .ok (.iload 7, 2) := by decide +kernel
theorem dX4_isBeyond_57 : decode cX4_isBeyond 57 = .ok (.if_icmp .ge 7, 3) := by decide +kernel
theorem dX4_isBeyond_60 : decode cX4_isBeyond 60 = .ok (.iconst 1, 1) := by decide +kernel
theorem dX4_isBeyond_61 : decode cX4_isBeyond 61 = .ok (.goto 4, 3) := by decide +kernel
theorem dX4_isBeyond_64 : decode cX4_isBeyond 64 = .ok (.iconst 0, 1) := by decide +kernel
theorem dX4_isBeyond_65 : decode cX4_isBeyond 65 = .ok (.istore 8, 2) := by decide +kernel
theorem dX4_isBeyond_67 : decode cX4_isBeyond 67 = .ok (.iload 5, 2) := by decide +kernel
theorem dX4_isBeyond_69 : decode cX4_isBeyond 69 = .ok (.ifCond .eq 21, 3) := by decide +kernel
theorem dX4_isBeyond_72 : decode cX4_isBeyond 72 = .ok (.iload_n 3, 1) := by decide +kernel
theorem dX4_isBeyond_73 : decode cX4_isBeyond 73 = .ok (.iload 6, 2) := by decide +kernel
theorem dX4_isBeyond_75 : decode cX4_isBeyond 75 = .ok (.ishr, 1) := by decide +kernel
theorem dX4_isBeyond_76 : decode cX4_isBeyond 76 = .ok (.iconst 1, 1) := by decide +kernel
theorem dX4_isBeyond_77 : decode cX4_isBeyond 77 = .ok (.iand, 1) := by decide +kernel
theorem dX4_isBeyond_78 : decode cX4_isBeyond 78 = .ok (.ifCond .eq 8, 3) := by decide +kernel
theorem dX4_isBeyond_81 : decode cX4_isBeyond 81 = .ok (.iload 8, 2) := by decide +kernel
theorem dX4_isBeyond_83 : decode cX4_isBeyond 83 = .ok (.ifCond .eq 7, 3) := by decide +kernel
theorem dX4_isBeyond_86 : decode cX4_isBeyond 86 = .ok (.iconst 1, 1) := by decide +kernel
theorem dX4_isBeyond_87 : decode cX4_isBeyond 87 = .ok (.goto 4, 3) := by decide +kernel
theorem dX4_isBeyond_90 : decode cX4_isBeyond 90 = .ok (.iconst 0, 1) := by decide +kernel
theorem dX4_isBeyond_91 : decode cX4_isBeyond 91 = .ok (.istore 5, 2) := by decide +kernel
theorem dX4_isBeyond_93 : decode cX4_isBeyond 93 = .ok (.iinc 6 1, 3) := by decide +kernel
theorem dX4_isBeyond_96 : decode cX4_isBeyond 96 = .ok (.goto (-90), 3) := by decide +kernel
theorem dX4_isBeyond_99 : decode cX4_isBeyond 99 = .ok (.iload 5, 2) := by decide +kernel
theorem dX4_isBeyond_101 : decode cX4_isBeyond 101 = .ok (.ireturn, 1) := by decide +kernel
theorem dX4_never_0 : decode cX4_never 0 = .ok (.aload_n 0, 1) := by decide +kernel
theorem dX4_never_1 : decode cX4_never 1 = .ok (.iload_n 1, 1) := by decide +kernel
theorem dX4_never_2 : decode cX4_never 2 = .ok (.invokevirtual 62, 3) := by decide +kernel
theorem dX4_never_5 : decode cX4_never 5 = .ok (.ifCond .eq 5, 3) := by decide +kernel
theorem dX4_never_8 : decode cX4_never 8 = .ok (.iconst 0, 1) := by decide +kernel
theorem dX4_never_9 : decode cX4_never 9 = .ok (.ireturn, 1) := by decide +kernel
theorem dX4_never_10 : decode cX4_never 10 = .ok (.aload_n 0, 1) := by decide +kernel
theorem dX4_never_11 : decode cX4_never 11 = .ok (.iload_n 1, 1) := by decide +kernel
theorem dX4_never_12 : decode cX4_never 12 = .ok (.aload_n 0, 1) := by decide +kernel
theorem dX4_never_13 : decode cX4_never 13 = .ok (.invokevirtual 98, 3) := by decide +kernel
theorem dX4_never_16 : decode cX4_never 16 = .ok (.invokevirtual 101, 3) := by decide +kernel
theorem dX4_never_19 : decode cX4_never 19 = .ok (.istore_n 2, 1) := by decide +kernel
theorem dX4_never_20 : decode cX4_never 20 = .ok (.iconst 0, 1) := by decide +kernel
theorem dX4_never_21 : decode cX4_never 21 = .ok (.istore_n 3, 1) := by decide +kernel
theorem dX4_never_22 : decode cX4_never 22 = .ok (.iconst 0, 1) := by decide +kernel
theorem dX4_never_23 : decode cX4_never 23 = .ok (.istore 4, 2) := by decide +kernel
theorem dX4_never_25 : decode cX4_never 25 = .ok (.iload 4, 2) := by decide +kernel
theorem dX4_never_27 : decode cX4_never 27 = .ok (.iconst 3, 1) := by decide +kernel
theorem dX4_never_28 : decode cX4_never 28 = .ok (.if_icmp .ge 41, 3) := by decide +kernel
theorem dX4_never_31 : decode cX4_never 31 = .ok (.iload_n 3, 1) := by decide +kernel
theorem dX4_never_32 : decode cX4_never 32 = .ok (.aload_n 0, 1) := by decide +kernel
theorem dX4_never_33 : decode cX4_never 33 = .ok (.iload 4, 2) := by decide +kernel
theorem dX4_never_35 : decode cX4_never 35 = .ok (.invokevirtual 58, 3) := by decide +kernel
theorem dX4_never_38 : decode cX4_never 38 = .ok (.ifCond .eq 22, 3) := by decide +kernel
theorem dX4_never_41 : decode cX4_never 41 = .ok (.aload_n 0, 1) := by decide +kernel
theorem dX4_never_42 : decode cX4_never 42 = .ok (.iload 4, 2) := by decide +kernel
theorem dX4_never_44 : decode cX4_never 44 = .ok (.iload_n 1, 1) := by decide +kernel
theorem dX4_never_45 : decode cX4_never 45 = .ok (.iload_n 2, 1) := by decide +kernel
theorem dX4_never_46 : decode cX4_never 46 = .ok (.iconst 1, 1) := by decide +kernel
theorem dX4_never_47 : decode cX4_never 47 = .ok (.invokevirtual 104, 3) := by decide +kernel
theorem dX4_never_50 : decode cX4_never 50 = .ok (.ifCond .eq 10, 3) := by decide +kernel
theorem dX4_never_53 : decode cX4_never 53 = .ok (.iconst 1, 1) := by decide +kernel
theorem dX4_never_54 : decode cX4_never 54 = .ok (.iload 4, 2) := by decide +kernel
theorem dX4_never_56 : decode cX4_never 56 = .ok (.ishl, 1) := by decide +kernel
theorem dX4_never_57 : decode cX4_never 57 = .ok (.goto 4, 3) := by decide +kernel
theorem dX4_never_60 : decode cX4_never 60 = .ok (.iconst 0, 1) := by decide +kernel
theorem dX4_never_61 : decode cX4_never 61 = .ok (.ior, 1) := by decide +kernel
theorem dX4_never_62 : decode cX4_never 62 = .ok (.istore_n 3, 1) := by decide +kernel
theorem dX4_never_63 : decode cX4_never 63 = .ok (.iinc 4 1, 3) := by decide +kernel
theorem dX4_never_66 : decode cX4_never 66 = .ok (.goto (-41), 3) := by decide +kernel
theorem dX4_never_69 : decode cX4_never 69 = .ok (.iload_n 3, 1) := by decide +kernel
theorem dX4_never_70 : decode cX4_never 70 = .ok (.ireturn, 1) := by decide +kernel
theorem dX4_isBarred_0 : decode cX4_isBarred 0 = .ok (.aload_n 0, 1) := by decide +kernel
theorem dX4_isBarred_1 : decode cX4_isBarred 1 = .ok (.invokevirtual 98, 3) := by decide +kernel
theorem dX4_isBarred_4 : decode cX4_isBarred 4 = .ok (.aload_n 0, 1) := by decide +kernel
theorem dX4_isBarred_5 : decode cX4_isBarred 5 = .ok (.iload_n 1, 1) := by decide +kernel
theorem dX4_isBarred_6 : decode cX4_isBarred 6 = .ok (.invokevirtual 108, 3) := by decide +kernel
theorem dX4_isBarred_9 : decode cX4_isBarred 9 = .ok (.iconst (-1), 1) := by decide +kernel
theorem dX4_isBarred_10 : decode cX4_isBarred 10 = .ok (.ixor, 1) := by decide +kernel
theorem dX4_isBarred_11 : decode cX4_isBarred 11 = .ok (.iand, 1) := by decide +kernel
theorem dX4_isBarred_12 : decode cX4_isBarred 12 = .ok (.istore_n 2, 1) := by decide +kernel
theorem dX4_isBarred_13 : decode cX4_isBarred 13 = .ok (.aload_n 0, 1) := by decide +kernel
theorem dX4_isBarred_14 : decode cX4_isBarred 14 = .ok (.iload_n 1, 1) := by decide +kernel
theorem dX4_isBarred_15 : decode cX4_isBarred 15 = .ok (.invokevirtual 62, 3) := by decide +kernel
theorem dX4_isBarred_18 : decode cX4_isBarred 18 = .ok (.ifCond .ne 7, 3) := by decide +kernel
theorem dX4_isBarred_21 : decode cX4_isBarred 21 = .ok (.iload_n 2, 1) := by decide +kernel
theorem dX4_isBarred_22 : decode cX4_isBarred 22 = .ok (.ifCond .ne 5, 3) := by decide +kernel
theorem dX4_isBarred_25 : decode cX4_isBarred 25 = .ok (.iconst 0, 1) := by decide +kernel
theorem dX4_isBarred_26 : decode cX4_isBarred 26 = .ok (.ireturn, 1) := by decide +kernel
theorem dX4_isBarred_27 : decode cX4_isBarred 27 = .ok (.aload_n 0, 1) := by decide +kernel
theorem dX4_isBarred_28 : decode cX4_isBarred 28 = .ok (.iload_n 1, 1) := by decide +kernel
theorem dX4_isBarred_29 : decode cX4_isBarred 29 = .ok (.iload_n 2, 1) := by decide +kernel
theorem dX4_isBarred_30 : decode cX4_isBarred 30 = .ok (.invokevirtual 101, 3) := by decide +kernel
theorem dX4_isBarred_33 : decode cX4_isBarred 33 = .ok (.istore_n 3, 1) := by decide +kernel
theorem dX4_isBarred_34 : decode cX4_isBarred 34 = .ok (.iconst 0, 1) := by decide +kernel
theorem dX4_isBarred_35 : decode cX4_isBarred 35 = .ok (.istore 4, 2) := by decide +kernel
theorem dX4_isBarred_37 : decode cX4_isBarred 37 = .ok (.iconst 0, 1) := by decide +kernel
theorem dX4_isBarred_38 : decode cX4_isBarred 38 = .ok (.istore 5, 2) := by decide +kernel
theorem dX4_isBarred_40 : decode cX4_isBarred 40 = .ok (.iload 5, 2) := by decide +kernel
theorem dX4_isBarred_42 : decode cX4_isBarred 42 = .ok (.iconst 3, 1) := by decide +kernel
theorem dX4_isBarred_43 : decode cX4_isBarred 43 = .ok (.if_icmp .ge 43, 3) := by decide +kernel
theorem dX4_isBarred_46 : decode cX4_isBarred 46 = .ok (.iload 4, 2) := by decide +kernel
theorem dX4_isBarred_48 : decode cX4_isBarred 48 = .ok (.ifCond .ne 25, 3) := by decide +kernel
theorem dX4_isBarred_51 : decode cX4_isBarred 51 = .ok (.iload_n 2, 1) := by decide +kernel
theorem dX4_isBarred_52 : decode cX4_isBarred 52 = .ok (.iload 5, 2) := by decide +kernel
theorem dX4_isBarred_54 : decode cX4_isBarred 54 = .ok (.ishr, 1) := by decide +kernel
theorem dX4_isBarred_55 : decode cX4_isBarred 55 = .ok (.iconst 1, 1) := by decide +kernel
theorem dX4_isBarred_56 : decode cX4_isBarred 56 = .ok (.iand, 1) := by decide +kernel
theorem dX4_isBarred_57 : decode cX4_isBarred 57 = .ok (.iconst 1, 1) := by decide +kernel
theorem dX4_isBarred_58 : decode cX4_isBarred 58 = .ok (.if_icmp .ne 19, 3) := by decide +kernel
theorem dX4_isBarred_61 : decode cX4_isBarred 61 = .ok (.aload_n 0, 1) := by decide +kernel
theorem dX4_isBarred_62 : decode cX4_isBarred 62 = .ok (.iload 5, 2) := by decide +kernel
theorem dX4_isBarred_64 : decode cX4_isBarred 64 = .ok (.iload_n 1, 1) := by decide +kernel
theorem dX4_isBarred_65 : decode cX4_isBarred 65 = .ok (.iload_n 3, 1) := by decide +kernel
theorem dX4_isBarred_66 : decode cX4_isBarred 66 = .ok (.iconst 0, 1) := by decide +kernel
theorem dX4_isBarred_67 : decode cX4_isBarred 67 = .ok (.invokevirtual 104, 3) := by decide +kernel
theorem dX4_isBarred_70 : decode cX4_isBarred 70 = .ok (.ifCond .eq 7, 3) := by decide +kernel
theorem dX4_isBarred_73 : decode cX4_isBarred 73 = .ok (.iconst 1, 1) := by decide +kernel
theorem dX4_isBarred_74 : decode cX4_isBarred 74 = .ok (.goto 4, 3) := by decide +kernel
theorem dX4_isBarred_77 : decode cX4_isBarred 77 = .ok (.iconst 0, 1) := by decide +kernel
theorem dX4_isBarred_78 : decode cX4_isBarred 78 = .ok (.istore 4, 2) := by decide +kernel
theorem dX4_isBarred_80 : decode cX4_isBarred 80 = .ok (.iinc 5 1, 3) := by decide +kernel
theorem dX4_isBarred_83 : decode cX4_isBarred 83 = .ok (.goto (-43), 3) := by decide +kernel
theorem dX4_isBarred_86 : decode cX4_isBarred 86 = .ok (.iload 4, 2) := by decide +kernel
theorem dX4_isBarred_88 : decode cX4_isBarred 88 = .ok (.ireturn, 1) := by decide +kernel
theorem dX4_isRefined_0 : decode cX4_isRefined 0 = .ok (.aload_n 0, 1) := by decide +kernel
theorem dX4_isRefined_1 : decode cX4_isRefined 1 = .ok (.invokevirtual 111, 3) := by decide +kernel
theorem dX4_isRefined_4 : decode cX4_isRefined 4 = .ok (.ifCond .eq 31, 3) := by decide +kernel
theorem dX4_isRefined_7 : decode cX4_isRefined 7 = .ok (.aload_n 0, 1) := by decide +kernel
theorem dX4_isRefined_8 : decode cX4_isRefined 8 = .ok (.iconst 0, 1) := by decide +kernel
theorem dX4_isRefined_9 : decode cX4_isRefined 9 = .ok (.invokevirtual 115, 3) := by decide +kernel
theorem dX4_isRefined_12 : decode cX4_isRefined 12 = .ok (.ifCond .ne 23, 3) := by decide +kernel
theorem dX4_isRefined_15 : decode cX4_isRefined 15 = .ok (.aload_n 0, 1) := by decide +kernel
theorem dX4_isRefined_16 : decode cX4_isRefined 16 = .ok (.iconst 1, 1) := by decide +kernel
theorem dX4_isRefined_17 : decode cX4_isRefined 17 = .ok (.invokevirtual 115, 3) := by decide +kernel
theorem dX4_isRefined_20 : decode cX4_isRefined 20 = .ok (.ifCond .ne 15, 3) := by decide +kernel
theorem dX4_isRefined_23 : decode cX4_isRefined 23 = .ok (.aload_n 0, 1) := by decide +kernel
theorem dX4_isRefined_24 : decode cX4_isRefined 24 = .ok (.iconst 2, 1) := by decide +kernel
theorem dX4_isRefined_25 : decode cX4_isRefined 25 = .ok (.invokevirtual 115, 3) := by decide +kernel
theorem dX4_isRefined_28 : decode cX4_isRefined 28 = .ok (.ifCond .ne 7, 3) := by decide +kernel
theorem dX4_isRefined_31 : decode cX4_isRefined 31 = .ok (.iconst 1, 1) := by decide +kernel
theorem dX4_isRefined_32 : decode cX4_isRefined 32 = .ok (.goto 4, 3) := by decide +kernel
theorem dX4_isRefined_35 : decode cX4_isRefined 35 = .ok (.iconst 0, 1) := by decide +kernel
theorem dX4_isRefined_36 : decode cX4_isRefined 36 = .ok (.ireturn, 1) := by decide +kernel
theorem dX4_mayWeigh_0 : decode cX4_mayWeigh 0 = .ok (.iload_n 2, 1) := by decide +kernel
theorem dX4_mayWeigh_1 : decode cX4_mayWeigh 1 = .ok (.invokestatic 118, 3) := by decide +kernel
theorem dX4_mayWeigh_4 : decode cX4_mayWeigh 4 = .ok (.ifCond .ne 5, 3) := by decide +kernel
theorem dX4_mayWeigh_7 : decode cX4_mayWeigh 7 = .ok (.iconst (-1), 1) := by decide +kernel
theorem dX4_mayWeigh_8 : decode cX4_mayWeigh 8 = .ok (.ireturn, 1) := by decide +kernel
theorem dX4_mayWeigh_9 : decode cX4_mayWeigh 9 = .ok (.iload_n 3, 1) := by decide +kernel
theorem dX4_mayWeigh_10 : decode cX4_mayWeigh 10 = .ok (.iconst 0, 1) := by decide +kernel
theorem dX4_mayWeigh_11 : decode cX4_mayWeigh 11 = .ok (.bipush 9, 2) := by decide +kernel
theorem dX4_mayWeigh_13 : decode cX4_mayWeigh 13 = .ok (.invokestatic 35, 3) := by decide +kernel
theorem dX4_mayWeigh_16 : decode cX4_mayWeigh 16 = .ok (.ifCond .ne 6, 3) := by decide +kernel
theorem dX4_mayWeigh_19 : decode cX4_mayWeigh 19 = .ok (.bipush (-2), 2) := by decide +kernel
theorem dX4_mayWeigh_21 : decode cX4_mayWeigh 21 = .ok (.ireturn, 1) := by decide +kernel
theorem dX4_mayWeigh_22 : decode cX4_mayWeigh 22 = .ok (.aload_n 0, 1) := by decide +kernel
theorem dX4_mayWeigh_23 : decode cX4_mayWeigh 23 = .ok (.getfield 7, 3) := by decide +kernel
theorem dX4_mayWeigh_26 : decode cX4_mayWeigh 26 = .ok (.iload_n 1, 1) := by decide +kernel
theorem dX4_mayWeigh_27 : decode cX4_mayWeigh 27 = .ok (.iaload, 1) := by decide +kernel
theorem dX4_mayWeigh_28 : decode cX4_mayWeigh 28 = .ok (.aload_n 0, 1) := by decide +kernel
theorem dX4_mayWeigh_29 : decode cX4_mayWeigh 29 = .ok (.getfield 7, 3) := by decide +kernel
theorem dX4_mayWeigh_32 : decode cX4_mayWeigh 32 = .ok (.iload_n 1, 1) := by decide +kernel
theorem dX4_mayWeigh_33 : decode cX4_mayWeigh 33 = .ok (.iconst 1, 1) := by decide +kernel
theorem dX4_mayWeigh_34 : decode cX4_mayWeigh 34 = .ok (.iadd, 1) := by decide +kernel
theorem dX4_mayWeigh_35 : decode cX4_mayWeigh 35 = .ok (.iaload, 1) := by decide +kernel
theorem dX4_mayWeigh_36 : decode cX4_mayWeigh 36 = .ok (.iadd, 1) := by decide +kernel
theorem dX4_mayWeigh_37 : decode cX4_mayWeigh 37 = .ok (.aload_n 0, 1) := by decide +kernel
theorem dX4_mayWeigh_38 : decode cX4_mayWeigh 38 = .ok (.getfield 7, 3) := by decide +kernel
theorem dX4_mayWeigh_41 : decode cX4_mayWeigh 41 = .ok (.iload_n 1, 1) := by decide +kernel
theorem dX4_mayWeigh_42 : decode cX4_mayWeigh 42 = .ok (.iconst 2, 1) := by decide +kernel
theorem dX4_mayWeigh_43 : decode cX4_mayWeigh 43 = .ok (.iadd, 1) := by decide +kernel
theorem dX4_mayWeigh_44 : decode cX4_mayWeigh 44 = .ok (.iaload, 1) := by decide +kernel
theorem dX4_mayWeigh_45 : decode cX4_mayWeigh 45 = .ok (.iadd, 1) := by decide +kernel
theorem dX4_mayWeigh_46 : decode cX4_mayWeigh 46 = .ok (.aload_n 0, 1) := by decide +kernel
theorem dX4_mayWeigh_47 : decode cX4_mayWeigh 47 = .ok (.getfield 7, 3) := by decide +kernel
theorem dX4_mayWeigh_50 : decode cX4_mayWeigh 50 = .ok (.iload_n 1, 1) := by decide +kernel
theorem dX4_mayWeigh_51 : decode cX4_mayWeigh 51 = .ok (.iload_n 2, 1) := by decide +kernel
theorem dX4_mayWeigh_52 : decode cX4_mayWeigh 52 = .ok (.iadd, 1) := by decide +kernel
theorem dX4_mayWeigh_53 : decode cX4_mayWeigh 53 = .ok (.iaload, 1) := by decide +kernel
theorem dX4_mayWeigh_54 : decode cX4_mayWeigh 54 = .ok (.isub, 1) := by decide +kernel
theorem dX4_mayWeigh_55 : decode cX4_mayWeigh 55 = .ok (.iload_n 3, 1) := by decide +kernel
theorem dX4_mayWeigh_56 : decode cX4_mayWeigh 56 = .ok (.iadd, 1) := by decide +kernel
theorem dX4_mayWeigh_57 : decode cX4_mayWeigh 57 = .ok (.ifCond .ne 8, 3) := by decide +kernel
theorem dX4_mayWeigh_60 : decode cX4_mayWeigh 60 = .ok (.bipush (-5), 2) := by decide +kernel
theorem dX4_mayWeigh_62 : decode cX4_mayWeigh 62 = .ok (.goto 4, 3) := by decide +kernel
theorem dX4_mayWeigh_65 : decode cX4_mayWeigh 65 = .ok (.iconst 0, 1) := by decide +kernel
theorem dX4_mayWeigh_66 : decode cX4_mayWeigh 66 = .ok (.ireturn, 1) := by decide +kernel
theorem dX4_changes_0 : decode cX4_changes 0 = .ok (.aload_n 0, 1) := by decide +kernel
theorem dX4_changes_1 : decode cX4_changes 1 = .ok (.getfield 7, 3) := by decide +kernel
theorem dX4_changes_4 : decode cX4_changes 4 = .ok (.iload_n 1, 1) := by decide +kernel
theorem dX4_changes_5 : decode cX4_changes 5 = .ok (.iaload, 1) := by decide +kernel
theorem dX4_changes_6 : decode cX4_changes 6 = .ok (.istore_n 3, 1) := by decide +kernel
theorem dX4_changes_7 : decode cX4_changes 7 = .ok (.aload_n 0, 1) := by decide +kernel
theorem dX4_changes_8 : decode cX4_changes 8 = .ok (.getfield 7, 3) := by decide +kernel
theorem dX4_changes_11 : decode cX4_changes 11 = .ok (.iload_n 1, 1) := by decide +kernel
theorem dX4_changes_12 : decode cX4_changes 12 = .ok (.iload_n 2, 1) := by decide +kernel
theorem dX4_changes_13 : decode cX4_changes 13 = .ok (.iastore, 1) := by decide +kernel
theorem dX4_changes_14 : decode cX4_changes 14 = .ok (.iload_n 3, 1) := by decide +kernel
theorem dX4_changes_15 : decode cX4_changes 15 = .ok (.ireturn, 1) := by decide +kernel
theorem dX4_weight_0 : decode cX4_weight 0 = .ok (.aload_n 0, 1) := by decide +kernel
theorem dX4_weight_1 : decode cX4_weight 1 = .ok (.iconst 0, 1) := by decide +kernel
theorem dX4_weight_2 : decode cX4_weight 2 = .ok (.iload_n 1, 1) := by decide +kernel
theorem dX4_weight_3 : decode cX4_weight 3 = .ok (.iload_n 2, 1) := by decide +kernel
theorem dX4_weight_4 : decode cX4_weight 4 = .ok (.invokevirtual 121, 3) := by decide +kernel
theorem dX4_weight_7 : decode cX4_weight 7 = .ok (.istore_n 3, 1) := by decide +kernel
theorem dX4_weight_8 : decode cX4_weight 8 = .ok (.iload_n 3, 1) := by decide +kernel
theorem dX4_weight_9 : decode cX4_weight 9 = .ok (.ifCond .eq 5, 3) := by decide +kernel
theorem dX4_weight_12 : decode cX4_weight 12 = .ok (.iload_n 3, 1) := by decide +kernel
theorem dX4_weight_13 : decode cX4_weight 13 = .ok (.ireturn, 1) := by decide +kernel
theorem dX4_weight_14 : decode cX4_weight 14 = .ok (.aload_n 0, 1) := by decide +kernel
theorem dX4_weight_15 : decode cX4_weight 15 = .ok (.invokevirtual 51, 3) := by decide +kernel
theorem dX4_weight_18 : decode cX4_weight 18 = .ok (.aload_n 0, 1) := by decide +kernel
theorem dX4_weight_19 : decode cX4_weight 19 = .ok (.iload_n 1, 1) := by decide +kernel
theorem dX4_weight_20 : decode cX4_weight 20 = .ok (.iload_n 2, 1) := by decide +kernel
theorem dX4_weight_21 : decode cX4_weight 21 = .ok (.invokevirtual 125, 3) := by decide +kernel
theorem dX4_weight_24 : decode cX4_weight 24 = .ok (.ireturn, 1) := by decide +kernel
theorem dX4_arePlace_0 : decode cX4_arePlace 0 = .ok (.iload_n 0, 1) := by decide +kernel
theorem dX4_arePlace_1 : decode cX4_arePlace 1 = .ok (.invokestatic 118, 3) := by decide +kernel
theorem dX4_arePlace_4 : decode cX4_arePlace 4 = .ok (.ifCond .eq 21, 3) := by decide +kernel
theorem dX4_arePlace_7 : decode cX4_arePlace 7 = .ok (.iload_n 1, 1) := by decide +kernel
theorem dX4_arePlace_8 : decode cX4_arePlace 8 = .ok (.invokestatic 118, 3) := by decide +kernel
theorem dX4_arePlace_11 : decode cX4_arePlace 11 = .ok (.ifCond .eq 14, 3) := by decide +kernel
theorem dX4_arePlace_14 : decode cX4_arePlace 14 = .ok (.iload_n 2, 1) := by decide +kernel
theorem dX4_arePlace_15 : decode cX4_arePlace 15 = .ok (.invokestatic 118, 3) := by decide +kernel
theorem dX4_arePlace_18 : decode cX4_arePlace 18 = .ok (.ifCond .eq 7, 3) := by decide +kernel
theorem dX4_arePlace_21 : decode cX4_arePlace 21 = .ok (.iconst 1, 1) := by decide +kernel
theorem dX4_arePlace_22 : decode cX4_arePlace 22 = .ok (.goto 4, 3) := by decide +kernel
theorem dX4_arePlace_25 : decode cX4_arePlace 25 = .ok (.iconst 0, 1) := by decide +kernel
theorem dX4_arePlace_26 : decode cX4_arePlace 26 = .ok (.ireturn, 1) := by decide +kernel
theorem dX4_pay_0 : decode cX4_pay 0 = .ok (.iload_n 2, 1) := by decide +kernel
theorem dX4_pay_1 : decode cX4_pay 1 = .ok (.iload_n 3, 1) := by decide +kernel
theorem dX4_pay_2 : decode cX4_pay 2 = .ok (.iload 4, 2) := by decide +kernel
theorem dX4_pay_4 : decode cX4_pay 4 = .ok (.invokestatic 128, 3) := by decide +kernel
theorem dX4_pay_7 : decode cX4_pay 7 = .ok (.ifCond .ne 5, 3) := by decide +kernel
theorem dX4_pay_10 : decode cX4_pay 10 = .ok (.iconst (-1), 1) := by decide +kernel
theorem dX4_pay_11 : decode cX4_pay 11 = .ok (.ireturn, 1) := by decide +kernel
theorem dX4_pay_12 : decode cX4_pay 12 = .ok (.iload_n 1, 1) := by decide +kernel
theorem dX4_pay_13 : decode cX4_pay 13 = .ok (.iconst 0, 1) := by decide +kernel
theorem dX4_pay_14 : decode cX4_pay 14 = .ok (.iconst 1, 1) := by decide +kernel
theorem dX4_pay_15 : decode cX4_pay 15 = .ok (.invokestatic 35, 3) := by decide +kernel
theorem dX4_pay_18 : decode cX4_pay 18 = .ok (.ifCond .eq 15, 3) := by decide +kernel
theorem dX4_pay_21 : decode cX4_pay 21 = .ok (.iload 5, 2) := by decide +kernel
theorem dX4_pay_23 : decode cX4_pay 23 = .ok (.bipush (-9), 2) := by decide +kernel
theorem dX4_pay_25 : decode cX4_pay 25 = .ok (.bipush 9, 2) := by decide +kernel
theorem dX4_pay_27 : decode cX4_pay 27 = .ok (.invokestatic 35, 3) := by decide +kernel
theorem dX4_pay_30 : decode cX4_pay 30 = .ok (.ifCond .ne 6, 3) := by decide +kernel
theorem dX4_pay_33 : decode cX4_pay 33 = .ok (.bipush (-2), 2) := by decide +kernel
theorem dX4_pay_35 : decode cX4_pay 35 = .ok (.ireturn, 1) := by decide +kernel
theorem dX4_pay_36 : decode cX4_pay 36 = .ok (.aload_n 0, 1) := by decide +kernel
theorem dX4_pay_37 : decode cX4_pay 37 = .ok (.invokevirtual 51, 3) := by decide +kernel
theorem dX4_pay_40 : decode cX4_pay 40 = .ok (.aload_n 0, 1) := by decide +kernel
theorem dX4_pay_41 : decode cX4_pay 41 = .ok (.iload_n 1, 1) := by decide +kernel
theorem dX4_pay_42 : decode cX4_pay 42 = .ok (.iload_n 2, 1) := by decide +kernel
theorem dX4_pay_43 : decode cX4_pay 43 = .ok (.iload_n 3, 1) := by decide +kernel
theorem dX4_pay_44 : decode cX4_pay 44 = .ok (.iload 4, 2) := by decide +kernel
theorem dX4_pay_46 : decode cX4_pay 46 = .ok (.invokestatic 66, 3) := by decide +kernel
theorem dX4_pay_49 : decode cX4_pay 49 = .ok (.iload 5, 2) := by decide +kernel
theorem dX4_pay_51 : decode cX4_pay 51 = .ok (.invokevirtual 125, 3) := by decide +kernel
theorem dX4_pay_54 : decode cX4_pay 54 = .ok (.bipush 100, 2) := by decide +kernel
theorem dX4_pay_56 : decode cX4_pay 56 = .ok (.iadd, 1) := by decide +kernel
theorem dX4_pay_57 : decode cX4_pay 57 = .ok (.ireturn, 1) := by decide +kernel
theorem dX4_mayBelieve_0 : decode cX4_mayBelieve 0 = .ok (.iload_n 1, 1) := by decide +kernel
theorem dX4_mayBelieve_1 : decode cX4_mayBelieve 1 = .ok (.invokestatic 118, 3) := by decide +kernel
theorem dX4_mayBelieve_4 : decode cX4_mayBelieve 4 = .ok (.ifCond .ne 7, 3) := by decide +kernel
theorem dX4_mayBelieve_7 : decode cX4_mayBelieve 7 = .ok (.iconst (-1), 1) := by decide +kernel
theorem dX4_mayBelieve_8 : decode cX4_mayBelieve 8 = .ok (.goto 15, 3) := by decide +kernel
theorem dX4_mayBelieve_11 : decode cX4_mayBelieve 11 = .ok (.aload_n 0, 1) := by decide +kernel
theorem dX4_mayBelieve_12 : decode cX4_mayBelieve 12 = .ok (.bipush 57, 2) := by decide +kernel
theorem dX4_mayBelieve_14 : decode cX4_mayBelieve 14 = .ok (.iconst 3, 1) := by decide +kernel
theorem dX4_mayBelieve_15 : decode cX4_mayBelieve 15 = .ok (.iload_n 1, 1) := by decide +kernel
theorem dX4_mayBelieve_16 : decode cX4_mayBelieve 16 = .ok (.imul, 1) := by decide +kernel
theorem dX4_mayBelieve_17 : decode cX4_mayBelieve 17 = .ok (.iadd, 1) := by decide +kernel
theorem dX4_mayBelieve_18 : decode cX4_mayBelieve 18 = .ok (.iload_n 2, 1) := by decide +kernel
theorem dX4_mayBelieve_19 : decode cX4_mayBelieve 19 = .ok (.iload_n 3, 1) := by decide +kernel
theorem dX4_mayBelieve_20 : decode cX4_mayBelieve 20 = .ok (.invokevirtual 121, 3) := by decide +kernel
theorem dX4_mayBelieve_23 : decode cX4_mayBelieve 23 = .ok (.ireturn, 1) := by decide +kernel
theorem dX4_believe_0 : decode cX4_believe 0 = .ok (.aload_n 0, 1) := by decide +kernel
theorem dX4_believe_1 : decode cX4_believe 1 = .ok (.iload_n 1, 1) := by decide +kernel
theorem dX4_believe_2 : decode cX4_believe 2 = .ok (.iload_n 2, 1) := by decide +kernel
theorem dX4_believe_3 : decode cX4_believe 3 = .ok (.iload_n 3, 1) := by decide +kernel
theorem dX4_believe_4 : decode cX4_believe 4 = .ok (.invokevirtual 131, 3) := by decide +kernel
theorem dX4_believe_7 : decode cX4_believe 7 = .ok (.istore 4, 2) := by decide +kernel
theorem dX4_believe_9 : decode cX4_believe 9 = .ok (.iload 4, 2) := by decide +kernel
theorem dX4_believe_11 : decode cX4_believe 11 = .ok (.ifCond .eq 6, 3) := by decide +kernel
theorem dX4_believe_14 : decode cX4_believe 14 = .ok (.iload 4, 2) := by decide +kernel
theorem dX4_believe_16 : decode cX4_believe 16 = .ok (.ireturn, 1) := by decide +kernel
theorem dX4_believe_17 : decode cX4_believe 17 = .ok (.aload_n 0, 1) := by decide +kernel
theorem dX4_believe_18 : decode cX4_believe 18 = .ok (.invokevirtual 51, 3) := by decide +kernel
theorem dX4_believe_21 : decode cX4_believe 21 = .ok (.aload_n 0, 1) := by decide +kernel
theorem dX4_believe_22 : decode cX4_believe 22 = .ok (.bipush 57, 2) := by decide +kernel
theorem dX4_believe_24 : decode cX4_believe 24 = .ok (.iconst 3, 1) := by decide +kernel
theorem dX4_believe_25 : decode cX4_believe 25 = .ok (.iload_n 1, 1) := by decide +kernel
theorem dX4_believe_26 : decode cX4_believe 26 = .ok (.imul, 1) := by decide +kernel
theorem dX4_believe_27 : decode cX4_believe 27 = .ok (.iadd, 1) := by decide +kernel
theorem dX4_believe_28 : decode cX4_believe 28 = .ok (.iload_n 2, 1) := by decide +kernel
theorem dX4_believe_29 : decode cX4_believe 29 = .ok (.iadd, 1) := by decide +kernel
theorem dX4_believe_30 : decode cX4_believe 30 = .ok (.iload_n 3, 1) := by decide +kernel
theorem dX4_believe_31 : decode cX4_believe 31 = .ok (.invokevirtual 125, 3) := by decide +kernel
theorem dX4_believe_34 : decode cX4_believe 34 = .ok (.ireturn, 1) := by decide +kernel
theorem dX4_send_0 : decode cX4_send 0 = .ok (.iload_n 1, 1) := by decide +kernel
theorem dX4_send_1 : decode cX4_send 1 = .ok (.invokestatic 118, 3) := by decide +kernel
theorem dX4_send_4 : decode cX4_send 4 = .ok (.ifCond .eq 10, 3) := by decide +kernel
theorem dX4_send_7 : decode cX4_send 7 = .ok (.iload_n 2, 1) := by decide +kernel
theorem dX4_send_8 : decode cX4_send 8 = .ok (.invokestatic 118, 3) := by decide +kernel
theorem dX4_send_11 : decode cX4_send 11 = .ok (.ifCond .ne 5, 3) := by decide +kernel
theorem dX4_send_14 : decode cX4_send 14 = .ok (.iconst (-1), 1) := by decide +kernel
theorem dX4_send_15 : decode cX4_send 15 = .ok (.ireturn, 1) := by decide +kernel
theorem dX4_send_16 : decode cX4_send 16 = .ok (.aload_n 0, 1) := by decide +kernel
theorem dX4_send_17 : decode cX4_send 17 = .ok (.invokevirtual 51, 3) := by decide +kernel
theorem dX4_send_20 : decode cX4_send 20 = .ok (.aload_n 0, 1) := by decide +kernel
theorem dX4_send_21 : decode cX4_send 21 = .ok (.bipush 66, 2) := by decide +kernel
theorem dX4_send_23 : decode cX4_send 23 = .ok (.iload_n 1, 1) := by decide +kernel
theorem dX4_send_24 : decode cX4_send 24 = .ok (.iadd, 1) := by decide +kernel
theorem dX4_send_25 : decode cX4_send 25 = .ok (.iload_n 2, 1) := by decide +kernel
theorem dX4_send_26 : decode cX4_send 26 = .ok (.invokevirtual 125, 3) := by decide +kernel
theorem dX4_send_29 : decode cX4_send 29 = .ok (.ireturn, 1) := by decide +kernel
theorem dX4_answer_0 : decode cX4_answer 0 = .ok (.iload_n 1, 1) := by decide +kernel
theorem dX4_answer_1 : decode cX4_answer 1 = .ok (.invokestatic 118, 3) := by decide +kernel
theorem dX4_answer_4 : decode cX4_answer 4 = .ok (.ifCond .eq 10, 3) := by decide +kernel
theorem dX4_answer_7 : decode cX4_answer 7 = .ok (.iload_n 2, 1) := by decide +kernel
theorem dX4_answer_8 : decode cX4_answer 8 = .ok (.invokestatic 118, 3) := by decide +kernel
theorem dX4_answer_11 : decode cX4_answer 11 = .ok (.ifCond .ne 5, 3) := by decide +kernel
theorem dX4_answer_14 : decode cX4_answer 14 = .ok (.iconst (-1), 1) := by decide +kernel
theorem dX4_answer_15 : decode cX4_answer 15 = .ok (.ireturn, 1) := by decide +kernel
theorem dX4_answer_16 : decode cX4_answer 16 = .ok (.aload_n 0, 1) := by decide +kernel
theorem dX4_answer_17 : decode cX4_answer 17 = .ok (.invokevirtual 51, 3) := by decide +kernel
theorem dX4_answer_20 : decode cX4_answer 20 = .ok (.aload_n 0, 1) := by decide +kernel
theorem dX4_answer_21 : decode cX4_answer 21 = .ok (.bipush 69, 2) := by decide +kernel
theorem dX4_answer_23 : decode cX4_answer 23 = .ok (.iload_n 1, 1) := by decide +kernel
theorem dX4_answer_24 : decode cX4_answer 24 = .ok (.iadd, 1) := by decide +kernel
theorem dX4_answer_25 : decode cX4_answer 25 = .ok (.iload_n 2, 1) := by decide +kernel
theorem dX4_answer_26 : decode cX4_answer 26 = .ok (.invokevirtual 125, 3) := by decide +kernel
theorem dX4_answer_29 : decode cX4_answer 29 = .ok (.ireturn, 1) := by decide +kernel
theorem dX4_counts_0 : decode cX4_counts 0 = .ok (.iconst 0, 1) := by decide +kernel
theorem dX4_counts_1 : decode cX4_counts 1 = .ok (.istore_n 2, 1) := by decide +kernel
theorem dX4_counts_2 : decode cX4_counts 2 = .ok (.iconst 0, 1) := by decide +kernel
theorem dX4_counts_3 : decode cX4_counts 3 = .ok (.istore_n 3, 1) := by decide +kernel
theorem dX4_counts_4 : decode cX4_counts 4 = .ok (.iload_n 3, 1) := by decide +kernel
theorem dX4_counts_5 : decode cX4_counts 5 = .ok (.sipush 729, 3) := by decide +kernel
theorem dX4_counts_8 : decode cX4_counts 8 = .ok (.if_icmp .ge 58, 3) := by decide +kernel
theorem dX4_counts_11 : decode cX4_counts 11 = .ok (.aload_n 0, 1) := by decide +kernel
theorem dX4_counts_12 : decode cX4_counts 12 = .ok (.iload_n 3, 1) := by decide +kernel
theorem dX4_counts_13 : decode cX4_counts 13 = .ok (.invokevirtual 54, 3) := by decide +kernel
theorem dX4_counts_16 : decode cX4_counts 16 = .ok (.iload_n 2, 1) := by decide +kernel
theorem dX4_counts_17 : decode cX4_counts 17 = .ok (.aload_n 0, 1) := by decide +kernel
theorem dX4_counts_18 : decode cX4_counts 18 = .ok (.invokevirtual 111, 3) := by decide +kernel
theorem dX4_counts_21 : decode cX4_counts 21 = .ok (.ifCond .eq 36, 3) := by decide +kernel
theorem dX4_counts_24 : decode cX4_counts 24 = .ok (.iload_n 1, 1) := by decide +kernel
theorem dX4_counts_25 : decode cX4_counts 25 = .ok (.ifCond .eq 28, 3) := by decide +kernel
theorem dX4_counts_28 : decode cX4_counts 28 = .ok (.iload_n 1, 1) := by decide +kernel
theorem dX4_counts_29 : decode cX4_counts 29 = .ok (.iconst 1, 1) := by decide +kernel
theorem dX4_counts_30 : decode cX4_counts 30 = .ok (.if_icmp .ne 13, 3) := by decide +kernel
theorem dX4_counts_33 : decode cX4_counts 33 = .ok (.aload_n 0, 1) := by decide +kernel
theorem dX4_counts_34 : decode cX4_counts 34 = .ok (.invokevirtual 134, 3) := by decide +kernel
theorem dX4_counts_37 : decode cX4_counts 37 = .ok (.ifCond .eq 20, 3) := by decide +kernel
theorem dX4_counts_40 : decode cX4_counts 40 = .ok (.goto 13, 3) := by decide +kernel
theorem dX4_counts_43 : decode cX4_counts 43 = .ok (.aload_n 0, 1) := by decide +kernel
theorem dX4_counts_44 : decode cX4_counts 44 = .ok (.invokevirtual 137, 3) := by decide +kernel
theorem dX4_counts_47 : decode cX4_counts 47 = .ok (.iload_n 1, 1) := by decide +kernel
theorem dX4_counts_48 : decode cX4_counts 48 = .ok (.iconst 2, 1) := by decide +kernel
theorem dX4_counts_49 : decode cX4_counts 49 = .ok (.isub, 1) := by decide +kernel
theorem dX4_counts_50 : decode cX4_counts 50 = .ok (.if_icmp .ne 7, 3) := by decide +kernel
theorem dX4_counts_53 : decode cX4_counts 53 = .ok (.iconst 1, 1) := by decide +kernel
theorem dX4_counts_54 : decode cX4_counts 54 = .ok (.goto 4, 3) := by decide +kernel
theorem dX4_counts_57 : decode cX4_counts 57 = .ok (.iconst 0, 1) := by decide +kernel
theorem dX4_counts_58 : decode cX4_counts 58 = .ok (.iadd, 1) := by decide +kernel
theorem dX4_counts_59 : decode cX4_counts 59 = .ok (.istore_n 2, 1) := by decide +kernel
theorem dX4_counts_60 : decode cX4_counts 60 = .ok (.iinc 3 1, 3) := by decide +kernel
theorem dX4_counts_63 : decode cX4_counts 63 = .ok (.goto (-59), 3) := by decide +kernel
theorem dX4_counts_66 : decode cX4_counts 66 = .ok (.iload_n 2, 1) := by decide +kernel
theorem dX4_counts_67 : decode cX4_counts 67 = .ok (.ireturn, 1) := by decide +kernel
theorem dX4_codeAt_0 : decode cX4_codeAt 0 = .ok (.iconst 0, 1) := by decide +kernel
theorem dX4_codeAt_1 : decode cX4_codeAt 1 = .ok (.istore_n 2, 1) := by decide +kernel
theorem dX4_codeAt_2 : decode cX4_codeAt 2 = .ok (.iconst 0, 1) := by decide +kernel
theorem dX4_codeAt_3 : decode cX4_codeAt 3 = .ok (.istore_n 3, 1) := by decide +kernel
theorem dX4_codeAt_4 : decode cX4_codeAt 4 = .ok (.iload_n 3, 1) := by decide +kernel
theorem dX4_codeAt_5 : decode cX4_codeAt 5 = .ok (.sipush 729, 3) := by decide +kernel
theorem dX4_codeAt_8 : decode cX4_codeAt 8 = .ok (.if_icmp .ge 31, 3) := by decide +kernel
theorem dX4_codeAt_11 : decode cX4_codeAt 11 = .ok (.aload_n 0, 1) := by decide +kernel
theorem dX4_codeAt_12 : decode cX4_codeAt 12 = .ok (.iload_n 3, 1) := by decide +kernel
theorem dX4_codeAt_13 : decode cX4_codeAt 13 = .ok (.invokevirtual 54, 3) := by decide +kernel
theorem dX4_codeAt_16 : decode cX4_codeAt 16 = .ok (.aload_n 0, 1) := by decide +kernel
theorem dX4_codeAt_17 : decode cX4_codeAt 17 = .ok (.invokevirtual 111, 3) := by decide +kernel
theorem dX4_codeAt_20 : decode cX4_codeAt 20 = .ok (.ifCond .eq 13, 3) := by decide +kernel
theorem dX4_codeAt_23 : decode cX4_codeAt 23 = .ok (.iload_n 2, 1) := by decide +kernel
theorem dX4_codeAt_24 : decode cX4_codeAt 24 = .ok (.iload_n 1, 1) := by decide +kernel
theorem dX4_codeAt_25 : decode cX4_codeAt 25 = .ok (.if_icmp .ne 5, 3) := by decide +kernel
theorem dX4_codeAt_28 : decode cX4_codeAt 28 = .ok (.iload_n 3, 1) := by decide +kernel
theorem dX4_codeAt_29 : decode cX4_codeAt 29 = .ok (.ireturn, 1) := by decide +kernel
theorem dX4_codeAt_30 : decode cX4_codeAt 30 = .ok (.iinc 2 1, 3) := by decide +kernel
theorem dX4_codeAt_33 : decode cX4_codeAt 33 = .ok (.iinc 3 1, 3) := by decide +kernel
theorem dX4_codeAt_36 : decode cX4_codeAt 36 = .ok (.goto (-32), 3) := by decide +kernel
theorem dX4_codeAt_39 : decode cX4_codeAt 39 = .ok (.iconst (-1), 1) := by decide +kernel
theorem dX4_codeAt_40 : decode cX4_codeAt 40 = .ok (.ireturn, 1) := by decide +kernel
theorem dX4_adopt_0 : decode cX4_adopt 0 = .ok (.aload_n 0, 1) := by decide +kernel
theorem dX4_adopt_1 : decode cX4_adopt 1 = .ok (.iload_n 1, 1) := by decide +kernel
theorem dX4_adopt_2 : decode cX4_adopt 2 = .ok (.invokevirtual 140, 3) := by decide +kernel
theorem dX4_adopt_5 : decode cX4_adopt 5 = .ok (.istore_n 2, 1) := by decide +kernel
theorem dX4_adopt_6 : decode cX4_adopt 6 = .ok (.iload_n 2, 1) := by decide +kernel
theorem dX4_adopt_7 : decode cX4_adopt 7 = .ok (.iconst (-1), 1) := by decide +kernel
theorem dX4_adopt_8 : decode cX4_adopt 8 = .ok (.if_icmp .ne 5, 3) := by decide +kernel
theorem dX4_adopt_11 : decode cX4_adopt 11 = .ok (.iconst (-1), 1) := by decide +kernel
theorem dX4_adopt_12 : decode cX4_adopt 12 = .ok (.ireturn, 1) := by decide +kernel
theorem dX4_adopt_13 : decode cX4_adopt 13 = .ok (.aload_n 0, 1) := by decide +kernel
theorem dX4_adopt_14 : decode cX4_adopt 14 = .ok (.invokevirtual 51, 3) := by decide +kernel
theorem dX4_adopt_17 : decode cX4_adopt 17 = .ok (.aload_n 0, 1) := by decide +kernel
theorem dX4_adopt_18 : decode cX4_adopt 18 = .ok (.iload_n 2, 1) := by decide +kernel
theorem dX4_adopt_19 : decode cX4_adopt 19 = .ok (.invokevirtual 54, 3) := by decide +kernel
theorem dX4_adopt_22 : decode cX4_adopt 22 = .ok (.iconst 0, 1) := by decide +kernel
theorem dX4_adopt_23 : decode cX4_adopt 23 = .ok (.istore_n 3, 1) := by decide +kernel
theorem dX4_adopt_24 : decode cX4_adopt 24 = .ok (.iload_n 3, 1) := by decide +kernel
theorem dX4_adopt_25 : decode cX4_adopt 25 = .ok (.bipush 6, 2) := by decide +kernel
theorem dX4_adopt_27 : decode cX4_adopt 27 = .ok (.if_icmp .ge 24, 3) := by decide +kernel
theorem dX4_adopt_30 : decode cX4_adopt 30 = .ok (.aload_n 0, 1) := by decide +kernel
theorem dX4_adopt_31 : decode cX4_adopt 31 = .ok (.getfield 7, 3) := by decide +kernel
theorem dX4_adopt_34 : decode cX4_adopt 34 = .ok (.bipush 66, 2) := by decide +kernel
theorem dX4_adopt_36 : decode cX4_adopt 36 = .ok (.iload_n 3, 1) := by decide +kernel
theorem dX4_adopt_37 : decode cX4_adopt 37 = .ok (.iadd, 1) := by decide +kernel
theorem dX4_adopt_38 : decode cX4_adopt 38 = .ok (.aload_n 0, 1) := by decide +kernel
theorem dX4_adopt_39 : decode cX4_adopt 39 = .ok (.getfield 29, 3) := by decide +kernel
theorem dX4_adopt_42 : decode cX4_adopt 42 = .ok (.iload_n 3, 1) := by decide +kernel
theorem dX4_adopt_43 : decode cX4_adopt 43 = .ok (.iaload, 1) := by decide +kernel
theorem dX4_adopt_44 : decode cX4_adopt 44 = .ok (.iastore, 1) := by decide +kernel
theorem dX4_adopt_45 : decode cX4_adopt 45 = .ok (.iinc 3 1, 3) := by decide +kernel
theorem dX4_adopt_48 : decode cX4_adopt 48 = .ok (.goto (-24), 3) := by decide +kernel
theorem dX4_adopt_51 : decode cX4_adopt 51 = .ok (.aload_n 0, 1) := by decide +kernel
theorem dX4_adopt_52 : decode cX4_adopt 52 = .ok (.iconst 0, 1) := by decide +kernel
theorem dX4_adopt_53 : decode cX4_adopt 53 = .ok (.invokevirtual 143, 3) := by decide +kernel
theorem dX4_adopt_56 : decode cX4_adopt 56 = .ok (.ireturn, 1) := by decide +kernel
theorem dX4_plans_0 : decode cX4_plans 0 = .ok (.iload_n 1, 1) := by decide +kernel
theorem dX4_plans_1 : decode cX4_plans 1 = .ok (.iconst 0, 1) := by decide +kernel
theorem dX4_plans_2 : decode cX4_plans 2 = .ok (.iconst 4, 1) := by decide +kernel
theorem dX4_plans_3 : decode cX4_plans 3 = .ok (.invokestatic 35, 3) := by decide +kernel
theorem dX4_plans_6 : decode cX4_plans 6 = .ok (.ifCond .eq 11, 3) := by decide +kernel
theorem dX4_plans_9 : decode cX4_plans 9 = .ok (.aload_n 0, 1) := by decide +kernel
theorem dX4_plans_10 : decode cX4_plans 10 = .ok (.iload_n 1, 1) := by decide +kernel
theorem dX4_plans_11 : decode cX4_plans 11 = .ok (.invokevirtual 143, 3) := by decide +kernel
theorem dX4_plans_14 : decode cX4_plans 14 = .ok (.goto 5, 3) := by decide +kernel
theorem dX4_plans_17 : decode cX4_plans 17 = .ok (.bipush (-2), 2) := by decide +kernel
theorem dX4_plans_19 : decode cX4_plans 19 = .ok (.ireturn, 1) := by decide +kernel
theorem dX4_planAt_0 : decode cX4_planAt 0 = .ok (.aload_n 0, 1) := by decide +kernel
theorem dX4_planAt_1 : decode cX4_planAt 1 = .ok (.iload_n 1, 1) := by decide +kernel
theorem dX4_planAt_2 : decode cX4_planAt 2 = .ok (.invokevirtual 140, 3) := by decide +kernel
theorem dX4_planAt_5 : decode cX4_planAt 5 = .ok (.ireturn, 1) := by decide +kernel
theorem dX4_receives_0 : decode cX4_receives 0 = .ok (.iconst 0, 1) := by decide +kernel
theorem dX4_receives_1 : decode cX4_receives 1 = .ok (.istore_n 1, 1) := by decide +kernel
theorem dX4_receives_2 : decode cX4_receives 2 = .ok (.iconst 0, 1) := by decide +kernel
theorem dX4_receives_3 : decode cX4_receives 3 = .ok (.istore_n 2, 1) := by decide +kernel
theorem dX4_receives_4 : decode cX4_receives 4 = .ok (.iload_n 2, 1) := by decide +kernel
theorem dX4_receives_5 : decode cX4_receives 5 = .ok (.iconst 3, 1) := by decide +kernel
theorem dX4_receives_6 : decode cX4_receives 6 = .ok (.if_icmp .ge 48, 3) := by decide +kernel
theorem dX4_receives_9 : decode cX4_receives 9 = .ok (.iload_n 1, 1) := by decide +kernel
theorem dX4_receives_10 : decode cX4_receives 10 = .ok (.aload_n 0, 1) := by decide +kernel
theorem dX4_receives_11 : decode cX4_receives 11 = .ok (.getfield 7, 3) := by decide +kernel
theorem dX4_receives_14 : decode cX4_receives 14 = .ok (.iload_n 2, 1) := by decide +kernel
theorem dX4_receives_15 : decode cX4_receives 15 = .ok (.iaload, 1) := by decide +kernel
theorem dX4_receives_16 : decode cX4_receives 16 = .ok (.aload_n 0, 1) := by decide +kernel
theorem dX4_receives_17 : decode cX4_receives 17 = .ok (.getfield 7, 3) := by decide +kernel
theorem dX4_receives_20 : decode cX4_receives 20 = .ok (.iconst 1, 1) := by decide +kernel
theorem dX4_receives_21 : decode cX4_receives 21 = .ok (.iload_n 2, 1) := by decide +kernel
theorem dX4_receives_22 : decode cX4_receives 22 = .ok (.aload_n 0, 1) := by decide +kernel
theorem dX4_receives_23 : decode cX4_receives 23 = .ok (.getfield 29, 3) := by decide +kernel
theorem dX4_receives_26 : decode cX4_receives 26 = .ok (.iload_n 2, 1) := by decide +kernel
theorem dX4_receives_27 : decode cX4_receives 27 = .ok (.iaload, 1) := by decide +kernel
theorem dX4_receives_28 : decode cX4_receives 28 = .ok (.aload_n 0, 1) := by decide +kernel
theorem dX4_receives_29 : decode cX4_receives 29 = .ok (.getfield 29, 3) := by decide +kernel
theorem dX4_receives_32 : decode cX4_receives 32 = .ok (.iconst 3, 1) := by decide +kernel
theorem dX4_receives_33 : decode cX4_receives 33 = .ok (.aload_n 0, 1) := by decide +kernel
theorem dX4_receives_34 : decode cX4_receives 34 = .ok (.getfield 29, 3) := by decide +kernel
theorem dX4_receives_37 : decode cX4_receives 37 = .ok (.iload_n 2, 1) := by decide +kernel
theorem dX4_receives_38 : decode cX4_receives 38 = .ok (.iaload, 1) := by decide +kernel
theorem dX4_receives_39 : decode cX4_receives 39 = .ok (.iadd, 1) := by decide +kernel
theorem dX4_receives_40 : decode cX4_receives 40 = .ok (.iaload, 1) := by decide +kernel
theorem dX4_receives_41 : decode cX4_receives 41 = .ok (.invokestatic 66, 3) := by decide +kernel
theorem dX4_receives_44 : decode cX4_receives 44 = .ok (.iaload, 1) := by decide +kernel
theorem dX4_receives_45 : decode cX4_receives 45 = .ok (.imul, 1) := by decide +kernel
theorem dX4_receives_46 : decode cX4_receives 46 = .ok (.iadd, 1) := by decide +kernel
theorem dX4_receives_47 : decode cX4_receives 47 = .ok (.istore_n 1, 1) := by decide +kernel
theorem dX4_receives_48 : decode cX4_receives 48 = .ok (.iinc 2 1, 3) := by decide +kernel
theorem dX4_receives_51 : decode cX4_receives 51 = .ok (.goto (-47), 3) := by decide +kernel
theorem dX4_receives_54 : decode cX4_receives 54 = .ok (.iload_n 1, 1) := by decide +kernel
theorem dX4_receives_55 : decode cX4_receives 55 = .ok (.ireturn, 1) := by decide +kernel
theorem dX4_bestPlan_0 : decode cX4_bestPlan 0 = .ok (.iload_n 1, 1) := by decide +kernel
theorem dX4_bestPlan_1 : decode cX4_bestPlan 1 = .ok (.iconst 0, 1) := by decide +kernel
theorem dX4_bestPlan_2 : decode cX4_bestPlan 2 = .ok (.iconst 1, 1) := by decide +kernel
theorem dX4_bestPlan_3 : decode cX4_bestPlan 3 = .ok (.invokestatic 35, 3) := by decide +kernel
theorem dX4_bestPlan_6 : decode cX4_bestPlan 6 = .ok (.ifCond .ne 6, 3) := by decide +kernel
theorem dX4_bestPlan_9 : decode cX4_bestPlan 9 = .ok (.bipush (-2), 2) := by decide +kernel
theorem dX4_bestPlan_11 : decode cX4_bestPlan 11 = .ok (.ireturn, 1) := by decide +kernel
theorem dX4_bestPlan_12 : decode cX4_bestPlan 12 = .ok (.bipush (-6), 2) := by decide +kernel
theorem dX4_bestPlan_14 : decode cX4_bestPlan 14 = .ok (.istore_n 2, 1) := by decide +kernel
theorem dX4_bestPlan_15 : decode cX4_bestPlan 15 = .ok (.iconst 0, 1) := by decide +kernel
theorem dX4_bestPlan_16 : decode cX4_bestPlan 16 = .ok (.istore_n 3, 1) := by decide +kernel
theorem dX4_bestPlan_17 : decode cX4_bestPlan 17 = .ok (.iconst 0, 1) := by decide +kernel
theorem dX4_bestPlan_18 : decode cX4_bestPlan 18 = .ok (.istore 4, 2) := by decide +kernel
theorem dX4_bestPlan_20 : decode cX4_bestPlan 20 = .ok (.iload 4, 2) := by decide +kernel
theorem dX4_bestPlan_22 : decode cX4_bestPlan 22 = .ok (.sipush 729, 3) := by decide +kernel
theorem dX4_bestPlan_25 : decode cX4_bestPlan 25 = .ok (.if_icmp .ge 44, 3) := by decide +kernel
theorem dX4_bestPlan_28 : decode cX4_bestPlan 28 = .ok (.aload_n 0, 1) := by decide +kernel
theorem dX4_bestPlan_29 : decode cX4_bestPlan 29 = .ok (.iload 4, 2) := by decide +kernel
theorem dX4_bestPlan_31 : decode cX4_bestPlan 31 = .ok (.invokevirtual 54, 3) := by decide +kernel
theorem dX4_bestPlan_34 : decode cX4_bestPlan 34 = .ok (.aload_n 0, 1) := by decide +kernel
theorem dX4_bestPlan_35 : decode cX4_bestPlan 35 = .ok (.invokevirtual 111, 3) := by decide +kernel
theorem dX4_bestPlan_38 : decode cX4_bestPlan 38 = .ok (.ifCond .eq 25, 3) := by decide +kernel
theorem dX4_bestPlan_41 : decode cX4_bestPlan 41 = .ok (.iload_n 2, 1) := by decide +kernel
theorem dX4_bestPlan_42 : decode cX4_bestPlan 42 = .ok (.bipush (-6), 2) := by decide +kernel
theorem dX4_bestPlan_44 : decode cX4_bestPlan 44 = .ok (.if_icmp .eq 11, 3) := by decide +kernel
theorem dX4_bestPlan_47 : decode cX4_bestPlan 47 = .ok (.aload_n 0, 1) := by decide +kernel
theorem dX4_bestPlan_48 : decode cX4_bestPlan 48 = .ok (.invokevirtual 146, 3) := by decide +kernel
theorem dX4_bestPlan_51 : decode cX4_bestPlan 51 = .ok (.iload_n 3, 1) := by decide +kernel
theorem dX4_bestPlan_52 : decode cX4_bestPlan 52 = .ok (.if_icmp .le 11, 3) := by decide +kernel
theorem dX4_bestPlan_55 : decode cX4_bestPlan 55 = .ok (.iload 4, 2) := by decide +kernel
theorem dX4_bestPlan_57 : decode cX4_bestPlan 57 = .ok (.istore_n 2, 1) := by decide +kernel
theorem dX4_bestPlan_58 : decode cX4_bestPlan 58 = .ok (.aload_n 0, 1) := by decide +kernel
theorem dX4_bestPlan_59 : decode cX4_bestPlan 59 = .ok (.invokevirtual 146, 3) := by decide +kernel
theorem dX4_bestPlan_62 : decode cX4_bestPlan 62 = .ok (.istore_n 3, 1) := by decide +kernel
theorem dX4_bestPlan_63 : decode cX4_bestPlan 63 = .ok (.iinc 4 1, 3) := by decide +kernel
theorem dX4_bestPlan_66 : decode cX4_bestPlan 66 = .ok (.goto (-46), 3) := by decide +kernel
theorem dX4_bestPlan_69 : decode cX4_bestPlan 69 = .ok (.iload_n 1, 1) := by decide +kernel
theorem dX4_bestPlan_70 : decode cX4_bestPlan 70 = .ok (.ifCond .eq 9, 3) := by decide +kernel
theorem dX4_bestPlan_73 : decode cX4_bestPlan 73 = .ok (.iload_n 2, 1) := by decide +kernel
theorem dX4_bestPlan_74 : decode cX4_bestPlan 74 = .ok (.bipush (-6), 2) := by decide +kernel
theorem dX4_bestPlan_76 : decode cX4_bestPlan 76 = .ok (.if_icmp .ne 7, 3) := by decide +kernel
theorem dX4_bestPlan_79 : decode cX4_bestPlan 79 = .ok (.iload_n 2, 1) := by decide +kernel
theorem dX4_bestPlan_80 : decode cX4_bestPlan 80 = .ok (.goto 8, 3) := by decide +kernel
theorem dX4_bestPlan_83 : decode cX4_bestPlan 83 = .ok (.iload_n 3, 1) := by decide +kernel
theorem dX4_bestPlan_84 : decode cX4_bestPlan 84 = .ok (.sipush 1000, 3) := by decide +kernel
theorem dX4_bestPlan_87 : decode cX4_bestPlan 87 = .ok (.iadd, 1) := by decide +kernel
theorem dX4_bestPlan_88 : decode cX4_bestPlan 88 = .ok (.ireturn, 1) := by decide +kernel
theorem dX4_payoff_0 : decode cX4_payoff 0 = .ok (.iload_n 2, 1) := by decide +kernel
theorem dX4_payoff_1 : decode cX4_payoff 1 = .ok (.iload_n 3, 1) := by decide +kernel
theorem dX4_payoff_2 : decode cX4_payoff 2 = .ok (.iload 4, 2) := by decide +kernel
theorem dX4_payoff_4 : decode cX4_payoff 4 = .ok (.invokestatic 128, 3) := by decide +kernel
theorem dX4_payoff_7 : decode cX4_payoff 7 = .ok (.ifCond .ne 5, 3) := by decide +kernel
theorem dX4_payoff_10 : decode cX4_payoff 10 = .ok (.iconst (-1), 1) := by decide +kernel
theorem dX4_payoff_11 : decode cX4_payoff 11 = .ok (.ireturn, 1) := by decide +kernel
theorem dX4_payoff_12 : decode cX4_payoff 12 = .ok (.iload_n 1, 1) := by decide +kernel
theorem dX4_payoff_13 : decode cX4_payoff 13 = .ok (.iconst 0, 1) := by decide +kernel
theorem dX4_payoff_14 : decode cX4_payoff 14 = .ok (.iconst 1, 1) := by decide +kernel
theorem dX4_payoff_15 : decode cX4_payoff 15 = .ok (.invokestatic 35, 3) := by decide +kernel
theorem dX4_payoff_18 : decode cX4_payoff 18 = .ok (.ifCond .eq 22, 3) := by decide +kernel
theorem dX4_payoff_21 : decode cX4_payoff 21 = .ok (.aload_n 0, 1) := by decide +kernel
theorem dX4_payoff_22 : decode cX4_payoff 22 = .ok (.getfield 7, 3) := by decide +kernel
theorem dX4_payoff_25 : decode cX4_payoff 25 = .ok (.iload_n 1, 1) := by decide +kernel
theorem dX4_payoff_26 : decode cX4_payoff 26 = .ok (.iload_n 2, 1) := by decide +kernel
theorem dX4_payoff_27 : decode cX4_payoff 27 = .ok (.iload_n 3, 1) := by decide +kernel
theorem dX4_payoff_28 : decode cX4_payoff 28 = .ok (.iload 4, 2) := by decide +kernel
theorem dX4_payoff_30 : decode cX4_payoff 30 = .ok (.invokestatic 66, 3) := by decide +kernel
theorem dX4_payoff_33 : decode cX4_payoff 33 = .ok (.iaload, 1) := by decide +kernel
theorem dX4_payoff_34 : decode cX4_payoff 34 = .ok (.bipush 100, 2) := by decide +kernel
theorem dX4_payoff_36 : decode cX4_payoff 36 = .ok (.iadd, 1) := by decide +kernel
theorem dX4_payoff_37 : decode cX4_payoff 37 = .ok (.goto 5, 3) := by decide +kernel
theorem dX4_payoff_40 : decode cX4_payoff 40 = .ok (.bipush (-2), 2) := by decide +kernel
theorem dX4_payoff_42 : decode cX4_payoff 42 = .ok (.ireturn, 1) := by decide +kernel
theorem dX4_ofType_0 : decode cX4_ofType 0 = .ok (.iload_n 1, 1) := by decide +kernel
theorem dX4_ofType_1 : decode cX4_ofType 1 = .ok (.invokestatic 118, 3) := by decide +kernel
theorem dX4_ofType_4 : decode cX4_ofType 4 = .ok (.ifCond .ne 5, 3) := by decide +kernel
theorem dX4_ofType_7 : decode cX4_ofType 7 = .ok (.iconst (-1), 1) := by decide +kernel
theorem dX4_ofType_8 : decode cX4_ofType 8 = .ok (.ireturn, 1) := by decide +kernel
theorem dX4_ofType_9 : decode cX4_ofType 9 = .ok (.iload_n 2, 1) := by decide +kernel
theorem dX4_ofType_10 : decode cX4_ofType 10 = .ok (.iconst 0, 1) := by decide +kernel
theorem dX4_ofType_11 : decode cX4_ofType 11 = .ok (.iconst 4, 1) := by decide +kernel
theorem dX4_ofType_12 : decode cX4_ofType 12 = .ok (.invokestatic 35, 3) := by decide +kernel
theorem dX4_ofType_15 : decode cX4_ofType 15 = .ok (.ifCond .ne 6, 3) := by decide +kernel
theorem dX4_ofType_18 : decode cX4_ofType 18 = .ok (.bipush (-2), 2) := by decide +kernel
theorem dX4_ofType_20 : decode cX4_ofType 20 = .ok (.ireturn, 1) := by decide +kernel
theorem dX4_ofType_21 : decode cX4_ofType 21 = .ok (.aload_n 0, 1) := by decide +kernel
theorem dX4_ofType_22 : decode cX4_ofType 22 = .ok (.invokevirtual 149, 3) := by decide +kernel
theorem dX4_ofType_25 : decode cX4_ofType 25 = .ok (.iload_n 2, 1) := by decide +kernel
theorem dX4_ofType_26 : decode cX4_ofType 26 = .ok (.iconst 3, 1) := by decide +kernel
theorem dX4_ofType_27 : decode cX4_ofType 27 = .ok (.if_icmp .ge 39, 3) := by decide +kernel
theorem dX4_ofType_30 : decode cX4_ofType 30 = .ok (.iload_n 2, 1) := by decide +kernel
theorem dX4_ofType_31 : decode cX4_ofType 31 = .ok (.ifCond .ne 12, 3) := by decide +kernel
theorem dX4_ofType_34 : decode cX4_ofType 34 = .ok (.aload_n 0, 1) := by decide +kernel
theorem dX4_ofType_35 : decode cX4_ofType 35 = .ok (.getfield 7, 3) := by decide +kernel
theorem dX4_ofType_38 : decode cX4_ofType 38 = .ok (.iload_n 1, 1) := by decide +kernel
theorem dX4_ofType_39 : decode cX4_ofType 39 = .ok (.iaload, 1) := by decide +kernel
theorem dX4_ofType_40 : decode cX4_ofType 40 = .ok (.goto 25, 3) := by decide +kernel
theorem dX4_ofType_43 : decode cX4_ofType 43 = .ok (.iload_n 2, 1) := by decide +kernel
theorem dX4_ofType_44 : decode cX4_ofType 44 = .ok (.iconst 1, 1) := by decide +kernel
theorem dX4_ofType_45 : decode cX4_ofType 45 = .ok (.if_icmp .ne 12, 3) := by decide +kernel
theorem dX4_ofType_48 : decode cX4_ofType 48 = .ok (.aload_n 0, 1) := by decide +kernel
theorem dX4_ofType_49 : decode cX4_ofType 49 = .ok (.getfield 29, 3) := by decide +kernel
theorem dX4_ofType_52 : decode cX4_ofType 52 = .ok (.iload_n 1, 1) := by decide +kernel
theorem dX4_ofType_53 : decode cX4_ofType 53 = .ok (.iaload, 1) := by decide +kernel
theorem dX4_ofType_54 : decode cX4_ofType 54 = .ok (.goto 11, 3) := by decide +kernel
theorem dX4_ofType_57 : decode cX4_ofType 57 = .ok (.aload_n 0, 1) := by decide +kernel
theorem dX4_ofType_58 : decode cX4_ofType 58 = .ok (.iload_n 1, 1) := by decide +kernel
theorem dX4_ofType_59 : decode cX4_ofType 59 = .ok (.invokevirtual 86, 3) := by decide +kernel
theorem dX4_ofType_62 : decode cX4_ofType 62 = .ok (.bipush 100, 2) := by decide +kernel
theorem dX4_ofType_64 : decode cX4_ofType 64 = .ok (.iadd, 1) := by decide +kernel
theorem dX4_ofType_65 : decode cX4_ofType 65 = .ok (.ireturn, 1) := by decide +kernel
theorem dX4_ofType_66 : decode cX4_ofType 66 = .ok (.aload_n 0, 1) := by decide +kernel
theorem dX4_ofType_67 : decode cX4_ofType 67 = .ok (.iload_n 1, 1) := by decide +kernel
theorem dX4_ofType_68 : decode cX4_ofType 68 = .ok (.invokevirtual 83, 3) := by decide +kernel
theorem dX4_ofType_71 : decode cX4_ofType 71 = .ok (.istore_n 3, 1) := by decide +kernel
theorem dX4_ofType_72 : decode cX4_ofType 72 = .ok (.iload_n 2, 1) := by decide +kernel
theorem dX4_ofType_73 : decode cX4_ofType 73 = .ok (.iconst 3, 1) := by decide +kernel
theorem dX4_ofType_74 : decode cX4_ofType 74 = .ok (.if_icmp .ne 7, 3) := by decide +kernel
theorem dX4_ofType_77 : decode cX4_ofType 77 = .ok (.iload_n 3, 1) := by decide +kernel
theorem dX4_ofType_78 : decode cX4_ofType 78 = .ok (.goto 15, 3) := by decide +kernel
theorem dX4_ofType_81 : decode cX4_ofType 81 = .ok (.aload_n 0, 1) := by decide +kernel
theorem dX4_ofType_82 : decode cX4_ofType 82 = .ok (.iload_n 1, 1) := by decide +kernel
theorem dX4_ofType_83 : decode cX4_ofType 83 = .ok (.iload_n 3, 1) := by decide +kernel
theorem dX4_ofType_84 : decode cX4_ofType 84 = .ok (.invokevirtual 80, 3) := by decide +kernel
theorem dX4_ofType_87 : decode cX4_ofType 87 = .ok (.aload_n 0, 1) := by decide +kernel
theorem dX4_ofType_88 : decode cX4_ofType 88 = .ok (.iload_n 1, 1) := by decide +kernel
theorem dX4_ofType_89 : decode cX4_ofType 89 = .ok (.invokevirtual 86, 3) := by decide +kernel
theorem dX4_ofType_92 : decode cX4_ofType 92 = .ok (.isub, 1) := by decide +kernel
theorem dX4_ofType_93 : decode cX4_ofType 93 = .ok (.ireturn, 1) := by decide +kernel
theorem dX4_ofMessage_0 : decode cX4_ofMessage 0 = .ok (.iload_n 1, 1) := by decide +kernel
theorem dX4_ofMessage_1 : decode cX4_ofMessage 1 = .ok (.invokestatic 118, 3) := by decide +kernel
theorem dX4_ofMessage_4 : decode cX4_ofMessage 4 = .ok (.ifCond .ne 5, 3) := by decide +kernel
theorem dX4_ofMessage_7 : decode cX4_ofMessage 7 = .ok (.iconst (-1), 1) := by decide +kernel
theorem dX4_ofMessage_8 : decode cX4_ofMessage 8 = .ok (.ireturn, 1) := by decide +kernel
theorem dX4_ofMessage_9 : decode cX4_ofMessage 9 = .ok (.iload_n 2, 1) := by decide +kernel
theorem dX4_ofMessage_10 : decode cX4_ofMessage 10 = .ok (.iconst 0, 1) := by decide +kernel
theorem dX4_ofMessage_11 : decode cX4_ofMessage 11 = .ok (.iconst 5, 1) := by decide +kernel
theorem dX4_ofMessage_12 : decode cX4_ofMessage 12 = .ok (.invokestatic 35, 3) := by decide +kernel
theorem dX4_ofMessage_15 : decode cX4_ofMessage 15 = .ok (.ifCond .ne 6, 3) := by decide +kernel
theorem dX4_ofMessage_18 : decode cX4_ofMessage 18 = .ok (.bipush (-2), 2) := by decide +kernel
theorem dX4_ofMessage_20 : decode cX4_ofMessage 20 = .ok (.ireturn, 1) := by decide +kernel
theorem dX4_ofMessage_21 : decode cX4_ofMessage 21 = .ok (.aload_n 0, 1) := by decide +kernel
theorem dX4_ofMessage_22 : decode cX4_ofMessage 22 = .ok (.invokevirtual 149, 3) := by decide +kernel
theorem dX4_ofMessage_25 : decode cX4_ofMessage 25 = .ok (.iload_n 2, 1) := by decide +kernel
theorem dX4_ofMessage_26 : decode cX4_ofMessage 26 = .ok (.iconst 3, 1) := by decide +kernel
theorem dX4_ofMessage_27 : decode cX4_ofMessage 27 = .ok (.if_icmp .ge 45, 3) := by decide +kernel
theorem dX4_ofMessage_30 : decode cX4_ofMessage 30 = .ok (.iload_n 2, 1) := by decide +kernel
theorem dX4_ofMessage_31 : decode cX4_ofMessage 31 = .ok (.ifCond .ne 19, 3) := by decide +kernel
theorem dX4_ofMessage_34 : decode cX4_ofMessage 34 = .ok (.aload_n 0, 1) := by decide +kernel
theorem dX4_ofMessage_35 : decode cX4_ofMessage 35 = .ok (.iload_n 1, 1) := by decide +kernel
theorem dX4_ofMessage_36 : decode cX4_ofMessage 36 = .ok (.invokevirtual 62, 3) := by decide +kernel
theorem dX4_ofMessage_39 : decode cX4_ofMessage 39 = .ok (.ifCond .ne 7, 3) := by decide +kernel
theorem dX4_ofMessage_42 : decode cX4_ofMessage 42 = .ok (.iconst 0, 1) := by decide +kernel
theorem dX4_ofMessage_43 : decode cX4_ofMessage 43 = .ok (.goto 28, 3) := by decide +kernel
theorem dX4_ofMessage_46 : decode cX4_ofMessage 46 = .ok (.iconst 1, 1) := by decide +kernel
theorem dX4_ofMessage_47 : decode cX4_ofMessage 47 = .ok (.goto 24, 3) := by decide +kernel
theorem dX4_ofMessage_50 : decode cX4_ofMessage 50 = .ok (.iload_n 2, 1) := by decide +kernel
theorem dX4_ofMessage_51 : decode cX4_ofMessage 51 = .ok (.iconst 1, 1) := by decide +kernel
theorem dX4_ofMessage_52 : decode cX4_ofMessage 52 = .ok (.if_icmp .ne 14, 3) := by decide +kernel
theorem dX4_ofMessage_55 : decode cX4_ofMessage 55 = .ok (.aload_n 0, 1) := by decide +kernel
theorem dX4_ofMessage_56 : decode cX4_ofMessage 56 = .ok (.getfield 29, 3) := by decide +kernel
theorem dX4_ofMessage_59 : decode cX4_ofMessage 59 = .ok (.iconst 3, 1) := by decide +kernel
theorem dX4_ofMessage_60 : decode cX4_ofMessage 60 = .ok (.iload_n 1, 1) := by decide +kernel
theorem dX4_ofMessage_61 : decode cX4_ofMessage 61 = .ok (.iadd, 1) := by decide +kernel
theorem dX4_ofMessage_62 : decode cX4_ofMessage 62 = .ok (.iaload, 1) := by decide +kernel
theorem dX4_ofMessage_63 : decode cX4_ofMessage 63 = .ok (.goto 8, 3) := by decide +kernel
theorem dX4_ofMessage_66 : decode cX4_ofMessage 66 = .ok (.aload_n 0, 1) := by decide +kernel
theorem dX4_ofMessage_67 : decode cX4_ofMessage 67 = .ok (.iload_n 1, 1) := by decide +kernel
theorem dX4_ofMessage_68 : decode cX4_ofMessage 68 = .ok (.invokevirtual 89, 3) := by decide +kernel
theorem dX4_ofMessage_71 : decode cX4_ofMessage 71 = .ok (.ireturn, 1) := by decide +kernel
theorem dX4_ofMessage_72 : decode cX4_ofMessage 72 = .ok (.iload_n 2, 1) := by decide +kernel
theorem dX4_ofMessage_73 : decode cX4_ofMessage 73 = .ok (.iconst 3, 1) := by decide +kernel
theorem dX4_ofMessage_74 : decode cX4_ofMessage 74 = .ok (.if_icmp .ne 11, 3) := by decide +kernel
theorem dX4_ofMessage_77 : decode cX4_ofMessage 77 = .ok (.aload_n 0, 1) := by decide +kernel
theorem dX4_ofMessage_78 : decode cX4_ofMessage 78 = .ok (.iload_n 1, 1) := by decide +kernel
theorem dX4_ofMessage_79 : decode cX4_ofMessage 79 = .ok (.invokevirtual 62, 3) := by decide +kernel
theorem dX4_ofMessage_82 : decode cX4_ofMessage 82 = .ok (.goto 25, 3) := by decide +kernel
theorem dX4_ofMessage_85 : decode cX4_ofMessage 85 = .ok (.iload_n 2, 1) := by decide +kernel
theorem dX4_ofMessage_86 : decode cX4_ofMessage 86 = .ok (.iconst 4, 1) := by decide +kernel
theorem dX4_ofMessage_87 : decode cX4_ofMessage 87 = .ok (.if_icmp .ne 11, 3) := by decide +kernel
theorem dX4_ofMessage_90 : decode cX4_ofMessage 90 = .ok (.aload_n 0, 1) := by decide +kernel
theorem dX4_ofMessage_91 : decode cX4_ofMessage 91 = .ok (.iload_n 1, 1) := by decide +kernel
theorem dX4_ofMessage_92 : decode cX4_ofMessage 92 = .ok (.invokevirtual 108, 3) := by decide +kernel
theorem dX4_ofMessage_95 : decode cX4_ofMessage 95 = .ok (.goto 12, 3) := by decide +kernel
theorem dX4_ofMessage_98 : decode cX4_ofMessage 98 = .ok (.aload_n 0, 1) := by decide +kernel
theorem dX4_ofMessage_99 : decode cX4_ofMessage 99 = .ok (.iload_n 1, 1) := by decide +kernel
theorem dX4_ofMessage_100 : decode cX4_ofMessage 100 = .ok (.aload_n 0, 1) := by decide +kernel
theorem dX4_ofMessage_101 : decode cX4_ofMessage 101 = .ok (.invokevirtual 98, 3) := by decide +kernel
theorem dX4_ofMessage_104 : decode cX4_ofMessage 104 = .ok (.invokevirtual 101, 3) := by decide +kernel
theorem dX4_ofMessage_107 : decode cX4_ofMessage 107 = .ok (.ireturn, 1) := by decide +kernel
theorem dX4_common_0 : decode cX4_common 0 = .ok (.iload_n 0, 1) := by decide +kernel
theorem dX4_common_1 : decode cX4_common 1 = .ok (.ifCond .ge 8, 3) := by decide +kernel
theorem dX4_common_4 : decode cX4_common 4 = .ok (.iload_n 0, 1) := by decide +kernel
theorem dX4_common_5 : decode cX4_common 5 = .ok (.ineg, 1) := by decide +kernel
theorem dX4_common_6 : decode cX4_common 6 = .ok (.goto 4, 3) := by decide +kernel
theorem dX4_common_9 : decode cX4_common 9 = .ok (.iload_n 0, 1) := by decide +kernel
theorem dX4_common_10 : decode cX4_common 10 = .ok (.istore_n 2, 1) := by decide +kernel
theorem dX4_common_11 : decode cX4_common 11 = .ok (.iload_n 1, 1) := by decide +kernel
theorem dX4_common_12 : decode cX4_common 12 = .ok (.istore_n 3, 1) := by decide +kernel
theorem dX4_common_13 : decode cX4_common 13 = .ok (.iload_n 2, 1) := by decide +kernel
theorem dX4_common_14 : decode cX4_common 14 = .ok (.ifCond .le 16, 3) := by decide +kernel
theorem dX4_common_17 : decode cX4_common 17 = .ok (.iload_n 3, 1) := by decide +kernel
theorem dX4_common_18 : decode cX4_common 18 = .ok (.iload_n 2, 1) := by decide +kernel
theorem dX4_common_19 : decode cX4_common 19 = .ok (.irem, 1) := by decide +kernel
theorem dX4_common_20 : decode cX4_common 20 = .ok (.istore 4, 2) := by decide +kernel
theorem dX4_common_22 : decode cX4_common 22 = .ok (.iload_n 2, 1) := by decide +kernel
theorem dX4_common_23 : decode cX4_common 23 = .ok (.istore_n 3, 1) := by decide +kernel
theorem dX4_common_24 : decode cX4_common 24 = .ok (.iload 4, 2) := by decide +kernel
theorem dX4_common_26 : decode cX4_common 26 = .ok (.istore_n 2, 1) := by decide +kernel
theorem dX4_common_27 : decode cX4_common 27 = .ok (.goto (-14), 3) := by decide +kernel
theorem dX4_common_30 : decode cX4_common 30 = .ok (.iload_n 3, 1) := by decide +kernel
theorem dX4_common_31 : decode cX4_common 31 = .ok (.ireturn, 1) := by decide +kernel
theorem dX4_sum_0 : decode cX4_sum 0 = .ok (.aload_n 0, 1) := by decide +kernel
theorem dX4_sum_1 : decode cX4_sum 1 = .ok (.getfield 32, 3) := by decide +kernel
theorem dX4_sum_4 : decode cX4_sum 4 = .ok (.iconst 0, 1) := by decide +kernel
theorem dX4_sum_5 : decode cX4_sum 5 = .ok (.iaload, 1) := by decide +kernel
theorem dX4_sum_6 : decode cX4_sum 6 = .ok (.aload_n 0, 1) := by decide +kernel
theorem dX4_sum_7 : decode cX4_sum 7 = .ok (.getfield 32, 3) := by decide +kernel
theorem dX4_sum_10 : decode cX4_sum 10 = .ok (.iconst 1, 1) := by decide +kernel
theorem dX4_sum_11 : decode cX4_sum 11 = .ok (.iaload, 1) := by decide +kernel
theorem dX4_sum_12 : decode cX4_sum 12 = .ok (.iadd, 1) := by decide +kernel
theorem dX4_sum_13 : decode cX4_sum 13 = .ok (.aload_n 0, 1) := by decide +kernel
theorem dX4_sum_14 : decode cX4_sum 14 = .ok (.getfield 32, 3) := by decide +kernel
theorem dX4_sum_17 : decode cX4_sum 17 = .ok (.iconst 2, 1) := by decide +kernel
theorem dX4_sum_18 : decode cX4_sum 18 = .ok (.iaload, 1) := by decide +kernel
theorem dX4_sum_19 : decode cX4_sum 19 = .ok (.iadd, 1) := by decide +kernel
theorem dX4_sum_20 : decode cX4_sum 20 = .ok (.ireturn, 1) := by decide +kernel
theorem dX4_belief_0 : decode cX4_belief 0 = .ok (.iload_n 1, 1) := by decide +kernel
theorem dX4_belief_1 : decode cX4_belief 1 = .ok (.invokestatic 118, 3) := by decide +kernel
theorem dX4_belief_4 : decode cX4_belief 4 = .ok (.ifCond .eq 10, 3) := by decide +kernel
theorem dX4_belief_7 : decode cX4_belief 7 = .ok (.iload_n 2, 1) := by decide +kernel
theorem dX4_belief_8 : decode cX4_belief 8 = .ok (.invokestatic 118, 3) := by decide +kernel
theorem dX4_belief_11 : decode cX4_belief 11 = .ok (.ifCond .ne 5, 3) := by decide +kernel
theorem dX4_belief_14 : decode cX4_belief 14 = .ok (.iconst (-1), 1) := by decide +kernel
theorem dX4_belief_15 : decode cX4_belief 15 = .ok (.ireturn, 1) := by decide +kernel
theorem dX4_belief_16 : decode cX4_belief 16 = .ok (.iload_n 3, 1) := by decide +kernel
theorem dX4_belief_17 : decode cX4_belief 17 = .ok (.iconst 0, 1) := by decide +kernel
theorem dX4_belief_18 : decode cX4_belief 18 = .ok (.iconst 1, 1) := by decide +kernel
theorem dX4_belief_19 : decode cX4_belief 19 = .ok (.invokestatic 35, 3) := by decide +kernel
theorem dX4_belief_22 : decode cX4_belief 22 = .ok (.ifCond .ne 6, 3) := by decide +kernel
theorem dX4_belief_25 : decode cX4_belief 25 = .ok (.bipush (-2), 2) := by decide +kernel
theorem dX4_belief_27 : decode cX4_belief 27 = .ok (.ireturn, 1) := by decide +kernel
theorem dX4_belief_28 : decode cX4_belief 28 = .ok (.aload_n 0, 1) := by decide +kernel
theorem dX4_belief_29 : decode cX4_belief 29 = .ok (.invokevirtual 149, 3) := by decide +kernel
theorem dX4_belief_32 : decode cX4_belief 32 = .ok (.aload_n 0, 1) := by decide +kernel
theorem dX4_belief_33 : decode cX4_belief 33 = .ok (.iload_n 1, 1) := by decide +kernel
theorem dX4_belief_34 : decode cX4_belief 34 = .ok (.invokevirtual 74, 3) := by decide +kernel
theorem dX4_belief_37 : decode cX4_belief 37 = .ok (.aload_n 0, 1) := by decide +kernel
theorem dX4_belief_38 : decode cX4_belief 38 = .ok (.getfield 32, 3) := by decide +kernel
theorem dX4_belief_41 : decode cX4_belief 41 = .ok (.iload_n 2, 1) := by decide +kernel
theorem dX4_belief_42 : decode cX4_belief 42 = .ok (.iaload, 1) := by decide +kernel
theorem dX4_belief_43 : decode cX4_belief 43 = .ok (.aload_n 0, 1) := by decide +kernel
theorem dX4_belief_44 : decode cX4_belief 44 = .ok (.invokevirtual 152, 3) := by decide +kernel
theorem dX4_belief_47 : decode cX4_belief 47 = .ok (.invokestatic 155, 3) := by decide +kernel
theorem dX4_belief_50 : decode cX4_belief 50 = .ok (.istore 4, 2) := by decide +kernel
theorem dX4_belief_52 : decode cX4_belief 52 = .ok (.iload_n 3, 1) := by decide +kernel
theorem dX4_belief_53 : decode cX4_belief 53 = .ok (.ifCond .ne 12, 3) := by decide +kernel
theorem dX4_belief_56 : decode cX4_belief 56 = .ok (.aload_n 0, 1) := by decide +kernel
theorem dX4_belief_57 : decode cX4_belief 57 = .ok (.getfield 32, 3) := by decide +kernel
theorem dX4_belief_60 : decode cX4_belief 60 = .ok (.iload_n 2, 1) := by decide +kernel
theorem dX4_belief_61 : decode cX4_belief 61 = .ok (.iaload, 1) := by decide +kernel
theorem dX4_belief_62 : decode cX4_belief 62 = .ok (.goto 7, 3) := by decide +kernel
theorem dX4_belief_65 : decode cX4_belief 65 = .ok (.aload_n 0, 1) := by decide +kernel
theorem dX4_belief_66 : decode cX4_belief 66 = .ok (.invokevirtual 152, 3) := by decide +kernel
theorem dX4_belief_69 : decode cX4_belief 69 = .ok (.iload 4, 2) := by decide +kernel
theorem dX4_belief_71 : decode cX4_belief 71 = .ok (.idiv, 1) := by decide +kernel
theorem dX4_belief_72 : decode cX4_belief 72 = .ok (.ireturn, 1) := by decide +kernel
theorem dX4_mean_0 : decode cX4_mean 0 = .ok (.iload_n 1, 1) := by decide +kernel
theorem dX4_mean_1 : decode cX4_mean 1 = .ok (.invokestatic 118, 3) := by decide +kernel
theorem dX4_mean_4 : decode cX4_mean 4 = .ok (.ifCond .eq 10, 3) := by decide +kernel
theorem dX4_mean_7 : decode cX4_mean 7 = .ok (.iload_n 2, 1) := by decide +kernel
theorem dX4_mean_8 : decode cX4_mean 8 = .ok (.invokestatic 118, 3) := by decide +kernel
theorem dX4_mean_11 : decode cX4_mean 11 = .ok (.ifCond .ne 5, 3) := by decide +kernel
theorem dX4_mean_14 : decode cX4_mean 14 = .ok (.iconst (-1), 1) := by decide +kernel
theorem dX4_mean_15 : decode cX4_mean 15 = .ok (.ireturn, 1) := by decide +kernel
theorem dX4_mean_16 : decode cX4_mean 16 = .ok (.iload_n 3, 1) := by decide +kernel
theorem dX4_mean_17 : decode cX4_mean 17 = .ok (.iconst 0, 1) := by decide +kernel
theorem dX4_mean_18 : decode cX4_mean 18 = .ok (.iconst 1, 1) := by decide +kernel
theorem dX4_mean_19 : decode cX4_mean 19 = .ok (.invokestatic 35, 3) := by decide +kernel
theorem dX4_mean_22 : decode cX4_mean 22 = .ok (.ifCond .ne 6, 3) := by decide +kernel
theorem dX4_mean_25 : decode cX4_mean 25 = .ok (.bipush (-2), 2) := by decide +kernel
theorem dX4_mean_27 : decode cX4_mean 27 = .ok (.ireturn, 1) := by decide +kernel
theorem dX4_mean_28 : decode cX4_mean 28 = .ok (.aload_n 0, 1) := by decide +kernel
theorem dX4_mean_29 : decode cX4_mean 29 = .ok (.invokevirtual 149, 3) := by decide +kernel
theorem dX4_mean_32 : decode cX4_mean 32 = .ok (.aload_n 0, 1) := by decide +kernel
theorem dX4_mean_33 : decode cX4_mean 33 = .ok (.iload_n 1, 1) := by decide +kernel
theorem dX4_mean_34 : decode cX4_mean 34 = .ok (.invokevirtual 74, 3) := by decide +kernel
theorem dX4_mean_37 : decode cX4_mean 37 = .ok (.aload_n 0, 1) := by decide +kernel
theorem dX4_mean_38 : decode cX4_mean 38 = .ok (.iload_n 1, 1) := by decide +kernel
theorem dX4_mean_39 : decode cX4_mean 39 = .ok (.iload_n 2, 1) := by decide +kernel
theorem dX4_mean_40 : decode cX4_mean 40 = .ok (.invokevirtual 70, 3) := by decide +kernel
theorem dX4_mean_43 : decode cX4_mean 43 = .ok (.istore 4, 2) := by decide +kernel
theorem dX4_mean_45 : decode cX4_mean 45 = .ok (.iload 4, 2) := by decide +kernel
theorem dX4_mean_47 : decode cX4_mean 47 = .ok (.aload_n 0, 1) := by decide +kernel
theorem dX4_mean_48 : decode cX4_mean 48 = .ok (.invokevirtual 152, 3) := by decide +kernel
theorem dX4_mean_51 : decode cX4_mean 51 = .ok (.invokestatic 155, 3) := by decide +kernel
theorem dX4_mean_54 : decode cX4_mean 54 = .ok (.istore 5, 2) := by decide +kernel
theorem dX4_mean_56 : decode cX4_mean 56 = .ok (.iload_n 3, 1) := by decide +kernel
theorem dX4_mean_57 : decode cX4_mean 57 = .ok (.ifCond .ne 15, 3) := by decide +kernel
theorem dX4_mean_60 : decode cX4_mean 60 = .ok (.iload 4, 2) := by decide +kernel
theorem dX4_mean_62 : decode cX4_mean 62 = .ok (.iload 5, 2) := by decide +kernel
theorem dX4_mean_64 : decode cX4_mean 64 = .ok (.idiv, 1) := by decide +kernel
theorem dX4_mean_65 : decode cX4_mean 65 = .ok (.sipush 1000, 3) := by decide +kernel
theorem dX4_mean_68 : decode cX4_mean 68 = .ok (.iadd, 1) := by decide +kernel
theorem dX4_mean_69 : decode cX4_mean 69 = .ok (.goto 10, 3) := by decide +kernel
theorem dX4_mean_72 : decode cX4_mean 72 = .ok (.aload_n 0, 1) := by decide +kernel
theorem dX4_mean_73 : decode cX4_mean 73 = .ok (.invokevirtual 152, 3) := by decide +kernel
theorem dX4_mean_76 : decode cX4_mean 76 = .ok (.iload 5, 2) := by decide +kernel
theorem dX4_mean_78 : decode cX4_mean 78 = .ok (.idiv, 1) := by decide +kernel
theorem dX4_mean_79 : decode cX4_mean 79 = .ok (.ireturn, 1) := by decide +kernel
theorem dX4_why_0 : decode cX4_why 0 = .ok (.iload_n 1, 1) := by decide +kernel
theorem dX4_why_1 : decode cX4_why 1 = .ok (.iconst 0, 1) := by decide +kernel
theorem dX4_why_2 : decode cX4_why 2 = .ok (.iconst 1, 1) := by decide +kernel
theorem dX4_why_3 : decode cX4_why 3 = .ok (.invokestatic 35, 3) := by decide +kernel
theorem dX4_why_6 : decode cX4_why 6 = .ok (.ifCond .ne 6, 3) := by decide +kernel
theorem dX4_why_9 : decode cX4_why 9 = .ok (.bipush (-2), 2) := by decide +kernel
theorem dX4_why_11 : decode cX4_why 11 = .ok (.ireturn, 1) := by decide +kernel
theorem dX4_why_12 : decode cX4_why 12 = .ok (.aload_n 0, 1) := by decide +kernel
theorem dX4_why_13 : decode cX4_why 13 = .ok (.invokevirtual 149, 3) := by decide +kernel
theorem dX4_why_16 : decode cX4_why 16 = .ok (.aload_n 0, 1) := by decide +kernel
theorem dX4_why_17 : decode cX4_why 17 = .ok (.invokevirtual 92, 3) := by decide +kernel
theorem dX4_why_20 : decode cX4_why 20 = .ok (.istore_n 2, 1) := by decide +kernel
theorem dX4_why_21 : decode cX4_why 21 = .ok (.aload_n 0, 1) := by decide +kernel
theorem dX4_why_22 : decode cX4_why 22 = .ok (.invokevirtual 95, 3) := by decide +kernel
theorem dX4_why_25 : decode cX4_why 25 = .ok (.istore_n 3, 1) := by decide +kernel
theorem dX4_why_26 : decode cX4_why 26 = .ok (.iload_n 1, 1) := by decide +kernel
theorem dX4_why_27 : decode cX4_why 27 = .ok (.ifCond .ne 27, 3) := by decide +kernel
theorem dX4_why_30 : decode cX4_why 30 = .ok (.iload_n 2, 1) := by decide +kernel
theorem dX4_why_31 : decode cX4_why 31 = .ok (.bipush (-6), 2) := by decide +kernel
theorem dX4_why_33 : decode cX4_why 33 = .ok (.if_icmp .eq 7, 3) := by decide +kernel
theorem dX4_why_36 : decode cX4_why 36 = .ok (.iconst 1, 1) := by decide +kernel
theorem dX4_why_37 : decode cX4_why 37 = .ok (.goto 28, 3) := by decide +kernel
theorem dX4_why_40 : decode cX4_why 40 = .ok (.iload_n 3, 1) := by decide +kernel
theorem dX4_why_41 : decode cX4_why 41 = .ok (.bipush (-6), 2) := by decide +kernel
theorem dX4_why_43 : decode cX4_why 43 = .ok (.if_icmp .eq 7, 3) := by decide +kernel
theorem dX4_why_46 : decode cX4_why 46 = .ok (.iconst 2, 1) := by decide +kernel
theorem dX4_why_47 : decode cX4_why 47 = .ok (.goto 18, 3) := by decide +kernel
theorem dX4_why_50 : decode cX4_why 50 = .ok (.iconst 0, 1) := by decide +kernel
theorem dX4_why_51 : decode cX4_why 51 = .ok (.goto 14, 3) := by decide +kernel
theorem dX4_why_54 : decode cX4_why 54 = .ok (.iload_n 2, 1) := by decide +kernel
theorem dX4_why_55 : decode cX4_why 55 = .ok (.bipush (-6), 2) := by decide +kernel
theorem dX4_why_57 : decode cX4_why 57 = .ok (.if_icmp .eq 7, 3) := by decide +kernel
theorem dX4_why_60 : decode cX4_why 60 = .ok (.iload_n 2, 1) := by decide +kernel
theorem dX4_why_61 : decode cX4_why 61 = .ok (.goto 4, 3) := by decide +kernel
theorem dX4_why_64 : decode cX4_why 64 = .ok (.iload_n 3, 1) := by decide +kernel
theorem dX4_why_65 : decode cX4_why 65 = .ok (.ireturn, 1) := by decide +kernel
theorem dX4_sentSet_0 : decode cX4_sentSet 0 = .ok (.iconst 0, 1) := by decide +kernel
theorem dX4_sentSet_1 : decode cX4_sentSet 1 = .ok (.istore_n 1, 1) := by decide +kernel
theorem dX4_sentSet_2 : decode cX4_sentSet 2 = .ok (.iconst 0, 1) := by decide +kernel
theorem dX4_sentSet_3 : decode cX4_sentSet 3 = .ok (.istore_n 2, 1) := by decide +kernel
theorem dX4_sentSet_4 : decode cX4_sentSet 4 = .ok (.iload_n 2, 1) := by decide +kernel
theorem dX4_sentSet_5 : decode cX4_sentSet 5 = .ok (.iconst 3, 1) := by decide +kernel
theorem dX4_sentSet_6 : decode cX4_sentSet 6 = .ok (.if_icmp .ge 27, 3) := by decide +kernel
theorem dX4_sentSet_9 : decode cX4_sentSet 9 = .ok (.iload_n 1, 1) := by decide +kernel
theorem dX4_sentSet_10 : decode cX4_sentSet 10 = .ok (.aload_n 0, 1) := by decide +kernel
theorem dX4_sentSet_11 : decode cX4_sentSet 11 = .ok (.iload_n 2, 1) := by decide +kernel
theorem dX4_sentSet_12 : decode cX4_sentSet 12 = .ok (.invokevirtual 62, 3) := by decide +kernel
theorem dX4_sentSet_15 : decode cX4_sentSet 15 = .ok (.ifCond .ne 7, 3) := by decide +kernel
theorem dX4_sentSet_18 : decode cX4_sentSet 18 = .ok (.iconst 0, 1) := by decide +kernel
theorem dX4_sentSet_19 : decode cX4_sentSet 19 = .ok (.goto 6, 3) := by decide +kernel
theorem dX4_sentSet_22 : decode cX4_sentSet 22 = .ok (.iconst 1, 1) := by decide +kernel
theorem dX4_sentSet_23 : decode cX4_sentSet 23 = .ok (.iload_n 2, 1) := by decide +kernel
theorem dX4_sentSet_24 : decode cX4_sentSet 24 = .ok (.ishl, 1) := by decide +kernel
theorem dX4_sentSet_25 : decode cX4_sentSet 25 = .ok (.ior, 1) := by decide +kernel
theorem dX4_sentSet_26 : decode cX4_sentSet 26 = .ok (.istore_n 1, 1) := by decide +kernel
theorem dX4_sentSet_27 : decode cX4_sentSet 27 = .ok (.iinc 2 1, 3) := by decide +kernel
theorem dX4_sentSet_30 : decode cX4_sentSet 30 = .ok (.goto (-26), 3) := by decide +kernel
theorem dX4_sentSet_33 : decode cX4_sentSet 33 = .ok (.iload_n 1, 1) := by decide +kernel
theorem dX4_sentSet_34 : decode cX4_sentSet 34 = .ok (.ireturn, 1) := by decide +kernel
theorem dX4_count_0 : decode cX4_count 0 = .ok (.iload_n 1, 1) := by decide +kernel
theorem dX4_count_1 : decode cX4_count 1 = .ok (.iconst 0, 1) := by decide +kernel
theorem dX4_count_2 : decode cX4_count 2 = .ok (.bipush 7, 2) := by decide +kernel
theorem dX4_count_4 : decode cX4_count 4 = .ok (.invokestatic 35, 3) := by decide +kernel
theorem dX4_count_7 : decode cX4_count 7 = .ok (.ifCond .ne 6, 3) := by decide +kernel
theorem dX4_count_10 : decode cX4_count 10 = .ok (.bipush (-2), 2) := by decide +kernel
theorem dX4_count_12 : decode cX4_count 12 = .ok (.ireturn, 1) := by decide +kernel
theorem dX4_count_13 : decode cX4_count 13 = .ok (.aload_n 0, 1) := by decide +kernel
theorem dX4_count_14 : decode cX4_count 14 = .ok (.invokevirtual 149, 3) := by decide +kernel
theorem dX4_count_17 : decode cX4_count 17 = .ok (.iload_n 1, 1) := by decide +kernel
theorem dX4_count_18 : decode cX4_count 18 = .ok (.iconst 3, 1) := by decide +kernel
theorem dX4_count_19 : decode cX4_count 19 = .ok (.if_icmp .ge 42, 3) := by decide +kernel
theorem dX4_count_22 : decode cX4_count 22 = .ok (.iload_n 1, 1) := by decide +kernel
theorem dX4_count_23 : decode cX4_count 23 = .ok (.iconst 1, 1) := by decide +kernel
theorem dX4_count_24 : decode cX4_count 24 = .ok (.if_icmp .ne 10, 3) := by decide +kernel
theorem dX4_count_27 : decode cX4_count 27 = .ok (.aload_n 0, 1) := by decide +kernel
theorem dX4_count_28 : decode cX4_count 28 = .ok (.invokevirtual 137, 3) := by decide +kernel
theorem dX4_count_31 : decode cX4_count 31 = .ok (.goto 29, 3) := by decide +kernel
theorem dX4_count_34 : decode cX4_count 34 = .ok (.iload_n 1, 1) := by decide +kernel
theorem dX4_count_35 : decode cX4_count 35 = .ok (.ifCond .ne 13, 3) := by decide +kernel
theorem dX4_count_38 : decode cX4_count 38 = .ok (.aload_n 0, 1) := by decide +kernel
theorem dX4_count_39 : decode cX4_count 39 = .ok (.invokevirtual 111, 3) := by decide +kernel
theorem dX4_count_42 : decode cX4_count 42 = .ok (.ifCond .eq 17, 3) := by decide +kernel
theorem dX4_count_45 : decode cX4_count 45 = .ok (.goto 10, 3) := by decide +kernel
theorem dX4_count_48 : decode cX4_count 48 = .ok (.aload_n 0, 1) := by decide +kernel
theorem dX4_count_49 : decode cX4_count 49 = .ok (.invokevirtual 134, 3) := by decide +kernel
theorem dX4_count_52 : decode cX4_count 52 = .ok (.ifCond .eq 7, 3) := by decide +kernel
theorem dX4_count_55 : decode cX4_count 55 = .ok (.iconst 1, 1) := by decide +kernel
theorem dX4_count_56 : decode cX4_count 56 = .ok (.goto 4, 3) := by decide +kernel
theorem dX4_count_59 : decode cX4_count 59 = .ok (.iconst 0, 1) := by decide +kernel
theorem dX4_count_60 : decode cX4_count 60 = .ok (.ireturn, 1) := by decide +kernel
theorem dX4_count_61 : decode cX4_count 61 = .ok (.iload_n 1, 1) := by decide +kernel
theorem dX4_count_62 : decode cX4_count 62 = .ok (.bipush 6, 2) := by decide +kernel
theorem dX4_count_64 : decode cX4_count 64 = .ok (.if_icmp .ge 32, 3) := by decide +kernel
theorem dX4_count_67 : decode cX4_count 67 = .ok (.iload_n 1, 1) := by decide +kernel
theorem dX4_count_68 : decode cX4_count 68 = .ok (.iconst 3, 1) := by decide +kernel
theorem dX4_count_69 : decode cX4_count 69 = .ok (.if_icmp .ne 10, 3) := by decide +kernel
theorem dX4_count_72 : decode cX4_count 72 = .ok (.aload_n 0, 1) := by decide +kernel
theorem dX4_count_73 : decode cX4_count 73 = .ok (.invokevirtual 98, 3) := by decide +kernel
theorem dX4_count_76 : decode cX4_count 76 = .ok (.goto 19, 3) := by decide +kernel
theorem dX4_count_79 : decode cX4_count 79 = .ok (.iload_n 1, 1) := by decide +kernel
theorem dX4_count_80 : decode cX4_count 80 = .ok (.iconst 4, 1) := by decide +kernel
theorem dX4_count_81 : decode cX4_count 81 = .ok (.if_icmp .ne 10, 3) := by decide +kernel
theorem dX4_count_84 : decode cX4_count 84 = .ok (.aload_n 0, 1) := by decide +kernel
theorem dX4_count_85 : decode cX4_count 85 = .ok (.invokevirtual 158, 3) := by decide +kernel
theorem dX4_count_88 : decode cX4_count 88 = .ok (.goto 7, 3) := by decide +kernel
theorem dX4_count_91 : decode cX4_count 91 = .ok (.aload_n 0, 1) := by decide +kernel
theorem dX4_count_92 : decode cX4_count 92 = .ok (.invokevirtual 47, 3) := by decide +kernel
theorem dX4_count_95 : decode cX4_count 95 = .ok (.ireturn, 1) := by decide +kernel
theorem dX4_count_96 : decode cX4_count 96 = .ok (.iload_n 1, 1) := by decide +kernel
theorem dX4_count_97 : decode cX4_count 97 = .ok (.bipush 6, 2) := by decide +kernel
theorem dX4_count_99 : decode cX4_count 99 = .ok (.if_icmp .ne 10, 3) := by decide +kernel
theorem dX4_count_102 : decode cX4_count 102 = .ok (.aload_n 0, 1) := by decide +kernel
theorem dX4_count_103 : decode cX4_count 103 = .ok (.getfield 161, 3) := by decide +kernel
theorem dX4_count_106 : decode cX4_count 106 = .ok (.goto 7, 3) := by decide +kernel
theorem dX4_count_109 : decode cX4_count 109 = .ok (.aload_n 0, 1) := by decide +kernel
theorem dX4_count_110 : decode cX4_count 110 = .ok (.getfield 39, 3) := by decide +kernel
theorem dX4_count_113 : decode cX4_count 113 = .ok (.ireturn, 1) := by decide +kernel
theorem dX4_bestAnswer_0 : decode cX4_bestAnswer 0 = .ok (.iload_n 1, 1) := by decide +kernel
theorem dX4_bestAnswer_1 : decode cX4_bestAnswer 1 = .ok (.invokestatic 118, 3) := by decide +kernel
theorem dX4_bestAnswer_4 : decode cX4_bestAnswer 4 = .ok (.ifCond .ne 5, 3) := by decide +kernel
theorem dX4_bestAnswer_7 : decode cX4_bestAnswer 7 = .ok (.iconst (-1), 1) := by decide +kernel
theorem dX4_bestAnswer_8 : decode cX4_bestAnswer 8 = .ok (.ireturn, 1) := by decide +kernel
theorem dX4_bestAnswer_9 : decode cX4_bestAnswer 9 = .ok (.aload_n 0, 1) := by decide +kernel
theorem dX4_bestAnswer_10 : decode cX4_bestAnswer 10 = .ok (.invokevirtual 149, 3) := by decide +kernel
theorem dX4_bestAnswer_13 : decode cX4_bestAnswer 13 = .ok (.aload_n 0, 1) := by decide +kernel
theorem dX4_bestAnswer_14 : decode cX4_bestAnswer 14 = .ok (.iload_n 1, 1) := by decide +kernel
theorem dX4_bestAnswer_15 : decode cX4_bestAnswer 15 = .ok (.invokevirtual 89, 3) := by decide +kernel
theorem dX4_bestAnswer_18 : decode cX4_bestAnswer 18 = .ok (.istore_n 2, 1) := by decide +kernel
theorem dX4_bestAnswer_19 : decode cX4_bestAnswer 19 = .ok (.iload_n 2, 1) := by decide +kernel
theorem dX4_bestAnswer_20 : decode cX4_bestAnswer 20 = .ok (.iconst 1, 1) := by decide +kernel
theorem dX4_bestAnswer_21 : decode cX4_bestAnswer 21 = .ok (.iand, 1) := by decide +kernel
theorem dX4_bestAnswer_22 : decode cX4_bestAnswer 22 = .ok (.iconst 1, 1) := by decide +kernel
theorem dX4_bestAnswer_23 : decode cX4_bestAnswer 23 = .ok (.if_icmp .ne 7, 3) := by decide +kernel
theorem dX4_bestAnswer_26 : decode cX4_bestAnswer 26 = .ok (.iconst 0, 1) := by decide +kernel
theorem dX4_bestAnswer_27 : decode cX4_bestAnswer 27 = .ok (.goto 15, 3) := by decide +kernel
theorem dX4_bestAnswer_30 : decode cX4_bestAnswer 30 = .ok (.iload_n 2, 1) := by decide +kernel
theorem dX4_bestAnswer_31 : decode cX4_bestAnswer 31 = .ok (.iconst 2, 1) := by decide +kernel
theorem dX4_bestAnswer_32 : decode cX4_bestAnswer 32 = .ok (.iand, 1) := by decide +kernel
theorem dX4_bestAnswer_33 : decode cX4_bestAnswer 33 = .ok (.iconst 2, 1) := by decide +kernel
theorem dX4_bestAnswer_34 : decode cX4_bestAnswer 34 = .ok (.if_icmp .ne 7, 3) := by decide +kernel
theorem dX4_bestAnswer_37 : decode cX4_bestAnswer 37 = .ok (.iconst 1, 1) := by decide +kernel
theorem dX4_bestAnswer_38 : decode cX4_bestAnswer 38 = .ok (.goto 4, 3) := by decide +kernel
theorem dX4_bestAnswer_41 : decode cX4_bestAnswer 41 = .ok (.iconst 2, 1) := by decide +kernel
theorem dX4_bestAnswer_42 : decode cX4_bestAnswer 42 = .ok (.ireturn, 1) := by decide +kernel
theorem dX4_byteOf_0 : decode cX4_byteOf 0 = .ok (.lload_n 0, 1) := by decide +kernel
theorem dX4_byteOf_1 : decode cX4_byteOf 1 = .ok (.bipush 8, 2) := by decide +kernel
theorem dX4_byteOf_3 : decode cX4_byteOf 3 = .ok (.iload_n 2, 1) := by decide +kernel
theorem dX4_byteOf_4 : decode cX4_byteOf 4 = .ok (.imul, 1) := by decide +kernel
theorem dX4_byteOf_5 : decode cX4_byteOf 5 = .ok (.lshr, 1) := by decide +kernel
theorem dX4_byteOf_6 : decode cX4_byteOf 6 = .ok (.ldc2_w 164, 3) := by decide +kernel
theorem dX4_byteOf_9 : decode cX4_byteOf 9 = .ok (.land, 1) := by decide +kernel
theorem dX4_byteOf_10 : decode cX4_byteOf 10 = .ok (.l2i, 1) := by decide +kernel
theorem dX4_byteOf_11 : decode cX4_byteOf 11 = .ok (.ireturn, 1) := by decide +kernel
theorem dX4_toldBy_0 : decode cX4_toldBy 0 = .ok (.iconst 0, 1) := by decide +kernel
theorem dX4_toldBy_1 : decode cX4_toldBy 1 = .ok (.istore_n 2, 1) := by decide +kernel
theorem dX4_toldBy_2 : decode cX4_toldBy 2 = .ok (.iload_n 2, 1) := by decide +kernel
theorem dX4_toldBy_3 : decode cX4_toldBy 3 = .ok (.bipush 8, 2) := by decide +kernel
theorem dX4_toldBy_5 : decode cX4_toldBy 5 = .ok (.if_icmp .ge 35, 3) := by decide +kernel
theorem dX4_toldBy_8 : decode cX4_toldBy 8 = .ok (.lload_n 0, 1) := by decide +kernel
theorem dX4_toldBy_9 : decode cX4_toldBy 9 = .ok (.iload_n 2, 1) := by decide +kernel
theorem dX4_toldBy_10 : decode cX4_toldBy 10 = .ok (.invokestatic 166, 3) := by decide +kernel
theorem dX4_toldBy_13 : decode cX4_toldBy 13 = .ok (.ifCond .eq 27, 3) := by decide +kernel
theorem dX4_toldBy_16 : decode cX4_toldBy 16 = .ok (.lload_n 0, 1) := by decide +kernel
theorem dX4_toldBy_17 : decode cX4_toldBy 17 = .ok (.iload_n 2, 1) := by decide +kernel
theorem dX4_toldBy_18 : decode cX4_toldBy 18 = .ok (.invokestatic 166, 3) := by decide +kernel
theorem dX4_toldBy_21 : decode cX4_toldBy 21 = .ok (.bipush 33, 2) := by decide +kernel
theorem dX4_toldBy_23 : decode cX4_toldBy 23 = .ok (.bipush 126, 2) := by decide +kernel
theorem dX4_toldBy_25 : decode cX4_toldBy 25 = .ok (.invokestatic 35, 3) := by decide +kernel
theorem dX4_toldBy_28 : decode cX4_toldBy 28 = .ok (.ifCond .ne 6, 3) := by decide +kernel
theorem dX4_toldBy_31 : decode cX4_toldBy 31 = .ok (.bipush (-2), 2) := by decide +kernel
theorem dX4_toldBy_33 : decode cX4_toldBy 33 = .ok (.ireturn, 1) := by decide +kernel
theorem dX4_toldBy_34 : decode cX4_toldBy 34 = .ok (.iinc 2 1, 3) := by decide +kernel
theorem dX4_toldBy_37 : decode cX4_toldBy 37 = .ok (.goto (-35), 3) := by decide +kernel
theorem dX4_toldBy_40 : decode cX4_toldBy 40 = .ok (.iload_n 2, 1) := by decide +kernel
theorem dX4_toldBy_41 : decode cX4_toldBy 41 = .ok (.istore_n 3, 1) := by decide +kernel
theorem dX4_toldBy_42 : decode cX4_toldBy 42 = .ok (.iload_n 3, 1) := by decide +kernel
theorem dX4_toldBy_43 : decode cX4_toldBy 43 = .ok (.bipush 8, 2) := by decide +kernel
theorem dX4_toldBy_45 : decode cX4_toldBy 45 = .ok (.if_icmp .ge 20, 3) := by decide +kernel
theorem dX4_toldBy_48 : decode cX4_toldBy 48 = .ok (.lload_n 0, 1) := by decide +kernel
theorem dX4_toldBy_49 : decode cX4_toldBy 49 = .ok (.iload_n 3, 1) := by decide +kernel
theorem dX4_toldBy_50 : decode cX4_toldBy 50 = .ok (.invokestatic 166, 3) := by decide +kernel
theorem dX4_toldBy_53 : decode cX4_toldBy 53 = .ok (.ifCond .eq 6, 3) := by decide +kernel
theorem dX4_toldBy_56 : decode cX4_toldBy 56 = .ok (.bipush (-2), 2) := by decide +kernel
theorem dX4_toldBy_58 : decode cX4_toldBy 58 = .ok (.ireturn, 1) := by decide +kernel
theorem dX4_toldBy_59 : decode cX4_toldBy 59 = .ok (.iinc 3 1, 3) := by decide +kernel
theorem dX4_toldBy_62 : decode cX4_toldBy 62 = .ok (.goto (-20), 3) := by decide +kernel
theorem dX4_toldBy_65 : decode cX4_toldBy 65 = .ok (.iload_n 2, 1) := by decide +kernel
theorem dX4_toldBy_66 : decode cX4_toldBy 66 = .ok (.ifCond .ne 8, 3) := by decide +kernel
theorem dX4_toldBy_69 : decode cX4_toldBy 69 = .ok (.bipush (-2), 2) := by decide +kernel
theorem dX4_toldBy_71 : decode cX4_toldBy 71 = .ok (.goto 4, 3) := by decide +kernel
theorem dX4_toldBy_74 : decode cX4_toldBy 74 = .ok (.iload_n 2, 1) := by decide +kernel
theorem dX4_toldBy_75 : decode cX4_toldBy 75 = .ok (.ireturn, 1) := by decide +kernel
theorem dX4_put_0 : decode cX4_put 0 = .ok (.lload_n 1, 1) := by decide +kernel
theorem dX4_put_1 : decode cX4_put 1 = .ok (.invokestatic 170, 3) := by decide +kernel
theorem dX4_put_4 : decode cX4_put 4 = .ok (.istore_n 3, 1) := by decide +kernel
theorem dX4_put_5 : decode cX4_put 5 = .ok (.iload_n 3, 1) := by decide +kernel
theorem dX4_put_6 : decode cX4_put 6 = .ok (.ifCond .ge 5, 3) := by decide +kernel
theorem dX4_put_9 : decode cX4_put 9 = .ok (.iload_n 3, 1) := by decide +kernel
theorem dX4_put_10 : decode cX4_put 10 = .ok (.ireturn, 1) := by decide +kernel
theorem dX4_put_11 : decode cX4_put 11 = .ok (.aload_n 0, 1) := by decide +kernel
theorem dX4_put_12 : decode cX4_put 12 = .ok (.getfield 161, 3) := by decide +kernel
theorem dX4_put_15 : decode cX4_put 15 = .ok (.iload_n 3, 1) := by decide +kernel
theorem dX4_put_16 : decode cX4_put 16 = .ok (.iadd, 1) := by decide +kernel
theorem dX4_put_17 : decode cX4_put 17 = .ok (.bipush 80, 2) := by decide +kernel
theorem dX4_put_19 : decode cX4_put 19 = .ok (.if_icmp .le 6, 3) := by decide +kernel
theorem dX4_put_22 : decode cX4_put 22 = .ok (.bipush (-4), 2) := by decide +kernel
theorem dX4_put_24 : decode cX4_put 24 = .ok (.ireturn, 1) := by decide +kernel
theorem dX4_put_25 : decode cX4_put 25 = .ok (.iload_n 3, 1) := by decide +kernel
theorem dX4_put_26 : decode cX4_put 26 = .ok (.iconst 1, 1) := by decide +kernel
theorem dX4_put_27 : decode cX4_put 27 = .ok (.isub, 1) := by decide +kernel
theorem dX4_put_28 : decode cX4_put 28 = .ok (.istore 4, 2) := by decide +kernel
theorem dX4_put_30 : decode cX4_put 30 = .ok (.iload 4, 2) := by decide +kernel
theorem dX4_put_32 : decode cX4_put 32 = .ok (.ifCond .lt 34, 3) := by decide +kernel
theorem dX4_put_35 : decode cX4_put 35 = .ok (.aload_n 0, 1) := by decide +kernel
theorem dX4_put_36 : decode cX4_put 36 = .ok (.getfield 23, 3) := by decide +kernel
theorem dX4_put_39 : decode cX4_put 39 = .ok (.aload_n 0, 1) := by decide +kernel
theorem dX4_put_40 : decode cX4_put 40 = .ok (.getfield 161, 3) := by decide +kernel
theorem dX4_put_43 : decode cX4_put 43 = .ok (.lload_n 1, 1) := by decide +kernel
theorem dX4_put_44 : decode cX4_put 44 = .ok (.iload 4, 2) := by decide +kernel
theorem dX4_put_46 : decode cX4_put 46 = .ok (.invokestatic 166, 3) := by decide +kernel
theorem dX4_put_49 : decode cX4_put 49 = .ok (.iastore, 1) := by decide +kernel
theorem dX4_put_50 : decode cX4_put 50 = .ok (.aload_n 0, 1) := by decide +kernel
theorem dX4_put_51 : decode cX4_put 51 = .ok (.dup, 1) := by decide +kernel
theorem dX4_put_52 : decode cX4_put 52 = .ok (.getfield 161, 3) := by decide +kernel
theorem dX4_put_55 : decode cX4_put 55 = .ok (.iconst 1, 1) := by decide +kernel
theorem dX4_put_56 : decode cX4_put 56 = .ok (.iadd, 1) := by decide +kernel
theorem dX4_put_57 : decode cX4_put 57 = .ok (.putfield 161, 3) := by decide +kernel
theorem dX4_put_60 : decode cX4_put 60 = .ok (.iinc 4 (-1), 3) := by decide +kernel
theorem dX4_put_63 : decode cX4_put 63 = .ok (.goto (-33), 3) := by decide +kernel
theorem dX4_put_66 : decode cX4_put 66 = .ok (.aload_n 0, 1) := by decide +kernel
theorem dX4_put_67 : decode cX4_put 67 = .ok (.getfield 161, 3) := by decide +kernel
theorem dX4_put_70 : decode cX4_put 70 = .ok (.ireturn, 1) := by decide +kernel
theorem dX4_wipe_0 : decode cX4_wipe 0 = .ok (.aload_n 0, 1) := by decide +kernel
theorem dX4_wipe_1 : decode cX4_wipe 1 = .ok (.getfield 161, 3) := by decide +kernel
theorem dX4_wipe_4 : decode cX4_wipe 4 = .ok (.istore_n 1, 1) := by decide +kernel
theorem dX4_wipe_5 : decode cX4_wipe 5 = .ok (.aload_n 0, 1) := by decide +kernel
theorem dX4_wipe_6 : decode cX4_wipe 6 = .ok (.iconst 0, 1) := by decide +kernel
theorem dX4_wipe_7 : decode cX4_wipe 7 = .ok (.putfield 161, 3) := by decide +kernel
theorem dX4_wipe_10 : decode cX4_wipe 10 = .ok (.iload_n 1, 1) := by decide +kernel
theorem dX4_wipe_11 : decode cX4_wipe 11 = .ok (.ireturn, 1) := by decide +kernel
theorem dX4_isAt_0 : decode cX4_isAt 0 = .ok (.aload_n 0, 1) := by decide +kernel
theorem dX4_isAt_1 : decode cX4_isAt 1 = .ok (.getfield 174, 3) := by decide +kernel
theorem dX4_isAt_4 : decode cX4_isAt 4 = .ok (.aload_n 0, 1) := by decide +kernel
theorem dX4_isAt_5 : decode cX4_isAt 5 = .ok (.getfield 161, 3) := by decide +kernel
theorem dX4_isAt_8 : decode cX4_isAt 8 = .ok (.if_icmp .ge 24, 3) := by decide +kernel
theorem dX4_isAt_11 : decode cX4_isAt 11 = .ok (.aload_n 0, 1) := by decide +kernel
theorem dX4_isAt_12 : decode cX4_isAt 12 = .ok (.getfield 23, 3) := by decide +kernel
theorem dX4_isAt_15 : decode cX4_isAt 15 = .ok (.aload_n 0, 1) := by decide +kernel
theorem dX4_isAt_16 : decode cX4_isAt 16 = .ok (.getfield 174, 3) := by decide +kernel
theorem dX4_isAt_19 : decode cX4_isAt 19 = .ok (.iaload, 1) := by decide +kernel
theorem dX4_isAt_20 : decode cX4_isAt 20 = .ok (.iload_n 1, 1) := by decide +kernel
theorem dX4_isAt_21 : decode cX4_isAt 21 = .ok (.iload_n 2, 1) := by decide +kernel
theorem dX4_isAt_22 : decode cX4_isAt 22 = .ok (.invokestatic 35, 3) := by decide +kernel
theorem dX4_isAt_25 : decode cX4_isAt 25 = .ok (.ifCond .eq 7, 3) := by decide +kernel
theorem dX4_isAt_28 : decode cX4_isAt 28 = .ok (.iconst 1, 1) := by decide +kernel
theorem dX4_isAt_29 : decode cX4_isAt 29 = .ok (.goto 4, 3) := by decide +kernel
theorem dX4_isAt_32 : decode cX4_isAt 32 = .ok (.iconst 0, 1) := by decide +kernel
theorem dX4_isAt_33 : decode cX4_isAt 33 = .ok (.ireturn, 1) := by decide +kernel
theorem dX4_isSign_0 : decode cX4_isSign 0 = .ok (.aload_n 0, 1) := by decide +kernel
theorem dX4_isSign_1 : decode cX4_isSign 1 = .ok (.iload_n 1, 1) := by decide +kernel
theorem dX4_isSign_2 : decode cX4_isSign 2 = .ok (.iload_n 1, 1) := by decide +kernel
theorem dX4_isSign_3 : decode cX4_isSign 3 = .ok (.invokevirtual 177, 3) := by decide +kernel
theorem dX4_isSign_6 : decode cX4_isSign 6 = .ok (.istore_n 2, 1) := by decide +kernel
theorem dX4_isSign_7 : decode cX4_isSign 7 = .ok (.aload_n 0, 1) := by decide +kernel
theorem dX4_isSign_8 : decode cX4_isSign 8 = .ok (.dup, 1) := by decide +kernel
theorem dX4_isSign_9 : decode cX4_isSign 9 = .ok (.getfield 174, 3) := by decide +kernel
theorem dX4_isSign_12 : decode cX4_isSign 12 = .ok (.iload_n 2, 1) := by decide +kernel
theorem dX4_isSign_13 : decode cX4_isSign 13 = .ok (.ifCond .eq 7, 3) := by decide +kernel
theorem dX4_isSign_16 : decode cX4_isSign 16 = .ok (.iconst 1, 1) := by decide +kernel
theorem dX4_isSign_17 : decode cX4_isSign 17 = .ok (.goto 4, 3) := by decide +kernel
theorem dX4_isSign_20 : decode cX4_isSign 20 = .ok (.iconst 0, 1) := by decide +kernel
theorem dX4_isSign_21 : decode cX4_isSign 21 = .ok (.iadd, 1) := by decide +kernel
theorem dX4_isSign_22 : decode cX4_isSign 22 = .ok (.putfield 174, 3) := by decide +kernel
theorem dX4_isSign_25 : decode cX4_isSign 25 = .ok (.iload_n 2, 1) := by decide +kernel
theorem dX4_isSign_26 : decode cX4_isSign 26 = .ok (.ireturn, 1) := by decide +kernel
theorem dX4_isFigure_0 : decode cX4_isFigure 0 = .ok (.aload_n 0, 1) := by decide +kernel
theorem dX4_isFigure_1 : decode cX4_isFigure 1 = .ok (.bipush 48, 2) := by decide +kernel
theorem dX4_isFigure_3 : decode cX4_isFigure 3 = .ok (.iload_n 2, 1) := by decide +kernel
theorem dX4_isFigure_4 : decode cX4_isFigure 4 = .ok (.invokevirtual 177, 3) := by decide +kernel
theorem dX4_isFigure_7 : decode cX4_isFigure 7 = .ok (.ifCond .ne 5, 3) := by decide +kernel
theorem dX4_isFigure_10 : decode cX4_isFigure 10 = .ok (.iconst 0, 1) := by decide +kernel
theorem dX4_isFigure_11 : decode cX4_isFigure 11 = .ok (.ireturn, 1) := by decide +kernel
theorem dX4_isFigure_12 : decode cX4_isFigure 12 = .ok (.aload_n 0, 1) := by decide +kernel
theorem dX4_isFigure_13 : decode cX4_isFigure 13 = .ok (.getfield 26, 3) := by decide +kernel
theorem dX4_isFigure_16 : decode cX4_isFigure 16 = .ok (.iconst 5, 1) := by decide +kernel
theorem dX4_isFigure_17 : decode cX4_isFigure 17 = .ok (.aload_n 0, 1) := by decide +kernel
theorem dX4_isFigure_18 : decode cX4_isFigure 18 = .ok (.getfield 181, 3) := by decide +kernel
theorem dX4_isFigure_21 : decode cX4_isFigure 21 = .ok (.imul, 1) := by decide +kernel
theorem dX4_isFigure_22 : decode cX4_isFigure 22 = .ok (.iload_n 1, 1) := by decide +kernel
theorem dX4_isFigure_23 : decode cX4_isFigure 23 = .ok (.iadd, 1) := by decide +kernel
theorem dX4_isFigure_24 : decode cX4_isFigure 24 = .ok (.aload_n 0, 1) := by decide +kernel
theorem dX4_isFigure_25 : decode cX4_isFigure 25 = .ok (.getfield 23, 3) := by decide +kernel
theorem dX4_isFigure_28 : decode cX4_isFigure 28 = .ok (.aload_n 0, 1) := by decide +kernel
theorem dX4_isFigure_29 : decode cX4_isFigure 29 = .ok (.getfield 174, 3) := by decide +kernel
theorem dX4_isFigure_32 : decode cX4_isFigure 32 = .ok (.iaload, 1) := by decide +kernel
theorem dX4_isFigure_33 : decode cX4_isFigure 33 = .ok (.bipush 48, 2) := by decide +kernel
theorem dX4_isFigure_35 : decode cX4_isFigure 35 = .ok (.isub, 1) := by decide +kernel
theorem dX4_isFigure_36 : decode cX4_isFigure 36 = .ok (.iastore, 1) := by decide +kernel
theorem dX4_isFigure_37 : decode cX4_isFigure 37 = .ok (.aload_n 0, 1) := by decide +kernel
theorem dX4_isFigure_38 : decode cX4_isFigure 38 = .ok (.dup, 1) := by decide +kernel
theorem dX4_isFigure_39 : decode cX4_isFigure 39 = .ok (.getfield 174, 3) := by decide +kernel
theorem dX4_isFigure_42 : decode cX4_isFigure 42 = .ok (.iconst 1, 1) := by decide +kernel
theorem dX4_isFigure_43 : decode cX4_isFigure 43 = .ok (.iadd, 1) := by decide +kernel
theorem dX4_isFigure_44 : decode cX4_isFigure 44 = .ok (.putfield 174, 3) := by decide +kernel
theorem dX4_isFigure_47 : decode cX4_isFigure 47 = .ok (.iconst 1, 1) := by decide +kernel
theorem dX4_isFigure_48 : decode cX4_isFigure 48 = .ok (.ireturn, 1) := by decide +kernel
theorem dX4_isPay_0 : decode cX4_isPay 0 = .ok (.aload_n 0, 1) := by decide +kernel
theorem dX4_isPay_1 : decode cX4_isPay 1 = .ok (.iconst 1, 1) := by decide +kernel
theorem dX4_isPay_2 : decode cX4_isPay 2 = .ok (.bipush 50, 2) := by decide +kernel
theorem dX4_isPay_4 : decode cX4_isPay 4 = .ok (.invokevirtual 184, 3) := by decide +kernel
theorem dX4_isPay_7 : decode cX4_isPay 7 = .ok (.ifCond .eq 32, 3) := by decide +kernel
theorem dX4_isPay_10 : decode cX4_isPay 10 = .ok (.aload_n 0, 1) := by decide +kernel
theorem dX4_isPay_11 : decode cX4_isPay 11 = .ok (.iconst 2, 1) := by decide +kernel
theorem dX4_isPay_12 : decode cX4_isPay 12 = .ok (.bipush 50, 2) := by decide +kernel
theorem dX4_isPay_14 : decode cX4_isPay 14 = .ok (.invokevirtual 184, 3) := by decide +kernel
theorem dX4_isPay_17 : decode cX4_isPay 17 = .ok (.ifCond .eq 22, 3) := by decide +kernel
theorem dX4_isPay_20 : decode cX4_isPay 20 = .ok (.aload_n 0, 1) := by decide +kernel
theorem dX4_isPay_21 : decode cX4_isPay 21 = .ok (.iconst 3, 1) := by decide +kernel
theorem dX4_isPay_22 : decode cX4_isPay 22 = .ok (.bipush 50, 2) := by decide +kernel
theorem dX4_isPay_24 : decode cX4_isPay 24 = .ok (.invokevirtual 184, 3) := by decide +kernel
theorem dX4_isPay_27 : decode cX4_isPay 27 = .ok (.ifCond .eq 12, 3) := by decide +kernel
theorem dX4_isPay_30 : decode cX4_isPay 30 = .ok (.aload_n 0, 1) := by decide +kernel
theorem dX4_isPay_31 : decode cX4_isPay 31 = .ok (.bipush 61, 2) := by decide +kernel
theorem dX4_isPay_33 : decode cX4_isPay 33 = .ok (.invokevirtual 187, 3) := by decide +kernel
theorem dX4_isPay_36 : decode cX4_isPay 36 = .ok (.ifCond .ne 5, 3) := by decide +kernel
theorem dX4_isPay_39 : decode cX4_isPay 39 = .ok (.iconst 0, 1) := by decide +kernel
theorem dX4_isPay_40 : decode cX4_isPay 40 = .ok (.ireturn, 1) := by decide +kernel
theorem dX4_isPay_41 : decode cX4_isPay 41 = .ok (.aload_n 0, 1) := by decide +kernel
theorem dX4_isPay_42 : decode cX4_isPay 42 = .ok (.bipush 45, 2) := by decide +kernel
theorem dX4_isPay_44 : decode cX4_isPay 44 = .ok (.invokevirtual 187, 3) := by decide +kernel
theorem dX4_isPay_47 : decode cX4_isPay 47 = .ok (.istore_n 1, 1) := by decide +kernel
theorem dX4_isPay_48 : decode cX4_isPay 48 = .ok (.aload_n 0, 1) := by decide +kernel
theorem dX4_isPay_49 : decode cX4_isPay 49 = .ok (.iconst 4, 1) := by decide +kernel
theorem dX4_isPay_50 : decode cX4_isPay 50 = .ok (.bipush 57, 2) := by decide +kernel
theorem dX4_isPay_52 : decode cX4_isPay 52 = .ok (.invokevirtual 184, 3) := by decide +kernel
theorem dX4_isPay_55 : decode cX4_isPay 55 = .ok (.istore_n 2, 1) := by decide +kernel
theorem dX4_isPay_56 : decode cX4_isPay 56 = .ok (.aload_n 0, 1) := by decide +kernel
theorem dX4_isPay_57 : decode cX4_isPay 57 = .ok (.getfield 26, 3) := by decide +kernel
theorem dX4_isPay_60 : decode cX4_isPay 60 = .ok (.iconst 5, 1) := by decide +kernel
theorem dX4_isPay_61 : decode cX4_isPay 61 = .ok (.aload_n 0, 1) := by decide +kernel
theorem dX4_isPay_62 : decode cX4_isPay 62 = .ok (.getfield 181, 3) := by decide +kernel
theorem dX4_isPay_65 : decode cX4_isPay 65 = .ok (.imul, 1) := by decide +kernel
theorem dX4_isPay_66 : decode cX4_isPay 66 = .ok (.iconst 4, 1) := by decide +kernel
theorem dX4_isPay_67 : decode cX4_isPay 67 = .ok (.iadd, 1) := by decide +kernel
theorem dX4_isPay_68 : decode cX4_isPay 68 = .ok (.dup2, 1) := by decide +kernel
theorem dX4_isPay_69 : decode cX4_isPay 69 = .ok (.iaload, 1) := by decide +kernel
theorem dX4_isPay_70 : decode cX4_isPay 70 = .ok (.iload_n 1, 1) := by decide +kernel
theorem dX4_isPay_71 : decode cX4_isPay 71 = .ok (.ifCond .eq 7, 3) := by decide +kernel
theorem dX4_isPay_74 : decode cX4_isPay 74 = .ok (.iconst (-1), 1) := by decide +kernel
theorem dX4_isPay_75 : decode cX4_isPay 75 = .ok (.goto 4, 3) := by decide +kernel
theorem dX4_isPay_78 : decode cX4_isPay 78 = .ok (.iconst 1, 1) := by decide +kernel
theorem dX4_isPay_79 : decode cX4_isPay 79 = .ok (.imul, 1) := by decide +kernel
theorem dX4_isPay_80 : decode cX4_isPay 80 = .ok (.iastore, 1) := by decide +kernel
theorem dX4_isPay_81 : decode cX4_isPay 81 = .ok (.iload_n 2, 1) := by decide +kernel
theorem dX4_isPay_82 : decode cX4_isPay 82 = .ok (.ireturn, 1) := by decide +kernel
theorem dX4_isOrder_0 : decode cX4_isOrder 0 = .ok (.aload_n 0, 1) := by decide +kernel
theorem dX4_isOrder_1 : decode cX4_isOrder 1 = .ok (.getfield 174, 3) := by decide +kernel
theorem dX4_isOrder_4 : decode cX4_isOrder 4 = .ok (.aload_n 0, 1) := by decide +kernel
theorem dX4_isOrder_5 : decode cX4_isOrder 5 = .ok (.getfield 161, 3) := by decide +kernel
theorem dX4_isOrder_8 : decode cX4_isOrder 8 = .ok (.if_icmp .ge 15, 3) := by decide +kernel
theorem dX4_isOrder_11 : decode cX4_isOrder 11 = .ok (.aload_n 0, 1) := by decide +kernel
theorem dX4_isOrder_12 : decode cX4_isOrder 12 = .ok (.getfield 23, 3) := by decide +kernel
theorem dX4_isOrder_15 : decode cX4_isOrder 15 = .ok (.aload_n 0, 1) := by decide +kernel
theorem dX4_isOrder_16 : decode cX4_isOrder 16 = .ok (.getfield 174, 3) := by decide +kernel
theorem dX4_isOrder_19 : decode cX4_isOrder 19 = .ok (.iaload, 1) := by decide +kernel
theorem dX4_isOrder_20 : decode cX4_isOrder 20 = .ok (.goto 4, 3) := by decide +kernel
theorem dX4_isOrder_23 : decode cX4_isOrder 23 = .ok (.iconst 0, 1) := by decide +kernel
theorem dX4_isOrder_24 : decode cX4_isOrder 24 = .ok (.istore_n 1, 1) := by decide +kernel
theorem dX4_isOrder_25 : decode cX4_isOrder 25 = .ok (.aload_n 0, 1) := by decide +kernel
theorem dX4_isOrder_26 : decode cX4_isOrder 26 = .ok (.getfield 26, 3) := by decide +kernel
theorem dX4_isOrder_29 : decode cX4_isOrder 29 = .ok (.iconst 5, 1) := by decide +kernel
theorem dX4_isOrder_30 : decode cX4_isOrder 30 = .ok (.aload_n 0, 1) := by decide +kernel
theorem dX4_isOrder_31 : decode cX4_isOrder 31 = .ok (.getfield 181, 3) := by decide +kernel
theorem dX4_isOrder_34 : decode cX4_isOrder 34 = .ok (.imul, 1) := by decide +kernel
theorem dX4_isOrder_35 : decode cX4_isOrder 35 = .ok (.iload_n 1, 1) := by decide +kernel
theorem dX4_isOrder_36 : decode cX4_isOrder 36 = .ok (.iastore, 1) := by decide +kernel
theorem dX4_isOrder_37 : decode cX4_isOrder 37 = .ok (.iload_n 1, 1) := by decide +kernel
theorem dX4_isOrder_38 : decode cX4_isOrder 38 = .ok (.lookupswitch 218 #[(97, 103), (111, 163), (115, 103), (117, 148), (118, 148), (119, 58)], 58) := by decide +kernel
theorem dX4_isOrder_96 : decode cX4_isOrder 96 = .ok (.aload_n 0, 1) := by decide +kernel
theorem dX4_isOrder_97 : decode cX4_isOrder 97 = .ok (.dup, 1) := by decide +kernel
theorem dX4_isOrder_98 : decode cX4_isOrder 98 = .ok (.getfield 174, 3) := by decide +kernel
theorem dX4_isOrder_101 : decode cX4_isOrder 101 = .ok (.iconst 1, 1) := by decide +kernel
theorem dX4_isOrder_102 : decode cX4_isOrder 102 = .ok (.iadd, 1) := by decide +kernel
theorem dX4_isOrder_103 : decode cX4_isOrder 103 = .ok (.putfield 174, 3) := by decide +kernel
theorem dX4_isOrder_106 : decode cX4_isOrder 106 = .ok (.aload_n 0, 1) := by decide +kernel
theorem dX4_isOrder_107 : decode cX4_isOrder 107 = .ok (.iconst 1, 1) := by decide +kernel
theorem dX4_isOrder_108 : decode cX4_isOrder 108 = .ok (.bipush 50, 2) := by decide +kernel
theorem dX4_isOrder_110 : decode cX4_isOrder 110 = .ok (.invokevirtual 184, 3) := by decide +kernel
theorem dX4_isOrder_113 : decode cX4_isOrder 113 = .ok (.ifCond .eq 26, 3) := by decide +kernel
theorem dX4_isOrder_116 : decode cX4_isOrder 116 = .ok (.aload_n 0, 1) := by decide +kernel
theorem dX4_isOrder_117 : decode cX4_isOrder 117 = .ok (.bipush 61, 2) := by decide +kernel
theorem dX4_isOrder_119 : decode cX4_isOrder 119 = .ok (.invokevirtual 187, 3) := by decide +kernel
theorem dX4_isOrder_122 : decode cX4_isOrder 122 = .ok (.ifCond .eq 17, 3) := by decide +kernel
theorem dX4_isOrder_125 : decode cX4_isOrder 125 = .ok (.aload_n 0, 1) := by decide +kernel
theorem dX4_isOrder_126 : decode cX4_isOrder 126 = .ok (.iconst 2, 1) := by decide +kernel
theorem dX4_isOrder_127 : decode cX4_isOrder 127 = .ok (.bipush 57, 2) := by decide +kernel
theorem dX4_isOrder_129 : decode cX4_isOrder 129 = .ok (.invokevirtual 184, 3) := by decide +kernel
theorem dX4_isOrder_132 : decode cX4_isOrder 132 = .ok (.ifCond .eq 7, 3) := by decide +kernel
theorem dX4_isOrder_135 : decode cX4_isOrder 135 = .ok (.iconst 1, 1) := by decide +kernel
theorem dX4_isOrder_136 : decode cX4_isOrder 136 = .ok (.goto 4, 3) := by decide +kernel
theorem dX4_isOrder_139 : decode cX4_isOrder 139 = .ok (.iconst 0, 1) := by decide +kernel
theorem dX4_isOrder_140 : decode cX4_isOrder 140 = .ok (.ireturn, 1) := by decide +kernel
theorem dX4_isOrder_141 : decode cX4_isOrder 141 = .ok (.aload_n 0, 1) := by decide +kernel
theorem dX4_isOrder_142 : decode cX4_isOrder 142 = .ok (.dup, 1) := by decide +kernel
theorem dX4_isOrder_143 : decode cX4_isOrder 143 = .ok (.getfield 174, 3) := by decide +kernel
theorem dX4_isOrder_146 : decode cX4_isOrder 146 = .ok (.iconst 1, 1) := by decide +kernel
theorem dX4_isOrder_147 : decode cX4_isOrder 147 = .ok (.iadd, 1) := by decide +kernel
theorem dX4_isOrder_148 : decode cX4_isOrder 148 = .ok (.putfield 174, 3) := by decide +kernel
theorem dX4_isOrder_151 : decode cX4_isOrder 151 = .ok (.aload_n 0, 1) := by decide +kernel
theorem dX4_isOrder_152 : decode cX4_isOrder 152 = .ok (.iconst 1, 1) := by decide +kernel
theorem dX4_isOrder_153 : decode cX4_isOrder 153 = .ok (.bipush 50, 2) := by decide +kernel
theorem dX4_isOrder_155 : decode cX4_isOrder 155 = .ok (.invokevirtual 184, 3) := by decide +kernel
theorem dX4_isOrder_158 : decode cX4_isOrder 158 = .ok (.ifCond .eq 26, 3) := by decide +kernel
theorem dX4_isOrder_161 : decode cX4_isOrder 161 = .ok (.aload_n 0, 1) := by decide +kernel
theorem dX4_isOrder_162 : decode cX4_isOrder 162 = .ok (.bipush 62, 2) := by decide +kernel
theorem dX4_isOrder_164 : decode cX4_isOrder 164 = .ok (.invokevirtual 187, 3) := by decide +kernel
theorem dX4_isOrder_167 : decode cX4_isOrder 167 = .ok (.ifCond .eq 17, 3) := by decide +kernel
theorem dX4_isOrder_170 : decode cX4_isOrder 170 = .ok (.aload_n 0, 1) := by decide +kernel
theorem dX4_isOrder_171 : decode cX4_isOrder 171 = .ok (.iconst 2, 1) := by decide +kernel
theorem dX4_isOrder_172 : decode cX4_isOrder 172 = .ok (.bipush 50, 2) := by decide +kernel
theorem dX4_isOrder_174 : decode cX4_isOrder 174 = .ok (.invokevirtual 184, 3) := by decide +kernel
theorem dX4_isOrder_177 : decode cX4_isOrder 177 = .ok (.ifCond .eq 7, 3) := by decide +kernel
theorem dX4_isOrder_180 : decode cX4_isOrder 180 = .ok (.iconst 1, 1) := by decide +kernel
theorem dX4_isOrder_181 : decode cX4_isOrder 181 = .ok (.goto 4, 3) := by decide +kernel
theorem dX4_isOrder_184 : decode cX4_isOrder 184 = .ok (.iconst 0, 1) := by decide +kernel
theorem dX4_isOrder_185 : decode cX4_isOrder 185 = .ok (.ireturn, 1) := by decide +kernel
theorem dX4_isOrder_186 : decode cX4_isOrder 186 = .ok (.aload_n 0, 1) := by decide +kernel
theorem dX4_isOrder_187 : decode cX4_isOrder 187 = .ok (.dup, 1) := by decide +kernel
theorem dX4_isOrder_188 : decode cX4_isOrder 188 = .ok (.getfield 174, 3) := by decide +kernel
theorem dX4_isOrder_191 : decode cX4_isOrder 191 = .ok (.iconst 1, 1) := by decide +kernel
theorem dX4_isOrder_192 : decode cX4_isOrder 192 = .ok (.iadd, 1) := by decide +kernel
theorem dX4_isOrder_193 : decode cX4_isOrder 193 = .ok (.putfield 174, 3) := by decide +kernel
theorem dX4_isOrder_196 : decode cX4_isOrder 196 = .ok (.aload_n 0, 1) := by decide +kernel
theorem dX4_isOrder_197 : decode cX4_isOrder 197 = .ok (.invokevirtual 190, 3) := by decide +kernel
theorem dX4_isOrder_200 : decode cX4_isOrder 200 = .ok (.ireturn, 1) := by decide +kernel
theorem dX4_isOrder_201 : decode cX4_isOrder 201 = .ok (.aload_n 0, 1) := by decide +kernel
theorem dX4_isOrder_202 : decode cX4_isOrder 202 = .ok (.dup, 1) := by decide +kernel
theorem dX4_isOrder_203 : decode cX4_isOrder 203 = .ok (.getfield 174, 3) := by decide +kernel
theorem dX4_isOrder_206 : decode cX4_isOrder 206 = .ok (.iconst 1, 1) := by decide +kernel
theorem dX4_isOrder_207 : decode cX4_isOrder 207 = .ok (.iadd, 1) := by decide +kernel
theorem dX4_isOrder_208 : decode cX4_isOrder 208 = .ok (.putfield 174, 3) := by decide +kernel
theorem dX4_isOrder_211 : decode cX4_isOrder 211 = .ok (.aload_n 0, 1) := by decide +kernel
theorem dX4_isOrder_212 : decode cX4_isOrder 212 = .ok (.iconst 1, 1) := by decide +kernel
theorem dX4_isOrder_213 : decode cX4_isOrder 213 = .ok (.bipush 50, 2) := by decide +kernel
theorem dX4_isOrder_215 : decode cX4_isOrder 215 = .ok (.invokevirtual 184, 3) := by decide +kernel
theorem dX4_isOrder_218 : decode cX4_isOrder 218 = .ok (.ifCond .eq 36, 3) := by decide +kernel
theorem dX4_isOrder_221 : decode cX4_isOrder 221 = .ok (.aload_n 0, 1) := by decide +kernel
theorem dX4_isOrder_222 : decode cX4_isOrder 222 = .ok (.iconst 2, 1) := by decide +kernel
theorem dX4_isOrder_223 : decode cX4_isOrder 223 = .ok (.bipush 50, 2) := by decide +kernel
theorem dX4_isOrder_225 : decode cX4_isOrder 225 = .ok (.invokevirtual 184, 3) := by decide +kernel
theorem dX4_isOrder_228 : decode cX4_isOrder 228 = .ok (.ifCond .eq 26, 3) := by decide +kernel
theorem dX4_isOrder_231 : decode cX4_isOrder 231 = .ok (.aload_n 0, 1) := by decide +kernel
theorem dX4_isOrder_232 : decode cX4_isOrder 232 = .ok (.bipush 61, 2) := by decide +kernel
theorem dX4_isOrder_234 : decode cX4_isOrder 234 = .ok (.invokevirtual 187, 3) := by decide +kernel
theorem dX4_isOrder_237 : decode cX4_isOrder 237 = .ok (.ifCond .eq 17, 3) := by decide +kernel
theorem dX4_isOrder_240 : decode cX4_isOrder 240 = .ok (.aload_n 0, 1) := by decide +kernel
theorem dX4_isOrder_241 : decode cX4_isOrder 241 = .ok (.iconst 3, 1) := by decide +kernel
theorem dX4_isOrder_242 : decode cX4_isOrder 242 = .ok (.bipush 57, 2) := by decide +kernel
theorem dX4_isOrder_244 : decode cX4_isOrder 244 = .ok (.invokevirtual 184, 3) := by decide +kernel
theorem dX4_isOrder_247 : decode cX4_isOrder 247 = .ok (.ifCond .eq 7, 3) := by decide +kernel
theorem dX4_isOrder_250 : decode cX4_isOrder 250 = .ok (.iconst 1, 1) := by decide +kernel
theorem dX4_isOrder_251 : decode cX4_isOrder 251 = .ok (.goto 4, 3) := by decide +kernel
theorem dX4_isOrder_254 : decode cX4_isOrder 254 = .ok (.iconst 0, 1) := by decide +kernel
theorem dX4_isOrder_255 : decode cX4_isOrder 255 = .ok (.ireturn, 1) := by decide +kernel
theorem dX4_isOrder_256 : decode cX4_isOrder 256 = .ok (.iconst 0, 1) := by decide +kernel
theorem dX4_isOrder_257 : decode cX4_isOrder 257 = .ok (.ireturn, 1) := by decide +kernel
theorem dX4_isText_0 : decode cX4_isText 0 = .ok (.aload_n 0, 1) := by decide +kernel
theorem dX4_isText_1 : decode cX4_isText 1 = .ok (.iconst 0, 1) := by decide +kernel
theorem dX4_isText_2 : decode cX4_isText 2 = .ok (.putfield 174, 3) := by decide +kernel
theorem dX4_isText_5 : decode cX4_isText 5 = .ok (.aload_n 0, 1) := by decide +kernel
theorem dX4_isText_6 : decode cX4_isText 6 = .ok (.iconst 0, 1) := by decide +kernel
theorem dX4_isText_7 : decode cX4_isText 7 = .ok (.putfield 181, 3) := by decide +kernel
theorem dX4_isText_10 : decode cX4_isText 10 = .ok (.iconst 1, 1) := by decide +kernel
theorem dX4_isText_11 : decode cX4_isText 11 = .ok (.istore_n 1, 1) := by decide +kernel
theorem dX4_isText_12 : decode cX4_isText 12 = .ok (.iload_n 1, 1) := by decide +kernel
theorem dX4_isText_13 : decode cX4_isText 13 = .ok (.ifCond .eq 32, 3) := by decide +kernel
theorem dX4_isText_16 : decode cX4_isText 16 = .ok (.aload_n 0, 1) := by decide +kernel
theorem dX4_isText_17 : decode cX4_isText 17 = .ok (.invokevirtual 193, 3) := by decide +kernel
theorem dX4_isText_20 : decode cX4_isText 20 = .ok (.ifCond .ne 5, 3) := by decide +kernel
theorem dX4_isText_23 : decode cX4_isText 23 = .ok (.iconst 0, 1) := by decide +kernel
theorem dX4_isText_24 : decode cX4_isText 24 = .ok (.ireturn, 1) := by decide +kernel
theorem dX4_isText_25 : decode cX4_isText 25 = .ok (.aload_n 0, 1) := by decide +kernel
theorem dX4_isText_26 : decode cX4_isText 26 = .ok (.dup, 1) := by decide +kernel
theorem dX4_isText_27 : decode cX4_isText 27 = .ok (.getfield 181, 3) := by decide +kernel
theorem dX4_isText_30 : decode cX4_isText 30 = .ok (.iconst 1, 1) := by decide +kernel
theorem dX4_isText_31 : decode cX4_isText 31 = .ok (.iadd, 1) := by decide +kernel
theorem dX4_isText_32 : decode cX4_isText 32 = .ok (.putfield 181, 3) := by decide +kernel
theorem dX4_isText_35 : decode cX4_isText 35 = .ok (.aload_n 0, 1) := by decide +kernel
theorem dX4_isText_36 : decode cX4_isText 36 = .ok (.bipush 59, 2) := by decide +kernel
theorem dX4_isText_38 : decode cX4_isText 38 = .ok (.invokevirtual 187, 3) := by decide +kernel
theorem dX4_isText_41 : decode cX4_isText 41 = .ok (.istore_n 1, 1) := by decide +kernel
theorem dX4_isText_42 : decode cX4_isText 42 = .ok (.goto (-30), 3) := by decide +kernel
theorem dX4_isText_45 : decode cX4_isText 45 = .ok (.aload_n 0, 1) := by decide +kernel
theorem dX4_isText_46 : decode cX4_isText 46 = .ok (.getfield 174, 3) := by decide +kernel
theorem dX4_isText_49 : decode cX4_isText 49 = .ok (.aload_n 0, 1) := by decide +kernel
theorem dX4_isText_50 : decode cX4_isText 50 = .ok (.getfield 161, 3) := by decide +kernel
theorem dX4_isText_53 : decode cX4_isText 53 = .ok (.if_icmp .ne 7, 3) := by decide +kernel
theorem dX4_isText_56 : decode cX4_isText 56 = .ok (.iconst 1, 1) := by decide +kernel
theorem dX4_isText_57 : decode cX4_isText 57 = .ok (.goto 4, 3) := by decide +kernel
theorem dX4_isText_60 : decode cX4_isText 60 = .ok (.iconst 0, 1) := by decide +kernel
theorem dX4_isText_61 : decode cX4_isText 61 = .ok (.ireturn, 1) := by decide +kernel
theorem dX4_fault_0 : decode cX4_fault 0 = .ok (.aload_n 0, 1) := by decide +kernel
theorem dX4_fault_1 : decode cX4_fault 1 = .ok (.invokevirtual 196, 3) := by decide +kernel
theorem dX4_fault_4 : decode cX4_fault 4 = .ok (.ifCond .eq 8, 3) := by decide +kernel
theorem dX4_fault_7 : decode cX4_fault 7 = .ok (.bipush (-6), 2) := by decide +kernel
theorem dX4_fault_9 : decode cX4_fault 9 = .ok (.goto 7, 3) := by decide +kernel
theorem dX4_fault_12 : decode cX4_fault 12 = .ok (.aload_n 0, 1) := by decide +kernel
theorem dX4_fault_13 : decode cX4_fault 13 = .ok (.getfield 174, 3) := by decide +kernel
theorem dX4_fault_16 : decode cX4_fault 16 = .ok (.ireturn, 1) := by decide +kernel
theorem dX4_does_0 : decode cX4_does 0 = .ok (.aload_n 0, 1) := by decide +kernel
theorem dX4_does_1 : decode cX4_does 1 = .ok (.getfield 26, 3) := by decide +kernel
theorem dX4_does_4 : decode cX4_does 4 = .ok (.iconst 5, 1) := by decide +kernel
theorem dX4_does_5 : decode cX4_does 5 = .ok (.iload_n 1, 1) := by decide +kernel
theorem dX4_does_6 : decode cX4_does 6 = .ok (.imul, 1) := by decide +kernel
theorem dX4_does_7 : decode cX4_does 7 = .ok (.iaload, 1) := by decide +kernel
theorem dX4_does_8 : decode cX4_does 8 = .ok (.istore_n 2, 1) := by decide +kernel
theorem dX4_does_9 : decode cX4_does 9 = .ok (.aload_n 0, 1) := by decide +kernel
theorem dX4_does_10 : decode cX4_does 10 = .ok (.getfield 26, 3) := by decide +kernel
theorem dX4_does_13 : decode cX4_does 13 = .ok (.iconst 5, 1) := by decide +kernel
theorem dX4_does_14 : decode cX4_does 14 = .ok (.iload_n 1, 1) := by decide +kernel
theorem dX4_does_15 : decode cX4_does 15 = .ok (.imul, 1) := by decide +kernel
theorem dX4_does_16 : decode cX4_does 16 = .ok (.iconst 1, 1) := by decide +kernel
theorem dX4_does_17 : decode cX4_does 17 = .ok (.iadd, 1) := by decide +kernel
theorem dX4_does_18 : decode cX4_does 18 = .ok (.iaload, 1) := by decide +kernel
theorem dX4_does_19 : decode cX4_does 19 = .ok (.istore_n 3, 1) := by decide +kernel
theorem dX4_does_20 : decode cX4_does 20 = .ok (.aload_n 0, 1) := by decide +kernel
theorem dX4_does_21 : decode cX4_does 21 = .ok (.getfield 26, 3) := by decide +kernel
theorem dX4_does_24 : decode cX4_does 24 = .ok (.iconst 5, 1) := by decide +kernel
theorem dX4_does_25 : decode cX4_does 25 = .ok (.iload_n 1, 1) := by decide +kernel
theorem dX4_does_26 : decode cX4_does 26 = .ok (.imul, 1) := by decide +kernel
theorem dX4_does_27 : decode cX4_does 27 = .ok (.iconst 2, 1) := by decide +kernel
theorem dX4_does_28 : decode cX4_does 28 = .ok (.iadd, 1) := by decide +kernel
theorem dX4_does_29 : decode cX4_does 29 = .ok (.iaload, 1) := by decide +kernel
theorem dX4_does_30 : decode cX4_does 30 = .ok (.istore 4, 2) := by decide +kernel
theorem dX4_does_32 : decode cX4_does 32 = .ok (.aload_n 0, 1) := by decide +kernel
theorem dX4_does_33 : decode cX4_does 33 = .ok (.getfield 26, 3) := by decide +kernel
theorem dX4_does_36 : decode cX4_does 36 = .ok (.iconst 5, 1) := by decide +kernel
theorem dX4_does_37 : decode cX4_does 37 = .ok (.iload_n 1, 1) := by decide +kernel
theorem dX4_does_38 : decode cX4_does 38 = .ok (.imul, 1) := by decide +kernel
theorem dX4_does_39 : decode cX4_does 39 = .ok (.iconst 3, 1) := by decide +kernel
theorem dX4_does_40 : decode cX4_does 40 = .ok (.iadd, 1) := by decide +kernel
theorem dX4_does_41 : decode cX4_does 41 = .ok (.iaload, 1) := by decide +kernel
theorem dX4_does_42 : decode cX4_does 42 = .ok (.istore 5, 2) := by decide +kernel
theorem dX4_does_44 : decode cX4_does 44 = .ok (.aload_n 0, 1) := by decide +kernel
theorem dX4_does_45 : decode cX4_does 45 = .ok (.getfield 26, 3) := by decide +kernel
theorem dX4_does_48 : decode cX4_does 48 = .ok (.iconst 5, 1) := by decide +kernel
theorem dX4_does_49 : decode cX4_does 49 = .ok (.iload_n 1, 1) := by decide +kernel
theorem dX4_does_50 : decode cX4_does 50 = .ok (.imul, 1) := by decide +kernel
theorem dX4_does_51 : decode cX4_does 51 = .ok (.iconst 4, 1) := by decide +kernel
theorem dX4_does_52 : decode cX4_does 52 = .ok (.iadd, 1) := by decide +kernel
theorem dX4_does_53 : decode cX4_does 53 = .ok (.iaload, 1) := by decide +kernel
theorem dX4_does_54 : decode cX4_does 54 = .ok (.istore 6, 2) := by decide +kernel
theorem dX4_does_56 : decode cX4_does 56 = .ok (.iload_n 2, 1) := by decide +kernel
theorem dX4_does_57 : decode cX4_does 57 = .ok (.bipush 119, 2) := by decide +kernel
theorem dX4_does_59 : decode cX4_does 59 = .ok (.if_icmp .ne 14, 3) := by decide +kernel
theorem dX4_does_62 : decode cX4_does 62 = .ok (.aload_n 0, 1) := by decide +kernel
theorem dX4_does_63 : decode cX4_does 63 = .ok (.iconst 0, 1) := by decide +kernel
theorem dX4_does_64 : decode cX4_does 64 = .ok (.iload_n 3, 1) := by decide +kernel
theorem dX4_does_65 : decode cX4_does 65 = .ok (.iload 4, 2) := by decide +kernel
theorem dX4_does_67 : decode cX4_does 67 = .ok (.invokevirtual 121, 3) := by decide +kernel
theorem dX4_does_70 : decode cX4_does 70 = .ok (.goto 22, 3) := by decide +kernel
theorem dX4_does_73 : decode cX4_does 73 = .ok (.iload_n 2, 1) := by decide +kernel
theorem dX4_does_74 : decode cX4_does 74 = .ok (.bipush 111, 2) := by decide +kernel
theorem dX4_does_76 : decode cX4_does 76 = .ok (.if_icmp .ne 15, 3) := by decide +kernel
theorem dX4_does_79 : decode cX4_does 79 = .ok (.aload_n 0, 1) := by decide +kernel
theorem dX4_does_80 : decode cX4_does 80 = .ok (.iload_n 3, 1) := by decide +kernel
theorem dX4_does_81 : decode cX4_does 81 = .ok (.iload 4, 2) := by decide +kernel
theorem dX4_does_83 : decode cX4_does 83 = .ok (.iload 5, 2) := by decide +kernel
theorem dX4_does_85 : decode cX4_does 85 = .ok (.invokevirtual 131, 3) := by decide +kernel
theorem dX4_does_88 : decode cX4_does 88 = .ok (.goto 4, 3) := by decide +kernel
theorem dX4_does_91 : decode cX4_does 91 = .ok (.iconst 0, 1) := by decide +kernel
theorem dX4_does_92 : decode cX4_does 92 = .ok (.istore 7, 2) := by decide +kernel
theorem dX4_does_94 : decode cX4_does 94 = .ok (.iload 7, 2) := by decide +kernel
theorem dX4_does_96 : decode cX4_does 96 = .ok (.ifCond .eq 5, 3) := by decide +kernel
theorem dX4_does_99 : decode cX4_does 99 = .ok (.iconst 0, 1) := by decide +kernel
theorem dX4_does_100 : decode cX4_does 100 = .ok (.ireturn, 1) := by decide +kernel
theorem dX4_does_101 : decode cX4_does 101 = .ok (.iload_n 2, 1) := by decide +kernel
theorem dX4_does_102 : decode cX4_does 102 = .ok (.lookupswitch 100 #[(97, 67), (111, 81), (115, 53), (119, 42)], 42) := by decide +kernel
theorem dX4_does_144 : decode cX4_does 144 = .ok (.aload_n 0, 1) := by decide +kernel
theorem dX4_does_145 : decode cX4_does 145 = .ok (.iload_n 3, 1) := by decide +kernel
theorem dX4_does_146 : decode cX4_does 146 = .ok (.iload 4, 2) := by decide +kernel
theorem dX4_does_148 : decode cX4_does 148 = .ok (.invokevirtual 125, 3) := by decide +kernel
theorem dX4_does_151 : decode cX4_does 151 = .ok (.pop, 1) := by decide +kernel
theorem dX4_does_152 : decode cX4_does 152 = .ok (.goto 76, 3) := by decide +kernel
theorem dX4_does_155 : decode cX4_does 155 = .ok (.aload_n 0, 1) := by decide +kernel
theorem dX4_does_156 : decode cX4_does 156 = .ok (.bipush 66, 2) := by decide +kernel
theorem dX4_does_158 : decode cX4_does 158 = .ok (.iload_n 3, 1) := by decide +kernel
theorem dX4_does_159 : decode cX4_does 159 = .ok (.iadd, 1) := by decide +kernel
theorem dX4_does_160 : decode cX4_does 160 = .ok (.iload 4, 2) := by decide +kernel
theorem dX4_does_162 : decode cX4_does 162 = .ok (.invokevirtual 125, 3) := by decide +kernel
theorem dX4_does_165 : decode cX4_does 165 = .ok (.pop, 1) := by decide +kernel
theorem dX4_does_166 : decode cX4_does 166 = .ok (.goto 62, 3) := by decide +kernel
theorem dX4_does_169 : decode cX4_does 169 = .ok (.aload_n 0, 1) := by decide +kernel
theorem dX4_does_170 : decode cX4_does 170 = .ok (.bipush 69, 2) := by decide +kernel
theorem dX4_does_172 : decode cX4_does 172 = .ok (.iload_n 3, 1) := by decide +kernel
theorem dX4_does_173 : decode cX4_does 173 = .ok (.iadd, 1) := by decide +kernel
theorem dX4_does_174 : decode cX4_does 174 = .ok (.iload 4, 2) := by decide +kernel
theorem dX4_does_176 : decode cX4_does 176 = .ok (.invokevirtual 125, 3) := by decide +kernel
theorem dX4_does_179 : decode cX4_does 179 = .ok (.pop, 1) := by decide +kernel
theorem dX4_does_180 : decode cX4_does 180 = .ok (.goto 48, 3) := by decide +kernel
theorem dX4_does_183 : decode cX4_does 183 = .ok (.aload_n 0, 1) := by decide +kernel
theorem dX4_does_184 : decode cX4_does 184 = .ok (.bipush 57, 2) := by decide +kernel
theorem dX4_does_186 : decode cX4_does 186 = .ok (.iconst 3, 1) := by decide +kernel
theorem dX4_does_187 : decode cX4_does 187 = .ok (.iload_n 3, 1) := by decide +kernel
theorem dX4_does_188 : decode cX4_does 188 = .ok (.imul, 1) := by decide +kernel
theorem dX4_does_189 : decode cX4_does 189 = .ok (.iadd, 1) := by decide +kernel
theorem dX4_does_190 : decode cX4_does 190 = .ok (.iload 4, 2) := by decide +kernel
theorem dX4_does_192 : decode cX4_does 192 = .ok (.iadd, 1) := by decide +kernel
theorem dX4_does_193 : decode cX4_does 193 = .ok (.iload 5, 2) := by decide +kernel
theorem dX4_does_195 : decode cX4_does 195 = .ok (.invokevirtual 125, 3) := by decide +kernel
theorem dX4_does_198 : decode cX4_does 198 = .ok (.pop, 1) := by decide +kernel
theorem dX4_does_199 : decode cX4_does 199 = .ok (.goto 29, 3) := by decide +kernel
theorem dX4_does_202 : decode cX4_does 202 = .ok (.aload_n 0, 1) := by decide +kernel
theorem dX4_does_203 : decode cX4_does 203 = .ok (.iload_n 2, 1) := by decide +kernel
theorem dX4_does_204 : decode cX4_does 204 = .ok (.bipush 117, 2) := by decide +kernel
theorem dX4_does_206 : decode cX4_does 206 = .ok (.if_icmp .ne 7, 3) := by decide +kernel
theorem dX4_does_209 : decode cX4_does 209 = .ok (.iconst 0, 1) := by decide +kernel
theorem dX4_does_210 : decode cX4_does 210 = .ok (.goto 4, 3) := by decide +kernel
theorem dX4_does_213 : decode cX4_does 213 = .ok (.iconst 1, 1) := by decide +kernel
theorem dX4_does_214 : decode cX4_does 214 = .ok (.iload_n 3, 1) := by decide +kernel
theorem dX4_does_215 : decode cX4_does 215 = .ok (.iload 4, 2) := by decide +kernel
theorem dX4_does_217 : decode cX4_does 217 = .ok (.iload 5, 2) := by decide +kernel
theorem dX4_does_219 : decode cX4_does 219 = .ok (.invokestatic 66, 3) := by decide +kernel
theorem dX4_does_222 : decode cX4_does 222 = .ok (.iload 6, 2) := by decide +kernel
theorem dX4_does_224 : decode cX4_does 224 = .ok (.invokevirtual 125, 3) := by decide +kernel
theorem dX4_does_227 : decode cX4_does 227 = .ok (.pop, 1) := by decide +kernel
theorem dX4_does_228 : decode cX4_does 228 = .ok (.iconst 1, 1) := by decide +kernel
theorem dX4_does_229 : decode cX4_does 229 = .ok (.ireturn, 1) := by decide +kernel
theorem dX4_carryOut_0 : decode cX4_carryOut 0 = .ok (.aload_n 0, 1) := by decide +kernel
theorem dX4_carryOut_1 : decode cX4_carryOut 1 = .ok (.invokevirtual 196, 3) := by decide +kernel
theorem dX4_carryOut_4 : decode cX4_carryOut 4 = .ok (.ifCond .ne 6, 3) := by decide +kernel
theorem dX4_carryOut_7 : decode cX4_carryOut 7 = .ok (.bipush (-3), 2) := by decide +kernel
theorem dX4_carryOut_9 : decode cX4_carryOut 9 = .ok (.ireturn, 1) := by decide +kernel
theorem dX4_carryOut_10 : decode cX4_carryOut 10 = .ok (.aload_n 0, 1) := by decide +kernel
theorem dX4_carryOut_11 : decode cX4_carryOut 11 = .ok (.invokevirtual 51, 3) := by decide +kernel
theorem dX4_carryOut_14 : decode cX4_carryOut 14 = .ok (.aload_n 0, 1) := by decide +kernel
theorem dX4_carryOut_15 : decode cX4_carryOut 15 = .ok (.iconst 0, 1) := by decide +kernel
theorem dX4_carryOut_16 : decode cX4_carryOut 16 = .ok (.putfield 161, 3) := by decide +kernel
theorem dX4_carryOut_19 : decode cX4_carryOut 19 = .ok (.iconst 0, 1) := by decide +kernel
theorem dX4_carryOut_20 : decode cX4_carryOut 20 = .ok (.istore_n 1, 1) := by decide +kernel
theorem dX4_carryOut_21 : decode cX4_carryOut 21 = .ok (.iload_n 1, 1) := by decide +kernel
theorem dX4_carryOut_22 : decode cX4_carryOut 22 = .ok (.aload_n 0, 1) := by decide +kernel
theorem dX4_carryOut_23 : decode cX4_carryOut 23 = .ok (.getfield 181, 3) := by decide +kernel
theorem dX4_carryOut_26 : decode cX4_carryOut 26 = .ok (.if_icmp .ge 17, 3) := by decide +kernel
theorem dX4_carryOut_29 : decode cX4_carryOut 29 = .ok (.aload_n 0, 1) := by decide +kernel
theorem dX4_carryOut_30 : decode cX4_carryOut 30 = .ok (.iload_n 1, 1) := by decide +kernel
theorem dX4_carryOut_31 : decode cX4_carryOut 31 = .ok (.invokevirtual 199, 3) := by decide +kernel
theorem dX4_carryOut_34 : decode cX4_carryOut 34 = .ok (.ifCond .eq 9, 3) := by decide +kernel
theorem dX4_carryOut_37 : decode cX4_carryOut 37 = .ok (.iinc 1 1, 3) := by decide +kernel
theorem dX4_carryOut_40 : decode cX4_carryOut 40 = .ok (.goto (-19), 3) := by decide +kernel
theorem dX4_carryOut_43 : decode cX4_carryOut 43 = .ok (.iload_n 1, 1) := by decide +kernel
theorem dX4_carryOut_44 : decode cX4_carryOut 44 = .ok (.ireturn, 1) := by decide +kernel
theorem dJ6_bitCount_0f7a4_0 : decode cJ6_bitCount_0f7a4 0 = .ok (.iload_n 0, 1) := by decide +kernel
theorem dJ6_bitCount_0f7a4_1 : decode cJ6_bitCount_0f7a4 1 = .ok (.iload_n 0, 1) := by decide +kernel
theorem dJ6_bitCount_0f7a4_2 : decode cJ6_bitCount_0f7a4 2 = .ok (.iconst 1, 1) := by decide +kernel
theorem dJ6_bitCount_0f7a4_3 : decode cJ6_bitCount_0f7a4 3 = .ok (.iushr, 1) := by decide +kernel
theorem dJ6_bitCount_0f7a4_4 : decode cJ6_bitCount_0f7a4 4 = .ok (.ldc_w 265, 3) := by decide +kernel
theorem dJ6_bitCount_0f7a4_7 : decode cJ6_bitCount_0f7a4 7 = .ok (.iand, 1) := by decide +kernel
theorem dJ6_bitCount_0f7a4_8 : decode cJ6_bitCount_0f7a4 8 = .ok (.isub, 1) := by decide +kernel
theorem dJ6_bitCount_0f7a4_9 : decode cJ6_bitCount_0f7a4 9 = .ok (.istore_n 0, 1) := by decide +kernel
theorem dJ6_bitCount_0f7a4_10 : decode cJ6_bitCount_0f7a4 10 = .ok (.iload_n 0, 1) := by decide +kernel
theorem dJ6_bitCount_0f7a4_11 : decode cJ6_bitCount_0f7a4 11 = .ok (.ldc_w 266, 3) := by decide +kernel
theorem dJ6_bitCount_0f7a4_14 : decode cJ6_bitCount_0f7a4 14 = .ok (.iand, 1) := by decide +kernel
theorem dJ6_bitCount_0f7a4_15 : decode cJ6_bitCount_0f7a4 15 = .ok (.iload_n 0, 1) := by decide +kernel
theorem dJ6_bitCount_0f7a4_16 : decode cJ6_bitCount_0f7a4 16 = .ok (.iconst 2, 1) := by decide +kernel
theorem dJ6_bitCount_0f7a4_17 : decode cJ6_bitCount_0f7a4 17 = .ok (.iushr, 1) := by decide +kernel
theorem dJ6_bitCount_0f7a4_18 : decode cJ6_bitCount_0f7a4 18 = .ok (.ldc_w 266, 3) := by decide +kernel
theorem dJ6_bitCount_0f7a4_21 : decode cJ6_bitCount_0f7a4 21 = .ok (.iand, 1) := by decide +kernel
theorem dJ6_bitCount_0f7a4_22 : decode cJ6_bitCount_0f7a4 22 = .ok (.iadd, 1) := by decide +kernel
theorem dJ6_bitCount_0f7a4_23 : decode cJ6_bitCount_0f7a4 23 = .ok (.istore_n 0, 1) := by decide +kernel
theorem dJ6_bitCount_0f7a4_24 : decode cJ6_bitCount_0f7a4 24 = .ok (.iload_n 0, 1) := by decide +kernel
theorem dJ6_bitCount_0f7a4_25 : decode cJ6_bitCount_0f7a4 25 = .ok (.iload_n 0, 1) := by decide +kernel
theorem dJ6_bitCount_0f7a4_26 : decode cJ6_bitCount_0f7a4 26 = .ok (.iconst 4, 1) := by decide +kernel
theorem dJ6_bitCount_0f7a4_27 : decode cJ6_bitCount_0f7a4 27 = .ok (.iushr, 1) := by decide +kernel
theorem dJ6_bitCount_0f7a4_28 : decode cJ6_bitCount_0f7a4 28 = .ok (.iadd, 1) := by decide +kernel
theorem dJ6_bitCount_0f7a4_29 : decode cJ6_bitCount_0f7a4 29 = .ok (.ldc_w 267, 3) := by decide +kernel
theorem dJ6_bitCount_0f7a4_32 : decode cJ6_bitCount_0f7a4 32 = .ok (.iand, 1) := by decide +kernel
theorem dJ6_bitCount_0f7a4_33 : decode cJ6_bitCount_0f7a4 33 = .ok (.istore_n 0, 1) := by decide +kernel
theorem dJ6_bitCount_0f7a4_34 : decode cJ6_bitCount_0f7a4 34 = .ok (.iload_n 0, 1) := by decide +kernel
theorem dJ6_bitCount_0f7a4_35 : decode cJ6_bitCount_0f7a4 35 = .ok (.iload_n 0, 1) := by decide +kernel
theorem dJ6_bitCount_0f7a4_36 : decode cJ6_bitCount_0f7a4 36 = .ok (.bipush 8, 2) := by decide +kernel
theorem dJ6_bitCount_0f7a4_38 : decode cJ6_bitCount_0f7a4 38 = .ok (.iushr, 1) := by decide +kernel
theorem dJ6_bitCount_0f7a4_39 : decode cJ6_bitCount_0f7a4 39 = .ok (.iadd, 1) := by decide +kernel
theorem dJ6_bitCount_0f7a4_40 : decode cJ6_bitCount_0f7a4 40 = .ok (.istore_n 0, 1) := by decide +kernel
theorem dJ6_bitCount_0f7a4_41 : decode cJ6_bitCount_0f7a4 41 = .ok (.iload_n 0, 1) := by decide +kernel
theorem dJ6_bitCount_0f7a4_42 : decode cJ6_bitCount_0f7a4 42 = .ok (.iload_n 0, 1) := by decide +kernel
theorem dJ6_bitCount_0f7a4_43 : decode cJ6_bitCount_0f7a4 43 = .ok (.bipush 16, 2) := by decide +kernel
theorem dJ6_bitCount_0f7a4_45 : decode cJ6_bitCount_0f7a4 45 = .ok (.iushr, 1) := by decide +kernel
theorem dJ6_bitCount_0f7a4_46 : decode cJ6_bitCount_0f7a4 46 = .ok (.iadd, 1) := by decide +kernel
theorem dJ6_bitCount_0f7a4_47 : decode cJ6_bitCount_0f7a4 47 = .ok (.istore_n 0, 1) := by decide +kernel
theorem dJ6_bitCount_0f7a4_48 : decode cJ6_bitCount_0f7a4 48 = .ok (.iload_n 0, 1) := by decide +kernel
theorem dJ6_bitCount_0f7a4_49 : decode cJ6_bitCount_0f7a4 49 = .ok (.bipush 63, 2) := by decide +kernel
theorem dJ6_bitCount_0f7a4_51 : decode cJ6_bitCount_0f7a4 51 = .ok (.iand, 1) := by decide +kernel
theorem dJ6_bitCount_0f7a4_52 : decode cJ6_bitCount_0f7a4 52 = .ok (.ireturn, 1) := by decide +kernel
theorem dJ9_abs_0f7a4_0 : decode cJ9_abs_0f7a4 0 = .ok (.iload_n 0, 1) := by decide +kernel
theorem dJ9_abs_0f7a4_1 : decode cJ9_abs_0f7a4 1 = .ok (.ifCond .ge 8, 3) := by decide +kernel
theorem dJ9_abs_0f7a4_4 : decode cJ9_abs_0f7a4 4 = .ok (.iload_n 0, 1) := by decide +kernel
theorem dJ9_abs_0f7a4_5 : decode cJ9_abs_0f7a4 5 = .ok (.ineg, 1) := by decide +kernel
theorem dJ9_abs_0f7a4_6 : decode cJ9_abs_0f7a4 6 = .ok (.goto 4, 3) := by decide +kernel
theorem dJ9_abs_0f7a4_9 : decode cJ9_abs_0f7a4 9 = .ok (.iload_n 0, 1) := by decide +kernel
theorem dJ9_abs_0f7a4_10 : decode cJ9_abs_0f7a4 10 = .ok (.ireturn, 1) := by decide +kernel
theorem dJ9_max_7cf53_0 : decode cJ9_max_7cf53 0 = .ok (.iload_n 0, 1) := by decide +kernel
theorem dJ9_max_7cf53_1 : decode cJ9_max_7cf53 1 = .ok (.iload_n 1, 1) := by decide +kernel
theorem dJ9_max_7cf53_2 : decode cJ9_max_7cf53 2 = .ok (.if_icmp .lt 7, 3) := by decide +kernel
theorem dJ9_max_7cf53_5 : decode cJ9_max_7cf53 5 = .ok (.iload_n 0, 1) := by decide +kernel
theorem dJ9_max_7cf53_6 : decode cJ9_max_7cf53 6 = .ok (.goto 4, 3) := by decide +kernel
theorem dJ9_max_7cf53_9 : decode cJ9_max_7cf53 9 = .ok (.iload_n 1, 1) := by decide +kernel
theorem dJ9_max_7cf53_10 : decode cJ9_max_7cf53 10 = .ok (.ireturn, 1) := by decide +kernel
theorem dJ9_min_7cf53_0 : decode cJ9_min_7cf53 0 = .ok (.iload_n 0, 1) := by decide +kernel
theorem dJ9_min_7cf53_1 : decode cJ9_min_7cf53 1 = .ok (.iload_n 1, 1) := by decide +kernel
theorem dJ9_min_7cf53_2 : decode cJ9_min_7cf53 2 = .ok (.if_icmp .gt 7, 3) := by decide +kernel
theorem dJ9_min_7cf53_5 : decode cJ9_min_7cf53 5 = .ok (.iload_n 0, 1) := by decide +kernel
theorem dJ9_min_7cf53_6 : decode cJ9_min_7cf53 6 = .ok (.goto 4, 3) := by decide +kernel
theorem dJ9_min_7cf53_9 : decode cJ9_min_7cf53 9 = .ok (.iload_n 1, 1) := by decide +kernel
theorem dJ9_min_7cf53_10 : decode cJ9_min_7cf53 10 = .ok (.ireturn, 1) := by decide +kernel
theorem dJ0_length_8abf5_0 : decode cJ0_length_8abf5 0 = .ok (.aload_n 0, 1) := by decide +kernel
theorem dJ0_length_8abf5_1 : decode cJ0_length_8abf5 1 = .ok (.getfield 9, 3) := by decide +kernel
theorem dJ0_length_8abf5_4 : decode cJ0_length_8abf5 4 = .ok (.arraylength, 1) := by decide +kernel
theorem dJ0_length_8abf5_5 : decode cJ0_length_8abf5 5 = .ok (.aload_n 0, 1) := by decide +kernel
theorem dJ0_length_8abf5_6 : decode cJ0_length_8abf5 6 = .ok (.invokevirtual 335, 3) := by decide +kernel
theorem dJ0_length_8abf5_9 : decode cJ0_length_8abf5 9 = .ok (.ishr, 1) := by decide +kernel
theorem dJ0_length_8abf5_10 : decode cJ0_length_8abf5 10 = .ok (.ireturn, 1) := by decide +kernel
theorem dJ0_isEmpty_aae02_0 : decode cJ0_isEmpty_aae02 0 = .ok (.aload_n 0, 1) := by decide +kernel
theorem dJ0_isEmpty_aae02_1 : decode cJ0_isEmpty_aae02 1 = .ok (.getfield 9, 3) := by decide +kernel
theorem dJ0_isEmpty_aae02_4 : decode cJ0_isEmpty_aae02 4 = .ok (.arraylength, 1) := by decide +kernel
theorem dJ0_isEmpty_aae02_5 : decode cJ0_isEmpty_aae02 5 = .ok (.ifCond .ne 7, 3) := by decide +kernel
theorem dJ0_isEmpty_aae02_8 : decode cJ0_isEmpty_aae02 8 = .ok (.iconst 1, 1) := by decide +kernel
theorem dJ0_isEmpty_aae02_9 : decode cJ0_isEmpty_aae02 9 = .ok (.goto 4, 3) := by decide +kernel
theorem dJ0_isEmpty_aae02_12 : decode cJ0_isEmpty_aae02 12 = .ok (.iconst 0, 1) := by decide +kernel
theorem dJ0_isEmpty_aae02_13 : decode cJ0_isEmpty_aae02 13 = .ok (.ireturn, 1) := by decide +kernel
theorem dJ0_charAt_5068e_0 : decode cJ0_charAt_5068e 0 = .ok (.aload_n 0, 1) := by decide +kernel
theorem dJ0_charAt_5068e_1 : decode cJ0_charAt_5068e 1 = .ok (.invokevirtual 492, 3) := by decide +kernel
theorem dJ0_charAt_5068e_4 : decode cJ0_charAt_5068e 4 = .ok (.ifCond .eq 12, 3) := by decide +kernel
theorem dJ0_charAt_5068e_7 : decode cJ0_charAt_5068e 7 = .ok (.aload_n 0, 1) := by decide +kernel
theorem dJ0_charAt_5068e_8 : decode cJ0_charAt_5068e 8 = .ok (.getfield 9, 3) := by decide +kernel
theorem dJ0_charAt_5068e_11 : decode cJ0_charAt_5068e 11 = .ok (.iload_n 1, 1) := by decide +kernel
theorem dJ0_charAt_5068e_12 : decode cJ0_charAt_5068e 12 = .ok (.invokestatic 495, 3) := by decide +kernel
theorem dJ0_charAt_5068e_15 : decode cJ0_charAt_5068e 15 = .ok (.ireturn, 1) := by decide +kernel
theorem dJ0_charAt_5068e_16 : decode cJ0_charAt_5068e 16 = .ok (.aload_n 0, 1) := by decide +kernel
theorem dJ0_charAt_5068e_17 : decode cJ0_charAt_5068e 17 = .ok (.getfield 9, 3) := by decide +kernel
theorem dJ0_charAt_5068e_20 : decode cJ0_charAt_5068e 20 = .ok (.iload_n 1, 1) := by decide +kernel
theorem dJ0_charAt_5068e_21 : decode cJ0_charAt_5068e 21 = .ok (.invokestatic 498, 3) := by decide +kernel
theorem dJ0_charAt_5068e_24 : decode cJ0_charAt_5068e 24 = .ok (.ireturn, 1) := by decide +kernel
theorem dJ0_coder_7d493_0 : decode cJ0_coder_7d493 0 = .ok (.getstatic 38, 3) := by decide +kernel
theorem dJ0_coder_7d493_3 : decode cJ0_coder_7d493 3 = .ok (.ifCond .eq 10, 3) := by decide +kernel
theorem dJ0_coder_7d493_6 : decode cJ0_coder_7d493 6 = .ok (.aload_n 0, 1) := by decide +kernel
theorem dJ0_coder_7d493_7 : decode cJ0_coder_7d493 7 = .ok (.getfield 15, 3) := by decide +kernel
theorem dJ0_coder_7d493_10 : decode cJ0_coder_7d493 10 = .ok (.goto 4, 3) := by decide +kernel
theorem dJ0_coder_7d493_13 : decode cJ0_coder_7d493 13 = .ok (.iconst 1, 1) := by decide +kernel
theorem dJ0_coder_7d493_14 : decode cJ0_coder_7d493 14 = .ok (.ireturn, 1) := by decide +kernel
theorem dJ0_isLatin1_aae02_0 : decode cJ0_isLatin1_aae02 0 = .ok (.getstatic 38, 3) := by decide +kernel
theorem dJ0_isLatin1_aae02_3 : decode cJ0_isLatin1_aae02 3 = .ok (.ifCond .eq 14, 3) := by decide +kernel
theorem dJ0_isLatin1_aae02_6 : decode cJ0_isLatin1_aae02 6 = .ok (.aload_n 0, 1) := by decide +kernel
theorem dJ0_isLatin1_aae02_7 : decode cJ0_isLatin1_aae02 7 = .ok (.getfield 15, 3) := by decide +kernel
theorem dJ0_isLatin1_aae02_10 : decode cJ0_isLatin1_aae02 10 = .ok (.ifCond .ne 7, 3) := by decide +kernel
theorem dJ0_isLatin1_aae02_13 : decode cJ0_isLatin1_aae02 13 = .ok (.iconst 1, 1) := by decide +kernel
theorem dJ0_isLatin1_aae02_14 : decode cJ0_isLatin1_aae02 14 = .ok (.goto 4, 3) := by decide +kernel
theorem dJ0_isLatin1_aae02_17 : decode cJ0_isLatin1_aae02 17 = .ok (.iconst 0, 1) := by decide +kernel
theorem dJ0_isLatin1_aae02_18 : decode cJ0_isLatin1_aae02 18 = .ok (.ireturn, 1) := by decide +kernel
theorem dJ0_checkIndex_df160_0 : decode cJ0_checkIndex_df160 0 = .ok (.iload_n 0, 1) := by decide +kernel
theorem dJ0_checkIndex_df160_1 : decode cJ0_checkIndex_df160 1 = .ok (.iload_n 1, 1) := by decide +kernel
theorem dJ0_checkIndex_df160_2 : decode cJ0_checkIndex_df160 2 = .ok (.getstatic 1053, 3) := by decide +kernel
theorem dJ0_checkIndex_df160_5 : decode cJ0_checkIndex_df160 5 = .ok (.invokestatic 1059, 3) := by decide +kernel
theorem dJ0_checkIndex_df160_8 : decode cJ0_checkIndex_df160 8 = .ok (.pop, 1) := by decide +kernel
theorem dJ0_checkIndex_df160_9 : decode cJ0_checkIndex_df160 9 = .ok (.return_, 1) := by decide +kernel
theorem dJ1_charAt_3b067_0 : decode cJ1_charAt_3b067 0 = .ok (.iload_n 1, 1) := by decide +kernel
theorem dJ1_charAt_3b067_1 : decode cJ1_charAt_3b067 1 = .ok (.aload_n 0, 1) := by decide +kernel
theorem dJ1_charAt_3b067_2 : decode cJ1_charAt_3b067 2 = .ok (.arraylength, 1) := by decide +kernel
theorem dJ1_charAt_3b067_3 : decode cJ1_charAt_3b067 3 = .ok (.invokestatic 9, 3) := by decide +kernel
theorem dJ1_charAt_3b067_6 : decode cJ1_charAt_3b067 6 = .ok (.aload_n 0, 1) := by decide +kernel
theorem dJ1_charAt_3b067_7 : decode cJ1_charAt_3b067 7 = .ok (.iload_n 1, 1) := by decide +kernel
theorem dJ1_charAt_3b067_8 : decode cJ1_charAt_3b067 8 = .ok (.baload, 1) := by decide +kernel
theorem dJ1_charAt_3b067_9 : decode cJ1_charAt_3b067 9 = .ok (.sipush 255, 3) := by decide +kernel
theorem dJ1_charAt_3b067_12 : decode cJ1_charAt_3b067 12 = .ok (.iand, 1) := by decide +kernel
theorem dJ1_charAt_3b067_13 : decode cJ1_charAt_3b067 13 = .ok (.i2c, 1) := by decide +kernel
theorem dJ1_charAt_3b067_14 : decode cJ1_charAt_3b067 14 = .ok (.ireturn, 1) := by decide +kernel
theorem dJ2_getChar_3b067_0 : decode cJ2_getChar_3b067 0 = .ok (.getstatic 44, 3) := by decide +kernel
theorem dJ2_getChar_3b067_3 : decode cJ2_getChar_3b067 3 = .ok (.ifCond .ne 25, 3) := by decide +kernel
theorem dJ2_getChar_3b067_6 : decode cJ2_getChar_3b067 6 = .ok (.iload_n 1, 1) := by decide +kernel
theorem dJ2_getChar_3b067_7 : decode cJ2_getChar_3b067 7 = .ok (.ifCond .lt 11, 3) := by decide +kernel
theorem dJ2_getChar_3b067_10 : decode cJ2_getChar_3b067 10 = .ok (.iload_n 1, 1) := by decide +kernel
theorem dJ2_getChar_3b067_11 : decode cJ2_getChar_3b067 11 = .ok (.aload_n 0, 1) := by decide +kernel
theorem dJ2_getChar_3b067_12 : decode cJ2_getChar_3b067 12 = .ok (.invokestatic 48, 3) := by decide +kernel
theorem dJ2_getChar_3b067_15 : decode cJ2_getChar_3b067 15 = .ok (.if_icmp .lt 13, 3) := by decide +kernel
theorem dJ2_getChar_3b067_18 : decode cJ2_getChar_3b067 18 = .ok (.new 52, 3) := by decide +kernel
theorem dJ2_getChar_3b067_21 : decode cJ2_getChar_3b067 21 = .ok (.dup, 1) := by decide +kernel
theorem dJ2_getChar_3b067_22 : decode cJ2_getChar_3b067 22 = .ok (.ldc 54, 2) := by decide +kernel
theorem dJ2_getChar_3b067_24 : decode cJ2_getChar_3b067 24 = .ok (.invokespecial 56, 3) := by decide +kernel
theorem dJ2_getChar_3b067_27 : decode cJ2_getChar_3b067 27 = .ok (.athrow, 1) := by decide +kernel
theorem dJ2_getChar_3b067_28 : decode cJ2_getChar_3b067 28 = .ok (.iload_n 1, 1) := by decide +kernel
theorem dJ2_getChar_3b067_29 : decode cJ2_getChar_3b067 29 = .ok (.iconst 1, 1) := by decide +kernel
theorem dJ2_getChar_3b067_30 : decode cJ2_getChar_3b067 30 = .ok (.ishl, 1) := by decide +kernel
theorem dJ2_getChar_3b067_31 : decode cJ2_getChar_3b067 31 = .ok (.istore_n 1, 1) := by decide +kernel
theorem dJ2_getChar_3b067_32 : decode cJ2_getChar_3b067 32 = .ok (.aload_n 0, 1) := by decide +kernel
theorem dJ2_getChar_3b067_33 : decode cJ2_getChar_3b067 33 = .ok (.iload_n 1, 1) := by decide +kernel
theorem dJ2_getChar_3b067_34 : decode cJ2_getChar_3b067 34 = .ok (.iinc 1 1, 3) := by decide +kernel
theorem dJ2_getChar_3b067_37 : decode cJ2_getChar_3b067 37 = .ok (.baload, 1) := by decide +kernel
theorem dJ2_getChar_3b067_38 : decode cJ2_getChar_3b067 38 = .ok (.sipush 255, 3) := by decide +kernel
theorem dJ2_getChar_3b067_41 : decode cJ2_getChar_3b067 41 = .ok (.iand, 1) := by decide +kernel
theorem dJ2_getChar_3b067_42 : decode cJ2_getChar_3b067 42 = .ok (.getstatic 59, 3) := by decide +kernel
theorem dJ2_getChar_3b067_45 : decode cJ2_getChar_3b067 45 = .ok (.ishl, 1) := by decide +kernel
theorem dJ2_getChar_3b067_46 : decode cJ2_getChar_3b067 46 = .ok (.aload_n 0, 1) := by decide +kernel
theorem dJ2_getChar_3b067_47 : decode cJ2_getChar_3b067 47 = .ok (.iload_n 1, 1) := by decide +kernel
theorem dJ2_getChar_3b067_48 : decode cJ2_getChar_3b067 48 = .ok (.baload, 1) := by decide +kernel
theorem dJ2_getChar_3b067_49 : decode cJ2_getChar_3b067 49 = .ok (.sipush 255, 3) := by decide +kernel
theorem dJ2_getChar_3b067_52 : decode cJ2_getChar_3b067 52 = .ok (.iand, 1) := by decide +kernel
theorem dJ2_getChar_3b067_53 : decode cJ2_getChar_3b067 53 = .ok (.getstatic 63, 3) := by decide +kernel
theorem dJ2_getChar_3b067_56 : decode cJ2_getChar_3b067 56 = .ok (.ishl, 1) := by decide +kernel
theorem dJ2_getChar_3b067_57 : decode cJ2_getChar_3b067 57 = .ok (.ior, 1) := by decide +kernel
theorem dJ2_getChar_3b067_58 : decode cJ2_getChar_3b067 58 = .ok (.i2c, 1) := by decide +kernel
theorem dJ2_getChar_3b067_59 : decode cJ2_getChar_3b067 59 = .ok (.ireturn, 1) := by decide +kernel
theorem dJ2_length_9d52b_0 : decode cJ2_length_9d52b 0 = .ok (.aload_n 0, 1) := by decide +kernel
theorem dJ2_length_9d52b_1 : decode cJ2_length_9d52b 1 = .ok (.arraylength, 1) := by decide +kernel
theorem dJ2_length_9d52b_2 : decode cJ2_length_9d52b 2 = .ok (.iconst 1, 1) := by decide +kernel
theorem dJ2_length_9d52b_3 : decode cJ2_length_9d52b 3 = .ok (.ishr, 1) := by decide +kernel
theorem dJ2_length_9d52b_4 : decode cJ2_length_9d52b 4 = .ok (.ireturn, 1) := by decide +kernel
theorem dJ2_charAt_3b067_0 : decode cJ2_charAt_3b067 0 = .ok (.iload_n 1, 1) := by decide +kernel
theorem dJ2_charAt_3b067_1 : decode cJ2_charAt_3b067 1 = .ok (.aload_n 0, 1) := by decide +kernel
theorem dJ2_charAt_3b067_2 : decode cJ2_charAt_3b067 2 = .ok (.invokestatic 67, 3) := by decide +kernel
theorem dJ2_charAt_3b067_5 : decode cJ2_charAt_3b067 5 = .ok (.aload_n 0, 1) := by decide +kernel
theorem dJ2_charAt_3b067_6 : decode cJ2_charAt_3b067 6 = .ok (.iload_n 1, 1) := by decide +kernel
theorem dJ2_charAt_3b067_7 : decode cJ2_charAt_3b067 7 = .ok (.invokestatic 71, 3) := by decide +kernel
theorem dJ2_charAt_3b067_10 : decode cJ2_charAt_3b067 10 = .ok (.ireturn, 1) := by decide +kernel
theorem dJ2_checkIndex_2214a_0 : decode cJ2_checkIndex_2214a 0 = .ok (.iload_n 0, 1) := by decide +kernel
theorem dJ2_checkIndex_2214a_1 : decode cJ2_checkIndex_2214a 1 = .ok (.aload_n 1, 1) := by decide +kernel
theorem dJ2_checkIndex_2214a_2 : decode cJ2_checkIndex_2214a 2 = .ok (.invokestatic 48, 3) := by decide +kernel
theorem dJ2_checkIndex_2214a_5 : decode cJ2_checkIndex_2214a 5 = .ok (.invokestatic 414, 3) := by decide +kernel
theorem dJ2_checkIndex_2214a_8 : decode cJ2_checkIndex_2214a 8 = .ok (.return_, 1) := by decide +kernel
theorem dJ7_rangeCheck_23922_0 : decode cJ7_rangeCheck_23922 0 = .ok (.iload_n 1, 1) := by decide +kernel
theorem dJ7_rangeCheck_23922_1 : decode cJ7_rangeCheck_23922 1 = .ok (.iload_n 2, 1) := by decide +kernel
theorem dJ7_rangeCheck_23922_2 : decode cJ7_rangeCheck_23922 2 = .ok (.if_icmp .le 44, 3) := by decide +kernel
theorem dJ7_rangeCheck_23922_5 : decode cJ7_rangeCheck_23922 5 = .ok (.new 43, 3) := by decide +kernel
theorem dJ7_rangeCheck_23922_8 : decode cJ7_rangeCheck_23922 8 = .ok (.dup, 1) := by decide +kernel
theorem dJ7_rangeCheck_23922_9 : decode cJ7_rangeCheck_23922 9 = .ok (.new 45, 3) := by decide +kernel
theorem dJ7_rangeCheck_23922_12 : decode cJ7_rangeCheck_23922 12 = .ok (.dup, 1) := by decide +kernel
theorem dJ7_rangeCheck_23922_13 : decode cJ7_rangeCheck_23922 13 = .ok (.invokespecial 47, 3) := by decide +kernel
theorem dJ7_rangeCheck_23922_16 : decode cJ7_rangeCheck_23922 16 = .ok (.ldc 48, 2) := by decide +kernel
theorem dJ7_rangeCheck_23922_18 : decode cJ7_rangeCheck_23922 18 = .ok (.invokevirtual 50, 3) := by decide +kernel
theorem dJ7_rangeCheck_23922_21 : decode cJ7_rangeCheck_23922 21 = .ok (.iload_n 1, 1) := by decide +kernel
theorem dJ7_rangeCheck_23922_22 : decode cJ7_rangeCheck_23922 22 = .ok (.invokevirtual 54, 3) := by decide +kernel
theorem dJ7_rangeCheck_23922_25 : decode cJ7_rangeCheck_23922 25 = .ok (.ldc 57, 2) := by decide +kernel
theorem dJ7_rangeCheck_23922_27 : decode cJ7_rangeCheck_23922 27 = .ok (.invokevirtual 50, 3) := by decide +kernel
theorem dJ7_rangeCheck_23922_30 : decode cJ7_rangeCheck_23922 30 = .ok (.iload_n 2, 1) := by decide +kernel
theorem dJ7_rangeCheck_23922_31 : decode cJ7_rangeCheck_23922 31 = .ok (.invokevirtual 54, 3) := by decide +kernel
theorem dJ7_rangeCheck_23922_34 : decode cJ7_rangeCheck_23922 34 = .ok (.ldc 59, 2) := by decide +kernel
theorem dJ7_rangeCheck_23922_36 : decode cJ7_rangeCheck_23922 36 = .ok (.invokevirtual 50, 3) := by decide +kernel
theorem dJ7_rangeCheck_23922_39 : decode cJ7_rangeCheck_23922 39 = .ok (.invokevirtual 61, 3) := by decide +kernel
theorem dJ7_rangeCheck_23922_42 : decode cJ7_rangeCheck_23922 42 = .ok (.invokespecial 65, 3) := by decide +kernel
theorem dJ7_rangeCheck_23922_45 : decode cJ7_rangeCheck_23922 45 = .ok (.athrow, 1) := by decide +kernel
theorem dJ7_rangeCheck_23922_46 : decode cJ7_rangeCheck_23922 46 = .ok (.iload_n 1, 1) := by decide +kernel
theorem dJ7_rangeCheck_23922_47 : decode cJ7_rangeCheck_23922 47 = .ok (.ifCond .ge 12, 3) := by decide +kernel
theorem dJ7_rangeCheck_23922_50 : decode cJ7_rangeCheck_23922 50 = .ok (.new 68, 3) := by decide +kernel
theorem dJ7_rangeCheck_23922_53 : decode cJ7_rangeCheck_23922 53 = .ok (.dup, 1) := by decide +kernel
theorem dJ7_rangeCheck_23922_54 : decode cJ7_rangeCheck_23922 54 = .ok (.iload_n 1, 1) := by decide +kernel
theorem dJ7_rangeCheck_23922_55 : decode cJ7_rangeCheck_23922 55 = .ok (.invokespecial 70, 3) := by decide +kernel
theorem dJ7_rangeCheck_23922_58 : decode cJ7_rangeCheck_23922 58 = .ok (.athrow, 1) := by decide +kernel
theorem dJ7_rangeCheck_23922_59 : decode cJ7_rangeCheck_23922 59 = .ok (.iload_n 2, 1) := by decide +kernel
theorem dJ7_rangeCheck_23922_60 : decode cJ7_rangeCheck_23922 60 = .ok (.iload_n 0, 1) := by decide +kernel
theorem dJ7_rangeCheck_23922_61 : decode cJ7_rangeCheck_23922 61 = .ok (.if_icmp .le 12, 3) := by decide +kernel
theorem dJ7_rangeCheck_23922_64 : decode cJ7_rangeCheck_23922 64 = .ok (.new 68, 3) := by decide +kernel
theorem dJ7_rangeCheck_23922_67 : decode cJ7_rangeCheck_23922 67 = .ok (.dup, 1) := by decide +kernel
theorem dJ7_rangeCheck_23922_68 : decode cJ7_rangeCheck_23922 68 = .ok (.iload_n 2, 1) := by decide +kernel
theorem dJ7_rangeCheck_23922_69 : decode cJ7_rangeCheck_23922 69 = .ok (.invokespecial 70, 3) := by decide +kernel
theorem dJ7_rangeCheck_23922_72 : decode cJ7_rangeCheck_23922 72 = .ok (.athrow, 1) := by decide +kernel
theorem dJ7_rangeCheck_23922_73 : decode cJ7_rangeCheck_23922 73 = .ok (.return_, 1) := by decide +kernel
theorem dJ7_fill_53178_0 : decode cJ7_fill_53178 0 = .ok (.iconst 0, 1) := by decide +kernel
theorem dJ7_fill_53178_1 : decode cJ7_fill_53178 1 = .ok (.istore_n 2, 1) := by decide +kernel
theorem dJ7_fill_53178_2 : decode cJ7_fill_53178 2 = .ok (.aload_n 0, 1) := by decide +kernel
theorem dJ7_fill_53178_3 : decode cJ7_fill_53178 3 = .ok (.arraylength, 1) := by decide +kernel
theorem dJ7_fill_53178_4 : decode cJ7_fill_53178 4 = .ok (.istore_n 3, 1) := by decide +kernel
theorem dJ7_fill_53178_5 : decode cJ7_fill_53178 5 = .ok (.iload_n 2, 1) := by decide +kernel
theorem dJ7_fill_53178_6 : decode cJ7_fill_53178 6 = .ok (.iload_n 3, 1) := by decide +kernel
theorem dJ7_fill_53178_7 : decode cJ7_fill_53178 7 = .ok (.if_icmp .ge 13, 3) := by decide +kernel
theorem dJ7_fill_53178_10 : decode cJ7_fill_53178 10 = .ok (.aload_n 0, 1) := by decide +kernel
theorem dJ7_fill_53178_11 : decode cJ7_fill_53178 11 = .ok (.iload_n 2, 1) := by decide +kernel
theorem dJ7_fill_53178_12 : decode cJ7_fill_53178 12 = .ok (.iload_n 1, 1) := by decide +kernel
theorem dJ7_fill_53178_13 : decode cJ7_fill_53178 13 = .ok (.iastore, 1) := by decide +kernel
theorem dJ7_fill_53178_14 : decode cJ7_fill_53178 14 = .ok (.iinc 2 1, 3) := by decide +kernel
theorem dJ7_fill_53178_17 : decode cJ7_fill_53178 17 = .ok (.goto (-12), 3) := by decide +kernel
theorem dJ7_fill_53178_20 : decode cJ7_fill_53178 20 = .ok (.return_, 1) := by decide +kernel
theorem dJ7_fill_fda19_0 : decode cJ7_fill_fda19 0 = .ok (.aload_n 0, 1) := by decide +kernel
theorem dJ7_fill_fda19_1 : decode cJ7_fill_fda19 1 = .ok (.arraylength, 1) := by decide +kernel
theorem dJ7_fill_fda19_2 : decode cJ7_fill_fda19 2 = .ok (.iload_n 1, 1) := by decide +kernel
theorem dJ7_fill_fda19_3 : decode cJ7_fill_fda19 3 = .ok (.iload_n 2, 1) := by decide +kernel
theorem dJ7_fill_fda19_4 : decode cJ7_fill_fda19 4 = .ok (.invokestatic 13, 3) := by decide +kernel
theorem dJ7_fill_fda19_7 : decode cJ7_fill_fda19 7 = .ok (.iload_n 1, 1) := by decide +kernel
theorem dJ7_fill_fda19_8 : decode cJ7_fill_fda19 8 = .ok (.istore 4, 2) := by decide +kernel
theorem dJ7_fill_fda19_10 : decode cJ7_fill_fda19 10 = .ok (.iload 4, 2) := by decide +kernel
theorem dJ7_fill_fda19_12 : decode cJ7_fill_fda19 12 = .ok (.iload_n 2, 1) := by decide +kernel
theorem dJ7_fill_fda19_13 : decode cJ7_fill_fda19 13 = .ok (.if_icmp .ge 14, 3) := by decide +kernel
theorem dJ7_fill_fda19_16 : decode cJ7_fill_fda19 16 = .ok (.aload_n 0, 1) := by decide +kernel
theorem dJ7_fill_fda19_17 : decode cJ7_fill_fda19 17 = .ok (.iload 4, 2) := by decide +kernel
theorem dJ7_fill_fda19_19 : decode cJ7_fill_fda19 19 = .ok (.iload_n 3, 1) := by decide +kernel
theorem dJ7_fill_fda19_20 : decode cJ7_fill_fda19 20 = .ok (.iastore, 1) := by decide +kernel
theorem dJ7_fill_fda19_21 : decode cJ7_fill_fda19 21 = .ok (.iinc 4 1, 3) := by decide +kernel
theorem dJ7_fill_fda19_24 : decode cJ7_fill_fda19 24 = .ok (.goto (-14), 3) := by decide +kernel
theorem dJ7_fill_fda19_27 : decode cJ7_fill_fda19 27 = .ok (.return_, 1) := by decide +kernel
theorem dJ3_checkIndex_8e157_0 : decode cJ3_checkIndex_8e157 0 = .ok (.iload_n 0, 1) := by decide +kernel
theorem dJ3_checkIndex_8e157_1 : decode cJ3_checkIndex_8e157 1 = .ok (.ifCond .lt 8, 3) := by decide +kernel
theorem dJ3_checkIndex_8e157_4 : decode cJ3_checkIndex_8e157 4 = .ok (.iload_n 0, 1) := by decide +kernel
theorem dJ3_checkIndex_8e157_5 : decode cJ3_checkIndex_8e157 5 = .ok (.iload_n 1, 1) := by decide +kernel
theorem dJ3_checkIndex_8e157_6 : decode cJ3_checkIndex_8e157 6 = .ok (.if_icmp .lt 10, 3) := by decide +kernel
theorem dJ3_checkIndex_8e157_9 : decode cJ3_checkIndex_8e157 9 = .ok (.aload_n 2, 1) := by decide +kernel
theorem dJ3_checkIndex_8e157_10 : decode cJ3_checkIndex_8e157 10 = .ok (.iload_n 0, 1) := by decide +kernel
theorem dJ3_checkIndex_8e157_11 : decode cJ3_checkIndex_8e157 11 = .ok (.iload_n 1, 1) := by decide +kernel
theorem dJ3_checkIndex_8e157_12 : decode cJ3_checkIndex_8e157 12 = .ok (.invokestatic 95, 3) := by decide +kernel
theorem dJ3_checkIndex_8e157_15 : decode cJ3_checkIndex_8e157 15 = .ok (.athrow, 1) := by decide +kernel
theorem dJ3_checkIndex_8e157_16 : decode cJ3_checkIndex_8e157 16 = .ok (.iload_n 0, 1) := by decide +kernel
theorem dJ3_checkIndex_8e157_17 : decode cJ3_checkIndex_8e157 17 = .ok (.ireturn, 1) := by decide +kernel
theorem dL_law_0 : decode cL_law 0 = .ok (.new 7, 3) := by decide +kernel
theorem dL_law_3 : decode cL_law 3 = .ok (.dup, 1) := by decide +kernel
theorem dL_law_4 : decode cL_law 4 = .ok (.invokespecial 9, 3) := by decide +kernel
theorem dL_law_7 : decode cL_law 7 = .ok (.astore_n 1, 1) := by decide +kernel
theorem dL_law_8 : decode cL_law 8 = .ok (.new 10, 3) := by decide +kernel
theorem dL_law_11 : decode cL_law 11 = .ok (.dup, 1) := by decide +kernel
theorem dL_law_12 : decode cL_law 12 = .ok (.invokespecial 12, 3) := by decide +kernel
theorem dL_law_15 : decode cL_law 15 = .ok (.astore_n 2, 1) := by decide +kernel
theorem dL_law_16 : decode cL_law 16 = .ok (.iconst 0, 1) := by decide +kernel
theorem dL_law_17 : decode cL_law 17 = .ok (.istore_n 3, 1) := by decide +kernel
theorem dL_law_18 : decode cL_law 18 = .ok (.iload_n 3, 1) := by decide +kernel
theorem dL_law_19 : decode cL_law 19 = .ok (.aload_n 0, 1) := by decide +kernel
theorem dL_law_20 : decode cL_law 20 = .ok (.arraylength, 1) := by decide +kernel
theorem dL_law_21 : decode cL_law 21 = .ok (.bipush 6, 2) := by decide +kernel
theorem dL_law_23 : decode cL_law 23 = .ok (.isub, 1) := by decide +kernel
theorem dL_law_24 : decode cL_law 24 = .ok (.if_icmp .gt 848, 3) := by decide +kernel
theorem dL_law_27 : decode cL_law 27 = .ok (.aload_n 0, 1) := by decide +kernel
theorem dL_law_28 : decode cL_law 28 = .ok (.iload_n 3, 1) := by decide +kernel
theorem dL_law_29 : decode cL_law 29 = .ok (.iaload, 1) := by decide +kernel
theorem dL_law_30 : decode cL_law 30 = .ok (.bipush 31, 2) := by decide +kernel
theorem dL_law_32 : decode cL_law 32 = .ok (.iand, 1) := by decide +kernel
theorem dL_law_33 : decode cL_law 33 = .ok (.tableswitch 833 0 23 #[111, 144, 207, 250, 283, 316, 339, 392, 425, 458, 501, 544, 567, 590, 613, 636, 659, 682, 735, 748, 761, 774, 787, 810], 111) := by decide +kernel
theorem dL_law_144 : decode cL_law 144 = .ok (.aload_n 1, 1) := by decide +kernel
theorem dL_law_145 : decode cL_law 145 = .ok (.aload_n 0, 1) := by decide +kernel
theorem dL_law_146 : decode cL_law 146 = .ok (.iload_n 3, 1) := by decide +kernel
theorem dL_law_147 : decode cL_law 147 = .ok (.iconst 1, 1) := by decide +kernel
theorem dL_law_148 : decode cL_law 148 = .ok (.iadd, 1) := by decide +kernel
theorem dL_law_149 : decode cL_law 149 = .ok (.iaload, 1) := by decide +kernel
theorem dL_law_150 : decode cL_law 150 = .ok (.aload_n 0, 1) := by decide +kernel
theorem dL_law_151 : decode cL_law 151 = .ok (.iload_n 3, 1) := by decide +kernel
theorem dL_law_152 : decode cL_law 152 = .ok (.iconst 2, 1) := by decide +kernel
theorem dL_law_153 : decode cL_law 153 = .ok (.iadd, 1) := by decide +kernel
theorem dL_law_154 : decode cL_law 154 = .ok (.iaload, 1) := by decide +kernel
theorem dL_law_155 : decode cL_law 155 = .ok (.invokevirtual 13, 3) := by decide +kernel
theorem dL_law_158 : decode cL_law 158 = .ok (.aload_n 2, 1) := by decide +kernel
theorem dL_law_159 : decode cL_law 159 = .ok (.aload_n 0, 1) := by decide +kernel
theorem dL_law_160 : decode cL_law 160 = .ok (.iload_n 3, 1) := by decide +kernel
theorem dL_law_161 : decode cL_law 161 = .ok (.iconst 1, 1) := by decide +kernel
theorem dL_law_162 : decode cL_law 162 = .ok (.iadd, 1) := by decide +kernel
theorem dL_law_163 : decode cL_law 163 = .ok (.iaload, 1) := by decide +kernel
theorem dL_law_164 : decode cL_law 164 = .ok (.aload_n 0, 1) := by decide +kernel
theorem dL_law_165 : decode cL_law 165 = .ok (.iload_n 3, 1) := by decide +kernel
theorem dL_law_166 : decode cL_law 166 = .ok (.iconst 2, 1) := by decide +kernel
theorem dL_law_167 : decode cL_law 167 = .ok (.iadd, 1) := by decide +kernel
theorem dL_law_168 : decode cL_law 168 = .ok (.iaload, 1) := by decide +kernel
theorem dL_law_169 : decode cL_law 169 = .ok (.invokevirtual 17, 3) := by decide +kernel
theorem dL_law_172 : decode cL_law 172 = .ok (.if_icmp .eq 694, 3) := by decide +kernel
theorem dL_law_175 : decode cL_law 175 = .ok (.iconst 0, 1) := by decide +kernel
theorem dL_law_176 : decode cL_law 176 = .ok (.ireturn, 1) := by decide +kernel
theorem dL_law_177 : decode cL_law 177 = .ok (.aload_n 1, 1) := by decide +kernel
theorem dL_law_178 : decode cL_law 178 = .ok (.aload_n 0, 1) := by decide +kernel
theorem dL_law_179 : decode cL_law 179 = .ok (.iload_n 3, 1) := by decide +kernel
theorem dL_law_180 : decode cL_law 180 = .ok (.iconst 1, 1) := by decide +kernel
theorem dL_law_181 : decode cL_law 181 = .ok (.iadd, 1) := by decide +kernel
theorem dL_law_182 : decode cL_law 182 = .ok (.iaload, 1) := by decide +kernel
theorem dL_law_183 : decode cL_law 183 = .ok (.aload_n 0, 1) := by decide +kernel
theorem dL_law_184 : decode cL_law 184 = .ok (.iload_n 3, 1) := by decide +kernel
theorem dL_law_185 : decode cL_law 185 = .ok (.iconst 2, 1) := by decide +kernel
theorem dL_law_186 : decode cL_law 186 = .ok (.iadd, 1) := by decide +kernel
theorem dL_law_187 : decode cL_law 187 = .ok (.iaload, 1) := by decide +kernel
theorem dL_law_188 : decode cL_law 188 = .ok (.aload_n 0, 1) := by decide +kernel
theorem dL_law_189 : decode cL_law 189 = .ok (.iload_n 3, 1) := by decide +kernel
theorem dL_law_190 : decode cL_law 190 = .ok (.iconst 3, 1) := by decide +kernel
theorem dL_law_191 : decode cL_law 191 = .ok (.iadd, 1) := by decide +kernel
theorem dL_law_192 : decode cL_law 192 = .ok (.iaload, 1) := by decide +kernel
theorem dL_law_193 : decode cL_law 193 = .ok (.aload_n 0, 1) := by decide +kernel
theorem dL_law_194 : decode cL_law 194 = .ok (.iload_n 3, 1) := by decide +kernel
theorem dL_law_195 : decode cL_law 195 = .ok (.iconst 4, 1) := by decide +kernel
theorem dL_law_196 : decode cL_law 196 = .ok (.iadd, 1) := by decide +kernel
theorem dL_law_197 : decode cL_law 197 = .ok (.iaload, 1) := by decide +kernel
theorem dL_law_198 : decode cL_law 198 = .ok (.aload_n 0, 1) := by decide +kernel
theorem dL_law_199 : decode cL_law 199 = .ok (.iload_n 3, 1) := by decide +kernel
theorem dL_law_200 : decode cL_law 200 = .ok (.iconst 5, 1) := by decide +kernel
theorem dL_law_201 : decode cL_law 201 = .ok (.iadd, 1) := by decide +kernel
theorem dL_law_202 : decode cL_law 202 = .ok (.iaload, 1) := by decide +kernel
theorem dL_law_203 : decode cL_law 203 = .ok (.invokevirtual 18, 3) := by decide +kernel
theorem dL_law_206 : decode cL_law 206 = .ok (.aload_n 2, 1) := by decide +kernel
theorem dL_law_207 : decode cL_law 207 = .ok (.aload_n 0, 1) := by decide +kernel
theorem dL_law_208 : decode cL_law 208 = .ok (.iload_n 3, 1) := by decide +kernel
theorem dL_law_209 : decode cL_law 209 = .ok (.iconst 1, 1) := by decide +kernel
theorem dL_law_210 : decode cL_law 210 = .ok (.iadd, 1) := by decide +kernel
theorem dL_law_211 : decode cL_law 211 = .ok (.iaload, 1) := by decide +kernel
theorem dL_law_212 : decode cL_law 212 = .ok (.aload_n 0, 1) := by decide +kernel
theorem dL_law_213 : decode cL_law 213 = .ok (.iload_n 3, 1) := by decide +kernel
theorem dL_law_214 : decode cL_law 214 = .ok (.iconst 2, 1) := by decide +kernel
theorem dL_law_215 : decode cL_law 215 = .ok (.iadd, 1) := by decide +kernel
theorem dL_law_216 : decode cL_law 216 = .ok (.iaload, 1) := by decide +kernel
theorem dL_law_217 : decode cL_law 217 = .ok (.aload_n 0, 1) := by decide +kernel
theorem dL_law_218 : decode cL_law 218 = .ok (.iload_n 3, 1) := by decide +kernel
theorem dL_law_219 : decode cL_law 219 = .ok (.iconst 3, 1) := by decide +kernel
theorem dL_law_220 : decode cL_law 220 = .ok (.iadd, 1) := by decide +kernel
theorem dL_law_221 : decode cL_law 221 = .ok (.iaload, 1) := by decide +kernel
theorem dL_law_222 : decode cL_law 222 = .ok (.aload_n 0, 1) := by decide +kernel
theorem dL_law_223 : decode cL_law 223 = .ok (.iload_n 3, 1) := by decide +kernel
theorem dL_law_224 : decode cL_law 224 = .ok (.iconst 4, 1) := by decide +kernel
theorem dL_law_225 : decode cL_law 225 = .ok (.iadd, 1) := by decide +kernel
theorem dL_law_226 : decode cL_law 226 = .ok (.iaload, 1) := by decide +kernel
theorem dL_law_227 : decode cL_law 227 = .ok (.aload_n 0, 1) := by decide +kernel
theorem dL_law_228 : decode cL_law 228 = .ok (.iload_n 3, 1) := by decide +kernel
theorem dL_law_229 : decode cL_law 229 = .ok (.iconst 5, 1) := by decide +kernel
theorem dL_law_230 : decode cL_law 230 = .ok (.iadd, 1) := by decide +kernel
theorem dL_law_231 : decode cL_law 231 = .ok (.iaload, 1) := by decide +kernel
theorem dL_law_232 : decode cL_law 232 = .ok (.invokevirtual 22, 3) := by decide +kernel
theorem dL_law_235 : decode cL_law 235 = .ok (.if_icmp .eq 631, 3) := by decide +kernel
theorem dL_law_238 : decode cL_law 238 = .ok (.iconst 0, 1) := by decide +kernel
theorem dL_law_239 : decode cL_law 239 = .ok (.ireturn, 1) := by decide +kernel
theorem dL_law_240 : decode cL_law 240 = .ok (.aload_n 1, 1) := by decide +kernel
theorem dL_law_241 : decode cL_law 241 = .ok (.aload_n 0, 1) := by decide +kernel
theorem dL_law_242 : decode cL_law 242 = .ok (.iload_n 3, 1) := by decide +kernel
theorem dL_law_243 : decode cL_law 243 = .ok (.iconst 1, 1) := by decide +kernel
theorem dL_law_244 : decode cL_law 244 = .ok (.iadd, 1) := by decide +kernel
theorem dL_law_245 : decode cL_law 245 = .ok (.iaload, 1) := by decide +kernel
theorem dL_law_246 : decode cL_law 246 = .ok (.aload_n 0, 1) := by decide +kernel
theorem dL_law_247 : decode cL_law 247 = .ok (.iload_n 3, 1) := by decide +kernel
theorem dL_law_248 : decode cL_law 248 = .ok (.iconst 2, 1) := by decide +kernel
theorem dL_law_249 : decode cL_law 249 = .ok (.iadd, 1) := by decide +kernel
theorem dL_law_250 : decode cL_law 250 = .ok (.iaload, 1) := by decide +kernel
theorem dL_law_251 : decode cL_law 251 = .ok (.aload_n 0, 1) := by decide +kernel
theorem dL_law_252 : decode cL_law 252 = .ok (.iload_n 3, 1) := by decide +kernel
theorem dL_law_253 : decode cL_law 253 = .ok (.iconst 3, 1) := by decide +kernel
theorem dL_law_254 : decode cL_law 254 = .ok (.iadd, 1) := by decide +kernel
theorem dL_law_255 : decode cL_law 255 = .ok (.iaload, 1) := by decide +kernel
theorem dL_law_256 : decode cL_law 256 = .ok (.invokevirtual 23, 3) := by decide +kernel
theorem dL_law_259 : decode cL_law 259 = .ok (.aload_n 2, 1) := by decide +kernel
theorem dL_law_260 : decode cL_law 260 = .ok (.aload_n 0, 1) := by decide +kernel
theorem dL_law_261 : decode cL_law 261 = .ok (.iload_n 3, 1) := by decide +kernel
theorem dL_law_262 : decode cL_law 262 = .ok (.iconst 1, 1) := by decide +kernel
theorem dL_law_263 : decode cL_law 263 = .ok (.iadd, 1) := by decide +kernel
theorem dL_law_264 : decode cL_law 264 = .ok (.iaload, 1) := by decide +kernel
theorem dL_law_265 : decode cL_law 265 = .ok (.aload_n 0, 1) := by decide +kernel
theorem dL_law_266 : decode cL_law 266 = .ok (.iload_n 3, 1) := by decide +kernel
theorem dL_law_267 : decode cL_law 267 = .ok (.iconst 2, 1) := by decide +kernel
theorem dL_law_268 : decode cL_law 268 = .ok (.iadd, 1) := by decide +kernel
theorem dL_law_269 : decode cL_law 269 = .ok (.iaload, 1) := by decide +kernel
theorem dL_law_270 : decode cL_law 270 = .ok (.aload_n 0, 1) := by decide +kernel
theorem dL_law_271 : decode cL_law 271 = .ok (.iload_n 3, 1) := by decide +kernel
theorem dL_law_272 : decode cL_law 272 = .ok (.iconst 3, 1) := by decide +kernel
theorem dL_law_273 : decode cL_law 273 = .ok (.iadd, 1) := by decide +kernel
theorem dL_law_274 : decode cL_law 274 = .ok (.iaload, 1) := by decide +kernel
theorem dL_law_275 : decode cL_law 275 = .ok (.invokevirtual 27, 3) := by decide +kernel
theorem dL_law_278 : decode cL_law 278 = .ok (.if_icmp .eq 588, 3) := by decide +kernel
theorem dL_law_281 : decode cL_law 281 = .ok (.iconst 0, 1) := by decide +kernel
theorem dL_law_282 : decode cL_law 282 = .ok (.ireturn, 1) := by decide +kernel
theorem dL_law_283 : decode cL_law 283 = .ok (.aload_n 1, 1) := by decide +kernel
theorem dL_law_284 : decode cL_law 284 = .ok (.aload_n 0, 1) := by decide +kernel
theorem dL_law_285 : decode cL_law 285 = .ok (.iload_n 3, 1) := by decide +kernel
theorem dL_law_286 : decode cL_law 286 = .ok (.iconst 1, 1) := by decide +kernel
theorem dL_law_287 : decode cL_law 287 = .ok (.iadd, 1) := by decide +kernel
theorem dL_law_288 : decode cL_law 288 = .ok (.iaload, 1) := by decide +kernel
theorem dL_law_289 : decode cL_law 289 = .ok (.aload_n 0, 1) := by decide +kernel
theorem dL_law_290 : decode cL_law 290 = .ok (.iload_n 3, 1) := by decide +kernel
theorem dL_law_291 : decode cL_law 291 = .ok (.iconst 2, 1) := by decide +kernel
theorem dL_law_292 : decode cL_law 292 = .ok (.iadd, 1) := by decide +kernel
theorem dL_law_293 : decode cL_law 293 = .ok (.iaload, 1) := by decide +kernel
theorem dL_law_294 : decode cL_law 294 = .ok (.invokevirtual 28, 3) := by decide +kernel
theorem dL_law_297 : decode cL_law 297 = .ok (.aload_n 2, 1) := by decide +kernel
theorem dL_law_298 : decode cL_law 298 = .ok (.aload_n 0, 1) := by decide +kernel
theorem dL_law_299 : decode cL_law 299 = .ok (.iload_n 3, 1) := by decide +kernel
theorem dL_law_300 : decode cL_law 300 = .ok (.iconst 1, 1) := by decide +kernel
theorem dL_law_301 : decode cL_law 301 = .ok (.iadd, 1) := by decide +kernel
theorem dL_law_302 : decode cL_law 302 = .ok (.iaload, 1) := by decide +kernel
theorem dL_law_303 : decode cL_law 303 = .ok (.aload_n 0, 1) := by decide +kernel
theorem dL_law_304 : decode cL_law 304 = .ok (.iload_n 3, 1) := by decide +kernel
theorem dL_law_305 : decode cL_law 305 = .ok (.iconst 2, 1) := by decide +kernel
theorem dL_law_306 : decode cL_law 306 = .ok (.iadd, 1) := by decide +kernel
theorem dL_law_307 : decode cL_law 307 = .ok (.iaload, 1) := by decide +kernel
theorem dL_law_308 : decode cL_law 308 = .ok (.invokevirtual 31, 3) := by decide +kernel
theorem dL_law_311 : decode cL_law 311 = .ok (.if_icmp .eq 555, 3) := by decide +kernel
theorem dL_law_314 : decode cL_law 314 = .ok (.iconst 0, 1) := by decide +kernel
theorem dL_law_315 : decode cL_law 315 = .ok (.ireturn, 1) := by decide +kernel
theorem dL_law_316 : decode cL_law 316 = .ok (.aload_n 1, 1) := by decide +kernel
theorem dL_law_317 : decode cL_law 317 = .ok (.aload_n 0, 1) := by decide +kernel
theorem dL_law_318 : decode cL_law 318 = .ok (.iload_n 3, 1) := by decide +kernel
theorem dL_law_319 : decode cL_law 319 = .ok (.iconst 1, 1) := by decide +kernel
theorem dL_law_320 : decode cL_law 320 = .ok (.iadd, 1) := by decide +kernel
theorem dL_law_321 : decode cL_law 321 = .ok (.iaload, 1) := by decide +kernel
theorem dL_law_322 : decode cL_law 322 = .ok (.aload_n 0, 1) := by decide +kernel
theorem dL_law_323 : decode cL_law 323 = .ok (.iload_n 3, 1) := by decide +kernel
theorem dL_law_324 : decode cL_law 324 = .ok (.iconst 2, 1) := by decide +kernel
theorem dL_law_325 : decode cL_law 325 = .ok (.iadd, 1) := by decide +kernel
theorem dL_law_326 : decode cL_law 326 = .ok (.iaload, 1) := by decide +kernel
theorem dL_law_327 : decode cL_law 327 = .ok (.invokevirtual 32, 3) := by decide +kernel
theorem dL_law_330 : decode cL_law 330 = .ok (.aload_n 2, 1) := by decide +kernel
theorem dL_law_331 : decode cL_law 331 = .ok (.aload_n 0, 1) := by decide +kernel
theorem dL_law_332 : decode cL_law 332 = .ok (.iload_n 3, 1) := by decide +kernel
theorem dL_law_333 : decode cL_law 333 = .ok (.iconst 1, 1) := by decide +kernel
theorem dL_law_334 : decode cL_law 334 = .ok (.iadd, 1) := by decide +kernel
theorem dL_law_335 : decode cL_law 335 = .ok (.iaload, 1) := by decide +kernel
theorem dL_law_336 : decode cL_law 336 = .ok (.aload_n 0, 1) := by decide +kernel
theorem dL_law_337 : decode cL_law 337 = .ok (.iload_n 3, 1) := by decide +kernel
theorem dL_law_338 : decode cL_law 338 = .ok (.iconst 2, 1) := by decide +kernel
theorem dL_law_339 : decode cL_law 339 = .ok (.iadd, 1) := by decide +kernel
theorem dL_law_340 : decode cL_law 340 = .ok (.iaload, 1) := by decide +kernel
theorem dL_law_341 : decode cL_law 341 = .ok (.invokevirtual 35, 3) := by decide +kernel
theorem dL_law_344 : decode cL_law 344 = .ok (.if_icmp .eq 522, 3) := by decide +kernel
theorem dL_law_347 : decode cL_law 347 = .ok (.iconst 0, 1) := by decide +kernel
theorem dL_law_348 : decode cL_law 348 = .ok (.ireturn, 1) := by decide +kernel
theorem dL_law_349 : decode cL_law 349 = .ok (.aload_n 1, 1) := by decide +kernel
theorem dL_law_350 : decode cL_law 350 = .ok (.aload_n 0, 1) := by decide +kernel
theorem dL_law_351 : decode cL_law 351 = .ok (.iload_n 3, 1) := by decide +kernel
theorem dL_law_352 : decode cL_law 352 = .ok (.iconst 1, 1) := by decide +kernel
theorem dL_law_353 : decode cL_law 353 = .ok (.iadd, 1) := by decide +kernel
theorem dL_law_354 : decode cL_law 354 = .ok (.iaload, 1) := by decide +kernel
theorem dL_law_355 : decode cL_law 355 = .ok (.invokevirtual 36, 3) := by decide +kernel
theorem dL_law_358 : decode cL_law 358 = .ok (.aload_n 2, 1) := by decide +kernel
theorem dL_law_359 : decode cL_law 359 = .ok (.aload_n 0, 1) := by decide +kernel
theorem dL_law_360 : decode cL_law 360 = .ok (.iload_n 3, 1) := by decide +kernel
theorem dL_law_361 : decode cL_law 361 = .ok (.iconst 1, 1) := by decide +kernel
theorem dL_law_362 : decode cL_law 362 = .ok (.iadd, 1) := by decide +kernel
theorem dL_law_363 : decode cL_law 363 = .ok (.iaload, 1) := by decide +kernel
theorem dL_law_364 : decode cL_law 364 = .ok (.invokevirtual 40, 3) := by decide +kernel
theorem dL_law_367 : decode cL_law 367 = .ok (.if_icmp .eq 499, 3) := by decide +kernel
theorem dL_law_370 : decode cL_law 370 = .ok (.iconst 0, 1) := by decide +kernel
theorem dL_law_371 : decode cL_law 371 = .ok (.ireturn, 1) := by decide +kernel
theorem dL_law_372 : decode cL_law 372 = .ok (.aload_n 1, 1) := by decide +kernel
theorem dL_law_373 : decode cL_law 373 = .ok (.aload_n 0, 1) := by decide +kernel
theorem dL_law_374 : decode cL_law 374 = .ok (.iload_n 3, 1) := by decide +kernel
theorem dL_law_375 : decode cL_law 375 = .ok (.iconst 1, 1) := by decide +kernel
theorem dL_law_376 : decode cL_law 376 = .ok (.iadd, 1) := by decide +kernel
theorem dL_law_377 : decode cL_law 377 = .ok (.iaload, 1) := by decide +kernel
theorem dL_law_378 : decode cL_law 378 = .ok (.aload_n 0, 1) := by decide +kernel
theorem dL_law_379 : decode cL_law 379 = .ok (.iload_n 3, 1) := by decide +kernel
theorem dL_law_380 : decode cL_law 380 = .ok (.iconst 2, 1) := by decide +kernel
theorem dL_law_381 : decode cL_law 381 = .ok (.iadd, 1) := by decide +kernel
theorem dL_law_382 : decode cL_law 382 = .ok (.iaload, 1) := by decide +kernel
theorem dL_law_383 : decode cL_law 383 = .ok (.aload_n 0, 1) := by decide +kernel
theorem dL_law_384 : decode cL_law 384 = .ok (.iload_n 3, 1) := by decide +kernel
theorem dL_law_385 : decode cL_law 385 = .ok (.iconst 3, 1) := by decide +kernel
theorem dL_law_386 : decode cL_law 386 = .ok (.iadd, 1) := by decide +kernel
theorem dL_law_387 : decode cL_law 387 = .ok (.iaload, 1) := by decide +kernel
theorem dL_law_388 : decode cL_law 388 = .ok (.aload_n 0, 1) := by decide +kernel
theorem dL_law_389 : decode cL_law 389 = .ok (.iload_n 3, 1) := by decide +kernel
theorem dL_law_390 : decode cL_law 390 = .ok (.iconst 4, 1) := by decide +kernel
theorem dL_law_391 : decode cL_law 391 = .ok (.iadd, 1) := by decide +kernel
theorem dL_law_392 : decode cL_law 392 = .ok (.iaload, 1) := by decide +kernel
theorem dL_law_393 : decode cL_law 393 = .ok (.invokevirtual 41, 3) := by decide +kernel
theorem dL_law_396 : decode cL_law 396 = .ok (.aload_n 2, 1) := by decide +kernel
theorem dL_law_397 : decode cL_law 397 = .ok (.aload_n 0, 1) := by decide +kernel
theorem dL_law_398 : decode cL_law 398 = .ok (.iload_n 3, 1) := by decide +kernel
theorem dL_law_399 : decode cL_law 399 = .ok (.iconst 1, 1) := by decide +kernel
theorem dL_law_400 : decode cL_law 400 = .ok (.iadd, 1) := by decide +kernel
theorem dL_law_401 : decode cL_law 401 = .ok (.iaload, 1) := by decide +kernel
theorem dL_law_402 : decode cL_law 402 = .ok (.aload_n 0, 1) := by decide +kernel
theorem dL_law_403 : decode cL_law 403 = .ok (.iload_n 3, 1) := by decide +kernel
theorem dL_law_404 : decode cL_law 404 = .ok (.iconst 2, 1) := by decide +kernel
theorem dL_law_405 : decode cL_law 405 = .ok (.iadd, 1) := by decide +kernel
theorem dL_law_406 : decode cL_law 406 = .ok (.iaload, 1) := by decide +kernel
theorem dL_law_407 : decode cL_law 407 = .ok (.aload_n 0, 1) := by decide +kernel
theorem dL_law_408 : decode cL_law 408 = .ok (.iload_n 3, 1) := by decide +kernel
theorem dL_law_409 : decode cL_law 409 = .ok (.iconst 3, 1) := by decide +kernel
theorem dL_law_410 : decode cL_law 410 = .ok (.iadd, 1) := by decide +kernel
theorem dL_law_411 : decode cL_law 411 = .ok (.iaload, 1) := by decide +kernel
theorem dL_law_412 : decode cL_law 412 = .ok (.aload_n 0, 1) := by decide +kernel
theorem dL_law_413 : decode cL_law 413 = .ok (.iload_n 3, 1) := by decide +kernel
theorem dL_law_414 : decode cL_law 414 = .ok (.iconst 4, 1) := by decide +kernel
theorem dL_law_415 : decode cL_law 415 = .ok (.iadd, 1) := by decide +kernel
theorem dL_law_416 : decode cL_law 416 = .ok (.iaload, 1) := by decide +kernel
theorem dL_law_417 : decode cL_law 417 = .ok (.invokevirtual 45, 3) := by decide +kernel
theorem dL_law_420 : decode cL_law 420 = .ok (.if_icmp .eq 446, 3) := by decide +kernel
theorem dL_law_423 : decode cL_law 423 = .ok (.iconst 0, 1) := by decide +kernel
theorem dL_law_424 : decode cL_law 424 = .ok (.ireturn, 1) := by decide +kernel
theorem dL_law_425 : decode cL_law 425 = .ok (.aload_n 1, 1) := by decide +kernel
theorem dL_law_426 : decode cL_law 426 = .ok (.aload_n 0, 1) := by decide +kernel
theorem dL_law_427 : decode cL_law 427 = .ok (.iload_n 3, 1) := by decide +kernel
theorem dL_law_428 : decode cL_law 428 = .ok (.iconst 1, 1) := by decide +kernel
theorem dL_law_429 : decode cL_law 429 = .ok (.iadd, 1) := by decide +kernel
theorem dL_law_430 : decode cL_law 430 = .ok (.iaload, 1) := by decide +kernel
theorem dL_law_431 : decode cL_law 431 = .ok (.aload_n 0, 1) := by decide +kernel
theorem dL_law_432 : decode cL_law 432 = .ok (.iload_n 3, 1) := by decide +kernel
theorem dL_law_433 : decode cL_law 433 = .ok (.iconst 2, 1) := by decide +kernel
theorem dL_law_434 : decode cL_law 434 = .ok (.iadd, 1) := by decide +kernel
theorem dL_law_435 : decode cL_law 435 = .ok (.iaload, 1) := by decide +kernel
theorem dL_law_436 : decode cL_law 436 = .ok (.invokevirtual 46, 3) := by decide +kernel
theorem dL_law_439 : decode cL_law 439 = .ok (.aload_n 2, 1) := by decide +kernel
theorem dL_law_440 : decode cL_law 440 = .ok (.aload_n 0, 1) := by decide +kernel
theorem dL_law_441 : decode cL_law 441 = .ok (.iload_n 3, 1) := by decide +kernel
theorem dL_law_442 : decode cL_law 442 = .ok (.iconst 1, 1) := by decide +kernel
theorem dL_law_443 : decode cL_law 443 = .ok (.iadd, 1) := by decide +kernel
theorem dL_law_444 : decode cL_law 444 = .ok (.iaload, 1) := by decide +kernel
theorem dL_law_445 : decode cL_law 445 = .ok (.aload_n 0, 1) := by decide +kernel
theorem dL_law_446 : decode cL_law 446 = .ok (.iload_n 3, 1) := by decide +kernel
theorem dL_law_447 : decode cL_law 447 = .ok (.iconst 2, 1) := by decide +kernel
theorem dL_law_448 : decode cL_law 448 = .ok (.iadd, 1) := by decide +kernel
theorem dL_law_449 : decode cL_law 449 = .ok (.iaload, 1) := by decide +kernel
theorem dL_law_450 : decode cL_law 450 = .ok (.invokevirtual 49, 3) := by decide +kernel
theorem dL_law_453 : decode cL_law 453 = .ok (.if_icmp .eq 413, 3) := by decide +kernel
theorem dL_law_456 : decode cL_law 456 = .ok (.iconst 0, 1) := by decide +kernel
theorem dL_law_457 : decode cL_law 457 = .ok (.ireturn, 1) := by decide +kernel
theorem dL_law_458 : decode cL_law 458 = .ok (.aload_n 1, 1) := by decide +kernel
theorem dL_law_459 : decode cL_law 459 = .ok (.aload_n 0, 1) := by decide +kernel
theorem dL_law_460 : decode cL_law 460 = .ok (.iload_n 3, 1) := by decide +kernel
theorem dL_law_461 : decode cL_law 461 = .ok (.iconst 1, 1) := by decide +kernel
theorem dL_law_462 : decode cL_law 462 = .ok (.iadd, 1) := by decide +kernel
theorem dL_law_463 : decode cL_law 463 = .ok (.iaload, 1) := by decide +kernel
theorem dL_law_464 : decode cL_law 464 = .ok (.aload_n 0, 1) := by decide +kernel
theorem dL_law_465 : decode cL_law 465 = .ok (.iload_n 3, 1) := by decide +kernel
theorem dL_law_466 : decode cL_law 466 = .ok (.iconst 2, 1) := by decide +kernel
theorem dL_law_467 : decode cL_law 467 = .ok (.iadd, 1) := by decide +kernel
theorem dL_law_468 : decode cL_law 468 = .ok (.iaload, 1) := by decide +kernel
theorem dL_law_469 : decode cL_law 469 = .ok (.invokevirtual 50, 3) := by decide +kernel
theorem dL_law_472 : decode cL_law 472 = .ok (.aload_n 2, 1) := by decide +kernel
theorem dL_law_473 : decode cL_law 473 = .ok (.aload_n 0, 1) := by decide +kernel
theorem dL_law_474 : decode cL_law 474 = .ok (.iload_n 3, 1) := by decide +kernel
theorem dL_law_475 : decode cL_law 475 = .ok (.iconst 1, 1) := by decide +kernel
theorem dL_law_476 : decode cL_law 476 = .ok (.iadd, 1) := by decide +kernel
theorem dL_law_477 : decode cL_law 477 = .ok (.iaload, 1) := by decide +kernel
theorem dL_law_478 : decode cL_law 478 = .ok (.aload_n 0, 1) := by decide +kernel
theorem dL_law_479 : decode cL_law 479 = .ok (.iload_n 3, 1) := by decide +kernel
theorem dL_law_480 : decode cL_law 480 = .ok (.iconst 2, 1) := by decide +kernel
theorem dL_law_481 : decode cL_law 481 = .ok (.iadd, 1) := by decide +kernel
theorem dL_law_482 : decode cL_law 482 = .ok (.iaload, 1) := by decide +kernel
theorem dL_law_483 : decode cL_law 483 = .ok (.invokevirtual 53, 3) := by decide +kernel
theorem dL_law_486 : decode cL_law 486 = .ok (.if_icmp .eq 380, 3) := by decide +kernel
theorem dL_law_489 : decode cL_law 489 = .ok (.iconst 0, 1) := by decide +kernel
theorem dL_law_490 : decode cL_law 490 = .ok (.ireturn, 1) := by decide +kernel
theorem dL_law_491 : decode cL_law 491 = .ok (.aload_n 1, 1) := by decide +kernel
theorem dL_law_492 : decode cL_law 492 = .ok (.aload_n 0, 1) := by decide +kernel
theorem dL_law_493 : decode cL_law 493 = .ok (.iload_n 3, 1) := by decide +kernel
theorem dL_law_494 : decode cL_law 494 = .ok (.iconst 1, 1) := by decide +kernel
theorem dL_law_495 : decode cL_law 495 = .ok (.iadd, 1) := by decide +kernel
theorem dL_law_496 : decode cL_law 496 = .ok (.iaload, 1) := by decide +kernel
theorem dL_law_497 : decode cL_law 497 = .ok (.aload_n 0, 1) := by decide +kernel
theorem dL_law_498 : decode cL_law 498 = .ok (.iload_n 3, 1) := by decide +kernel
theorem dL_law_499 : decode cL_law 499 = .ok (.iconst 2, 1) := by decide +kernel
theorem dL_law_500 : decode cL_law 500 = .ok (.iadd, 1) := by decide +kernel
theorem dL_law_501 : decode cL_law 501 = .ok (.iaload, 1) := by decide +kernel
theorem dL_law_502 : decode cL_law 502 = .ok (.aload_n 0, 1) := by decide +kernel
theorem dL_law_503 : decode cL_law 503 = .ok (.iload_n 3, 1) := by decide +kernel
theorem dL_law_504 : decode cL_law 504 = .ok (.iconst 3, 1) := by decide +kernel
theorem dL_law_505 : decode cL_law 505 = .ok (.iadd, 1) := by decide +kernel
theorem dL_law_506 : decode cL_law 506 = .ok (.iaload, 1) := by decide +kernel
theorem dL_law_507 : decode cL_law 507 = .ok (.invokevirtual 54, 3) := by decide +kernel
theorem dL_law_510 : decode cL_law 510 = .ok (.aload_n 2, 1) := by decide +kernel
theorem dL_law_511 : decode cL_law 511 = .ok (.aload_n 0, 1) := by decide +kernel
theorem dL_law_512 : decode cL_law 512 = .ok (.iload_n 3, 1) := by decide +kernel
theorem dL_law_513 : decode cL_law 513 = .ok (.iconst 1, 1) := by decide +kernel
theorem dL_law_514 : decode cL_law 514 = .ok (.iadd, 1) := by decide +kernel
theorem dL_law_515 : decode cL_law 515 = .ok (.iaload, 1) := by decide +kernel
theorem dL_law_516 : decode cL_law 516 = .ok (.aload_n 0, 1) := by decide +kernel
theorem dL_law_517 : decode cL_law 517 = .ok (.iload_n 3, 1) := by decide +kernel
theorem dL_law_518 : decode cL_law 518 = .ok (.iconst 2, 1) := by decide +kernel
theorem dL_law_519 : decode cL_law 519 = .ok (.iadd, 1) := by decide +kernel
theorem dL_law_520 : decode cL_law 520 = .ok (.iaload, 1) := by decide +kernel
theorem dL_law_521 : decode cL_law 521 = .ok (.aload_n 0, 1) := by decide +kernel
theorem dL_law_522 : decode cL_law 522 = .ok (.iload_n 3, 1) := by decide +kernel
theorem dL_law_523 : decode cL_law 523 = .ok (.iconst 3, 1) := by decide +kernel
theorem dL_law_524 : decode cL_law 524 = .ok (.iadd, 1) := by decide +kernel
theorem dL_law_525 : decode cL_law 525 = .ok (.iaload, 1) := by decide +kernel
theorem dL_law_526 : decode cL_law 526 = .ok (.invokevirtual 57, 3) := by decide +kernel
theorem dL_law_529 : decode cL_law 529 = .ok (.if_icmp .eq 337, 3) := by decide +kernel
theorem dL_law_532 : decode cL_law 532 = .ok (.iconst 0, 1) := by decide +kernel
theorem dL_law_533 : decode cL_law 533 = .ok (.ireturn, 1) := by decide +kernel
theorem dL_law_534 : decode cL_law 534 = .ok (.aload_n 1, 1) := by decide +kernel
theorem dL_law_535 : decode cL_law 535 = .ok (.aload_n 0, 1) := by decide +kernel
theorem dL_law_536 : decode cL_law 536 = .ok (.iload_n 3, 1) := by decide +kernel
theorem dL_law_537 : decode cL_law 537 = .ok (.iconst 1, 1) := by decide +kernel
theorem dL_law_538 : decode cL_law 538 = .ok (.iadd, 1) := by decide +kernel
theorem dL_law_539 : decode cL_law 539 = .ok (.iaload, 1) := by decide +kernel
theorem dL_law_540 : decode cL_law 540 = .ok (.aload_n 0, 1) := by decide +kernel
theorem dL_law_541 : decode cL_law 541 = .ok (.iload_n 3, 1) := by decide +kernel
theorem dL_law_542 : decode cL_law 542 = .ok (.iconst 2, 1) := by decide +kernel
theorem dL_law_543 : decode cL_law 543 = .ok (.iadd, 1) := by decide +kernel
theorem dL_law_544 : decode cL_law 544 = .ok (.iaload, 1) := by decide +kernel
theorem dL_law_545 : decode cL_law 545 = .ok (.aload_n 0, 1) := by decide +kernel
theorem dL_law_546 : decode cL_law 546 = .ok (.iload_n 3, 1) := by decide +kernel
theorem dL_law_547 : decode cL_law 547 = .ok (.iconst 3, 1) := by decide +kernel
theorem dL_law_548 : decode cL_law 548 = .ok (.iadd, 1) := by decide +kernel
theorem dL_law_549 : decode cL_law 549 = .ok (.iaload, 1) := by decide +kernel
theorem dL_law_550 : decode cL_law 550 = .ok (.invokevirtual 58, 3) := by decide +kernel
theorem dL_law_553 : decode cL_law 553 = .ok (.aload_n 2, 1) := by decide +kernel
theorem dL_law_554 : decode cL_law 554 = .ok (.aload_n 0, 1) := by decide +kernel
theorem dL_law_555 : decode cL_law 555 = .ok (.iload_n 3, 1) := by decide +kernel
theorem dL_law_556 : decode cL_law 556 = .ok (.iconst 1, 1) := by decide +kernel
theorem dL_law_557 : decode cL_law 557 = .ok (.iadd, 1) := by decide +kernel
theorem dL_law_558 : decode cL_law 558 = .ok (.iaload, 1) := by decide +kernel
theorem dL_law_559 : decode cL_law 559 = .ok (.aload_n 0, 1) := by decide +kernel
theorem dL_law_560 : decode cL_law 560 = .ok (.iload_n 3, 1) := by decide +kernel
theorem dL_law_561 : decode cL_law 561 = .ok (.iconst 2, 1) := by decide +kernel
theorem dL_law_562 : decode cL_law 562 = .ok (.iadd, 1) := by decide +kernel
theorem dL_law_563 : decode cL_law 563 = .ok (.iaload, 1) := by decide +kernel
theorem dL_law_564 : decode cL_law 564 = .ok (.aload_n 0, 1) := by decide +kernel
theorem dL_law_565 : decode cL_law 565 = .ok (.iload_n 3, 1) := by decide +kernel
theorem dL_law_566 : decode cL_law 566 = .ok (.iconst 3, 1) := by decide +kernel
theorem dL_law_567 : decode cL_law 567 = .ok (.iadd, 1) := by decide +kernel
theorem dL_law_568 : decode cL_law 568 = .ok (.iaload, 1) := by decide +kernel
theorem dL_law_569 : decode cL_law 569 = .ok (.invokevirtual 61, 3) := by decide +kernel
theorem dL_law_572 : decode cL_law 572 = .ok (.if_icmp .eq 294, 3) := by decide +kernel
theorem dL_law_575 : decode cL_law 575 = .ok (.iconst 0, 1) := by decide +kernel
theorem dL_law_576 : decode cL_law 576 = .ok (.ireturn, 1) := by decide +kernel
theorem dL_law_577 : decode cL_law 577 = .ok (.aload_n 1, 1) := by decide +kernel
theorem dL_law_578 : decode cL_law 578 = .ok (.aload_n 0, 1) := by decide +kernel
theorem dL_law_579 : decode cL_law 579 = .ok (.iload_n 3, 1) := by decide +kernel
theorem dL_law_580 : decode cL_law 580 = .ok (.iconst 1, 1) := by decide +kernel
theorem dL_law_581 : decode cL_law 581 = .ok (.iadd, 1) := by decide +kernel
theorem dL_law_582 : decode cL_law 582 = .ok (.iaload, 1) := by decide +kernel
theorem dL_law_583 : decode cL_law 583 = .ok (.invokevirtual 62, 3) := by decide +kernel
theorem dL_law_586 : decode cL_law 586 = .ok (.aload_n 2, 1) := by decide +kernel
theorem dL_law_587 : decode cL_law 587 = .ok (.aload_n 0, 1) := by decide +kernel
theorem dL_law_588 : decode cL_law 588 = .ok (.iload_n 3, 1) := by decide +kernel
theorem dL_law_589 : decode cL_law 589 = .ok (.iconst 1, 1) := by decide +kernel
theorem dL_law_590 : decode cL_law 590 = .ok (.iadd, 1) := by decide +kernel
theorem dL_law_591 : decode cL_law 591 = .ok (.iaload, 1) := by decide +kernel
theorem dL_law_592 : decode cL_law 592 = .ok (.invokevirtual 65, 3) := by decide +kernel
theorem dL_law_595 : decode cL_law 595 = .ok (.if_icmp .eq 271, 3) := by decide +kernel
theorem dL_law_598 : decode cL_law 598 = .ok (.iconst 0, 1) := by decide +kernel
theorem dL_law_599 : decode cL_law 599 = .ok (.ireturn, 1) := by decide +kernel
theorem dL_law_600 : decode cL_law 600 = .ok (.aload_n 1, 1) := by decide +kernel
theorem dL_law_601 : decode cL_law 601 = .ok (.aload_n 0, 1) := by decide +kernel
theorem dL_law_602 : decode cL_law 602 = .ok (.iload_n 3, 1) := by decide +kernel
theorem dL_law_603 : decode cL_law 603 = .ok (.iconst 1, 1) := by decide +kernel
theorem dL_law_604 : decode cL_law 604 = .ok (.iadd, 1) := by decide +kernel
theorem dL_law_605 : decode cL_law 605 = .ok (.iaload, 1) := by decide +kernel
theorem dL_law_606 : decode cL_law 606 = .ok (.invokevirtual 66, 3) := by decide +kernel
theorem dL_law_609 : decode cL_law 609 = .ok (.aload_n 2, 1) := by decide +kernel
theorem dL_law_610 : decode cL_law 610 = .ok (.aload_n 0, 1) := by decide +kernel
theorem dL_law_611 : decode cL_law 611 = .ok (.iload_n 3, 1) := by decide +kernel
theorem dL_law_612 : decode cL_law 612 = .ok (.iconst 1, 1) := by decide +kernel
theorem dL_law_613 : decode cL_law 613 = .ok (.iadd, 1) := by decide +kernel
theorem dL_law_614 : decode cL_law 614 = .ok (.iaload, 1) := by decide +kernel
theorem dL_law_615 : decode cL_law 615 = .ok (.invokevirtual 69, 3) := by decide +kernel
theorem dL_law_618 : decode cL_law 618 = .ok (.if_icmp .eq 248, 3) := by decide +kernel
theorem dL_law_621 : decode cL_law 621 = .ok (.iconst 0, 1) := by decide +kernel
theorem dL_law_622 : decode cL_law 622 = .ok (.ireturn, 1) := by decide +kernel
theorem dL_law_623 : decode cL_law 623 = .ok (.aload_n 1, 1) := by decide +kernel
theorem dL_law_624 : decode cL_law 624 = .ok (.aload_n 0, 1) := by decide +kernel
theorem dL_law_625 : decode cL_law 625 = .ok (.iload_n 3, 1) := by decide +kernel
theorem dL_law_626 : decode cL_law 626 = .ok (.iconst 1, 1) := by decide +kernel
theorem dL_law_627 : decode cL_law 627 = .ok (.iadd, 1) := by decide +kernel
theorem dL_law_628 : decode cL_law 628 = .ok (.iaload, 1) := by decide +kernel
theorem dL_law_629 : decode cL_law 629 = .ok (.invokevirtual 70, 3) := by decide +kernel
theorem dL_law_632 : decode cL_law 632 = .ok (.aload_n 2, 1) := by decide +kernel
theorem dL_law_633 : decode cL_law 633 = .ok (.aload_n 0, 1) := by decide +kernel
theorem dL_law_634 : decode cL_law 634 = .ok (.iload_n 3, 1) := by decide +kernel
theorem dL_law_635 : decode cL_law 635 = .ok (.iconst 1, 1) := by decide +kernel
theorem dL_law_636 : decode cL_law 636 = .ok (.iadd, 1) := by decide +kernel
theorem dL_law_637 : decode cL_law 637 = .ok (.iaload, 1) := by decide +kernel
theorem dL_law_638 : decode cL_law 638 = .ok (.invokevirtual 73, 3) := by decide +kernel
theorem dL_law_641 : decode cL_law 641 = .ok (.if_icmp .eq 225, 3) := by decide +kernel
theorem dL_law_644 : decode cL_law 644 = .ok (.iconst 0, 1) := by decide +kernel
theorem dL_law_645 : decode cL_law 645 = .ok (.ireturn, 1) := by decide +kernel
theorem dL_law_646 : decode cL_law 646 = .ok (.aload_n 1, 1) := by decide +kernel
theorem dL_law_647 : decode cL_law 647 = .ok (.aload_n 0, 1) := by decide +kernel
theorem dL_law_648 : decode cL_law 648 = .ok (.iload_n 3, 1) := by decide +kernel
theorem dL_law_649 : decode cL_law 649 = .ok (.iconst 1, 1) := by decide +kernel
theorem dL_law_650 : decode cL_law 650 = .ok (.iadd, 1) := by decide +kernel
theorem dL_law_651 : decode cL_law 651 = .ok (.iaload, 1) := by decide +kernel
theorem dL_law_652 : decode cL_law 652 = .ok (.invokevirtual 74, 3) := by decide +kernel
theorem dL_law_655 : decode cL_law 655 = .ok (.aload_n 2, 1) := by decide +kernel
theorem dL_law_656 : decode cL_law 656 = .ok (.aload_n 0, 1) := by decide +kernel
theorem dL_law_657 : decode cL_law 657 = .ok (.iload_n 3, 1) := by decide +kernel
theorem dL_law_658 : decode cL_law 658 = .ok (.iconst 1, 1) := by decide +kernel
theorem dL_law_659 : decode cL_law 659 = .ok (.iadd, 1) := by decide +kernel
theorem dL_law_660 : decode cL_law 660 = .ok (.iaload, 1) := by decide +kernel
theorem dL_law_661 : decode cL_law 661 = .ok (.invokevirtual 77, 3) := by decide +kernel
theorem dL_law_664 : decode cL_law 664 = .ok (.if_icmp .eq 202, 3) := by decide +kernel
theorem dL_law_667 : decode cL_law 667 = .ok (.iconst 0, 1) := by decide +kernel
theorem dL_law_668 : decode cL_law 668 = .ok (.ireturn, 1) := by decide +kernel
theorem dL_law_669 : decode cL_law 669 = .ok (.aload_n 1, 1) := by decide +kernel
theorem dL_law_670 : decode cL_law 670 = .ok (.aload_n 0, 1) := by decide +kernel
theorem dL_law_671 : decode cL_law 671 = .ok (.iload_n 3, 1) := by decide +kernel
theorem dL_law_672 : decode cL_law 672 = .ok (.iconst 1, 1) := by decide +kernel
theorem dL_law_673 : decode cL_law 673 = .ok (.iadd, 1) := by decide +kernel
theorem dL_law_674 : decode cL_law 674 = .ok (.iaload, 1) := by decide +kernel
theorem dL_law_675 : decode cL_law 675 = .ok (.invokevirtual 78, 3) := by decide +kernel
theorem dL_law_678 : decode cL_law 678 = .ok (.aload_n 2, 1) := by decide +kernel
theorem dL_law_679 : decode cL_law 679 = .ok (.aload_n 0, 1) := by decide +kernel
theorem dL_law_680 : decode cL_law 680 = .ok (.iload_n 3, 1) := by decide +kernel
theorem dL_law_681 : decode cL_law 681 = .ok (.iconst 1, 1) := by decide +kernel
theorem dL_law_682 : decode cL_law 682 = .ok (.iadd, 1) := by decide +kernel
theorem dL_law_683 : decode cL_law 683 = .ok (.iaload, 1) := by decide +kernel
theorem dL_law_684 : decode cL_law 684 = .ok (.invokevirtual 81, 3) := by decide +kernel
theorem dL_law_687 : decode cL_law 687 = .ok (.if_icmp .eq 179, 3) := by decide +kernel
theorem dL_law_690 : decode cL_law 690 = .ok (.iconst 0, 1) := by decide +kernel
theorem dL_law_691 : decode cL_law 691 = .ok (.ireturn, 1) := by decide +kernel
theorem dL_law_692 : decode cL_law 692 = .ok (.aload_n 1, 1) := by decide +kernel
theorem dL_law_693 : decode cL_law 693 = .ok (.aload_n 0, 1) := by decide +kernel
theorem dL_law_694 : decode cL_law 694 = .ok (.iload_n 3, 1) := by decide +kernel
theorem dL_law_695 : decode cL_law 695 = .ok (.iconst 1, 1) := by decide +kernel
theorem dL_law_696 : decode cL_law 696 = .ok (.iadd, 1) := by decide +kernel
theorem dL_law_697 : decode cL_law 697 = .ok (.iaload, 1) := by decide +kernel
theorem dL_law_698 : decode cL_law 698 = .ok (.invokevirtual 82, 3) := by decide +kernel
theorem dL_law_701 : decode cL_law 701 = .ok (.aload_n 2, 1) := by decide +kernel
theorem dL_law_702 : decode cL_law 702 = .ok (.aload_n 0, 1) := by decide +kernel
theorem dL_law_703 : decode cL_law 703 = .ok (.iload_n 3, 1) := by decide +kernel
theorem dL_law_704 : decode cL_law 704 = .ok (.iconst 1, 1) := by decide +kernel
theorem dL_law_705 : decode cL_law 705 = .ok (.iadd, 1) := by decide +kernel
theorem dL_law_706 : decode cL_law 706 = .ok (.iaload, 1) := by decide +kernel
theorem dL_law_707 : decode cL_law 707 = .ok (.invokevirtual 85, 3) := by decide +kernel
theorem dL_law_710 : decode cL_law 710 = .ok (.if_icmp .eq 156, 3) := by decide +kernel
theorem dL_law_713 : decode cL_law 713 = .ok (.iconst 0, 1) := by decide +kernel
theorem dL_law_714 : decode cL_law 714 = .ok (.ireturn, 1) := by decide +kernel
theorem dL_law_715 : decode cL_law 715 = .ok (.aload_n 1, 1) := by decide +kernel
theorem dL_law_716 : decode cL_law 716 = .ok (.aload_n 0, 1) := by decide +kernel
theorem dL_law_717 : decode cL_law 717 = .ok (.iload_n 3, 1) := by decide +kernel
theorem dL_law_718 : decode cL_law 718 = .ok (.iconst 1, 1) := by decide +kernel
theorem dL_law_719 : decode cL_law 719 = .ok (.iadd, 1) := by decide +kernel
theorem dL_law_720 : decode cL_law 720 = .ok (.iaload, 1) := by decide +kernel
theorem dL_law_721 : decode cL_law 721 = .ok (.i2l, 1) := by decide +kernel
theorem dL_law_722 : decode cL_law 722 = .ok (.bipush 32, 2) := by decide +kernel
theorem dL_law_724 : decode cL_law 724 = .ok (.lshl, 1) := by decide +kernel
theorem dL_law_725 : decode cL_law 725 = .ok (.aload_n 0, 1) := by decide +kernel
theorem dL_law_726 : decode cL_law 726 = .ok (.iload_n 3, 1) := by decide +kernel
theorem dL_law_727 : decode cL_law 727 = .ok (.iconst 2, 1) := by decide +kernel
theorem dL_law_728 : decode cL_law 728 = .ok (.iadd, 1) := by decide +kernel
theorem dL_law_729 : decode cL_law 729 = .ok (.iaload, 1) := by decide +kernel
theorem dL_law_730 : decode cL_law 730 = .ok (.i2l, 1) := by decide +kernel
theorem dL_law_731 : decode cL_law 731 = .ok (.ldc2_w 86, 3) := by decide +kernel
theorem dL_law_734 : decode cL_law 734 = .ok (.land, 1) := by decide +kernel
theorem dL_law_735 : decode cL_law 735 = .ok (.lor, 1) := by decide +kernel
theorem dL_law_736 : decode cL_law 736 = .ok (.invokevirtual 88, 3) := by decide +kernel
theorem dL_law_739 : decode cL_law 739 = .ok (.aload_n 2, 1) := by decide +kernel
theorem dL_law_740 : decode cL_law 740 = .ok (.aload_n 0, 1) := by decide +kernel
theorem dL_law_741 : decode cL_law 741 = .ok (.iload_n 3, 1) := by decide +kernel
theorem dL_law_742 : decode cL_law 742 = .ok (.iconst 1, 1) := by decide +kernel
theorem dL_law_743 : decode cL_law 743 = .ok (.iadd, 1) := by decide +kernel
theorem dL_law_744 : decode cL_law 744 = .ok (.iaload, 1) := by decide +kernel
theorem dL_law_745 : decode cL_law 745 = .ok (.i2l, 1) := by decide +kernel
theorem dL_law_746 : decode cL_law 746 = .ok (.bipush 32, 2) := by decide +kernel
theorem dL_law_748 : decode cL_law 748 = .ok (.lshl, 1) := by decide +kernel
theorem dL_law_749 : decode cL_law 749 = .ok (.aload_n 0, 1) := by decide +kernel
theorem dL_law_750 : decode cL_law 750 = .ok (.iload_n 3, 1) := by decide +kernel
theorem dL_law_751 : decode cL_law 751 = .ok (.iconst 2, 1) := by decide +kernel
theorem dL_law_752 : decode cL_law 752 = .ok (.iadd, 1) := by decide +kernel
theorem dL_law_753 : decode cL_law 753 = .ok (.iaload, 1) := by decide +kernel
theorem dL_law_754 : decode cL_law 754 = .ok (.i2l, 1) := by decide +kernel
theorem dL_law_755 : decode cL_law 755 = .ok (.ldc2_w 86, 3) := by decide +kernel
theorem dL_law_758 : decode cL_law 758 = .ok (.land, 1) := by decide +kernel
theorem dL_law_759 : decode cL_law 759 = .ok (.lor, 1) := by decide +kernel
theorem dL_law_760 : decode cL_law 760 = .ok (.invokevirtual 92, 3) := by decide +kernel
theorem dL_law_763 : decode cL_law 763 = .ok (.if_icmp .eq 103, 3) := by decide +kernel
theorem dL_law_766 : decode cL_law 766 = .ok (.iconst 0, 1) := by decide +kernel
theorem dL_law_767 : decode cL_law 767 = .ok (.ireturn, 1) := by decide +kernel
theorem dL_law_768 : decode cL_law 768 = .ok (.aload_n 1, 1) := by decide +kernel
theorem dL_law_769 : decode cL_law 769 = .ok (.invokevirtual 93, 3) := by decide +kernel
theorem dL_law_772 : decode cL_law 772 = .ok (.aload_n 2, 1) := by decide +kernel
theorem dL_law_773 : decode cL_law 773 = .ok (.invokevirtual 97, 3) := by decide +kernel
theorem dL_law_776 : decode cL_law 776 = .ok (.if_icmp .eq 90, 3) := by decide +kernel
theorem dL_law_779 : decode cL_law 779 = .ok (.iconst 0, 1) := by decide +kernel
theorem dL_law_780 : decode cL_law 780 = .ok (.ireturn, 1) := by decide +kernel
theorem dL_law_781 : decode cL_law 781 = .ok (.aload_n 1, 1) := by decide +kernel
theorem dL_law_782 : decode cL_law 782 = .ok (.invokevirtual 98, 3) := by decide +kernel
theorem dL_law_785 : decode cL_law 785 = .ok (.aload_n 2, 1) := by decide +kernel
theorem dL_law_786 : decode cL_law 786 = .ok (.invokevirtual 101, 3) := by decide +kernel
theorem dL_law_789 : decode cL_law 789 = .ok (.if_icmp .eq 77, 3) := by decide +kernel
theorem dL_law_792 : decode cL_law 792 = .ok (.iconst 0, 1) := by decide +kernel
theorem dL_law_793 : decode cL_law 793 = .ok (.ireturn, 1) := by decide +kernel
theorem dL_law_794 : decode cL_law 794 = .ok (.aload_n 1, 1) := by decide +kernel
theorem dL_law_795 : decode cL_law 795 = .ok (.invokevirtual 102, 3) := by decide +kernel
theorem dL_law_798 : decode cL_law 798 = .ok (.aload_n 2, 1) := by decide +kernel
theorem dL_law_799 : decode cL_law 799 = .ok (.invokevirtual 105, 3) := by decide +kernel
theorem dL_law_802 : decode cL_law 802 = .ok (.if_icmp .eq 64, 3) := by decide +kernel
theorem dL_law_805 : decode cL_law 805 = .ok (.iconst 0, 1) := by decide +kernel
theorem dL_law_806 : decode cL_law 806 = .ok (.ireturn, 1) := by decide +kernel
theorem dL_law_807 : decode cL_law 807 = .ok (.aload_n 1, 1) := by decide +kernel
theorem dL_law_808 : decode cL_law 808 = .ok (.invokevirtual 106, 3) := by decide +kernel
theorem dL_law_811 : decode cL_law 811 = .ok (.aload_n 2, 1) := by decide +kernel
theorem dL_law_812 : decode cL_law 812 = .ok (.invokevirtual 109, 3) := by decide +kernel
theorem dL_law_815 : decode cL_law 815 = .ok (.if_icmp .eq 51, 3) := by decide +kernel
theorem dL_law_818 : decode cL_law 818 = .ok (.iconst 0, 1) := by decide +kernel
theorem dL_law_819 : decode cL_law 819 = .ok (.ireturn, 1) := by decide +kernel
theorem dL_law_820 : decode cL_law 820 = .ok (.aload_n 1, 1) := by decide +kernel
theorem dL_law_821 : decode cL_law 821 = .ok (.aload_n 0, 1) := by decide +kernel
theorem dL_law_822 : decode cL_law 822 = .ok (.iload_n 3, 1) := by decide +kernel
theorem dL_law_823 : decode cL_law 823 = .ok (.iconst 1, 1) := by decide +kernel
theorem dL_law_824 : decode cL_law 824 = .ok (.iadd, 1) := by decide +kernel
theorem dL_law_825 : decode cL_law 825 = .ok (.iaload, 1) := by decide +kernel
theorem dL_law_826 : decode cL_law 826 = .ok (.invokevirtual 110, 3) := by decide +kernel
theorem dL_law_829 : decode cL_law 829 = .ok (.aload_n 2, 1) := by decide +kernel
theorem dL_law_830 : decode cL_law 830 = .ok (.aload_n 0, 1) := by decide +kernel
theorem dL_law_831 : decode cL_law 831 = .ok (.iload_n 3, 1) := by decide +kernel
theorem dL_law_832 : decode cL_law 832 = .ok (.iconst 1, 1) := by decide +kernel
theorem dL_law_833 : decode cL_law 833 = .ok (.iadd, 1) := by decide +kernel
theorem dL_law_834 : decode cL_law 834 = .ok (.iaload, 1) := by decide +kernel
theorem dL_law_835 : decode cL_law 835 = .ok (.invokevirtual 113, 3) := by decide +kernel
theorem dL_law_838 : decode cL_law 838 = .ok (.if_icmp .eq 28, 3) := by decide +kernel
theorem dL_law_841 : decode cL_law 841 = .ok (.iconst 0, 1) := by decide +kernel
theorem dL_law_842 : decode cL_law 842 = .ok (.ireturn, 1) := by decide +kernel
theorem dL_law_843 : decode cL_law 843 = .ok (.aload_n 1, 1) := by decide +kernel
theorem dL_law_844 : decode cL_law 844 = .ok (.aload_n 0, 1) := by decide +kernel
theorem dL_law_845 : decode cL_law 845 = .ok (.iload_n 3, 1) := by decide +kernel
theorem dL_law_846 : decode cL_law 846 = .ok (.iconst 1, 1) := by decide +kernel
theorem dL_law_847 : decode cL_law 847 = .ok (.iadd, 1) := by decide +kernel
theorem dL_law_848 : decode cL_law 848 = .ok (.iaload, 1) := by decide +kernel
theorem dL_law_849 : decode cL_law 849 = .ok (.invokevirtual 114, 3) := by decide +kernel
theorem dL_law_852 : decode cL_law 852 = .ok (.aload_n 2, 1) := by decide +kernel
theorem dL_law_853 : decode cL_law 853 = .ok (.aload_n 0, 1) := by decide +kernel
theorem dL_law_854 : decode cL_law 854 = .ok (.iload_n 3, 1) := by decide +kernel
theorem dL_law_855 : decode cL_law 855 = .ok (.iconst 1, 1) := by decide +kernel
theorem dL_law_856 : decode cL_law 856 = .ok (.iadd, 1) := by decide +kernel
theorem dL_law_857 : decode cL_law 857 = .ok (.iaload, 1) := by decide +kernel
theorem dL_law_858 : decode cL_law 858 = .ok (.invokevirtual 117, 3) := by decide +kernel
theorem dL_law_861 : decode cL_law 861 = .ok (.if_icmp .eq 5, 3) := by decide +kernel
theorem dL_law_864 : decode cL_law 864 = .ok (.iconst 0, 1) := by decide +kernel
theorem dL_law_865 : decode cL_law 865 = .ok (.ireturn, 1) := by decide +kernel
theorem dL_law_866 : decode cL_law 866 = .ok (.iinc 3 6, 3) := by decide +kernel
theorem dL_law_869 : decode cL_law 869 = .ok (.goto (-851), 3) := by decide +kernel
theorem dL_law_872 : decode cL_law 872 = .ok (.iconst 1, 1) := by decide +kernel
theorem dL_law_873 : decode cL_law 873 = .ok (.ireturn, 1) := by decide +kernel
end
section
/-- the words that every method is given: those of the tables that hold in any state of the launch -/
def xT : List Cond := lw_tbl.filter goodWord
theorem xT_ap {w : Cond} (h : w ∈ k2_sels lw_privs) (g : goodWord w = true) : w ∈ xT := List.mem_filter.mpr ⟨List.mem_append_left _ h, g⟩
theorem xT_a1 {w : Cond} (h : w ∈ tables_1_1) (g : goodWord w = true) : w ∈ xT := List.mem_filter.mpr ⟨List.mem_append_right _ (List.mem_append_left _ h), g⟩
theorem xT_a2 {w : Cond} (h : w ∈ tables_1_2) (g : goodWord w = true) : w ∈ xT := List.mem_filter.mpr ⟨List.mem_append_right _ (List.mem_append_right _ (List.mem_append_left _ h)), g⟩
theorem xT_a3 {w : Cond} (h : w ∈ tables_1_3) (g : goodWord w = true) : w ∈ xT := List.mem_filter.mpr ⟨List.mem_append_right _ (List.mem_append_right _ (List.mem_append_right _ (List.mem_append_left _ h))), g⟩
theorem xT_a4 {w : Cond} (h : w ∈ tables_1_4) (g : goodWord w = true) : w ∈ xT := List.mem_filter.mpr ⟨List.mem_append_right _ (List.mem_append_right _ (List.mem_append_right _ (List.mem_append_right _ h))), g⟩
theorem xt_0 : Cond.selects RX3 yX3_weightError yX3_weightError ∈ xT := xT_ap (List.mem_of_getElem? (i := 0) rfl) rfl
theorem xt_1 : Cond.selects RX3 yX3_record yX3_record ∈ xT := xT_ap (List.mem_of_getElem? (i := 1) rfl) rfl
theorem xt_2 : Cond.selects RX0 yX0_forgetPossible yX0_forgetPossible ∈ xT := xT_ap (List.mem_of_getElem? (i := 2) rfl) rfl
theorem xt_3 : Cond.selects RX3 yX3_beliefError yX3_beliefError ∈ xT := xT_ap (List.mem_of_getElem? (i := 3) rfl) rfl
theorem xt_4 : Cond.selects RX2 yX2_look yX2_look ∈ xT := xT_ap (List.mem_of_getElem? (i := 4) rfl) rfl
theorem xt_5 : Cond.selects RX2 yX2_addPlans yX2_addPlans ∈ xT := xT_ap (List.mem_of_getElem? (i := 5) rfl) rfl
theorem xt_6 : Cond.selects RX0 yX0_bestBy yX0_bestBy ∈ xT := xT_ap (List.mem_of_getElem? (i := 6) rfl) rfl
theorem xt_7 : Cond.selects RX0 yX0_worthBy yX0_worthBy ∈ xT := xT_ap (List.mem_of_getElem? (i := 7) rfl) rfl
theorem xt_8 : Cond.selects RX0 yX0_mostByAny yX0_mostByAny ∈ xT := xT_ap (List.mem_of_getElem? (i := 8) rfl) rfl
theorem xt_9 : Cond.selects RX0 yX0_leastByAny yX0_leastByAny ∈ xT := xT_ap (List.mem_of_getElem? (i := 9) rfl) rfl
theorem xt_10 : Cond.selects RX1 yX1_faultOfOrder yX1_faultOfOrder ∈ xT := xT_ap (List.mem_of_getElem? (i := 10) rfl) rfl
theorem xt_11 : Cond.selects RX1 yX1_shapeOf yX1_shapeOf ∈ xT := xT_ap (List.mem_of_getElem? (i := 11) rfl) rfl
theorem xt_12 : Cond.selects RX3 yX3_isDone yX3_isDone ∈ xT := xT_ap (List.mem_of_getElem? (i := 12) rfl) rfl
theorem xt_13 : Cond.selects RX3 yX3_isChanged yX3_isChanged ∈ xT := xT_ap (List.mem_of_getElem? (i := 13) rfl) rfl
theorem xt_14 : Cond.selects RX4 yX4_code yX4_code ∈ xT := xT_ap (List.mem_of_getElem? (i := 14) rfl) rfl
theorem xt_15 : Cond.selects RX4 yX4_records yX4_records ∈ xT := xT_ap (List.mem_of_getElem? (i := 15) rfl) rfl
theorem xt_16 : Cond.selects RX4 yX4_mayWeigh yX4_mayWeigh ∈ xT := xT_ap (List.mem_of_getElem? (i := 16) rfl) rfl
theorem xt_17 : Cond.selects RX4 yX4_changes yX4_changes ∈ xT := xT_ap (List.mem_of_getElem? (i := 17) rfl) rfl
theorem xt_18 : Cond.selects RX4 yX4_mayBelieve yX4_mayBelieve ∈ xT := xT_ap (List.mem_of_getElem? (i := 18) rfl) rfl
theorem xt_19 : Cond.selects RX4 yX4_codeAt yX4_codeAt ∈ xT := xT_ap (List.mem_of_getElem? (i := 19) rfl) rfl
theorem xt_20 : Cond.selects RX4 yX4_looksAt yX4_looksAt ∈ xT := xT_ap (List.mem_of_getElem? (i := 20) rfl) rfl
theorem xt_21 : Cond.selects RX4 yX4_holds yX4_holds ∈ xT := xT_ap (List.mem_of_getElem? (i := 21) rfl) rfl
theorem xt_22 : Cond.selects RX4 yX4_unhappy yX4_unhappy ∈ xT := xT_ap (List.mem_of_getElem? (i := 22) rfl) rfl
theorem xt_23 : Cond.selects RX4 yX4_isThere yX4_isThere ∈ xT := xT_ap (List.mem_of_getElem? (i := 23) rfl) rfl
theorem xt_24 : Cond.selects RX4 yX4_most yX4_most ∈ xT := xT_ap (List.mem_of_getElem? (i := 24) rfl) rfl
theorem xt_25 : Cond.selects RX4 yX4_has yX4_has ∈ xT := xT_ap (List.mem_of_getElem? (i := 25) rfl) rfl
theorem xt_26 : Cond.selects RX4 yX4_payoffOf yX4_payoffOf ∈ xT := xT_ap (List.mem_of_getElem? (i := 26) rfl) rfl
theorem xt_27 : Cond.selects RX4 yX4_wrong yX4_wrong ∈ xT := xT_ap (List.mem_of_getElem? (i := 27) rfl) rfl
theorem xt_28 : Cond.selects RX4 yX4_best yX4_best ∈ xT := xT_ap (List.mem_of_getElem? (i := 28) rfl) rfl
theorem xt_29 : Cond.selects RX4 yX4_believes yX4_believes ∈ xT := xT_ap (List.mem_of_getElem? (i := 29) rfl) rfl
theorem xt_30 : Cond.selects RX4 yX4_senders yX4_senders ∈ xT := xT_ap (List.mem_of_getElem? (i := 30) rfl) rfl
theorem xt_31 : Cond.selects RX4 yX4_bestSet yX4_bestSet ∈ xT := xT_ap (List.mem_of_getElem? (i := 31) rfl) rfl
theorem xt_32 : Cond.selects RX4 yX4_worth yX4_worth ∈ xT := xT_ap (List.mem_of_getElem? (i := 32) rfl) rfl
theorem xt_33 : Cond.selects RX4 yX4_counts yX4_counts ∈ xT := xT_ap (List.mem_of_getElem? (i := 33) rfl) rfl
theorem xt_34 : Cond.selects RX4 yX4_isRefined yX4_isRefined ∈ xT := xT_ap (List.mem_of_getElem? (i := 34) rfl) rfl
theorem xt_35 : Cond.selects RX4 yX4_isBarred yX4_isBarred ∈ xT := xT_ap (List.mem_of_getElem? (i := 35) rfl) rfl
theorem xt_36 : Cond.selects RX4 yX4_there yX4_there ∈ xT := xT_ap (List.mem_of_getElem? (i := 36) rfl) rfl
theorem xt_37 : Cond.selects RX4 yX4_never yX4_never ∈ xT := xT_ap (List.mem_of_getElem? (i := 37) rfl) rfl
theorem xt_38 : Cond.selects RX4 yX4_possible yX4_possible ∈ xT := xT_ap (List.mem_of_getElem? (i := 38) rfl) rfl
theorem xt_39 : Cond.selects RX4 yX4_isBeyond yX4_isBeyond ∈ xT := xT_ap (List.mem_of_getElem? (i := 39) rfl) rfl
theorem xt_40 : Cond.selects RX4 yX4_sort yX4_sort ∈ xT := xT_ap (List.mem_of_getElem? (i := 40) rfl) rfl
theorem xt_41 : Cond.selects RX4 yX4_receives yX4_receives ∈ xT := xT_ap (List.mem_of_getElem? (i := 41) rfl) rfl
theorem xt_42 : Cond.selects RX4 yX4_looks yX4_looks ∈ xT := xT_ap (List.mem_of_getElem? (i := 42) rfl) rfl
theorem xt_43 : Cond.selects RX4 yX4_sum yX4_sum ∈ xT := xT_ap (List.mem_of_getElem? (i := 43) rfl) rfl
theorem xt_44 : Cond.selects RX4 yX4_sentSet yX4_sentSet ∈ xT := xT_ap (List.mem_of_getElem? (i := 44) rfl) rfl
theorem xt_45 : Cond.selects RX4 yX4_isText yX4_isText ∈ xT := xT_ap (List.mem_of_getElem? (i := 45) rfl) rfl
theorem xt_46 : Cond.selects RX4 yX4_isOrder yX4_isOrder ∈ xT := xT_ap (List.mem_of_getElem? (i := 46) rfl) rfl
theorem xt_47 : Cond.selects RX4 yX4_isFigure yX4_isFigure ∈ xT := xT_ap (List.mem_of_getElem? (i := 47) rfl) rfl
theorem xt_48 : Cond.selects RX4 yX4_isAt yX4_isAt ∈ xT := xT_ap (List.mem_of_getElem? (i := 48) rfl) rfl
theorem xt_49 : Cond.selects RX4 yX4_isSign yX4_isSign ∈ xT := xT_ap (List.mem_of_getElem? (i := 49) rfl) rfl
theorem xt_50 : Cond.selects RX4 yX4_isPay yX4_isPay ∈ xT := xT_ap (List.mem_of_getElem? (i := 50) rfl) rfl
theorem xt_51 : Cond.selects RX4 yX4_does yX4_does ∈ xT := xT_ap (List.mem_of_getElem? (i := 51) rfl) rfl
theorem xt_52 : Cond.initialized RL ∈ xT := xT_a1 (List.mem_of_getElem? (i := 0) rfl) rfl
theorem xt_53 : Cond.initialized RX3 ∈ xT := xT_a1 (List.mem_of_getElem? (i := 1) rfl) rfl
theorem xt_54 : Cond.initialized RX0 ∈ xT := xT_a1 (List.mem_of_getElem? (i := 2) rfl) rfl
theorem xt_55 : Cond.initialized RJ7 ∈ xT := xT_a1 (List.mem_of_getElem? (i := 3) rfl) rfl
theorem xt_56 : Cond.initialized RX2 ∈ xT := xT_a1 (List.mem_of_getElem? (i := 4) rfl) rfl
theorem xt_57 : Cond.initialized RX1 ∈ xT := xT_a1 (List.mem_of_getElem? (i := 5) rfl) rfl
theorem xt_58 : Cond.initialized RX4 ∈ xT := xT_a1 (List.mem_of_getElem? (i := 6) rfl) rfl
theorem xt_59 : Cond.initialized RJ10 ∈ xT := xT_a1 (List.mem_of_getElem? (i := 7) rfl) rfl
theorem xt_60 : Cond.initialized RJ9 ∈ xT := xT_a1 (List.mem_of_getElem? (i := 8) rfl) rfl
theorem xt_61 : Cond.initialized RJ6 ∈ xT := xT_a1 (List.mem_of_getElem? (i := 9) rfl) rfl
theorem xt_62 : Cond.initialized RJ0 ∈ xT := xT_a1 (List.mem_of_getElem? (i := 10) rfl) rfl
theorem xt_63 : Cond.initialized RJ1 ∈ xT := xT_a1 (List.mem_of_getElem? (i := 11) rfl) rfl
theorem xt_64 : Cond.initialized RJ3 ∈ xT := xT_a1 (List.mem_of_getElem? (i := 12) rfl) rfl
theorem xt_65 : Cond.initialized RJ2 ∈ xT := xT_a1 (List.mem_of_getElem? (i := 13) rfl) rfl
theorem xt_66 : Cond.classLink RL 7 RX3 ∈ xT := xT_a1 (List.mem_of_getElem? (i := 14) rfl) rfl
theorem xt_68 : Cond.methodLink RL 9 yX3_init ∈ xT := xT_a1 (List.mem_of_getElem? (i := 16) rfl) rfl
theorem xt_69 : Cond.instanceMethod yX3_init ∈ xT := xT_a1 (List.mem_of_getElem? (i := 17) rfl) rfl
theorem xt_70 : Cond.code yX3_init prog_1_method_1_code 1 none ∈ xT := xT_a1 (List.mem_of_getElem? (i := 18) rfl) rfl
theorem xt_71 : Cond.methodLink RX3 3 objectInit ∈ xT := xT_a1 (List.mem_of_getElem? (i := 19) rfl) rfl
theorem xt_72 : Cond.instanceMethod objectInit ∈ xT := xT_a1 (List.mem_of_getElem? (i := 20) rfl) rfl
theorem xt_73 : Cond.code objectInit object_method_1_code 1 none ∈ xT := xT_a1 (List.mem_of_getElem? (i := 21) rfl) rfl
theorem xt_74 : Cond.classLink RX3 9 RX0 ∈ xT := xT_a1 (List.mem_of_getElem? (i := 22) rfl) rfl
theorem xt_76 : Cond.methodLink RX3 11 yX0_init ∈ xT := xT_a1 (List.mem_of_getElem? (i := 24) rfl) rfl
theorem xt_77 : Cond.instanceMethod yX0_init ∈ xT := xT_a1 (List.mem_of_getElem? (i := 25) rfl) rfl
theorem xt_78 : Cond.code yX0_init prog_2_method_1_code 1 none ∈ xT := xT_a1 (List.mem_of_getElem? (i := 26) rfl) rfl
theorem xt_79 : Cond.methodLink RX0 5 objectInit ∈ xT := xT_a1 (List.mem_of_getElem? (i := 27) rfl) rfl
theorem xt_80 : Cond.methodLink RX0 18 yJ7_fill_fda19 ∈ xT := xT_a1 (List.mem_of_getElem? (i := 28) rfl) rfl
theorem xt_81 : Cond.static yJ7_fill_fda19 ∈ xT := xT_a1 (List.mem_of_getElem? (i := 29) rfl) rfl
theorem xt_82 : Cond.code yJ7_fill_fda19 prog_13_method_104_code 5 none ∈ xT := xT_a1 (List.mem_of_getElem? (i := 30) rfl) rfl
theorem xt_83 : Cond.methodLink RJ7 13 yJ7_rangeCheck_23922 ∈ xT := xT_a1 (List.mem_of_getElem? (i := 31) rfl) rfl
theorem xt_84 : Cond.static yJ7_rangeCheck_23922 ∈ xT := xT_a1 (List.mem_of_getElem? (i := 32) rfl) rfl
theorem xt_85 : Cond.code yJ7_rangeCheck_23922 prog_13_method_30_code 3 none ∈ xT := xT_a1 (List.mem_of_getElem? (i := 33) rfl) rfl
theorem xt_86 : Cond.fieldLink RX0 11 "MessageGames$Game" "cells" "[I" ∈ xT := xT_a1 (List.mem_of_getElem? (i := 34) rfl) rfl
theorem xt_87 : Cond.fieldLink RX0 15 "MessageGames$Game" "possible" "[I" ∈ xT := xT_a1 (List.mem_of_getElem? (i := 35) rfl) rfl
theorem xt_88 : Cond.laysFinal RX0 "MessageGames$Game" "cells" "[I" ∈ xT := xT_a1 (List.mem_of_getElem? (i := 36) rfl) rfl
theorem xt_89 : Cond.laysFinal RX0 "MessageGames$Game" "possible" "[I" ∈ xT := xT_a1 (List.mem_of_getElem? (i := 38) rfl) rfl
theorem xt_90 : Cond.arrayClass .int ∈ xT := xT_a1 (List.mem_of_getElem? (i := 41) rfl) rfl
theorem xt_91 : Cond.classLink RX3 16 RX2 ∈ xT := xT_a1 (List.mem_of_getElem? (i := 42) rfl) rfl
theorem xt_93 : Cond.methodLink RX3 18 yX2_init ∈ xT := xT_a1 (List.mem_of_getElem? (i := 44) rfl) rfl
theorem xt_94 : Cond.instanceMethod yX2_init ∈ xT := xT_a1 (List.mem_of_getElem? (i := 45) rfl) rfl
theorem xt_95 : Cond.code yX2_init prog_4_method_1_code 1 none ∈ xT := xT_a1 (List.mem_of_getElem? (i := 46) rfl) rfl
theorem xt_96 : Cond.methodLink RX2 3 objectInit ∈ xT := xT_a1 (List.mem_of_getElem? (i := 47) rfl) rfl
theorem xt_97 : Cond.classLink RX2 9 RX0 ∈ xT := xT_a1 (List.mem_of_getElem? (i := 48) rfl) rfl
theorem xt_98 : Cond.methodLink RX2 11 yX0_init ∈ xT := xT_a1 (List.mem_of_getElem? (i := 49) rfl) rfl
theorem xt_99 : Cond.fieldLink RX2 12 "MessageGames$Survey" "trial" "LMessageGames$Game;" ∈ xT := xT_a1 (List.mem_of_getElem? (i := 50) rfl) rfl
theorem xt_100 : Cond.fieldLink RX2 18 "MessageGames$Survey" "codes" "[I" ∈ xT := xT_a1 (List.mem_of_getElem? (i := 51) rfl) rfl
theorem xt_101 : Cond.fieldLink RX2 22 "MessageGames$Survey" "numbers" "[I" ∈ xT := xT_a1 (List.mem_of_getElem? (i := 52) rfl) rfl
theorem xt_102 : Cond.fieldLink RX2 25 "MessageGames$Survey" "isMade" "Z" ∈ xT := xT_a1 (List.mem_of_getElem? (i := 53) rfl) rfl
theorem xt_103 : Cond.laysFinal RX2 "MessageGames$Survey" "trial" "LMessageGames$Game;" ∈ xT := xT_a1 (List.mem_of_getElem? (i := 54) rfl) rfl
theorem xt_104 : Cond.laysFinal RX2 "MessageGames$Survey" "codes" "[I" ∈ xT := xT_a1 (List.mem_of_getElem? (i := 56) rfl) rfl
theorem xt_105 : Cond.laysFinal RX2 "MessageGames$Survey" "numbers" "[I" ∈ xT := xT_a1 (List.mem_of_getElem? (i := 58) rfl) rfl
theorem xt_106 : Cond.lays RX2 "MessageGames$Survey" "isMade" "Z" ∈ xT := xT_a1 (List.mem_of_getElem? (i := 60) rfl) rfl
theorem xt_107 : Cond.classLink RX3 23 RX1 ∈ xT := xT_a1 (List.mem_of_getElem? (i := 63) rfl) rfl
theorem xt_109 : Cond.methodLink RX3 25 yX1_init ∈ xT := xT_a1 (List.mem_of_getElem? (i := 65) rfl) rfl
theorem xt_110 : Cond.instanceMethod yX1_init ∈ xT := xT_a1 (List.mem_of_getElem? (i := 66) rfl) rfl
theorem xt_111 : Cond.code yX1_init prog_3_method_1_code 1 none ∈ xT := xT_a1 (List.mem_of_getElem? (i := 67) rfl) rfl
theorem xt_112 : Cond.methodLink RX1 3 objectInit ∈ xT := xT_a1 (List.mem_of_getElem? (i := 68) rfl) rfl
theorem xt_113 : Cond.fieldLink RX1 9 "MessageGames$Pad" "signs" "[I" ∈ xT := xT_a1 (List.mem_of_getElem? (i := 69) rfl) rfl
theorem xt_114 : Cond.fieldLink RX1 15 "MessageGames$Pad" "length" "I" ∈ xT := xT_a1 (List.mem_of_getElem? (i := 70) rfl) rfl
theorem xt_115 : Cond.laysFinal RX1 "MessageGames$Pad" "signs" "[I" ∈ xT := xT_a1 (List.mem_of_getElem? (i := 71) rfl) rfl
theorem xt_116 : Cond.lays RX1 "MessageGames$Pad" "length" "I" ∈ xT := xT_a1 (List.mem_of_getElem? (i := 73) rfl) rfl
theorem xt_117 : Cond.fieldLink RX3 12 "MessageGames" "game" "LMessageGames$Game;" ∈ xT := xT_a1 (List.mem_of_getElem? (i := 76) rfl) rfl
theorem xt_118 : Cond.fieldLink RX3 19 "MessageGames" "survey" "LMessageGames$Survey;" ∈ xT := xT_a1 (List.mem_of_getElem? (i := 77) rfl) rfl
theorem xt_119 : Cond.fieldLink RX3 26 "MessageGames" "pad" "LMessageGames$Pad;" ∈ xT := xT_a1 (List.mem_of_getElem? (i := 78) rfl) rfl
theorem xt_120 : Cond.fieldLink RX3 30 "MessageGames" "past" "[I" ∈ xT := xT_a1 (List.mem_of_getElem? (i := 79) rfl) rfl
theorem xt_121 : Cond.fieldLink RX3 34 "MessageGames" "slots" "[I" ∈ xT := xT_a1 (List.mem_of_getElem? (i := 80) rfl) rfl
theorem xt_122 : Cond.fieldLink RX3 37 "MessageGames" "isSaved" "[Z" ∈ xT := xT_a1 (List.mem_of_getElem? (i := 81) rfl) rfl
theorem xt_123 : Cond.fieldLink RX3 41 "MessageGames" "changes" "I" ∈ xT := xT_a1 (List.mem_of_getElem? (i := 82) rfl) rfl
theorem xt_124 : Cond.laysFinal RX3 "MessageGames" "game" "LMessageGames$Game;" ∈ xT := xT_a1 (List.mem_of_getElem? (i := 83) rfl) rfl
theorem xt_125 : Cond.laysFinal RX3 "MessageGames" "survey" "LMessageGames$Survey;" ∈ xT := xT_a1 (List.mem_of_getElem? (i := 85) rfl) rfl
theorem xt_126 : Cond.laysFinal RX3 "MessageGames" "pad" "LMessageGames$Pad;" ∈ xT := xT_a1 (List.mem_of_getElem? (i := 87) rfl) rfl
theorem xt_127 : Cond.laysFinal RX3 "MessageGames" "past" "[I" ∈ xT := xT_a1 (List.mem_of_getElem? (i := 89) rfl) rfl
theorem xt_128 : Cond.laysFinal RX3 "MessageGames" "slots" "[I" ∈ xT := xT_a1 (List.mem_of_getElem? (i := 91) rfl) rfl
theorem xt_129 : Cond.laysFinal RX3 "MessageGames" "isSaved" "[Z" ∈ xT := xT_a1 (List.mem_of_getElem? (i := 93) rfl) rfl
theorem xt_130 : Cond.lays RX3 "MessageGames" "changes" "I" ∈ xT := xT_a1 (List.mem_of_getElem? (i := 95) rfl) rfl
theorem xt_131 : Cond.arrayClass .boolean ∈ xT := xT_a1 (List.mem_of_getElem? (i := 98) rfl) rfl
theorem xt_132 : Cond.methodLink RL 13 yX3_weight ∈ xT := xT_a1 (List.mem_of_getElem? (i := 99) rfl) rfl
theorem xt_133 : Cond.instanceMethod yX3_weight ∈ xT := xT_a1 (List.mem_of_getElem? (i := 100) rfl) rfl
theorem xt_134 : Cond.selects RX3 yX3_weight yX3_weight ∈ xT := xT_a1 (List.mem_of_getElem? (i := 101) rfl) rfl
theorem xt_135 : Cond.code yX3_weight prog_1_method_2_code 4 (some .int) ∈ xT := xT_a1 (List.mem_of_getElem? (i := 102) rfl) rfl
theorem xt_136 : Cond.methodLink RX3 45 yX3_weightError ∈ xT := xT_a1 (List.mem_of_getElem? (i := 103) rfl) rfl
theorem xt_138 : Cond.instanceMethod yX3_weightError ∈ xT := xT_a1 (List.mem_of_getElem? (i := 105) rfl) rfl
theorem xt_139 : Cond.code yX3_weightError prog_1_method_30_code 4 (some .int) ∈ xT := xT_a1 (List.mem_of_getElem? (i := 106) rfl) rfl
theorem xt_140 : Cond.methodLink RX3 59 yX3_isWithin ∈ xT := xT_a1 (List.mem_of_getElem? (i := 107) rfl) rfl
theorem xt_141 : Cond.static yX3_isWithin ∈ xT := xT_a1 (List.mem_of_getElem? (i := 108) rfl) rfl
theorem xt_142 : Cond.code yX3_isWithin prog_1_method_26_code 2 (some .boolean) ∈ xT := xT_a1 (List.mem_of_getElem? (i := 109) rfl) rfl
theorem xt_143 : Cond.methodLink RX3 205 yX0_weightSum ∈ xT := xT_a1 (List.mem_of_getElem? (i := 110) rfl) rfl
theorem xt_144 : Cond.instanceMethod yX0_weightSum ∈ xT := xT_a1 (List.mem_of_getElem? (i := 111) rfl) rfl
theorem xt_145 : Cond.selects RX0 yX0_weightSum yX0_weightSum ∈ xT := xT_a1 (List.mem_of_getElem? (i := 112) rfl) rfl
theorem xt_146 : Cond.code yX0_weightSum prog_2_method_20_code 3 (some .int) ∈ xT := xT_a1 (List.mem_of_getElem? (i := 113) rfl) rfl
theorem xt_147 : Cond.methodLink RX0 43 yX0_weightPlace ∈ xT := xT_a1 (List.mem_of_getElem? (i := 114) rfl) rfl
theorem xt_148 : Cond.static yX0_weightPlace ∈ xT := xT_a1 (List.mem_of_getElem? (i := 115) rfl) rfl
theorem xt_149 : Cond.code yX0_weightPlace prog_2_method_2_code 1 (some .int) ∈ xT := xT_a1 (List.mem_of_getElem? (i := 116) rfl) rfl
theorem xt_150 : Cond.methodLink RX0 47 yX0_cell ∈ xT := xT_a1 (List.mem_of_getElem? (i := 117) rfl) rfl
theorem xt_151 : Cond.instanceMethod yX0_cell ∈ xT := xT_a1 (List.mem_of_getElem? (i := 118) rfl) rfl
theorem xt_152 : Cond.selects RX0 yX0_cell yX0_cell ∈ xT := xT_a1 (List.mem_of_getElem? (i := 119) rfl) rfl
theorem xt_153 : Cond.code yX0_cell prog_2_method_7_code 2 (some .int) ∈ xT := xT_a1 (List.mem_of_getElem? (i := 120) rfl) rfl
theorem xt_154 : Cond.methodLink RX3 52 yX0_weightPlace ∈ xT := xT_a1 (List.mem_of_getElem? (i := 121) rfl) rfl
theorem xt_155 : Cond.methodLink RX3 91 yX0_cell ∈ xT := xT_a1 (List.mem_of_getElem? (i := 122) rfl) rfl
theorem xt_156 : Cond.methodLink RX3 49 yX3_record ∈ xT := xT_a1 (List.mem_of_getElem? (i := 123) rfl) rfl
theorem xt_158 : Cond.instanceMethod yX3_record ∈ xT := xT_a1 (List.mem_of_getElem? (i := 125) rfl) rfl
theorem xt_159 : Cond.code yX3_record prog_1_method_32_code 1 none ∈ xT := xT_a1 (List.mem_of_getElem? (i := 126) rfl) rfl
theorem xt_160 : Cond.methodLink RX3 211 arraycopyName ∈ xT := xT_a1 (List.mem_of_getElem? (i := 127) rfl) rfl
theorem xt_161 : Cond.static arraycopyName ∈ xT := xT_a1 (List.mem_of_getElem? (i := 128) rfl) rfl
theorem xt_162 : Cond.native arraycopyName ∈ xT := xT_a1 (List.mem_of_getElem? (i := 129) rfl) rfl
theorem xt_163 : Cond.methodLink RX3 194 yX0_writeTo ∈ xT := xT_a1 (List.mem_of_getElem? (i := 130) rfl) rfl
theorem xt_164 : Cond.instanceMethod yX0_writeTo ∈ xT := xT_a1 (List.mem_of_getElem? (i := 131) rfl) rfl
theorem xt_165 : Cond.selects RX0 yX0_writeTo yX0_writeTo ∈ xT := xT_a1 (List.mem_of_getElem? (i := 132) rfl) rfl
theorem xt_166 : Cond.code yX0_writeTo prog_2_method_10_code 3 none ∈ xT := xT_a1 (List.mem_of_getElem? (i := 133) rfl) rfl
theorem xt_167 : Cond.methodLink RX0 34 arraycopyName ∈ xT := xT_a1 (List.mem_of_getElem? (i := 134) rfl) rfl
theorem xt_168 : Cond.methodLink RX3 56 yX0_change ∈ xT := xT_a1 (List.mem_of_getElem? (i := 135) rfl) rfl
theorem xt_169 : Cond.instanceMethod yX0_change ∈ xT := xT_a1 (List.mem_of_getElem? (i := 136) rfl) rfl
theorem xt_170 : Cond.selects RX0 yX0_change yX0_change ∈ xT := xT_a1 (List.mem_of_getElem? (i := 137) rfl) rfl
theorem xt_171 : Cond.code yX0_change prog_2_method_8_code 4 (some .int) ∈ xT := xT_a1 (List.mem_of_getElem? (i := 138) rfl) rfl
theorem xt_173 : Cond.methodLink RX0 28 yX0_forgetPossible ∈ xT := xT_a1 (List.mem_of_getElem? (i := 140) rfl) rfl
theorem xt_175 : Cond.instanceMethod yX0_forgetPossible ∈ xT := xT_a1 (List.mem_of_getElem? (i := 142) rfl) rfl
theorem xt_176 : Cond.code yX0_forgetPossible prog_2_method_9_code 1 none ∈ xT := xT_a1 (List.mem_of_getElem? (i := 143) rfl) rfl
theorem xt_177 : Cond.methodLink RX0 31 yJ7_fill_53178 ∈ xT := xT_a1 (List.mem_of_getElem? (i := 144) rfl) rfl
theorem xt_178 : Cond.static yJ7_fill_53178 ∈ xT := xT_a1 (List.mem_of_getElem? (i := 145) rfl) rfl
theorem xt_179 : Cond.code yJ7_fill_53178 prog_13_method_103_code 4 none ∈ xT := xT_a1 (List.mem_of_getElem? (i := 146) rfl) rfl
theorem xt_180 : Cond.methodLink RL 18 yX3_pay ∈ xT := xT_a1 (List.mem_of_getElem? (i := 147) rfl) rfl
theorem xt_181 : Cond.instanceMethod yX3_pay ∈ xT := xT_a1 (List.mem_of_getElem? (i := 148) rfl) rfl
theorem xt_182 : Cond.selects RX3 yX3_pay yX3_pay ∈ xT := xT_a1 (List.mem_of_getElem? (i := 149) rfl) rfl
theorem xt_183 : Cond.code yX3_pay prog_1_method_3_code 6 (some .int) ∈ xT := xT_a1 (List.mem_of_getElem? (i := 150) rfl) rfl
theorem xt_184 : Cond.methodLink RX3 63 yX0_payPlace ∈ xT := xT_a1 (List.mem_of_getElem? (i := 151) rfl) rfl
theorem xt_185 : Cond.static yX0_payPlace ∈ xT := xT_a1 (List.mem_of_getElem? (i := 152) rfl) rfl
theorem xt_186 : Cond.code yX0_payPlace prog_2_method_4_code 4 (some .int) ∈ xT := xT_a1 (List.mem_of_getElem? (i := 153) rfl) rfl
theorem xt_187 : Cond.methodLink RL 23 yX3_believe ∈ xT := xT_a1 (List.mem_of_getElem? (i := 154) rfl) rfl
theorem xt_188 : Cond.instanceMethod yX3_believe ∈ xT := xT_a1 (List.mem_of_getElem? (i := 155) rfl) rfl
theorem xt_189 : Cond.selects RX3 yX3_believe yX3_believe ∈ xT := xT_a1 (List.mem_of_getElem? (i := 156) rfl) rfl
theorem xt_190 : Cond.code yX3_believe prog_1_method_4_code 5 (some .int) ∈ xT := xT_a1 (List.mem_of_getElem? (i := 157) rfl) rfl
theorem xt_191 : Cond.methodLink RX3 67 yX3_beliefError ∈ xT := xT_a1 (List.mem_of_getElem? (i := 158) rfl) rfl
theorem xt_193 : Cond.instanceMethod yX3_beliefError ∈ xT := xT_a1 (List.mem_of_getElem? (i := 160) rfl) rfl
theorem xt_194 : Cond.code yX3_beliefError prog_1_method_31_code 5 (some .int) ∈ xT := xT_a1 (List.mem_of_getElem? (i := 161) rfl) rfl
theorem xt_195 : Cond.methodLink RX3 208 yX0_toldSum ∈ xT := xT_a1 (List.mem_of_getElem? (i := 162) rfl) rfl
theorem xt_196 : Cond.instanceMethod yX0_toldSum ∈ xT := xT_a1 (List.mem_of_getElem? (i := 163) rfl) rfl
theorem xt_197 : Cond.selects RX0 yX0_toldSum yX0_toldSum ∈ xT := xT_a1 (List.mem_of_getElem? (i := 164) rfl) rfl
theorem xt_198 : Cond.code yX0_toldSum prog_2_method_21_code 4 (some .int) ∈ xT := xT_a1 (List.mem_of_getElem? (i := 165) rfl) rfl
theorem xt_199 : Cond.methodLink RX0 68 yX0_toldPlace ∈ xT := xT_a1 (List.mem_of_getElem? (i := 166) rfl) rfl
theorem xt_200 : Cond.static yX0_toldPlace ∈ xT := xT_a1 (List.mem_of_getElem? (i := 167) rfl) rfl
theorem xt_201 : Cond.code yX0_toldPlace prog_2_method_3_code 2 (some .int) ∈ xT := xT_a1 (List.mem_of_getElem? (i := 168) rfl) rfl
theorem xt_202 : Cond.methodLink RX3 71 yX0_toldPlace ∈ xT := xT_a1 (List.mem_of_getElem? (i := 169) rfl) rfl
theorem xt_203 : Cond.methodLink RL 28 yX3_send ∈ xT := xT_a1 (List.mem_of_getElem? (i := 170) rfl) rfl
theorem xt_204 : Cond.instanceMethod yX3_send ∈ xT := xT_a1 (List.mem_of_getElem? (i := 171) rfl) rfl
theorem xt_205 : Cond.selects RX3 yX3_send yX3_send ∈ xT := xT_a1 (List.mem_of_getElem? (i := 172) rfl) rfl
theorem xt_206 : Cond.code yX3_send prog_1_method_5_code 3 (some .int) ∈ xT := xT_a1 (List.mem_of_getElem? (i := 173) rfl) rfl
theorem xt_207 : Cond.methodLink RX3 74 yX0_messagePlace ∈ xT := xT_a1 (List.mem_of_getElem? (i := 174) rfl) rfl
theorem xt_208 : Cond.static yX0_messagePlace ∈ xT := xT_a1 (List.mem_of_getElem? (i := 175) rfl) rfl
theorem xt_209 : Cond.code yX0_messagePlace prog_2_method_5_code 1 (some .int) ∈ xT := xT_a1 (List.mem_of_getElem? (i := 176) rfl) rfl
theorem xt_210 : Cond.methodLink RL 32 yX3_answer ∈ xT := xT_a1 (List.mem_of_getElem? (i := 177) rfl) rfl
theorem xt_211 : Cond.instanceMethod yX3_answer ∈ xT := xT_a1 (List.mem_of_getElem? (i := 178) rfl) rfl
theorem xt_212 : Cond.selects RX3 yX3_answer yX3_answer ∈ xT := xT_a1 (List.mem_of_getElem? (i := 179) rfl) rfl
theorem xt_213 : Cond.code yX3_answer prog_1_method_6_code 3 (some .int) ∈ xT := xT_a1 (List.mem_of_getElem? (i := 180) rfl) rfl
theorem xt_214 : Cond.methodLink RX3 77 yX0_answerPlace ∈ xT := xT_a1 (List.mem_of_getElem? (i := 181) rfl) rfl
theorem xt_215 : Cond.static yX0_answerPlace ∈ xT := xT_a1 (List.mem_of_getElem? (i := 182) rfl) rfl
theorem xt_216 : Cond.code yX0_answerPlace prog_2_method_6_code 1 (some .int) ∈ xT := xT_a1 (List.mem_of_getElem? (i := 183) rfl) rfl
theorem xt_217 : Cond.methodLink RL 36 yX3_adopt ∈ xT := xT_a1 (List.mem_of_getElem? (i := 184) rfl) rfl
theorem xt_218 : Cond.instanceMethod yX3_adopt ∈ xT := xT_a1 (List.mem_of_getElem? (i := 185) rfl) rfl
theorem xt_219 : Cond.selects RX3 yX3_adopt yX3_adopt ∈ xT := xT_a1 (List.mem_of_getElem? (i := 186) rfl) rfl
theorem xt_220 : Cond.code yX3_adopt prog_1_method_7_code 3 (some .int) ∈ xT := xT_a1 (List.mem_of_getElem? (i := 187) rfl) rfl
theorem xt_221 : Cond.methodLink RX3 80 yX2_numberOf ∈ xT := xT_a1 (List.mem_of_getElem? (i := 188) rfl) rfl
theorem xt_222 : Cond.instanceMethod yX2_numberOf ∈ xT := xT_a1 (List.mem_of_getElem? (i := 189) rfl) rfl
theorem xt_223 : Cond.selects RX2 yX2_numberOf yX2_numberOf ∈ xT := xT_a1 (List.mem_of_getElem? (i := 190) rfl) rfl
theorem xt_224 : Cond.code yX2_numberOf prog_4_method_2_code 6 (some .int) ∈ xT := xT_a1 (List.mem_of_getElem? (i := 191) rfl) rfl
theorem xt_225 : Cond.methodLink RX2 29 yX2_look ∈ xT := xT_a1 (List.mem_of_getElem? (i := 192) rfl) rfl
theorem xt_227 : Cond.instanceMethod yX2_look ∈ xT := xT_a1 (List.mem_of_getElem? (i := 194) rfl) rfl
theorem xt_228 : Cond.code yX2_look prog_4_method_6_code 3 none ∈ xT := xT_a1 (List.mem_of_getElem? (i := 195) rfl) rfl
theorem xt_229 : Cond.methodLink RX2 59 yX0_differsOnlyInPlan ∈ xT := xT_a1 (List.mem_of_getElem? (i := 196) rfl) rfl
theorem xt_230 : Cond.instanceMethod yX0_differsOnlyInPlan ∈ xT := xT_a1 (List.mem_of_getElem? (i := 197) rfl) rfl
theorem xt_231 : Cond.selects RX0 yX0_differsOnlyInPlan yX0_differsOnlyInPlan ∈ xT := xT_a1 (List.mem_of_getElem? (i := 198) rfl) rfl
theorem xt_232 : Cond.code yX0_differsOnlyInPlan prog_2_method_13_code 3 (some .boolean) ∈ xT := xT_a1 (List.mem_of_getElem? (i := 199) rfl) rfl
theorem xt_233 : Cond.methodLink RX2 63 yX0_copyFrom ∈ xT := xT_a1 (List.mem_of_getElem? (i := 200) rfl) rfl
theorem xt_234 : Cond.instanceMethod yX0_copyFrom ∈ xT := xT_a1 (List.mem_of_getElem? (i := 201) rfl) rfl
theorem xt_235 : Cond.selects RX0 yX0_copyFrom yX0_copyFrom ∈ xT := xT_a1 (List.mem_of_getElem? (i := 202) rfl) rfl
theorem xt_236 : Cond.code yX0_copyFrom prog_2_method_12_code 2 none ∈ xT := xT_a1 (List.mem_of_getElem? (i := 203) rfl) rfl
theorem xt_237 : Cond.methodLink RX0 40 yX0_readFrom ∈ xT := xT_a1 (List.mem_of_getElem? (i := 204) rfl) rfl
theorem xt_238 : Cond.instanceMethod yX0_readFrom ∈ xT := xT_a1 (List.mem_of_getElem? (i := 205) rfl) rfl
theorem xt_239 : Cond.selects RX0 yX0_readFrom yX0_readFrom ∈ xT := xT_a1 (List.mem_of_getElem? (i := 206) rfl) rfl
theorem xt_240 : Cond.code yX0_readFrom prog_2_method_11_code 3 none ∈ xT := xT_a1 (List.mem_of_getElem? (i := 207) rfl) rfl
theorem xt_241 : Cond.methodLink RX2 66 yJ7_fill_53178 ∈ xT := xT_a1 (List.mem_of_getElem? (i := 208) rfl) rfl
theorem xt_242 : Cond.methodLink RX2 72 yX2_addPlans ∈ xT := xT_a1 (List.mem_of_getElem? (i := 209) rfl) rfl
theorem xt_244 : Cond.instanceMethod yX2_addPlans ∈ xT := xT_a1 (List.mem_of_getElem? (i := 211) rfl) rfl
theorem xt_245 : Cond.code yX2_addPlans prog_4_method_7_code 8 none ∈ xT := xT_a1 (List.mem_of_getElem? (i := 212) rfl) rfl
theorem xt_246 : Cond.methodLink RX2 41 yX0_takePlan ∈ xT := xT_a1 (List.mem_of_getElem? (i := 213) rfl) rfl
theorem xt_247 : Cond.instanceMethod yX0_takePlan ∈ xT := xT_a1 (List.mem_of_getElem? (i := 214) rfl) rfl
theorem xt_248 : Cond.selects RX0 yX0_takePlan yX0_takePlan ∈ xT := xT_a1 (List.mem_of_getElem? (i := 215) rfl) rfl
theorem xt_249 : Cond.code yX0_takePlan prog_2_method_15_code 4 none ∈ xT := xT_a1 (List.mem_of_getElem? (i := 216) rfl) rfl
theorem xt_250 : Cond.methodLink RX2 75 yX0_bestActions ∈ xT := xT_a1 (List.mem_of_getElem? (i := 217) rfl) rfl
theorem xt_251 : Cond.instanceMethod yX0_bestActions ∈ xT := xT_a1 (List.mem_of_getElem? (i := 218) rfl) rfl
theorem xt_252 : Cond.selects RX0 yX0_bestActions yX0_bestActions ∈ xT := xT_a1 (List.mem_of_getElem? (i := 219) rfl) rfl
theorem xt_253 : Cond.code yX0_bestActions prog_2_method_27_code 5 (some .int) ∈ xT := xT_a1 (List.mem_of_getElem? (i := 220) rfl) rfl
theorem xt_254 : Cond.methodLink RX0 75 yX0_beliefWeight ∈ xT := xT_a1 (List.mem_of_getElem? (i := 221) rfl) rfl
theorem xt_255 : Cond.instanceMethod yX0_beliefWeight ∈ xT := xT_a1 (List.mem_of_getElem? (i := 222) rfl) rfl
theorem xt_256 : Cond.selects RX0 yX0_beliefWeight yX0_beliefWeight ∈ xT := xT_a1 (List.mem_of_getElem? (i := 223) rfl) rfl
theorem xt_257 : Cond.code yX0_beliefWeight prog_2_method_22_code 4 (some .int) ∈ xT := xT_a1 (List.mem_of_getElem? (i := 224) rfl) rfl
theorem xt_258 : Cond.methodLink RX0 53 yX0_sendersOf ∈ xT := xT_a1 (List.mem_of_getElem? (i := 225) rfl) rfl
theorem xt_259 : Cond.instanceMethod yX0_sendersOf ∈ xT := xT_a1 (List.mem_of_getElem? (i := 226) rfl) rfl
theorem xt_260 : Cond.selects RX0 yX0_sendersOf yX0_sendersOf ∈ xT := xT_a1 (List.mem_of_getElem? (i := 227) rfl) rfl
theorem xt_261 : Cond.code yX0_sendersOf prog_2_method_17_code 4 (some .int) ∈ xT := xT_a1 (List.mem_of_getElem? (i := 228) rfl) rfl
theorem xt_262 : Cond.methodLink RX0 50 yX0_messagePlace ∈ xT := xT_a1 (List.mem_of_getElem? (i := 229) rfl) rfl
theorem xt_264 : Cond.static yX3_has ∈ xT := xT_a1 (List.mem_of_getElem? (i := 231) rfl) rfl
theorem xt_265 : Cond.code yX3_has prog_1_method_27_code 2 (some .boolean) ∈ xT := xT_a1 (List.mem_of_getElem? (i := 232) rfl) rfl
theorem xt_266 : Cond.methodLink RX0 86 yX0_bestBy ∈ xT := xT_a1 (List.mem_of_getElem? (i := 233) rfl) rfl
theorem xt_268 : Cond.instanceMethod yX0_bestBy ∈ xT := xT_a1 (List.mem_of_getElem? (i := 235) rfl) rfl
theorem xt_269 : Cond.code yX0_bestBy prog_2_method_25_code 9 (some .int) ∈ xT := xT_a1 (List.mem_of_getElem? (i := 236) rfl) rfl
theorem xt_270 : Cond.methodLink RX0 82 yX0_worthBy ∈ xT := xT_a1 (List.mem_of_getElem? (i := 237) rfl) rfl
theorem xt_272 : Cond.instanceMethod yX0_worthBy ∈ xT := xT_a1 (List.mem_of_getElem? (i := 239) rfl) rfl
theorem xt_273 : Cond.code yX0_worthBy prog_2_method_24_code 6 (some .int) ∈ xT := xT_a2 (List.mem_of_getElem? (i := 0) rfl) rfl
theorem xt_274 : Cond.methodLink RX0 78 yX0_payPlace ∈ xT := xT_a2 (List.mem_of_getElem? (i := 1) rfl) rfl
theorem xt_276 : Cond.methodLink RX2 81 yX0_lowestBetterType ∈ xT := xT_a2 (List.mem_of_getElem? (i := 3) rfl) rfl
theorem xt_277 : Cond.instanceMethod yX0_lowestBetterType ∈ xT := xT_a2 (List.mem_of_getElem? (i := 4) rfl) rfl
theorem xt_278 : Cond.selects RX0 yX0_lowestBetterType yX0_lowestBetterType ∈ xT := xT_a2 (List.mem_of_getElem? (i := 5) rfl) rfl
theorem xt_279 : Cond.code yX0_lowestBetterType prog_2_method_33_code 3 (some .int) ∈ xT := xT_a2 (List.mem_of_getElem? (i := 6) rfl) rfl
theorem xt_280 : Cond.methodLink RX0 98 yX0_dearestMessage ∈ xT := xT_a2 (List.mem_of_getElem? (i := 7) rfl) rfl
theorem xt_281 : Cond.instanceMethod yX0_dearestMessage ∈ xT := xT_a2 (List.mem_of_getElem? (i := 8) rfl) rfl
theorem xt_282 : Cond.selects RX0 yX0_dearestMessage yX0_dearestMessage ∈ xT := xT_a2 (List.mem_of_getElem? (i := 9) rfl) rfl
theorem xt_283 : Cond.code yX0_dearestMessage prog_2_method_32_code 4 (some .int) ∈ xT := xT_a2 (List.mem_of_getElem? (i := 10) rfl) rfl
theorem xt_284 : Cond.methodLink RX0 95 yX0_payoffBy ∈ xT := xT_a2 (List.mem_of_getElem? (i := 11) rfl) rfl
theorem xt_285 : Cond.instanceMethod yX0_payoffBy ∈ xT := xT_a2 (List.mem_of_getElem? (i := 12) rfl) rfl
theorem xt_286 : Cond.selects RX0 yX0_payoffBy yX0_payoffBy ∈ xT := xT_a2 (List.mem_of_getElem? (i := 13) rfl) rfl
theorem xt_287 : Cond.code yX0_payoffBy prog_2_method_30_code 3 (some .int) ∈ xT := xT_a2 (List.mem_of_getElem? (i := 14) rfl) rfl
theorem xt_288 : Cond.methodLink RX0 92 yX0_answerPlace ∈ xT := xT_a2 (List.mem_of_getElem? (i := 15) rfl) rfl
theorem xt_289 : Cond.methodLink RX0 101 yX0_ownPayoff ∈ xT := xT_a2 (List.mem_of_getElem? (i := 16) rfl) rfl
theorem xt_290 : Cond.instanceMethod yX0_ownPayoff ∈ xT := xT_a2 (List.mem_of_getElem? (i := 17) rfl) rfl
theorem xt_291 : Cond.selects RX0 yX0_ownPayoff yX0_ownPayoff ∈ xT := xT_a2 (List.mem_of_getElem? (i := 18) rfl) rfl
theorem xt_292 : Cond.code yX0_ownPayoff prog_2_method_31_code 2 (some .int) ∈ xT := xT_a2 (List.mem_of_getElem? (i := 19) rfl) rfl
theorem xt_294 : Cond.methodLink RX2 37 yX2_codeAt ∈ xT := xT_a2 (List.mem_of_getElem? (i := 21) rfl) rfl
theorem xt_295 : Cond.instanceMethod yX2_codeAt ∈ xT := xT_a2 (List.mem_of_getElem? (i := 22) rfl) rfl
theorem xt_296 : Cond.selects RX2 yX2_codeAt yX2_codeAt ∈ xT := xT_a2 (List.mem_of_getElem? (i := 23) rfl) rfl
theorem xt_297 : Cond.code yX2_codeAt prog_4_method_3_code 2 (some .int) ∈ xT := xT_a2 (List.mem_of_getElem? (i := 24) rfl) rfl
theorem xt_298 : Cond.methodLink RX2 45 yX0_isUntempted ∈ xT := xT_a2 (List.mem_of_getElem? (i := 25) rfl) rfl
theorem xt_299 : Cond.instanceMethod yX0_isUntempted ∈ xT := xT_a2 (List.mem_of_getElem? (i := 26) rfl) rfl
theorem xt_300 : Cond.selects RX0 yX0_isUntempted yX0_isUntempted ∈ xT := xT_a2 (List.mem_of_getElem? (i := 27) rfl) rfl
theorem xt_301 : Cond.code yX0_isUntempted prog_2_method_39_code 5 (some .boolean) ∈ xT := xT_a2 (List.mem_of_getElem? (i := 28) rfl) rfl
theorem xt_302 : Cond.methodLink RX0 65 yX0_typesThere ∈ xT := xT_a2 (List.mem_of_getElem? (i := 29) rfl) rfl
theorem xt_303 : Cond.instanceMethod yX0_typesThere ∈ xT := xT_a2 (List.mem_of_getElem? (i := 30) rfl) rfl
theorem xt_304 : Cond.selects RX0 yX0_typesThere yX0_typesThere ∈ xT := xT_a2 (List.mem_of_getElem? (i := 31) rfl) rfl
theorem xt_305 : Cond.code yX0_typesThere prog_2_method_16_code 3 (some .int) ∈ xT := xT_a2 (List.mem_of_getElem? (i := 32) rfl) rfl
theorem xt_306 : Cond.methodLink RX0 125 yX0_neverSenders ∈ xT := xT_a2 (List.mem_of_getElem? (i := 33) rfl) rfl
theorem xt_307 : Cond.instanceMethod yX0_neverSenders ∈ xT := xT_a2 (List.mem_of_getElem? (i := 34) rfl) rfl
theorem xt_308 : Cond.selects RX0 yX0_neverSenders yX0_neverSenders ∈ xT := xT_a2 (List.mem_of_getElem? (i := 35) rfl) rfl
theorem xt_309 : Cond.code yX0_neverSenders prog_2_method_38_code 6 (some .int) ∈ xT := xT_a2 (List.mem_of_getElem? (i := 36) rfl) rfl
theorem xt_310 : Cond.methodLink RX0 118 yX0_possibleActions ∈ xT := xT_a2 (List.mem_of_getElem? (i := 37) rfl) rfl
theorem xt_311 : Cond.instanceMethod yX0_possibleActions ∈ xT := xT_a2 (List.mem_of_getElem? (i := 38) rfl) rfl
theorem xt_312 : Cond.selects RX0 yX0_possibleActions yX0_possibleActions ∈ xT := xT_a2 (List.mem_of_getElem? (i := 39) rfl) rfl
theorem xt_313 : Cond.code yX0_possibleActions prog_2_method_35_code 11 (some .int) ∈ xT := xT_a2 (List.mem_of_getElem? (i := 40) rfl) rfl
theorem xt_314 : Cond.methodLink RX0 121 yX0_mostByAny ∈ xT := xT_a2 (List.mem_of_getElem? (i := 41) rfl) rfl
theorem xt_316 : Cond.instanceMethod yX0_mostByAny ∈ xT := xT_a2 (List.mem_of_getElem? (i := 43) rfl) rfl
theorem xt_317 : Cond.code yX0_mostByAny prog_2_method_36_code 6 (some .int) ∈ xT := xT_a2 (List.mem_of_getElem? (i := 44) rfl) rfl
theorem xt_318 : Cond.methodLink RX0 110 yJ9_max_7cf53 ∈ xT := xT_a2 (List.mem_of_getElem? (i := 45) rfl) rfl
theorem xt_319 : Cond.static yJ9_max_7cf53 ∈ xT := xT_a2 (List.mem_of_getElem? (i := 46) rfl) rfl
theorem xt_320 : Cond.code yJ9_max_7cf53 prog_8_method_65_code 2 (some .int) ∈ xT := xT_a2 (List.mem_of_getElem? (i := 47) rfl) rfl
theorem xt_321 : Cond.methodLink RX0 128 yX0_leastByAny ∈ xT := xT_a2 (List.mem_of_getElem? (i := 48) rfl) rfl
theorem xt_323 : Cond.instanceMethod yX0_leastByAny ∈ xT := xT_a2 (List.mem_of_getElem? (i := 50) rfl) rfl
theorem xt_324 : Cond.code yX0_leastByAny prog_2_method_37_code 6 (some .int) ∈ xT := xT_a2 (List.mem_of_getElem? (i := 51) rfl) rfl
theorem xt_325 : Cond.methodLink RX0 115 yJ9_min_7cf53 ∈ xT := xT_a2 (List.mem_of_getElem? (i := 52) rfl) rfl
theorem xt_326 : Cond.static yJ9_min_7cf53 ∈ xT := xT_a2 (List.mem_of_getElem? (i := 53) rfl) rfl
theorem xt_327 : Cond.code yJ9_min_7cf53 prog_8_method_69_code 2 (some .int) ∈ xT := xT_a2 (List.mem_of_getElem? (i := 54) rfl) rfl
theorem xt_328 : Cond.methodLink RX2 49 yX0_kind ∈ xT := xT_a2 (List.mem_of_getElem? (i := 55) rfl) rfl
theorem xt_329 : Cond.instanceMethod yX0_kind ∈ xT := xT_a2 (List.mem_of_getElem? (i := 56) rfl) rfl
theorem xt_330 : Cond.selects RX0 yX0_kind yX0_kind ∈ xT := xT_a2 (List.mem_of_getElem? (i := 57) rfl) rfl
theorem xt_331 : Cond.code yX0_kind prog_2_method_19_code 2 (some .int) ∈ xT := xT_a2 (List.mem_of_getElem? (i := 58) rfl) rfl
theorem xt_332 : Cond.methodLink RX0 56 yX0_messagesSent ∈ xT := xT_a2 (List.mem_of_getElem? (i := 59) rfl) rfl
theorem xt_333 : Cond.instanceMethod yX0_messagesSent ∈ xT := xT_a2 (List.mem_of_getElem? (i := 60) rfl) rfl
theorem xt_334 : Cond.selects RX0 yX0_messagesSent yX0_messagesSent ∈ xT := xT_a2 (List.mem_of_getElem? (i := 61) rfl) rfl
theorem xt_335 : Cond.code yX0_messagesSent prog_2_method_18_code 3 (some .int) ∈ xT := xT_a2 (List.mem_of_getElem? (i := 62) rfl) rfl
theorem xt_336 : Cond.methodLink RX0 60 yJ6_bitCount_0f7a4 ∈ xT := xT_a2 (List.mem_of_getElem? (i := 63) rfl) rfl
theorem xt_337 : Cond.static yJ6_bitCount_0f7a4 ∈ xT := xT_a2 (List.mem_of_getElem? (i := 64) rfl) rfl
theorem xt_338 : Cond.code yJ6_bitCount_0f7a4 prog_7_method_49_code 1 (some .int) ∈ xT := xT_a2 (List.mem_of_getElem? (i := 65) rfl) rfl
theorem xt_339 : Cond.constant RJ6 265 (1431655765) ∈ xT := xT_a2 (List.mem_of_getElem? (i := 66) rfl) rfl
theorem xt_340 : Cond.constant RJ6 266 (858993459) ∈ xT := xT_a2 (List.mem_of_getElem? (i := 67) rfl) rfl
theorem xt_341 : Cond.constant RJ6 267 (252645135) ∈ xT := xT_a2 (List.mem_of_getElem? (i := 68) rfl) rfl
theorem xt_342 : Cond.methodLink RX3 84 yX2_codeAt ∈ xT := xT_a2 (List.mem_of_getElem? (i := 69) rfl) rfl
theorem xt_343 : Cond.methodLink RX3 87 yX0_takePlan ∈ xT := xT_a2 (List.mem_of_getElem? (i := 70) rfl) rfl
theorem xt_344 : Cond.methodLink RL 41 yX3_payoff ∈ xT := xT_a2 (List.mem_of_getElem? (i := 71) rfl) rfl
theorem xt_345 : Cond.instanceMethod yX3_payoff ∈ xT := xT_a2 (List.mem_of_getElem? (i := 72) rfl) rfl
theorem xt_346 : Cond.selects RX3 yX3_payoff yX3_payoff ∈ xT := xT_a2 (List.mem_of_getElem? (i := 73) rfl) rfl
theorem xt_347 : Cond.code yX3_payoff prog_1_method_8_code 5 (some .int) ∈ xT := xT_a2 (List.mem_of_getElem? (i := 74) rfl) rfl
theorem xt_348 : Cond.methodLink RL 46 yX3_ofType ∈ xT := xT_a2 (List.mem_of_getElem? (i := 75) rfl) rfl
theorem xt_349 : Cond.instanceMethod yX3_ofType ∈ xT := xT_a2 (List.mem_of_getElem? (i := 76) rfl) rfl
theorem xt_350 : Cond.selects RX3 yX3_ofType yX3_ofType ∈ xT := xT_a2 (List.mem_of_getElem? (i := 77) rfl) rfl
theorem xt_351 : Cond.code yX3_ofType prog_1_method_9_code 3 (some .int) ∈ xT := xT_a2 (List.mem_of_getElem? (i := 78) rfl) rfl
theorem xt_352 : Cond.methodLink RX3 94 yX0_ownPayoff ∈ xT := xT_a2 (List.mem_of_getElem? (i := 79) rfl) rfl
theorem xt_353 : Cond.methodLink RX3 97 yX0_dearestMessage ∈ xT := xT_a2 (List.mem_of_getElem? (i := 80) rfl) rfl
theorem xt_354 : Cond.methodLink RX3 100 yX0_payoffBy ∈ xT := xT_a2 (List.mem_of_getElem? (i := 81) rfl) rfl
theorem xt_355 : Cond.methodLink RL 50 yX3_ofMessage ∈ xT := xT_a2 (List.mem_of_getElem? (i := 82) rfl) rfl
theorem xt_356 : Cond.instanceMethod yX3_ofMessage ∈ xT := xT_a2 (List.mem_of_getElem? (i := 83) rfl) rfl
theorem xt_357 : Cond.selects RX3 yX3_ofMessage yX3_ofMessage ∈ xT := xT_a2 (List.mem_of_getElem? (i := 84) rfl) rfl
theorem xt_358 : Cond.code yX3_ofMessage prog_1_method_10_code 3 (some .int) ∈ xT := xT_a2 (List.mem_of_getElem? (i := 85) rfl) rfl
theorem xt_359 : Cond.methodLink RX3 103 yX0_sendersOf ∈ xT := xT_a2 (List.mem_of_getElem? (i := 86) rfl) rfl
theorem xt_360 : Cond.methodLink RX3 106 yX0_bestActions ∈ xT := xT_a2 (List.mem_of_getElem? (i := 87) rfl) rfl
theorem xt_361 : Cond.methodLink RX3 109 yX0_neverSenders ∈ xT := xT_a2 (List.mem_of_getElem? (i := 88) rfl) rfl
theorem xt_362 : Cond.methodLink RX3 112 yX0_typesThere ∈ xT := xT_a2 (List.mem_of_getElem? (i := 89) rfl) rfl
theorem xt_363 : Cond.methodLink RX3 116 yX0_possibleActions ∈ xT := xT_a2 (List.mem_of_getElem? (i := 90) rfl) rfl
theorem xt_364 : Cond.methodLink RL 54 yX3_belief ∈ xT := xT_a2 (List.mem_of_getElem? (i := 91) rfl) rfl
theorem xt_365 : Cond.instanceMethod yX3_belief ∈ xT := xT_a2 (List.mem_of_getElem? (i := 92) rfl) rfl
theorem xt_366 : Cond.selects RX3 yX3_belief yX3_belief ∈ xT := xT_a2 (List.mem_of_getElem? (i := 93) rfl) rfl
theorem xt_367 : Cond.code yX3_belief prog_1_method_11_code 6 (some .int) ∈ xT := xT_a2 (List.mem_of_getElem? (i := 94) rfl) rfl
theorem xt_368 : Cond.methodLink RX3 119 yX0_beliefWeight ∈ xT := xT_a2 (List.mem_of_getElem? (i := 95) rfl) rfl
theorem xt_369 : Cond.methodLink RX3 122 yX0_beliefSum ∈ xT := xT_a2 (List.mem_of_getElem? (i := 96) rfl) rfl
theorem xt_370 : Cond.instanceMethod yX0_beliefSum ∈ xT := xT_a2 (List.mem_of_getElem? (i := 97) rfl) rfl
theorem xt_371 : Cond.selects RX0 yX0_beliefSum yX0_beliefSum ∈ xT := xT_a2 (List.mem_of_getElem? (i := 98) rfl) rfl
theorem xt_372 : Cond.code yX0_beliefSum prog_2_method_23_code 4 (some .int) ∈ xT := xT_a2 (List.mem_of_getElem? (i := 99) rfl) rfl
theorem xt_373 : Cond.methodLink RX3 125 yX3_shortened ∈ xT := xT_a2 (List.mem_of_getElem? (i := 100) rfl) rfl
theorem xt_374 : Cond.static yX3_shortened ∈ xT := xT_a2 (List.mem_of_getElem? (i := 101) rfl) rfl
theorem xt_375 : Cond.code yX3_shortened prog_1_method_29_code 7 (some .int) ∈ xT := xT_a2 (List.mem_of_getElem? (i := 102) rfl) rfl
theorem xt_376 : Cond.methodLink RX3 200 yJ9_abs_0f7a4 ∈ xT := xT_a2 (List.mem_of_getElem? (i := 103) rfl) rfl
theorem xt_377 : Cond.static yJ9_abs_0f7a4 ∈ xT := xT_a2 (List.mem_of_getElem? (i := 104) rfl) rfl
theorem xt_378 : Cond.code yJ9_abs_0f7a4 prog_8_method_59_code 1 (some .int) ∈ xT := xT_a2 (List.mem_of_getElem? (i := 105) rfl) rfl
theorem xt_379 : Cond.methodLink RL 58 yX3_mean ∈ xT := xT_a2 (List.mem_of_getElem? (i := 106) rfl) rfl
theorem xt_380 : Cond.instanceMethod yX3_mean ∈ xT := xT_a2 (List.mem_of_getElem? (i := 107) rfl) rfl
theorem xt_381 : Cond.selects RX3 yX3_mean yX3_mean ∈ xT := xT_a2 (List.mem_of_getElem? (i := 108) rfl) rfl
theorem xt_382 : Cond.code yX3_mean prog_1_method_12_code 6 (some .int) ∈ xT := xT_a2 (List.mem_of_getElem? (i := 109) rfl) rfl
theorem xt_383 : Cond.methodLink RX3 128 yX0_worthOf ∈ xT := xT_a2 (List.mem_of_getElem? (i := 110) rfl) rfl
theorem xt_384 : Cond.instanceMethod yX0_worthOf ∈ xT := xT_a2 (List.mem_of_getElem? (i := 111) rfl) rfl
theorem xt_385 : Cond.selects RX0 yX0_worthOf yX0_worthOf ∈ xT := xT_a2 (List.mem_of_getElem? (i := 112) rfl) rfl
theorem xt_386 : Cond.code yX0_worthOf prog_2_method_26_code 6 (some .int) ∈ xT := xT_a2 (List.mem_of_getElem? (i := 113) rfl) rfl
theorem xt_387 : Cond.methodLink RL 62 yX3_why ∈ xT := xT_a2 (List.mem_of_getElem? (i := 114) rfl) rfl
theorem xt_388 : Cond.instanceMethod yX3_why ∈ xT := xT_a2 (List.mem_of_getElem? (i := 115) rfl) rfl
theorem xt_389 : Cond.selects RX3 yX3_why yX3_why ∈ xT := xT_a2 (List.mem_of_getElem? (i := 116) rfl) rfl
theorem xt_390 : Cond.code yX3_why prog_1_method_13_code 4 (some .int) ∈ xT := xT_a2 (List.mem_of_getElem? (i := 117) rfl) rfl
theorem xt_391 : Cond.methodLink RX3 131 yX0_lowestBetterType ∈ xT := xT_a2 (List.mem_of_getElem? (i := 118) rfl) rfl
theorem xt_392 : Cond.methodLink RX3 134 yX0_lowestWrongMessage ∈ xT := xT_a2 (List.mem_of_getElem? (i := 119) rfl) rfl
theorem xt_393 : Cond.instanceMethod yX0_lowestWrongMessage ∈ xT := xT_a2 (List.mem_of_getElem? (i := 120) rfl) rfl
theorem xt_394 : Cond.selects RX0 yX0_lowestWrongMessage yX0_lowestWrongMessage ∈ xT := xT_a2 (List.mem_of_getElem? (i := 121) rfl) rfl
theorem xt_395 : Cond.code yX0_lowestWrongMessage prog_2_method_28_code 2 (some .int) ∈ xT := xT_a2 (List.mem_of_getElem? (i := 122) rfl) rfl
theorem xt_396 : Cond.methodLink RX0 89 yX0_bestActions ∈ xT := xT_a2 (List.mem_of_getElem? (i := 123) rfl) rfl
theorem xt_397 : Cond.methodLink RL 66 yX3_count ∈ xT := xT_a2 (List.mem_of_getElem? (i := 124) rfl) rfl
theorem xt_398 : Cond.instanceMethod yX3_count ∈ xT := xT_a2 (List.mem_of_getElem? (i := 125) rfl) rfl
theorem xt_399 : Cond.selects RX3 yX3_count yX3_count ∈ xT := xT_a2 (List.mem_of_getElem? (i := 126) rfl) rfl
theorem xt_400 : Cond.code yX3_count prog_1_method_14_code 2 (some .int) ∈ xT := xT_a2 (List.mem_of_getElem? (i := 127) rfl) rfl
theorem xt_401 : Cond.methodLink RX3 137 yX0_isHolding ∈ xT := xT_a2 (List.mem_of_getElem? (i := 128) rfl) rfl
theorem xt_402 : Cond.instanceMethod yX0_isHolding ∈ xT := xT_a2 (List.mem_of_getElem? (i := 129) rfl) rfl
theorem xt_403 : Cond.selects RX0 yX0_isHolding yX0_isHolding ∈ xT := xT_a2 (List.mem_of_getElem? (i := 130) rfl) rfl
theorem xt_404 : Cond.code yX0_isHolding prog_2_method_34_code 1 (some .boolean) ∈ xT := xT_a2 (List.mem_of_getElem? (i := 131) rfl) rfl
theorem xt_405 : Cond.methodLink RX0 104 yX0_lowestBetterType ∈ xT := xT_a2 (List.mem_of_getElem? (i := 132) rfl) rfl
theorem xt_406 : Cond.methodLink RX0 107 yX0_lowestWrongMessage ∈ xT := xT_a2 (List.mem_of_getElem? (i := 133) rfl) rfl
theorem xt_407 : Cond.methodLink RX3 141 yX0_kind ∈ xT := xT_a2 (List.mem_of_getElem? (i := 134) rfl) rfl
theorem xt_408 : Cond.methodLink RX3 144 yX0_isUntempted ∈ xT := xT_a2 (List.mem_of_getElem? (i := 135) rfl) rfl
theorem xt_409 : Cond.methodLink RX3 147 yX0_messagesSent ∈ xT := xT_a2 (List.mem_of_getElem? (i := 136) rfl) rfl
theorem xt_410 : Cond.methodLink RX3 150 yX0_code ∈ xT := xT_a2 (List.mem_of_getElem? (i := 137) rfl) rfl
theorem xt_411 : Cond.instanceMethod yX0_code ∈ xT := xT_a2 (List.mem_of_getElem? (i := 138) rfl) rfl
theorem xt_412 : Cond.selects RX0 yX0_code yX0_code ∈ xT := xT_a2 (List.mem_of_getElem? (i := 139) rfl) rfl
theorem xt_413 : Cond.code yX0_code prog_2_method_14_code 3 (some .int) ∈ xT := xT_a2 (List.mem_of_getElem? (i := 140) rfl) rfl
theorem xt_414 : Cond.methodLink RX3 153 yX1_length ∈ xT := xT_a2 (List.mem_of_getElem? (i := 141) rfl) rfl
theorem xt_415 : Cond.instanceMethod yX1_length ∈ xT := xT_a2 (List.mem_of_getElem? (i := 142) rfl) rfl
theorem xt_416 : Cond.selects RX1 yX1_length yX1_length ∈ xT := xT_a2 (List.mem_of_getElem? (i := 143) rfl) rfl
theorem xt_417 : Cond.code yX1_length prog_3_method_2_code 1 (some .int) ∈ xT := xT_a2 (List.mem_of_getElem? (i := 144) rfl) rfl
theorem xt_418 : Cond.methodLink RL 70 yX3_plans ∈ xT := xT_a2 (List.mem_of_getElem? (i := 145) rfl) rfl
theorem xt_419 : Cond.instanceMethod yX3_plans ∈ xT := xT_a2 (List.mem_of_getElem? (i := 146) rfl) rfl
theorem xt_420 : Cond.selects RX3 yX3_plans yX3_plans ∈ xT := xT_a2 (List.mem_of_getElem? (i := 147) rfl) rfl
theorem xt_421 : Cond.code yX3_plans prog_1_method_15_code 2 (some .int) ∈ xT := xT_a2 (List.mem_of_getElem? (i := 148) rfl) rfl
theorem xt_422 : Cond.methodLink RL 74 yX3_planAt ∈ xT := xT_a2 (List.mem_of_getElem? (i := 149) rfl) rfl
theorem xt_423 : Cond.instanceMethod yX3_planAt ∈ xT := xT_a2 (List.mem_of_getElem? (i := 150) rfl) rfl
theorem xt_424 : Cond.selects RX3 yX3_planAt yX3_planAt ∈ xT := xT_a2 (List.mem_of_getElem? (i := 151) rfl) rfl
theorem xt_425 : Cond.code yX3_planAt prog_1_method_16_code 2 (some .int) ∈ xT := xT_a2 (List.mem_of_getElem? (i := 152) rfl) rfl
theorem xt_426 : Cond.methodLink RL 78 yX3_bestAnswer ∈ xT := xT_a2 (List.mem_of_getElem? (i := 153) rfl) rfl
theorem xt_427 : Cond.instanceMethod yX3_bestAnswer ∈ xT := xT_a2 (List.mem_of_getElem? (i := 154) rfl) rfl
theorem xt_428 : Cond.selects RX3 yX3_bestAnswer yX3_bestAnswer ∈ xT := xT_a2 (List.mem_of_getElem? (i := 155) rfl) rfl
theorem xt_429 : Cond.code yX3_bestAnswer prog_1_method_17_code 2 (some .int) ∈ xT := xT_a2 (List.mem_of_getElem? (i := 156) rfl) rfl
theorem xt_430 : Cond.methodLink RX3 156 yX3_lowestIn ∈ xT := xT_a2 (List.mem_of_getElem? (i := 157) rfl) rfl
theorem xt_431 : Cond.static yX3_lowestIn ∈ xT := xT_a2 (List.mem_of_getElem? (i := 158) rfl) rfl
theorem xt_432 : Cond.code yX3_lowestIn prog_1_method_28_code 2 (some .int) ∈ xT := xT_a2 (List.mem_of_getElem? (i := 159) rfl) rfl
theorem xt_433 : Cond.methodLink RX3 197 yX3_has ∈ xT := xT_a2 (List.mem_of_getElem? (i := 160) rfl) rfl
theorem xt_434 : Cond.methodLink RL 82 yX3_bestPlan ∈ xT := xT_a2 (List.mem_of_getElem? (i := 161) rfl) rfl
theorem xt_435 : Cond.instanceMethod yX3_bestPlan ∈ xT := xT_a2 (List.mem_of_getElem? (i := 162) rfl) rfl
theorem xt_436 : Cond.selects RX3 yX3_bestPlan yX3_bestPlan ∈ xT := xT_a2 (List.mem_of_getElem? (i := 163) rfl) rfl
theorem xt_437 : Cond.code yX3_bestPlan prog_1_method_18_code 3 (some .int) ∈ xT := xT_a2 (List.mem_of_getElem? (i := 164) rfl) rfl
theorem xt_438 : Cond.methodLink RX3 159 yX2_bestPlace ∈ xT := xT_a2 (List.mem_of_getElem? (i := 165) rfl) rfl
theorem xt_439 : Cond.instanceMethod yX2_bestPlace ∈ xT := xT_a2 (List.mem_of_getElem? (i := 166) rfl) rfl
theorem xt_440 : Cond.selects RX2 yX2_bestPlace yX2_bestPlace ∈ xT := xT_a2 (List.mem_of_getElem? (i := 167) rfl) rfl
theorem xt_441 : Cond.code yX2_bestPlace prog_4_method_5_code 6 (some .int) ∈ xT := xT_a2 (List.mem_of_getElem? (i := 168) rfl) rfl
theorem xt_442 : Cond.methodLink RX2 56 yX2_receiverSumAt ∈ xT := xT_a2 (List.mem_of_getElem? (i := 169) rfl) rfl
theorem xt_443 : Cond.instanceMethod yX2_receiverSumAt ∈ xT := xT_a2 (List.mem_of_getElem? (i := 170) rfl) rfl
theorem xt_444 : Cond.selects RX2 yX2_receiverSumAt yX2_receiverSumAt ∈ xT := xT_a2 (List.mem_of_getElem? (i := 171) rfl) rfl
theorem xt_445 : Cond.code yX2_receiverSumAt prog_4_method_4_code 2 (some .int) ∈ xT := xT_a2 (List.mem_of_getElem? (i := 172) rfl) rfl
theorem xt_446 : Cond.methodLink RX2 53 yX0_receiverSum ∈ xT := xT_a2 (List.mem_of_getElem? (i := 173) rfl) rfl
theorem xt_447 : Cond.instanceMethod yX0_receiverSum ∈ xT := xT_a2 (List.mem_of_getElem? (i := 174) rfl) rfl
theorem xt_448 : Cond.selects RX0 yX0_receiverSum yX0_receiverSum ∈ xT := xT_a2 (List.mem_of_getElem? (i := 175) rfl) rfl
theorem xt_449 : Cond.code yX0_receiverSum prog_2_method_29_code 5 (some .int) ∈ xT := xT_a2 (List.mem_of_getElem? (i := 176) rfl) rfl
theorem xt_450 : Cond.methodLink RX3 163 yX2_receiverSumAt ∈ xT := xT_a2 (List.mem_of_getElem? (i := 177) rfl) rfl
theorem xt_451 : Cond.methodLink RL 88 yX3_put ∈ xT := xT_a2 (List.mem_of_getElem? (i := 178) rfl) rfl
theorem xt_452 : Cond.instanceMethod yX3_put ∈ xT := xT_a2 (List.mem_of_getElem? (i := 179) rfl) rfl
theorem xt_453 : Cond.selects RX3 yX3_put yX3_put ∈ xT := xT_a2 (List.mem_of_getElem? (i := 180) rfl) rfl
theorem xt_454 : Cond.code yX3_put prog_1_method_19_code 5 (some .int) ∈ xT := xT_a2 (List.mem_of_getElem? (i := 181) rfl) rfl
theorem xt_455 : Cond.methodLink RX3 166 yX3_charactersIn ∈ xT := xT_a2 (List.mem_of_getElem? (i := 182) rfl) rfl
theorem xt_456 : Cond.static yX3_charactersIn ∈ xT := xT_a2 (List.mem_of_getElem? (i := 183) rfl) rfl
theorem xt_457 : Cond.code yX3_charactersIn prog_1_method_33_code 4 (some .int) ∈ xT := xT_a2 (List.mem_of_getElem? (i := 184) rfl) rfl
theorem xt_458 : Cond.methodLink RX3 170 yX3_characterOf ∈ xT := xT_a2 (List.mem_of_getElem? (i := 185) rfl) rfl
theorem xt_459 : Cond.static yX3_characterOf ∈ xT := xT_a2 (List.mem_of_getElem? (i := 186) rfl) rfl
theorem xt_460 : Cond.code yX3_characterOf prog_1_method_34_code 3 (some .int) ∈ xT := xT_a2 (List.mem_of_getElem? (i := 187) rfl) rfl
theorem xt_461 : Cond.methodLink RX3 174 yX1_append ∈ xT := xT_a2 (List.mem_of_getElem? (i := 188) rfl) rfl
theorem xt_462 : Cond.instanceMethod yX1_append ∈ xT := xT_a2 (List.mem_of_getElem? (i := 189) rfl) rfl
theorem xt_463 : Cond.selects RX1 yX1_append yX1_append ∈ xT := xT_a2 (List.mem_of_getElem? (i := 190) rfl) rfl
theorem xt_464 : Cond.code yX1_append prog_3_method_3_code 2 none ∈ xT := xT_a2 (List.mem_of_getElem? (i := 191) rfl) rfl
theorem xt_466 : Cond.methodLink RL 93 yX3_wipe ∈ xT := xT_a2 (List.mem_of_getElem? (i := 193) rfl) rfl
theorem xt_467 : Cond.instanceMethod yX3_wipe ∈ xT := xT_a2 (List.mem_of_getElem? (i := 194) rfl) rfl
theorem xt_468 : Cond.selects RX3 yX3_wipe yX3_wipe ∈ xT := xT_a2 (List.mem_of_getElem? (i := 195) rfl) rfl
theorem xt_469 : Cond.code yX3_wipe prog_1_method_20_code 2 (some .int) ∈ xT := xT_a2 (List.mem_of_getElem? (i := 196) rfl) rfl
theorem xt_470 : Cond.methodLink RX3 177 yX1_clear ∈ xT := xT_a2 (List.mem_of_getElem? (i := 197) rfl) rfl
theorem xt_471 : Cond.instanceMethod yX1_clear ∈ xT := xT_a2 (List.mem_of_getElem? (i := 198) rfl) rfl
theorem xt_472 : Cond.selects RX1 yX1_clear yX1_clear ∈ xT := xT_a2 (List.mem_of_getElem? (i := 199) rfl) rfl
theorem xt_473 : Cond.code yX1_clear prog_3_method_4_code 1 none ∈ xT := xT_a2 (List.mem_of_getElem? (i := 200) rfl) rfl
theorem xt_474 : Cond.methodLink RL 98 yX3_fault ∈ xT := xT_a2 (List.mem_of_getElem? (i := 201) rfl) rfl
theorem xt_475 : Cond.instanceMethod yX3_fault ∈ xT := xT_a2 (List.mem_of_getElem? (i := 202) rfl) rfl
theorem xt_476 : Cond.selects RX3 yX3_fault yX3_fault ∈ xT := xT_a2 (List.mem_of_getElem? (i := 203) rfl) rfl
theorem xt_477 : Cond.code yX3_fault prog_1_method_21_code 1 (some .int) ∈ xT := xT_a2 (List.mem_of_getElem? (i := 204) rfl) rfl
theorem xt_478 : Cond.methodLink RX3 180 yX1_faultPlace ∈ xT := xT_a2 (List.mem_of_getElem? (i := 205) rfl) rfl
theorem xt_479 : Cond.instanceMethod yX1_faultPlace ∈ xT := xT_a2 (List.mem_of_getElem? (i := 206) rfl) rfl
theorem xt_480 : Cond.selects RX1 yX1_faultPlace yX1_faultPlace ∈ xT := xT_a2 (List.mem_of_getElem? (i := 207) rfl) rfl
theorem xt_481 : Cond.code yX1_faultPlace prog_3_method_12_code 5 (some .int) ∈ xT := xT_a2 (List.mem_of_getElem? (i := 208) rfl) rfl
theorem xt_482 : Cond.methodLink RX1 66 yX1_faultOfOrder ∈ xT := xT_a2 (List.mem_of_getElem? (i := 209) rfl) rfl
theorem xt_484 : Cond.instanceMethod yX1_faultOfOrder ∈ xT := xT_a2 (List.mem_of_getElem? (i := 211) rfl) rfl
theorem xt_485 : Cond.code yX1_faultOfOrder prog_3_method_11_code 4 (some .int) ∈ xT := xT_a2 (List.mem_of_getElem? (i := 212) rfl) rfl
theorem xt_486 : Cond.methodLink RX1 39 yX1_shapeOf ∈ xT := xT_a2 (List.mem_of_getElem? (i := 213) rfl) rfl
theorem xt_488 : Cond.instanceMethod yX1_shapeOf ∈ xT := xT_a2 (List.mem_of_getElem? (i := 215) rfl) rfl
theorem xt_489 : Cond.code yX1_shapeOf prog_3_method_7_code 2 (some (.object "java/lang/String")) ∈ xT := xT_a2 (List.mem_of_getElem? (i := 216) rfl) rfl
theorem xt_490 : Cond.methodLink RX1 23 yX1_signAt ∈ xT := xT_a2 (List.mem_of_getElem? (i := 217) rfl) rfl
theorem xt_491 : Cond.instanceMethod yX1_signAt ∈ xT := xT_a2 (List.mem_of_getElem? (i := 218) rfl) rfl
theorem xt_492 : Cond.selects RX1 yX1_signAt yX1_signAt ∈ xT := xT_a2 (List.mem_of_getElem? (i := 219) rfl) rfl
theorem xt_493 : Cond.code yX1_signAt prog_3_method_5_code 2 (some .int) ∈ xT := xT_a2 (List.mem_of_getElem? (i := 220) rfl) rfl
theorem xt_500 : Cond.methodLink RX1 54 yJ0_isEmpty_aae02 ∈ xT := xT_a2 (List.mem_of_getElem? (i := 227) rfl) rfl
theorem xt_501 : Cond.instanceMethod yJ0_isEmpty_aae02 ∈ xT := xT_a2 (List.mem_of_getElem? (i := 228) rfl) rfl
theorem xt_502 : Cond.selects RJ0 yJ0_isEmpty_aae02 yJ0_isEmpty_aae02 ∈ xT := xT_a2 (List.mem_of_getElem? (i := 229) rfl) rfl
theorem xt_503 : Cond.code yJ0_isEmpty_aae02 prog_9_method_55_code 1 (some .boolean) ∈ xT := xT_a2 (List.mem_of_getElem? (i := 230) rfl) rfl
theorem xt_504 : Cond.methodLink RX1 43 yJ0_length_8abf5 ∈ xT := xT_a2 (List.mem_of_getElem? (i := 231) rfl) rfl
theorem xt_505 : Cond.instanceMethod yJ0_length_8abf5 ∈ xT := xT_a2 (List.mem_of_getElem? (i := 232) rfl) rfl
theorem xt_506 : Cond.selects RJ0 yJ0_length_8abf5 yJ0_length_8abf5 ∈ xT := xT_a2 (List.mem_of_getElem? (i := 233) rfl) rfl
theorem xt_507 : Cond.code yJ0_length_8abf5 prog_9_method_54_code 1 (some .int) ∈ xT := xT_a2 (List.mem_of_getElem? (i := 234) rfl) rfl
theorem xt_508 : Cond.methodLink RJ0 335 yJ0_coder_7d493 ∈ xT := xT_a2 (List.mem_of_getElem? (i := 235) rfl) rfl
theorem xt_509 : Cond.instanceMethod yJ0_coder_7d493 ∈ xT := xT_a2 (List.mem_of_getElem? (i := 236) rfl) rfl
theorem xt_510 : Cond.selects RJ0 yJ0_coder_7d493 yJ0_coder_7d493 ∈ xT := xT_a2 (List.mem_of_getElem? (i := 237) rfl) rfl
theorem xt_511 : Cond.code yJ0_coder_7d493 prog_9_method_152_code 1 (some .byte) ∈ xT := xT_a2 (List.mem_of_getElem? (i := 238) rfl) rfl
theorem xt_512 : Cond.fieldLink RJ0 38 "java/lang/String" "COMPACT_STRINGS" "Z" ∈ xT := xT_a2 (List.mem_of_getElem? (i := 239) rfl) rfl
theorem xt_514 : Cond.methodLink RX1 58 yJ0_charAt_5068e ∈ xT := xT_a3 (List.mem_of_getElem? (i := 1) rfl) rfl
theorem xt_515 : Cond.instanceMethod yJ0_charAt_5068e ∈ xT := xT_a3 (List.mem_of_getElem? (i := 2) rfl) rfl
theorem xt_516 : Cond.selects RJ0 yJ0_charAt_5068e yJ0_charAt_5068e ∈ xT := xT_a3 (List.mem_of_getElem? (i := 3) rfl) rfl
theorem xt_517 : Cond.code yJ0_charAt_5068e prog_9_method_56_code 2 (some .char) ∈ xT := xT_a3 (List.mem_of_getElem? (i := 4) rfl) rfl
theorem xt_518 : Cond.methodLink RJ0 492 yJ0_isLatin1_aae02 ∈ xT := xT_a3 (List.mem_of_getElem? (i := 5) rfl) rfl
theorem xt_519 : Cond.instanceMethod yJ0_isLatin1_aae02 ∈ xT := xT_a3 (List.mem_of_getElem? (i := 6) rfl) rfl
theorem xt_520 : Cond.selects RJ0 yJ0_isLatin1_aae02 yJ0_isLatin1_aae02 ∈ xT := xT_a3 (List.mem_of_getElem? (i := 7) rfl) rfl
theorem xt_521 : Cond.code yJ0_isLatin1_aae02 prog_9_method_154_code 1 (some .boolean) ∈ xT := xT_a3 (List.mem_of_getElem? (i := 8) rfl) rfl
theorem xt_522 : Cond.methodLink RJ0 495 yJ1_charAt_3b067 ∈ xT := xT_a3 (List.mem_of_getElem? (i := 9) rfl) rfl
theorem xt_523 : Cond.static yJ1_charAt_3b067 ∈ xT := xT_a3 (List.mem_of_getElem? (i := 10) rfl) rfl
theorem xt_524 : Cond.code yJ1_charAt_3b067 prog_10_method_2_code 2 (some .char) ∈ xT := xT_a3 (List.mem_of_getElem? (i := 11) rfl) rfl
theorem xt_525 : Cond.methodLink RJ1 9 yJ0_checkIndex_df160 ∈ xT := xT_a3 (List.mem_of_getElem? (i := 12) rfl) rfl
theorem xt_526 : Cond.static yJ0_checkIndex_df160 ∈ xT := xT_a3 (List.mem_of_getElem? (i := 13) rfl) rfl
theorem xt_527 : Cond.code yJ0_checkIndex_df160 prog_9_method_155_code 2 none ∈ xT := xT_a3 (List.mem_of_getElem? (i := 14) rfl) rfl
theorem xt_528 : Cond.fieldLink RJ0 1053 "jdk/internal/util/Preconditions" "SIOOBE_FORMATTER" "Ljava/util/function/BiFunction;" ∈ xT := xT_a3 (List.mem_of_getElem? (i := 15) rfl) rfl
theorem xt_530 : Cond.methodLink RJ0 1059 yJ3_checkIndex_8e157 ∈ xT := xT_a3 (List.mem_of_getElem? (i := 17) rfl) rfl
theorem xt_531 : Cond.static yJ3_checkIndex_8e157 ∈ xT := xT_a3 (List.mem_of_getElem? (i := 18) rfl) rfl
theorem xt_532 : Cond.code yJ3_checkIndex_8e157 prog_14_method_11_code 3 (some .int) ∈ xT := xT_a3 (List.mem_of_getElem? (i := 19) rfl) rfl
theorem xt_533 : Cond.methodLink RJ0 498 yJ2_charAt_3b067 ∈ xT := xT_a3 (List.mem_of_getElem? (i := 20) rfl) rfl
theorem xt_534 : Cond.static yJ2_charAt_3b067 ∈ xT := xT_a3 (List.mem_of_getElem? (i := 21) rfl) rfl
theorem xt_535 : Cond.code yJ2_charAt_3b067 prog_11_method_83_code 2 (some .char) ∈ xT := xT_a3 (List.mem_of_getElem? (i := 22) rfl) rfl
theorem xt_536 : Cond.methodLink RJ2 67 yJ2_checkIndex_2214a ∈ xT := xT_a3 (List.mem_of_getElem? (i := 23) rfl) rfl
theorem xt_537 : Cond.static yJ2_checkIndex_2214a ∈ xT := xT_a3 (List.mem_of_getElem? (i := 24) rfl) rfl
theorem xt_538 : Cond.code yJ2_checkIndex_2214a prog_11_method_91_code 2 none ∈ xT := xT_a3 (List.mem_of_getElem? (i := 25) rfl) rfl
theorem xt_539 : Cond.methodLink RJ2 48 yJ2_length_9d52b ∈ xT := xT_a3 (List.mem_of_getElem? (i := 26) rfl) rfl
theorem xt_540 : Cond.static yJ2_length_9d52b ∈ xT := xT_a3 (List.mem_of_getElem? (i := 27) rfl) rfl
theorem xt_541 : Cond.code yJ2_length_9d52b prog_11_method_6_code 1 (some .int) ∈ xT := xT_a3 (List.mem_of_getElem? (i := 28) rfl) rfl
theorem xt_542 : Cond.methodLink RJ2 414 yJ0_checkIndex_df160 ∈ xT := xT_a3 (List.mem_of_getElem? (i := 29) rfl) rfl
theorem xt_543 : Cond.methodLink RJ2 71 yJ2_getChar_3b067 ∈ xT := xT_a3 (List.mem_of_getElem? (i := 30) rfl) rfl
theorem xt_544 : Cond.static yJ2_getChar_3b067 ∈ xT := xT_a3 (List.mem_of_getElem? (i := 31) rfl) rfl
theorem xt_545 : Cond.code yJ2_getChar_3b067 prog_11_method_5_code 2 (some .char) ∈ xT := xT_a3 (List.mem_of_getElem? (i := 32) rfl) rfl
theorem xt_546 : Cond.fieldLink RJ2 44 "java/lang/StringUTF16" "$assertionsDisabled" "Z" ∈ xT := xT_a3 (List.mem_of_getElem? (i := 33) rfl) rfl
theorem xt_548 : Cond.fieldLink RJ2 59 "java/lang/StringUTF16" "HI_BYTE_SHIFT" "I" ∈ xT := xT_a3 (List.mem_of_getElem? (i := 35) rfl) rfl
theorem xt_550 : Cond.fieldLink RJ2 63 "java/lang/StringUTF16" "LO_BYTE_SHIFT" "I" ∈ xT := xT_a3 (List.mem_of_getElem? (i := 37) rfl) rfl
theorem xt_552 : Cond.methodLink RX1 62 yX1_fits ∈ xT := xT_a3 (List.mem_of_getElem? (i := 39) rfl) rfl
theorem xt_553 : Cond.static yX1_fits ∈ xT := xT_a3 (List.mem_of_getElem? (i := 40) rfl) rfl
theorem xt_554 : Cond.code yX1_fits prog_3_method_8_code 2 (some .boolean) ∈ xT := xT_a3 (List.mem_of_getElem? (i := 41) rfl) rfl
theorem xt_555 : Cond.methodLink RX1 48 yX1_endOfOrder ∈ xT := xT_a3 (List.mem_of_getElem? (i := 42) rfl) rfl
theorem xt_556 : Cond.instanceMethod yX1_endOfOrder ∈ xT := xT_a3 (List.mem_of_getElem? (i := 43) rfl) rfl
theorem xt_557 : Cond.selects RX1 yX1_endOfOrder yX1_endOfOrder ∈ xT := xT_a3 (List.mem_of_getElem? (i := 44) rfl) rfl
theorem xt_558 : Cond.code yX1_endOfOrder prog_3_method_9_code 2 (some .int) ∈ xT := xT_a3 (List.mem_of_getElem? (i := 45) rfl) rfl
theorem xt_559 : Cond.arrayClass .byte ∈ xT := xT_a3 (List.mem_of_getElem? (i := 46) rfl) rfl
theorem xt_560 : Cond.methodLink RL 102 yX3_carryOut ∈ xT := xT_a3 (List.mem_of_getElem? (i := 47) rfl) rfl
theorem xt_561 : Cond.instanceMethod yX3_carryOut ∈ xT := xT_a3 (List.mem_of_getElem? (i := 48) rfl) rfl
theorem xt_562 : Cond.selects RX3 yX3_carryOut yX3_carryOut ∈ xT := xT_a3 (List.mem_of_getElem? (i := 49) rfl) rfl
theorem xt_563 : Cond.code yX3_carryOut prog_1_method_22_code 3 (some .int) ∈ xT := xT_a3 (List.mem_of_getElem? (i := 50) rfl) rfl
theorem xt_564 : Cond.methodLink RX3 183 yX3_isDone ∈ xT := xT_a3 (List.mem_of_getElem? (i := 51) rfl) rfl
theorem xt_566 : Cond.instanceMethod yX3_isDone ∈ xT := xT_a3 (List.mem_of_getElem? (i := 53) rfl) rfl
theorem xt_567 : Cond.code yX3_isDone prog_1_method_35_code 6 (some .boolean) ∈ xT := xT_a3 (List.mem_of_getElem? (i := 54) rfl) rfl
theorem xt_568 : Cond.methodLink RX3 217 yX1_digitAt ∈ xT := xT_a3 (List.mem_of_getElem? (i := 55) rfl) rfl
theorem xt_569 : Cond.instanceMethod yX1_digitAt ∈ xT := xT_a3 (List.mem_of_getElem? (i := 56) rfl) rfl
theorem xt_570 : Cond.selects RX1 yX1_digitAt yX1_digitAt ∈ xT := xT_a3 (List.mem_of_getElem? (i := 57) rfl) rfl
theorem xt_571 : Cond.code yX1_digitAt prog_3_method_6_code 3 (some .int) ∈ xT := xT_a3 (List.mem_of_getElem? (i := 58) rfl) rfl
theorem xt_572 : Cond.methodLink RX3 220 yX1_lastNumberOf ∈ xT := xT_a3 (List.mem_of_getElem? (i := 59) rfl) rfl
theorem xt_573 : Cond.instanceMethod yX1_lastNumberOf ∈ xT := xT_a3 (List.mem_of_getElem? (i := 60) rfl) rfl
theorem xt_574 : Cond.selects RX1 yX1_lastNumberOf yX1_lastNumberOf ∈ xT := xT_a3 (List.mem_of_getElem? (i := 61) rfl) rfl
theorem xt_575 : Cond.code yX1_lastNumberOf prog_3_method_10_code 4 (some .int) ∈ xT := xT_a3 (List.mem_of_getElem? (i := 62) rfl) rfl
theorem xt_576 : Cond.methodLink RX1 51 yX1_digitAt ∈ xT := xT_a3 (List.mem_of_getElem? (i := 63) rfl) rfl
theorem xt_577 : Cond.methodLink RX3 223 yX1_signAt ∈ xT := xT_a3 (List.mem_of_getElem? (i := 64) rfl) rfl
theorem xt_578 : Cond.methodLink RX3 226 yX3_isChanged ∈ xT := xT_a3 (List.mem_of_getElem? (i := 65) rfl) rfl
theorem xt_580 : Cond.instanceMethod yX3_isChanged ∈ xT := xT_a3 (List.mem_of_getElem? (i := 67) rfl) rfl
theorem xt_581 : Cond.code yX3_isChanged prog_1_method_36_code 4 (some .boolean) ∈ xT := xT_a3 (List.mem_of_getElem? (i := 68) rfl) rfl
theorem xt_582 : Cond.methodLink RX3 187 yX1_endOfOrder ∈ xT := xT_a3 (List.mem_of_getElem? (i := 69) rfl) rfl
theorem xt_583 : Cond.methodLink RL 106 yX3_undo ∈ xT := xT_a3 (List.mem_of_getElem? (i := 70) rfl) rfl
theorem xt_584 : Cond.instanceMethod yX3_undo ∈ xT := xT_a3 (List.mem_of_getElem? (i := 71) rfl) rfl
theorem xt_585 : Cond.selects RX3 yX3_undo yX3_undo ∈ xT := xT_a3 (List.mem_of_getElem? (i := 72) rfl) rfl
theorem xt_586 : Cond.code yX3_undo prog_1_method_23_code 1 (some .int) ∈ xT := xT_a3 (List.mem_of_getElem? (i := 73) rfl) rfl
theorem xt_587 : Cond.methodLink RX3 190 yX0_readFrom ∈ xT := xT_a3 (List.mem_of_getElem? (i := 74) rfl) rfl
theorem xt_588 : Cond.methodLink RL 110 yX3_save ∈ xT := xT_a3 (List.mem_of_getElem? (i := 75) rfl) rfl
theorem xt_589 : Cond.instanceMethod yX3_save ∈ xT := xT_a3 (List.mem_of_getElem? (i := 76) rfl) rfl
theorem xt_590 : Cond.selects RX3 yX3_save yX3_save ∈ xT := xT_a3 (List.mem_of_getElem? (i := 77) rfl) rfl
theorem xt_591 : Cond.code yX3_save prog_1_method_24_code 2 (some .int) ∈ xT := xT_a3 (List.mem_of_getElem? (i := 78) rfl) rfl
theorem xt_592 : Cond.methodLink RL 114 yX3_restore ∈ xT := xT_a3 (List.mem_of_getElem? (i := 79) rfl) rfl
theorem xt_593 : Cond.instanceMethod yX3_restore ∈ xT := xT_a3 (List.mem_of_getElem? (i := 80) rfl) rfl
theorem xt_594 : Cond.selects RX3 yX3_restore yX3_restore ∈ xT := xT_a3 (List.mem_of_getElem? (i := 81) rfl) rfl
theorem xt_595 : Cond.code yX3_restore prog_1_method_25_code 2 (some .int) ∈ xT := xT_a3 (List.mem_of_getElem? (i := 82) rfl) rfl
theorem xt_596 : Cond.classLink RL 10 RX4 ∈ xT := xT_a3 (List.mem_of_getElem? (i := 83) rfl) rfl
theorem xt_598 : Cond.methodLink RL 12 yX4_init ∈ xT := xT_a3 (List.mem_of_getElem? (i := 85) rfl) rfl
theorem xt_599 : Cond.instanceMethod yX4_init ∈ xT := xT_a3 (List.mem_of_getElem? (i := 86) rfl) rfl
theorem xt_600 : Cond.code yX4_init prog_6_method_1_code 2 none ∈ xT := xT_a3 (List.mem_of_getElem? (i := 87) rfl) rfl
theorem xt_601 : Cond.methodLink RX4 1 objectInit ∈ xT := xT_a3 (List.mem_of_getElem? (i := 88) rfl) rfl
theorem xt_602 : Cond.fieldLink RX4 7 "MessageGamesModel" "now" "[I" ∈ xT := xT_a3 (List.mem_of_getElem? (i := 89) rfl) rfl
theorem xt_603 : Cond.fieldLink RX4 13 "MessageGamesModel" "past" "[I" ∈ xT := xT_a3 (List.mem_of_getElem? (i := 90) rfl) rfl
theorem xt_604 : Cond.fieldLink RX4 39 "MessageGamesModel" "kept" "I" ∈ xT := xT_a3 (List.mem_of_getElem? (i := 91) rfl) rfl
theorem xt_605 : Cond.fieldLink RX4 16 "MessageGamesModel" "slots" "[I" ∈ xT := xT_a3 (List.mem_of_getElem? (i := 92) rfl) rfl
theorem xt_606 : Cond.fieldLink RX4 19 "MessageGamesModel" "held" "[Z" ∈ xT := xT_a3 (List.mem_of_getElem? (i := 93) rfl) rfl
theorem xt_607 : Cond.fieldLink RX4 23 "MessageGamesModel" "pad" "[I" ∈ xT := xT_a3 (List.mem_of_getElem? (i := 94) rfl) rfl
theorem xt_608 : Cond.fieldLink RX4 161 "MessageGamesModel" "padded" "I" ∈ xT := xT_a3 (List.mem_of_getElem? (i := 95) rfl) rfl
theorem xt_609 : Cond.fieldLink RX4 174 "MessageGamesModel" "at" "I" ∈ xT := xT_a3 (List.mem_of_getElem? (i := 96) rfl) rfl
theorem xt_610 : Cond.fieldLink RX4 26 "MessageGamesModel" "orders" "[I" ∈ xT := xT_a3 (List.mem_of_getElem? (i := 97) rfl) rfl
theorem xt_611 : Cond.fieldLink RX4 181 "MessageGamesModel" "ordered" "I" ∈ xT := xT_a3 (List.mem_of_getElem? (i := 98) rfl) rfl
theorem xt_612 : Cond.fieldLink RX4 29 "MessageGamesModel" "plan" "[I" ∈ xT := xT_a3 (List.mem_of_getElem? (i := 99) rfl) rfl
theorem xt_613 : Cond.fieldLink RX4 32 "MessageGamesModel" "belief" "[I" ∈ xT := xT_a3 (List.mem_of_getElem? (i := 100) rfl) rfl
theorem xt_614 : Cond.laysFinal RX4 "MessageGamesModel" "now" "[I" ∈ xT := xT_a3 (List.mem_of_getElem? (i := 101) rfl) rfl
theorem xt_615 : Cond.laysFinal RX4 "MessageGamesModel" "past" "[I" ∈ xT := xT_a3 (List.mem_of_getElem? (i := 103) rfl) rfl
theorem xt_616 : Cond.lays RX4 "MessageGamesModel" "kept" "I" ∈ xT := xT_a3 (List.mem_of_getElem? (i := 105) rfl) rfl
theorem xt_617 : Cond.laysFinal RX4 "MessageGamesModel" "slots" "[I" ∈ xT := xT_a3 (List.mem_of_getElem? (i := 107) rfl) rfl
theorem xt_618 : Cond.laysFinal RX4 "MessageGamesModel" "held" "[Z" ∈ xT := xT_a3 (List.mem_of_getElem? (i := 109) rfl) rfl
theorem xt_619 : Cond.laysFinal RX4 "MessageGamesModel" "pad" "[I" ∈ xT := xT_a3 (List.mem_of_getElem? (i := 111) rfl) rfl
theorem xt_620 : Cond.lays RX4 "MessageGamesModel" "padded" "I" ∈ xT := xT_a3 (List.mem_of_getElem? (i := 113) rfl) rfl
theorem xt_621 : Cond.lays RX4 "MessageGamesModel" "at" "I" ∈ xT := xT_a3 (List.mem_of_getElem? (i := 115) rfl) rfl
theorem xt_622 : Cond.laysFinal RX4 "MessageGamesModel" "orders" "[I" ∈ xT := xT_a3 (List.mem_of_getElem? (i := 117) rfl) rfl
theorem xt_623 : Cond.lays RX4 "MessageGamesModel" "ordered" "I" ∈ xT := xT_a3 (List.mem_of_getElem? (i := 119) rfl) rfl
theorem xt_624 : Cond.laysFinal RX4 "MessageGamesModel" "plan" "[I" ∈ xT := xT_a3 (List.mem_of_getElem? (i := 121) rfl) rfl
theorem xt_625 : Cond.laysFinal RX4 "MessageGamesModel" "belief" "[I" ∈ xT := xT_a3 (List.mem_of_getElem? (i := 123) rfl) rfl
theorem xt_626 : Cond.methodLink RL 109 yX4_undo ∈ xT := xT_a3 (List.mem_of_getElem? (i := 126) rfl) rfl
theorem xt_627 : Cond.instanceMethod yX4_undo ∈ xT := xT_a3 (List.mem_of_getElem? (i := 127) rfl) rfl
theorem xt_628 : Cond.selects RX4 yX4_undo yX4_undo ∈ xT := xT_a3 (List.mem_of_getElem? (i := 128) rfl) rfl
theorem xt_629 : Cond.code yX4_undo prog_6_method_7_code 1 (some .int) ∈ xT := xT_a3 (List.mem_of_getElem? (i := 129) rfl) rfl
theorem xt_630 : Cond.methodLink RX4 43 yX4_lays ∈ xT := xT_a3 (List.mem_of_getElem? (i := 130) rfl) rfl
theorem xt_631 : Cond.static yX4_lays ∈ xT := xT_a3 (List.mem_of_getElem? (i := 131) rfl) rfl
theorem xt_632 : Cond.code yX4_lays prog_6_method_5_code 5 none ∈ xT := xT_a3 (List.mem_of_getElem? (i := 132) rfl) rfl
theorem xt_633 : Cond.methodLink RL 113 yX4_save ∈ xT := xT_a3 (List.mem_of_getElem? (i := 133) rfl) rfl
theorem xt_634 : Cond.instanceMethod yX4_save ∈ xT := xT_a3 (List.mem_of_getElem? (i := 134) rfl) rfl
theorem xt_635 : Cond.selects RX4 yX4_save yX4_save ∈ xT := xT_a3 (List.mem_of_getElem? (i := 135) rfl) rfl
theorem xt_636 : Cond.code yX4_save prog_6_method_9_code 2 (some .int) ∈ xT := xT_a3 (List.mem_of_getElem? (i := 136) rfl) rfl
theorem xt_637 : Cond.methodLink RX4 35 yX4_in ∈ xT := xT_a3 (List.mem_of_getElem? (i := 137) rfl) rfl
theorem xt_638 : Cond.static yX4_in ∈ xT := xT_a3 (List.mem_of_getElem? (i := 138) rfl) rfl
theorem xt_639 : Cond.code yX4_in prog_6_method_3_code 3 (some .boolean) ∈ xT := xT_a3 (List.mem_of_getElem? (i := 139) rfl) rfl
theorem xt_640 : Cond.methodLink RX4 47 yX4_code ∈ xT := xT_a3 (List.mem_of_getElem? (i := 140) rfl) rfl
theorem xt_642 : Cond.instanceMethod yX4_code ∈ xT := xT_a3 (List.mem_of_getElem? (i := 142) rfl) rfl
theorem xt_643 : Cond.code yX4_code prog_6_method_8_code 3 (some .int) ∈ xT := xT_a3 (List.mem_of_getElem? (i := 143) rfl) rfl
theorem xt_644 : Cond.methodLink RL 117 yX4_restore ∈ xT := xT_a3 (List.mem_of_getElem? (i := 144) rfl) rfl
theorem xt_645 : Cond.instanceMethod yX4_restore ∈ xT := xT_a3 (List.mem_of_getElem? (i := 145) rfl) rfl
theorem xt_646 : Cond.selects RX4 yX4_restore yX4_restore ∈ xT := xT_a3 (List.mem_of_getElem? (i := 146) rfl) rfl
theorem xt_647 : Cond.code yX4_restore prog_6_method_10_code 2 (some .int) ∈ xT := xT_a3 (List.mem_of_getElem? (i := 147) rfl) rfl
theorem xt_648 : Cond.methodLink RX4 51 yX4_records ∈ xT := xT_a3 (List.mem_of_getElem? (i := 148) rfl) rfl
theorem xt_650 : Cond.instanceMethod yX4_records ∈ xT := xT_a3 (List.mem_of_getElem? (i := 150) rfl) rfl
theorem xt_651 : Cond.code yX4_records prog_6_method_6_code 2 none ∈ xT := xT_a3 (List.mem_of_getElem? (i := 151) rfl) rfl
theorem xt_652 : Cond.methodLink RL 17 yX4_weight ∈ xT := xT_a3 (List.mem_of_getElem? (i := 152) rfl) rfl
theorem xt_653 : Cond.instanceMethod yX4_weight ∈ xT := xT_a3 (List.mem_of_getElem? (i := 153) rfl) rfl
theorem xt_654 : Cond.selects RX4 yX4_weight yX4_weight ∈ xT := xT_a3 (List.mem_of_getElem? (i := 154) rfl) rfl
theorem xt_655 : Cond.code yX4_weight prog_6_method_35_code 4 (some .int) ∈ xT := xT_a3 (List.mem_of_getElem? (i := 155) rfl) rfl
theorem xt_656 : Cond.methodLink RX4 121 yX4_mayWeigh ∈ xT := xT_a3 (List.mem_of_getElem? (i := 156) rfl) rfl
theorem xt_658 : Cond.instanceMethod yX4_mayWeigh ∈ xT := xT_a3 (List.mem_of_getElem? (i := 158) rfl) rfl
theorem xt_659 : Cond.code yX4_mayWeigh prog_6_method_33_code 4 (some .int) ∈ xT := xT_a3 (List.mem_of_getElem? (i := 159) rfl) rfl
theorem xt_660 : Cond.methodLink RX4 118 yX4_isOne ∈ xT := xT_a3 (List.mem_of_getElem? (i := 160) rfl) rfl
theorem xt_661 : Cond.static yX4_isOne ∈ xT := xT_a3 (List.mem_of_getElem? (i := 161) rfl) rfl
theorem xt_662 : Cond.code yX4_isOne prog_6_method_4_code 1 (some .boolean) ∈ xT := xT_a3 (List.mem_of_getElem? (i := 162) rfl) rfl
theorem xt_663 : Cond.methodLink RX4 125 yX4_changes ∈ xT := xT_a3 (List.mem_of_getElem? (i := 163) rfl) rfl
theorem xt_665 : Cond.instanceMethod yX4_changes ∈ xT := xT_a3 (List.mem_of_getElem? (i := 165) rfl) rfl
theorem xt_666 : Cond.code yX4_changes prog_6_method_34_code 4 (some .int) ∈ xT := xT_a3 (List.mem_of_getElem? (i := 166) rfl) rfl
theorem xt_667 : Cond.methodLink RL 22 yX4_pay ∈ xT := xT_a3 (List.mem_of_getElem? (i := 167) rfl) rfl
theorem xt_668 : Cond.instanceMethod yX4_pay ∈ xT := xT_a3 (List.mem_of_getElem? (i := 168) rfl) rfl
theorem xt_669 : Cond.selects RX4 yX4_pay yX4_pay ∈ xT := xT_a3 (List.mem_of_getElem? (i := 169) rfl) rfl
theorem xt_670 : Cond.code yX4_pay prog_6_method_37_code 6 (some .int) ∈ xT := xT_a3 (List.mem_of_getElem? (i := 170) rfl) rfl
theorem xt_671 : Cond.methodLink RX4 128 yX4_arePlace ∈ xT := xT_a3 (List.mem_of_getElem? (i := 171) rfl) rfl
theorem xt_672 : Cond.static yX4_arePlace ∈ xT := xT_a3 (List.mem_of_getElem? (i := 172) rfl) rfl
theorem xt_673 : Cond.code yX4_arePlace prog_6_method_36_code 3 (some .boolean) ∈ xT := xT_a3 (List.mem_of_getElem? (i := 173) rfl) rfl
theorem xt_674 : Cond.methodLink RX4 66 yX4_place ∈ xT := xT_a3 (List.mem_of_getElem? (i := 174) rfl) rfl
theorem xt_675 : Cond.static yX4_place ∈ xT := xT_a3 (List.mem_of_getElem? (i := 175) rfl) rfl
theorem xt_676 : Cond.code yX4_place prog_6_method_13_code 4 (some .int) ∈ xT := xT_a3 (List.mem_of_getElem? (i := 176) rfl) rfl
theorem xt_677 : Cond.methodLink RL 27 yX4_believe ∈ xT := xT_a3 (List.mem_of_getElem? (i := 177) rfl) rfl
theorem xt_678 : Cond.instanceMethod yX4_believe ∈ xT := xT_a3 (List.mem_of_getElem? (i := 178) rfl) rfl
theorem xt_679 : Cond.selects RX4 yX4_believe yX4_believe ∈ xT := xT_a3 (List.mem_of_getElem? (i := 179) rfl) rfl
theorem xt_680 : Cond.code yX4_believe prog_6_method_39_code 5 (some .int) ∈ xT := xT_a3 (List.mem_of_getElem? (i := 180) rfl) rfl
theorem xt_681 : Cond.methodLink RX4 131 yX4_mayBelieve ∈ xT := xT_a3 (List.mem_of_getElem? (i := 181) rfl) rfl
theorem xt_683 : Cond.instanceMethod yX4_mayBelieve ∈ xT := xT_a3 (List.mem_of_getElem? (i := 183) rfl) rfl
theorem xt_684 : Cond.code yX4_mayBelieve prog_6_method_38_code 4 (some .int) ∈ xT := xT_a3 (List.mem_of_getElem? (i := 184) rfl) rfl
theorem xt_685 : Cond.methodLink RL 31 yX4_send ∈ xT := xT_a3 (List.mem_of_getElem? (i := 185) rfl) rfl
theorem xt_686 : Cond.instanceMethod yX4_send ∈ xT := xT_a3 (List.mem_of_getElem? (i := 186) rfl) rfl
theorem xt_687 : Cond.selects RX4 yX4_send yX4_send ∈ xT := xT_a3 (List.mem_of_getElem? (i := 187) rfl) rfl
theorem xt_688 : Cond.code yX4_send prog_6_method_40_code 3 (some .int) ∈ xT := xT_a3 (List.mem_of_getElem? (i := 188) rfl) rfl
theorem xt_689 : Cond.methodLink RL 35 yX4_answer ∈ xT := xT_a3 (List.mem_of_getElem? (i := 189) rfl) rfl
theorem xt_690 : Cond.instanceMethod yX4_answer ∈ xT := xT_a3 (List.mem_of_getElem? (i := 190) rfl) rfl
theorem xt_691 : Cond.selects RX4 yX4_answer yX4_answer ∈ xT := xT_a3 (List.mem_of_getElem? (i := 191) rfl) rfl
theorem xt_692 : Cond.code yX4_answer prog_6_method_41_code 3 (some .int) ∈ xT := xT_a3 (List.mem_of_getElem? (i := 192) rfl) rfl
theorem xt_693 : Cond.methodLink RL 40 yX4_adopt ∈ xT := xT_a3 (List.mem_of_getElem? (i := 193) rfl) rfl
theorem xt_694 : Cond.instanceMethod yX4_adopt ∈ xT := xT_a3 (List.mem_of_getElem? (i := 194) rfl) rfl
theorem xt_695 : Cond.selects RX4 yX4_adopt yX4_adopt ∈ xT := xT_a3 (List.mem_of_getElem? (i := 195) rfl) rfl
theorem xt_696 : Cond.code yX4_adopt prog_6_method_44_code 4 (some .int) ∈ xT := xT_a3 (List.mem_of_getElem? (i := 196) rfl) rfl
theorem xt_697 : Cond.methodLink RX4 140 yX4_codeAt ∈ xT := xT_a3 (List.mem_of_getElem? (i := 197) rfl) rfl
theorem xt_699 : Cond.instanceMethod yX4_codeAt ∈ xT := xT_a3 (List.mem_of_getElem? (i := 199) rfl) rfl
theorem xt_700 : Cond.code yX4_codeAt prog_6_method_43_code 4 (some .int) ∈ xT := xT_a3 (List.mem_of_getElem? (i := 200) rfl) rfl
theorem xt_701 : Cond.methodLink RX4 54 yX4_looksAt ∈ xT := xT_a3 (List.mem_of_getElem? (i := 201) rfl) rfl
theorem xt_703 : Cond.instanceMethod yX4_looksAt ∈ xT := xT_a3 (List.mem_of_getElem? (i := 203) rfl) rfl
theorem xt_704 : Cond.code yX4_looksAt prog_6_method_11_code 4 none ∈ xT := xT_a3 (List.mem_of_getElem? (i := 204) rfl) rfl
theorem xt_705 : Cond.methodLink RX4 111 yX4_holds ∈ xT := xT_a3 (List.mem_of_getElem? (i := 205) rfl) rfl
theorem xt_707 : Cond.instanceMethod yX4_holds ∈ xT := xT_a3 (List.mem_of_getElem? (i := 207) rfl) rfl
theorem xt_708 : Cond.code yX4_holds prog_6_method_26_code 1 (some .boolean) ∈ xT := xT_a3 (List.mem_of_getElem? (i := 208) rfl) rfl
theorem xt_709 : Cond.methodLink RX4 92 yX4_unhappy ∈ xT := xT_a3 (List.mem_of_getElem? (i := 209) rfl) rfl
theorem xt_711 : Cond.instanceMethod yX4_unhappy ∈ xT := xT_a3 (List.mem_of_getElem? (i := 211) rfl) rfl
theorem xt_712 : Cond.code yX4_unhappy prog_6_method_24_code 2 (some .int) ∈ xT := xT_a3 (List.mem_of_getElem? (i := 212) rfl) rfl
theorem xt_713 : Cond.methodLink RX4 58 yX4_isThere ∈ xT := xT_a3 (List.mem_of_getElem? (i := 213) rfl) rfl
theorem xt_715 : Cond.instanceMethod yX4_isThere ∈ xT := xT_a3 (List.mem_of_getElem? (i := 215) rfl) rfl
theorem xt_716 : Cond.code yX4_isThere prog_6_method_14_code 2 (some .boolean) ∈ xT := xT_a3 (List.mem_of_getElem? (i := 216) rfl) rfl
theorem xt_717 : Cond.methodLink RX4 83 yX4_most ∈ xT := xT_a3 (List.mem_of_getElem? (i := 217) rfl) rfl
theorem xt_719 : Cond.instanceMethod yX4_most ∈ xT := xT_a3 (List.mem_of_getElem? (i := 219) rfl) rfl
theorem xt_720 : Cond.code yX4_most prog_6_method_23_code 4 (some .int) ∈ xT := xT_a3 (List.mem_of_getElem? (i := 220) rfl) rfl
theorem xt_721 : Cond.methodLink RX4 80 yX4_has ∈ xT := xT_a3 (List.mem_of_getElem? (i := 221) rfl) rfl
theorem xt_723 : Cond.instanceMethod yX4_has ∈ xT := xT_a3 (List.mem_of_getElem? (i := 223) rfl) rfl
theorem xt_724 : Cond.code yX4_has prog_6_method_21_code 3 (some .int) ∈ xT := xT_a3 (List.mem_of_getElem? (i := 224) rfl) rfl
theorem xt_725 : Cond.methodLink RX4 86 yX4_payoffOf ∈ xT := xT_a3 (List.mem_of_getElem? (i := 225) rfl) rfl
theorem xt_727 : Cond.instanceMethod yX4_payoffOf ∈ xT := xT_a3 (List.mem_of_getElem? (i := 227) rfl) rfl
theorem xt_728 : Cond.code yX4_payoffOf prog_6_method_22_code 2 (some .int) ∈ xT := xT_a3 (List.mem_of_getElem? (i := 228) rfl) rfl
theorem xt_729 : Cond.methodLink RX4 95 yX4_wrong ∈ xT := xT_a3 (List.mem_of_getElem? (i := 229) rfl) rfl
theorem xt_731 : Cond.instanceMethod yX4_wrong ∈ xT := xT_a3 (List.mem_of_getElem? (i := 231) rfl) rfl
theorem xt_732 : Cond.code yX4_wrong prog_6_method_25_code 2 (some .int) ∈ xT := xT_a3 (List.mem_of_getElem? (i := 232) rfl) rfl
theorem xt_733 : Cond.methodLink RX4 89 yX4_best ∈ xT := xT_a3 (List.mem_of_getElem? (i := 233) rfl) rfl
theorem xt_735 : Cond.instanceMethod yX4_best ∈ xT := xT_a3 (List.mem_of_getElem? (i := 235) rfl) rfl
theorem xt_736 : Cond.code yX4_best prog_6_method_20_code 2 (some .int) ∈ xT := xT_a3 (List.mem_of_getElem? (i := 236) rfl) rfl
theorem xt_737 : Cond.methodLink RX4 74 yX4_believes ∈ xT := xT_a3 (List.mem_of_getElem? (i := 237) rfl) rfl
theorem xt_739 : Cond.instanceMethod yX4_believes ∈ xT := xT_a3 (List.mem_of_getElem? (i := 239) rfl) rfl
theorem xt_740 : Cond.code yX4_believes prog_6_method_17_code 4 none ∈ xT := xT_a4 (List.mem_of_getElem? (i := 0) rfl) rfl
theorem xt_741 : Cond.methodLink RX4 62 yX4_senders ∈ xT := xT_a4 (List.mem_of_getElem? (i := 1) rfl) rfl
theorem xt_743 : Cond.instanceMethod yX4_senders ∈ xT := xT_a4 (List.mem_of_getElem? (i := 3) rfl) rfl
theorem xt_744 : Cond.code yX4_senders prog_6_method_16_code 4 (some .int) ∈ xT := xT_a4 (List.mem_of_getElem? (i := 4) rfl) rfl
theorem xt_745 : Cond.methodLink RX4 77 yX4_bestSet ∈ xT := xT_a4 (List.mem_of_getElem? (i := 5) rfl) rfl
theorem xt_747 : Cond.instanceMethod yX4_bestSet ∈ xT := xT_a4 (List.mem_of_getElem? (i := 7) rfl) rfl
theorem xt_748 : Cond.code yX4_bestSet prog_6_method_19_code 6 (some .int) ∈ xT := xT_a4 (List.mem_of_getElem? (i := 8) rfl) rfl
theorem xt_749 : Cond.methodLink RX4 70 yX4_worth ∈ xT := xT_a4 (List.mem_of_getElem? (i := 9) rfl) rfl
theorem xt_751 : Cond.instanceMethod yX4_worth ∈ xT := xT_a4 (List.mem_of_getElem? (i := 11) rfl) rfl
theorem xt_752 : Cond.code yX4_worth prog_6_method_18_code 5 (some .int) ∈ xT := xT_a4 (List.mem_of_getElem? (i := 12) rfl) rfl
theorem xt_753 : Cond.methodLink RX4 143 yX4_counts ∈ xT := xT_a4 (List.mem_of_getElem? (i := 13) rfl) rfl
theorem xt_755 : Cond.instanceMethod yX4_counts ∈ xT := xT_a4 (List.mem_of_getElem? (i := 15) rfl) rfl
theorem xt_756 : Cond.code yX4_counts prog_6_method_42_code 4 (some .int) ∈ xT := xT_a4 (List.mem_of_getElem? (i := 16) rfl) rfl
theorem xt_757 : Cond.methodLink RX4 134 yX4_isRefined ∈ xT := xT_a4 (List.mem_of_getElem? (i := 17) rfl) rfl
theorem xt_759 : Cond.instanceMethod yX4_isRefined ∈ xT := xT_a4 (List.mem_of_getElem? (i := 19) rfl) rfl
theorem xt_760 : Cond.code yX4_isRefined prog_6_method_32_code 1 (some .boolean) ∈ xT := xT_a4 (List.mem_of_getElem? (i := 20) rfl) rfl
theorem xt_761 : Cond.methodLink RX4 115 yX4_isBarred ∈ xT := xT_a4 (List.mem_of_getElem? (i := 21) rfl) rfl
theorem xt_763 : Cond.instanceMethod yX4_isBarred ∈ xT := xT_a4 (List.mem_of_getElem? (i := 23) rfl) rfl
theorem xt_764 : Cond.code yX4_isBarred prog_6_method_31_code 6 (some .boolean) ∈ xT := xT_a4 (List.mem_of_getElem? (i := 24) rfl) rfl
theorem xt_765 : Cond.methodLink RX4 98 yX4_there ∈ xT := xT_a4 (List.mem_of_getElem? (i := 25) rfl) rfl
theorem xt_767 : Cond.instanceMethod yX4_there ∈ xT := xT_a4 (List.mem_of_getElem? (i := 27) rfl) rfl
theorem xt_768 : Cond.code yX4_there prog_6_method_15_code 3 (some .int) ∈ xT := xT_a4 (List.mem_of_getElem? (i := 28) rfl) rfl
theorem xt_769 : Cond.methodLink RX4 108 yX4_never ∈ xT := xT_a4 (List.mem_of_getElem? (i := 29) rfl) rfl
theorem xt_771 : Cond.instanceMethod yX4_never ∈ xT := xT_a4 (List.mem_of_getElem? (i := 31) rfl) rfl
theorem xt_772 : Cond.code yX4_never prog_6_method_30_code 5 (some .int) ∈ xT := xT_a4 (List.mem_of_getElem? (i := 32) rfl) rfl
theorem xt_773 : Cond.methodLink RX4 101 yX4_possible ∈ xT := xT_a4 (List.mem_of_getElem? (i := 33) rfl) rfl
theorem xt_775 : Cond.instanceMethod yX4_possible ∈ xT := xT_a4 (List.mem_of_getElem? (i := 35) rfl) rfl
theorem xt_776 : Cond.code yX4_possible prog_6_method_28_code 7 (some .int) ∈ xT := xT_a4 (List.mem_of_getElem? (i := 36) rfl) rfl
theorem xt_777 : Cond.methodLink RX4 104 yX4_isBeyond ∈ xT := xT_a4 (List.mem_of_getElem? (i := 37) rfl) rfl
theorem xt_779 : Cond.instanceMethod yX4_isBeyond ∈ xT := xT_a4 (List.mem_of_getElem? (i := 39) rfl) rfl
theorem xt_780 : Cond.code yX4_isBeyond prog_6_method_29_code 9 (some .boolean) ∈ xT := xT_a4 (List.mem_of_getElem? (i := 40) rfl) rfl
theorem xt_781 : Cond.methodLink RX4 137 yX4_sort ∈ xT := xT_a4 (List.mem_of_getElem? (i := 41) rfl) rfl
theorem xt_783 : Cond.instanceMethod yX4_sort ∈ xT := xT_a4 (List.mem_of_getElem? (i := 43) rfl) rfl
theorem xt_784 : Cond.code yX4_sort prog_6_method_27_code 4 (some .int) ∈ xT := xT_a4 (List.mem_of_getElem? (i := 44) rfl) rfl
theorem xt_785 : Cond.methodLink RL 73 yX4_plans ∈ xT := xT_a4 (List.mem_of_getElem? (i := 45) rfl) rfl
theorem xt_786 : Cond.instanceMethod yX4_plans ∈ xT := xT_a4 (List.mem_of_getElem? (i := 46) rfl) rfl
theorem xt_787 : Cond.selects RX4 yX4_plans yX4_plans ∈ xT := xT_a4 (List.mem_of_getElem? (i := 47) rfl) rfl
theorem xt_788 : Cond.code yX4_plans prog_6_method_45_code 2 (some .int) ∈ xT := xT_a4 (List.mem_of_getElem? (i := 48) rfl) rfl
theorem xt_789 : Cond.methodLink RL 77 yX4_planAt ∈ xT := xT_a4 (List.mem_of_getElem? (i := 49) rfl) rfl
theorem xt_790 : Cond.instanceMethod yX4_planAt ∈ xT := xT_a4 (List.mem_of_getElem? (i := 50) rfl) rfl
theorem xt_791 : Cond.selects RX4 yX4_planAt yX4_planAt ∈ xT := xT_a4 (List.mem_of_getElem? (i := 51) rfl) rfl
theorem xt_792 : Cond.code yX4_planAt prog_6_method_46_code 2 (some .int) ∈ xT := xT_a4 (List.mem_of_getElem? (i := 52) rfl) rfl
theorem xt_793 : Cond.methodLink RL 85 yX4_bestPlan ∈ xT := xT_a4 (List.mem_of_getElem? (i := 53) rfl) rfl
theorem xt_794 : Cond.instanceMethod yX4_bestPlan ∈ xT := xT_a4 (List.mem_of_getElem? (i := 54) rfl) rfl
theorem xt_795 : Cond.selects RX4 yX4_bestPlan yX4_bestPlan ∈ xT := xT_a4 (List.mem_of_getElem? (i := 55) rfl) rfl
theorem xt_796 : Cond.code yX4_bestPlan prog_6_method_48_code 5 (some .int) ∈ xT := xT_a4 (List.mem_of_getElem? (i := 56) rfl) rfl
theorem xt_797 : Cond.methodLink RX4 146 yX4_receives ∈ xT := xT_a4 (List.mem_of_getElem? (i := 57) rfl) rfl
theorem xt_799 : Cond.instanceMethod yX4_receives ∈ xT := xT_a4 (List.mem_of_getElem? (i := 59) rfl) rfl
theorem xt_800 : Cond.code yX4_receives prog_6_method_47_code 3 (some .int) ∈ xT := xT_a4 (List.mem_of_getElem? (i := 60) rfl) rfl
theorem xt_801 : Cond.methodLink RL 45 yX4_payoff ∈ xT := xT_a4 (List.mem_of_getElem? (i := 61) rfl) rfl
theorem xt_802 : Cond.instanceMethod yX4_payoff ∈ xT := xT_a4 (List.mem_of_getElem? (i := 62) rfl) rfl
theorem xt_803 : Cond.selects RX4 yX4_payoff yX4_payoff ∈ xT := xT_a4 (List.mem_of_getElem? (i := 63) rfl) rfl
theorem xt_804 : Cond.code yX4_payoff prog_6_method_49_code 5 (some .int) ∈ xT := xT_a4 (List.mem_of_getElem? (i := 64) rfl) rfl
theorem xt_805 : Cond.methodLink RL 49 yX4_ofType ∈ xT := xT_a4 (List.mem_of_getElem? (i := 65) rfl) rfl
theorem xt_806 : Cond.instanceMethod yX4_ofType ∈ xT := xT_a4 (List.mem_of_getElem? (i := 66) rfl) rfl
theorem xt_807 : Cond.selects RX4 yX4_ofType yX4_ofType ∈ xT := xT_a4 (List.mem_of_getElem? (i := 67) rfl) rfl
theorem xt_808 : Cond.code yX4_ofType prog_6_method_50_code 4 (some .int) ∈ xT := xT_a4 (List.mem_of_getElem? (i := 68) rfl) rfl
theorem xt_809 : Cond.methodLink RX4 149 yX4_looks ∈ xT := xT_a4 (List.mem_of_getElem? (i := 69) rfl) rfl
theorem xt_811 : Cond.instanceMethod yX4_looks ∈ xT := xT_a4 (List.mem_of_getElem? (i := 71) rfl) rfl
theorem xt_812 : Cond.code yX4_looks prog_6_method_12_code 1 none ∈ xT := xT_a4 (List.mem_of_getElem? (i := 72) rfl) rfl
theorem xt_813 : Cond.methodLink RL 53 yX4_ofMessage ∈ xT := xT_a4 (List.mem_of_getElem? (i := 73) rfl) rfl
theorem xt_814 : Cond.instanceMethod yX4_ofMessage ∈ xT := xT_a4 (List.mem_of_getElem? (i := 74) rfl) rfl
theorem xt_815 : Cond.selects RX4 yX4_ofMessage yX4_ofMessage ∈ xT := xT_a4 (List.mem_of_getElem? (i := 75) rfl) rfl
theorem xt_816 : Cond.code yX4_ofMessage prog_6_method_51_code 3 (some .int) ∈ xT := xT_a4 (List.mem_of_getElem? (i := 76) rfl) rfl
theorem xt_817 : Cond.methodLink RL 57 yX4_belief ∈ xT := xT_a4 (List.mem_of_getElem? (i := 77) rfl) rfl
theorem xt_818 : Cond.instanceMethod yX4_belief ∈ xT := xT_a4 (List.mem_of_getElem? (i := 78) rfl) rfl
theorem xt_819 : Cond.selects RX4 yX4_belief yX4_belief ∈ xT := xT_a4 (List.mem_of_getElem? (i := 79) rfl) rfl
theorem xt_820 : Cond.code yX4_belief prog_6_method_54_code 5 (some .int) ∈ xT := xT_a4 (List.mem_of_getElem? (i := 80) rfl) rfl
theorem xt_821 : Cond.methodLink RX4 152 yX4_sum ∈ xT := xT_a4 (List.mem_of_getElem? (i := 81) rfl) rfl
theorem xt_823 : Cond.instanceMethod yX4_sum ∈ xT := xT_a4 (List.mem_of_getElem? (i := 83) rfl) rfl
theorem xt_824 : Cond.code yX4_sum prog_6_method_53_code 1 (some .int) ∈ xT := xT_a4 (List.mem_of_getElem? (i := 84) rfl) rfl
theorem xt_825 : Cond.methodLink RX4 155 yX4_common ∈ xT := xT_a4 (List.mem_of_getElem? (i := 85) rfl) rfl
theorem xt_826 : Cond.static yX4_common ∈ xT := xT_a4 (List.mem_of_getElem? (i := 86) rfl) rfl
theorem xt_827 : Cond.code yX4_common prog_6_method_52_code 5 (some .int) ∈ xT := xT_a4 (List.mem_of_getElem? (i := 87) rfl) rfl
theorem xt_828 : Cond.methodLink RL 61 yX4_mean ∈ xT := xT_a4 (List.mem_of_getElem? (i := 88) rfl) rfl
theorem xt_829 : Cond.instanceMethod yX4_mean ∈ xT := xT_a4 (List.mem_of_getElem? (i := 89) rfl) rfl
theorem xt_830 : Cond.selects RX4 yX4_mean yX4_mean ∈ xT := xT_a4 (List.mem_of_getElem? (i := 90) rfl) rfl
theorem xt_831 : Cond.code yX4_mean prog_6_method_55_code 6 (some .int) ∈ xT := xT_a4 (List.mem_of_getElem? (i := 91) rfl) rfl
theorem xt_832 : Cond.methodLink RL 65 yX4_why ∈ xT := xT_a4 (List.mem_of_getElem? (i := 92) rfl) rfl
theorem xt_833 : Cond.instanceMethod yX4_why ∈ xT := xT_a4 (List.mem_of_getElem? (i := 93) rfl) rfl
theorem xt_834 : Cond.selects RX4 yX4_why yX4_why ∈ xT := xT_a4 (List.mem_of_getElem? (i := 94) rfl) rfl
theorem xt_835 : Cond.code yX4_why prog_6_method_56_code 4 (some .int) ∈ xT := xT_a4 (List.mem_of_getElem? (i := 95) rfl) rfl
theorem xt_836 : Cond.methodLink RL 69 yX4_count ∈ xT := xT_a4 (List.mem_of_getElem? (i := 96) rfl) rfl
theorem xt_837 : Cond.instanceMethod yX4_count ∈ xT := xT_a4 (List.mem_of_getElem? (i := 97) rfl) rfl
theorem xt_838 : Cond.selects RX4 yX4_count yX4_count ∈ xT := xT_a4 (List.mem_of_getElem? (i := 98) rfl) rfl
theorem xt_839 : Cond.code yX4_count prog_6_method_58_code 2 (some .int) ∈ xT := xT_a4 (List.mem_of_getElem? (i := 99) rfl) rfl
theorem xt_840 : Cond.methodLink RX4 158 yX4_sentSet ∈ xT := xT_a4 (List.mem_of_getElem? (i := 100) rfl) rfl
theorem xt_842 : Cond.instanceMethod yX4_sentSet ∈ xT := xT_a4 (List.mem_of_getElem? (i := 102) rfl) rfl
theorem xt_843 : Cond.code yX4_sentSet prog_6_method_57_code 3 (some .int) ∈ xT := xT_a4 (List.mem_of_getElem? (i := 103) rfl) rfl
theorem xt_844 : Cond.methodLink RL 81 yX4_bestAnswer ∈ xT := xT_a4 (List.mem_of_getElem? (i := 104) rfl) rfl
theorem xt_845 : Cond.instanceMethod yX4_bestAnswer ∈ xT := xT_a4 (List.mem_of_getElem? (i := 105) rfl) rfl
theorem xt_846 : Cond.selects RX4 yX4_bestAnswer yX4_bestAnswer ∈ xT := xT_a4 (List.mem_of_getElem? (i := 106) rfl) rfl
theorem xt_847 : Cond.code yX4_bestAnswer prog_6_method_59_code 3 (some .int) ∈ xT := xT_a4 (List.mem_of_getElem? (i := 107) rfl) rfl
theorem xt_848 : Cond.methodLink RL 92 yX4_put ∈ xT := xT_a4 (List.mem_of_getElem? (i := 108) rfl) rfl
theorem xt_849 : Cond.instanceMethod yX4_put ∈ xT := xT_a4 (List.mem_of_getElem? (i := 109) rfl) rfl
theorem xt_850 : Cond.selects RX4 yX4_put yX4_put ∈ xT := xT_a4 (List.mem_of_getElem? (i := 110) rfl) rfl
theorem xt_851 : Cond.code yX4_put prog_6_method_62_code 5 (some .int) ∈ xT := xT_a4 (List.mem_of_getElem? (i := 111) rfl) rfl
theorem xt_852 : Cond.methodLink RX4 170 yX4_toldBy ∈ xT := xT_a4 (List.mem_of_getElem? (i := 112) rfl) rfl
theorem xt_853 : Cond.static yX4_toldBy ∈ xT := xT_a4 (List.mem_of_getElem? (i := 113) rfl) rfl
theorem xt_854 : Cond.code yX4_toldBy prog_6_method_61_code 4 (some .int) ∈ xT := xT_a4 (List.mem_of_getElem? (i := 114) rfl) rfl
theorem xt_855 : Cond.methodLink RX4 166 yX4_byteOf ∈ xT := xT_a4 (List.mem_of_getElem? (i := 115) rfl) rfl
theorem xt_856 : Cond.static yX4_byteOf ∈ xT := xT_a4 (List.mem_of_getElem? (i := 116) rfl) rfl
theorem xt_857 : Cond.code yX4_byteOf prog_6_method_60_code 3 (some .int) ∈ xT := xT_a4 (List.mem_of_getElem? (i := 117) rfl) rfl
theorem xt_858 : Cond.constantLong RX4 164 (255) ∈ xT := xT_a4 (List.mem_of_getElem? (i := 118) rfl) rfl
theorem xt_859 : Cond.methodLink RL 97 yX4_wipe ∈ xT := xT_a4 (List.mem_of_getElem? (i := 119) rfl) rfl
theorem xt_860 : Cond.instanceMethod yX4_wipe ∈ xT := xT_a4 (List.mem_of_getElem? (i := 120) rfl) rfl
theorem xt_861 : Cond.selects RX4 yX4_wipe yX4_wipe ∈ xT := xT_a4 (List.mem_of_getElem? (i := 121) rfl) rfl
theorem xt_862 : Cond.code yX4_wipe prog_6_method_63_code 2 (some .int) ∈ xT := xT_a4 (List.mem_of_getElem? (i := 122) rfl) rfl
theorem xt_863 : Cond.methodLink RL 101 yX4_fault ∈ xT := xT_a4 (List.mem_of_getElem? (i := 123) rfl) rfl
theorem xt_864 : Cond.instanceMethod yX4_fault ∈ xT := xT_a4 (List.mem_of_getElem? (i := 124) rfl) rfl
theorem xt_865 : Cond.selects RX4 yX4_fault yX4_fault ∈ xT := xT_a4 (List.mem_of_getElem? (i := 125) rfl) rfl
theorem xt_866 : Cond.code yX4_fault prog_6_method_70_code 1 (some .int) ∈ xT := xT_a4 (List.mem_of_getElem? (i := 126) rfl) rfl
theorem xt_867 : Cond.methodLink RX4 196 yX4_isText ∈ xT := xT_a4 (List.mem_of_getElem? (i := 127) rfl) rfl
theorem xt_869 : Cond.instanceMethod yX4_isText ∈ xT := xT_a4 (List.mem_of_getElem? (i := 129) rfl) rfl
theorem xt_870 : Cond.code yX4_isText prog_6_method_69_code 2 (some .boolean) ∈ xT := xT_a4 (List.mem_of_getElem? (i := 130) rfl) rfl
theorem xt_871 : Cond.methodLink RX4 193 yX4_isOrder ∈ xT := xT_a4 (List.mem_of_getElem? (i := 131) rfl) rfl
theorem xt_873 : Cond.instanceMethod yX4_isOrder ∈ xT := xT_a4 (List.mem_of_getElem? (i := 133) rfl) rfl
theorem xt_874 : Cond.code yX4_isOrder prog_6_method_68_code 2 (some .boolean) ∈ xT := xT_a4 (List.mem_of_getElem? (i := 134) rfl) rfl
theorem xt_875 : Cond.methodLink RX4 184 yX4_isFigure ∈ xT := xT_a4 (List.mem_of_getElem? (i := 135) rfl) rfl
theorem xt_877 : Cond.instanceMethod yX4_isFigure ∈ xT := xT_a4 (List.mem_of_getElem? (i := 137) rfl) rfl
theorem xt_878 : Cond.code yX4_isFigure prog_6_method_66_code 3 (some .boolean) ∈ xT := xT_a4 (List.mem_of_getElem? (i := 138) rfl) rfl
theorem xt_879 : Cond.methodLink RX4 177 yX4_isAt ∈ xT := xT_a4 (List.mem_of_getElem? (i := 139) rfl) rfl
theorem xt_881 : Cond.instanceMethod yX4_isAt ∈ xT := xT_a4 (List.mem_of_getElem? (i := 141) rfl) rfl
theorem xt_882 : Cond.code yX4_isAt prog_6_method_64_code 3 (some .boolean) ∈ xT := xT_a4 (List.mem_of_getElem? (i := 142) rfl) rfl
theorem xt_883 : Cond.methodLink RX4 187 yX4_isSign ∈ xT := xT_a4 (List.mem_of_getElem? (i := 143) rfl) rfl
theorem xt_885 : Cond.instanceMethod yX4_isSign ∈ xT := xT_a4 (List.mem_of_getElem? (i := 145) rfl) rfl
theorem xt_886 : Cond.code yX4_isSign prog_6_method_65_code 3 (some .boolean) ∈ xT := xT_a4 (List.mem_of_getElem? (i := 146) rfl) rfl
theorem xt_887 : Cond.methodLink RX4 190 yX4_isPay ∈ xT := xT_a4 (List.mem_of_getElem? (i := 147) rfl) rfl
theorem xt_889 : Cond.instanceMethod yX4_isPay ∈ xT := xT_a4 (List.mem_of_getElem? (i := 149) rfl) rfl
theorem xt_890 : Cond.code yX4_isPay prog_6_method_67_code 3 (some .boolean) ∈ xT := xT_a4 (List.mem_of_getElem? (i := 150) rfl) rfl
theorem xt_891 : Cond.methodLink RL 105 yX4_carryOut ∈ xT := xT_a4 (List.mem_of_getElem? (i := 151) rfl) rfl
theorem xt_892 : Cond.instanceMethod yX4_carryOut ∈ xT := xT_a4 (List.mem_of_getElem? (i := 152) rfl) rfl
theorem xt_893 : Cond.selects RX4 yX4_carryOut yX4_carryOut ∈ xT := xT_a4 (List.mem_of_getElem? (i := 153) rfl) rfl
theorem xt_894 : Cond.code yX4_carryOut prog_6_method_72_code 2 (some .int) ∈ xT := xT_a4 (List.mem_of_getElem? (i := 154) rfl) rfl
theorem xt_895 : Cond.methodLink RX4 199 yX4_does ∈ xT := xT_a4 (List.mem_of_getElem? (i := 155) rfl) rfl
theorem xt_897 : Cond.instanceMethod yX4_does ∈ xT := xT_a4 (List.mem_of_getElem? (i := 157) rfl) rfl
theorem xt_898 : Cond.code yX4_does prog_6_method_71_code 8 (some .boolean) ∈ xT := xT_a4 (List.mem_of_getElem? (i := 158) rfl) rfl
theorem xt_899 : Cond.constantLong RL 86 (4294967295) ∈ xT := xT_a4 (List.mem_of_getElem? (i := 159) rfl) rfl
theorem xt_900 : Cond.fieldLink RJ0 9 "java/lang/String" "value" "[B" ∈ xT := xT_a4 (List.mem_of_getElem? (i := 160) rfl) rfl
theorem xt_901 : Cond.fieldLink RJ0 15 "java/lang/String" "coder" "B" ∈ xT := xT_a4 (List.mem_of_getElem? (i := 161) rfl) rfl
end
section
/-! THE SMALL WORLD: cells by their places; a reference is a place (from 1000 on a String constant, from 2000 on its bytes, 3000 the formatter). -/
abbrev XE : Type := (Nat × Nat × (Nat → Int32)) ⊕ (Nat × List Value)
abbrev XW : Type := List XE
abbrev CX : Type := (Nat → ClassId) × (Nat → Nat → Nat) × (Nat → ClassId) × (Nat → Nat) × (Nat → Nat) × (Nat → Nat) × Nat
abbrev xCl : List vw_C := [(RX0, TX0, 2), (RX1, TX1, 2), (RX2, TX2, 4), (RX3, TX3, 7), (RX4, TX4, 12)]
def xG0 (cx : CX) : va_G := (cx.1, cx.2.1)
def xcA (cx : CX) (k : Nat) : ClassId := cx.2.2.1 k
def xad (cx : CX) (k : Nat) : Nat := cx.2.2.2.1 k
def xaK (cx : CX) (k : Nat) : Nat := cx.2.2.2.2.1 k
def xaV (cx : CX) (k : Nat) : Nat := cx.2.2.2.2.2.1 k
def xaF (cx : CX) : Nat := cx.2.2.2.2.2.2
def xa (cx : CX) (k : Nat) : Nat := if k < 1000 then xad cx k else if k < 2000 then xaK cx (k - 1000) else if k < 3000 then xaV cx (k - 2000) else xaF cx
def xv (cx : CX) : Value → Value
  | .ref k => .ref (xa cx k)
  | v => v
theorem xv_cat (cx : CX) (v : Value) : (xv cx v).category = v.category := by cases v <;> rfl
def xe (cx : CX) : XE → va_E
  | .inl a => .inl (xcA cx a.1, a.2.1, .inl a.2.2)
  | .inr b => .inr (b.1, b.2.map (xv cx))
def xw (cx : CX) (w : XW) : va_W := w.mapIdx (fun k e => (xad cx k, xe cx e))
theorem xw_get (cx : CX) (w : XW) (k : Nat) : (xw cx w)[k]? = (w[k]?).map (fun e => (xad cx k, xe cx e)) := by
  unfold xw
  rw [List.getElem?_mapIdx]
theorem xw_at {cx : CX} {w : XW} {k : Nat} {e : XE} (h : w[k]? = some e) : (xw cx w)[k]? = some (xad cx k, xe cx e) := by
  rw [xw_get, h]; rfl
theorem xw_len (cx : CX) (w : XW) : (xw cx w).length = w.length := by
  unfold xw
  rw [List.length_mapIdx]
theorem xw_set (cx : CX) (w : XW) (k : Nat) (e : XE) : (xw cx w).set k (xad cx k, xe cx e) = xw cx (w.set k e) := by
  apply List.ext_getElem?
  intro i
  rw [xw_get, List.getElem?_set, List.getElem?_set, xw_len]
  by_cases h : k = i
  · subst h
    rw [if_pos rfl, if_pos rfl]
    by_cases q : k < w.length
    · rw [if_pos q, if_pos q]; rfl
    · rw [if_neg q, if_neg q]; rfl
  · rw [if_neg h, if_neg h, xw_get]
theorem xa_w {cx : CX} {k : Nat} (h : k < 1000) : xa cx k = xad cx k := by unfold xa; rw [if_pos h]
theorem xa_s {cx : CX} {i : Nat} (h : i < 1000) : xa cx (1000 + i) = xaK cx i := by
  unfold xa
  rw [if_neg (by omega), if_pos (by omega), Nat.add_sub_cancel_left]
theorem xa_b {cx : CX} {i : Nat} (h : i < 1000) : xa cx (2000 + i) = xaV cx i := by
  unfold xa
  rw [if_neg (by omega), if_neg (by omega), if_pos (by omega), Nat.add_sub_cancel_left]
theorem xa_f {cx : CX} : xa cx 3000 = xaF cx := rfl

/-- the String constants: 0=9, 0>0, 000=-9, 000=9, 00=9,  -/
def xSn : List Nat := [3, 3, 6, 5, 4, 0]
def xSb : List (List Int32) := [[48, 61, 57], [48, 62, 48], [48, 48, 48, 61, 45, 57], [48, 48, 48, 61, 57], [48, 48, 61, 57], []]
def xSr : List (Nat × String × Nat) := [(27, "0=9", 0), (29, "0>0", 1), (31, "000=-9", 2), (33, "000=9", 3), (35, "00=9", 4), (37, "", 5)]
def xNs : List (String × Nat × MethodName × String) := [(RX0, 24, yX3_isWithin, "MessageGames"), (RX0, 72, yX3_has, "MessageGames"), (RX2, 78, yX3_has, "MessageGames"), (RX2, 33, yX3_isWithin, "MessageGames"), (RX1, 19, yX3_isWithin, "MessageGames")]
/-- what every method finds: the classes, the nest mates' links, the String constants, two static fields -/
def xG (cx : CX) (A : Nat → Prop) (U : State) : Prop :=
  va_K (xG0 cx) xCl [(xcA cx 0, .int), (xcA cx 1, .boolean)] U ∧ (∀ q ∈ xNs, va_Nw (.methodLinkNest q.1 q.2.1 q.2.2.1 q.2.2.2) U) ∧ vk_S 6 xSn xSb (xaK cx) (xaV cx) A U U.heap ∧ (∀ q ∈ xSr, vk_R RX1 q.1 q.2.1 (xaK cx q.2.2) U) ∧
  va_Z "java/lang/String" "COMPACT_STRINGS" "Z" (.int 1) A U U.heap ∧ (va_Z "jdk/internal/util/Preconditions" "SIOOBE_FORMATTER" "Ljava/util/function/BiFunction;" .null A U U.heap ∨ va_Z "jdk/internal/util/Preconditions" "SIOOBE_FORMATTER" "Ljava/util/function/BiFunction;" (.ref (xaF cx)) A U U.heap)
theorem xG_warm {cx : CX} {A A1 : Nat → Prop} {s U : State} {locs : List Loc} (h : xG cx A s) (hS : va_S A s.heap U.heap locs) (hA : ∀ q, A1 q → A q) (hW : s.WarmedH U.vm) : xG cx A1 U := by
  obtain ⟨h1, h2, h3, h4, h5, h6⟩ := h
  have kz : ∀ {C n d : String} {v : Value}, va_Z C n d v A s s.heap → va_Z C n d v A1 U U.heap := fun z => ((z.kept hS.2.1).moved hW.alike).narrow hA
  refine ⟨h1.moved hW.alike, fun q hq => va_Nw.warmM hW (h2 q hq), ((h3.kept hS.2.1).moved hW.alike).narrow hA, fun q hq => vk_R.warm hW (h4 q hq), kz h5, ?_⟩
  rcases h6 with h6 | h6
  · exact Or.inl (kz h6)
  · exact Or.inr (kz h6)
theorem xG_call {cx : CX} {A : Nat → Prop} {U : State} (g : JFrame) (mk : MethodId) (a : Array Value) (h : xG cx A U) : xG cx A (U.calling g mk a) := by
  obtain ⟨h1, h2, h3, h4, h5, h6⟩ := h
  have hv : U.vm.Alike (U.calling g mk a).vm := Vm.Alike.refl U.vm
  have kz : ∀ {C n d : String} {v : Value}, va_Z C n d v A U U.heap → va_Z C n d v A (U.calling g mk a) (U.calling g mk a).heap := fun z => z.moved hv
  refine ⟨h1.moved hv, fun q hq => va_Nw.same rfl rfl (h2 q hq), h3.moved hv, fun q hq => vk_R.same rfl (h4 q hq), kz h5, ?_⟩
  rcases h6 with h6 | h6
  · exact Or.inl (kz h6)
  · exact Or.inr (kz h6)
/-- a frame's surroundings -/
abbrev KX : Type := Program × Launch × Env × Room × State × MethodId × Array Value × List Frame × Method × Code × (State → Prop) × (Nat → Prop) × Nat × Nat
/-- from this point of a method, with these locals, this stack and this world, the run comes to its end -/
def Wx (K : KX) (cx : CX) (nL n pc : Nat) (L : List (Nat × Value)) (st : List Value) (w : XW) : Prop := match K with
  | (p, l, e, R, s, m, args, below, meth, c, Q, A, cells, slots) => ∀ (H : Heap) (locs : List Loc) (ls : Array Slot), w.length = n → va_P (xG0 cx) xCl (xw cx w) H → va_S A s.heap H locs → lv_has ls nL (L.map (fun q => (q.1, xv cx q.2))) → W p l e R s m args below meth c H locs cells slots Q (F0 m pc ls (st.map (xv cx)))
def XB (K : KX) (cx : CX) (own : String) (bytes : ByteArray) (nL n fr lo : Nat) : Prop := match K with
  | (p, _, _, R, s, m, args, _, _, c, _, A, cells, slots) => p.tables.exec = Jvm.exec ∧ c.code = bytes ∧ c.maxLocals = nL ∧ s.vm.findClass own = some m.cls ∧ (∀ w ∈ xT, w.before args s = true) ∧ xG cx A s ∧ n ≤ 1000 ∧ (∀ i j, i < n → j < n → xad cx i = xad cx j → i = j) ∧ (∀ i, i < n → A (xad cx i)) ∧ (∀ q, s.heap.size ≤ q → A q) ∧ fr ≤ R.frames ∧ lo ≤ R.locals ∧ cells ≤ R.cells ∧ slots ≤ R.slots
def xQ (cx : CX) (r : Option Value) (w : XW) (n : Nat) (A : Nat → Prop) : Array Value → State → Outcome → State → Prop := fun _ st oc t => oc = .returned (r.map (xv cx)) ∧ w.length = n ∧ va_P (xG0 cx) xCl (xw cx w) t.heap ∧ va_F A st t
def XR (K : KX) (cx : CX) (n : Nat) (ret : Option FieldType) (r : Option Value) (w : XW) : Prop := match K with
  | (_, _, _, _, s, _, args, below, meth, _, Q, A, cells, slots) => meth.sig.returnType = ret ∧ meth.locks = false ∧ Q = MQ below (xQ cx r w n A) args s cells slots A
/-- a method's contract: with these arguments in this world it answers r and leaves the world w1 -/
def Ct (y : MethodName) (bytes : ByteArray) (maxL : Nat) (ret : Option FieldType) (fr lo : Nat) (cx : CX) (av : List Value) (w : XW) (r : Option Value) (w1 : XW) : Prop :=
  ∀ (l : Launch) (sz : Nat), Met l y (.code y bytes maxL ret :: xT) ({ frames := fr, cells := 0, slots := 0, locals := lo } : Room) (va_Pc (av.map (xv cx)) (fun U => w.length ≤ 1000 ∧ U.heap.size = sz ∧ xG cx (va_A (xw cx w) sz) U ∧ va_P (xG0 cx) xCl (xw cx w) U.heap ∧ va_D (fun _ => True) (xw cx w))) (xQ cx r w1 w.length (va_A (xw cx w) sz)) 0 0 (va_A (xw cx w) sz)
theorem xD_of {cx : CX} {w : XW} {A : Nat → Prop} (h : va_D A (xw cx w)) : (∀ i j, i < w.length → j < w.length → xad cx i = xad cx j → i = j) ∧ ∀ i, i < w.length → A (xad cx i) := by
  have g : ∀ i, i < w.length → ∃ e, (xw cx w)[i]? = some (xad cx i, e) := fun i hi => ⟨_, xw_at (List.getElem?_eq_getElem hi)⟩
  refine ⟨fun i j hi hj e => ?_, fun i hi => ?_⟩
  · obtain ⟨a, ha⟩ := g i hi
    obtain ⟨b, hb⟩ := g j hj
    exact h.1 i j _ _ ha hb e
  · obtain ⟨a, ha⟩ := g i hi
    exact h.2 i _ ha
theorem xD_to {cx : CX} {w : XW} {A : Nat → Prop} (h1 : ∀ i j, i < w.length → j < w.length → xad cx i = xad cx j → i = j) (h2 : ∀ i, i < w.length → A (xad cx i)) : va_D A (xw cx w) := by
  have g : ∀ (k : Nat) (q : Nat × va_E), (xw cx w)[k]? = some q → k < w.length ∧ q.1 = xad cx k := by
    intro k q hq
    have hk : k < w.length := by rw [← xw_len cx w]; exact (List.getElem?_eq_some_iff.mp hq).1
    rw [xw_at (List.getElem?_eq_getElem hk)] at hq
    exact ⟨hk, by rw [← Option.some.inj hq]⟩
  refine ⟨fun i j p q hp hq e => ?_, fun k q hq => ?_⟩
  · obtain ⟨a1, a2⟩ := g i p hp
    obtain ⟨b1, b2⟩ := g j q hq
    exact h1 i j a1 b1 (by rw [← a2, ← b2, e])
  · obtain ⟨a1, a2⟩ := g k q hq
    rw [a2]; exact h2 k a1
theorem xargs (cx : CX) : ∀ (av : List Value) (i : Nat), lv_args i (av.map (xv cx)) = (lv_args i av).map (fun q => (q.1, xv cx q.2))
  | [], _ => rfl
  | v :: vs, i => by
    show (i, xv cx v) :: lv_args (if (xv cx v).category = 2 then i + 2 else i + 1) (vs.map (xv cx)) = _
    rw [xv_cat, xargs cx vs]
    rfl
theorem xsl (cx : CX) : ∀ (av : List Value), (lg_sl (av.map (xv cx))).length = (lg_sl av).length
  | [] => rfl
  | v :: vs => by
    have h := xsl cx vs
    unfold lg_sl at h ⊢
    simp only [List.map_cons, List.flatMap_cons, List.length_append, xv_cat, h]
    by_cases q : v.category = 2
    · rw [if_pos q, if_pos q]; rfl
    · rw [if_neg q, if_neg q]; rfl
set_option maxHeartbeats 4000000 in
theorem Ct_of {y : MethodName} {bytes : ByteArray} {maxL : Nat} {ret : Option FieldType} {fr lo : Nat} {cx : CX} {av : List Value} {w : XW} {r : Option Value} {w1 : XW} (hy : plainName y.cls = true) (hn : (lg_sl av).length ≤ maxL)
    (body : ∀ K : KX, XB K cx y.cls bytes maxL w.length fr lo → XR K cx w.length ret r w1 → Wx K cx maxL w.length 0 (lv_args 0 av) [] w) : Ct y bytes maxL ret fr lo cx av w r w1 := by
  intro l sz
  refine Met.ofW (cc := bytes) (maxL := maxL) (ret := ret) hy rfl ?_
  intro p e s m args below meth c s₁ B hml hv
  obtain ⟨rfl, h1000, hsz, hG, hP, hD0⟩ := hv
  subst hsz
  have hts := atoms_spec (ws := .code y bytes maxL ret :: xT) B.pre
  have hown : s.vm.findClass y.cls = some m.cls := findClass_of_methodNamed B.named
  obtain ⟨d1, d2⟩ := xD_of (hD0.self (sz := s.heap.size))
  have hl := lv_entry (av.map (xv cx)) (n := maxL) (by rw [xsl]; exact hn)
  rw [lg_entry_eq]
  rw [xargs] at hl
  exact body (p, l, e, { frames := fr, cells := 0, slots := 0, locals := lo }, s, m, (av.map (xv cx)).toArray, below, meth, c, _, va_A (xw cx w) s.heap.size, 0, 0) ⟨B.exec, B.bytes, hml, hown, fun w hw => hts w (List.mem_cons_of_mem _ hw), hG, h1000, d1, d2, fun q h => Or.inr h, Nat.le_refl _, Nat.le_refl _, Nat.le_refl _, Nat.le_refl _⟩ ⟨B.returns, B.notSynchronized, rfl⟩ s.heap [] _ rfl hP va_S.rf hl
/-! what the rows of a run are made of -/
theorem xbind {α β : Type} {x : Option α} {f : α → Option β} {R : β} (h : x.bind f = some R) : ∃ a, x = some a ∧ f a = some R := by
  cases x with
  | none => cases h
  | some a => exact ⟨a, rfl, h⟩
theorem xite {α : Type} {c : Prop} [Decidable c] {a b : Option α} {R : α} (h : (if c then a else b) = some R) : (c ∧ a = some R) ∨ (¬ c ∧ b = some R) := by
  by_cases q : c
  · rw [if_pos q] at h; exact Or.inl ⟨q, h⟩
  · rw [if_neg q] at h; exact Or.inr ⟨q, h⟩
/-- an int field, a reference field, an int field written, a boolean field written -/
def xgI (w : XW) (a c k : Nat) : Option Int32 := match w[a]? with
  | some (.inr (c1, fs)) => if c1 = c then (match fs[k]? with
    | some (.int x) => some x
    | _ => none) else none
  | _ => none
def xgR (w : XW) (a c k : Nat) : Option Nat := match w[a]? with
  | some (.inr (c1, fs)) => if c1 = c then (match fs[k]? with
    | some (.ref x) => some x
    | _ => none) else none
  | _ => none
def xpI (w : XW) (a c k : Nat) (x : Int32) : Option XW := match w[a]? with
  | some (.inr (c1, fs)) => if c1 = c ∧ k < fs.length then some (w.set a (.inr (c, fs.set k (.int x)))) else none
  | _ => none
def xpZ (w : XW) (a c k : Nat) (x : Int32) : Option XW := if x = 0 ∨ x = 1 then xpI w a c k x else none
/-- an int of an array, a boolean of one, both written; a length -/
def xaI (w : XW) (a : Nat) (i : Int32) : Option Int32 := match w[a]? with
  | some (.inl (0, n, f)) => if i < 0 ∨ n ≤ i.toNatClampNeg then none else some (f i.toNatClampNeg)
  | _ => none
def xaZ (w : XW) (a : Nat) (i : Int32) : Option Int32 := match w[a]? with
  | some (.inl (1, n, f)) => if i < 0 ∨ n ≤ i.toNatClampNeg then none else some (f i.toNatClampNeg)
  | _ => none
def xsI (w : XW) (a : Nat) (i x : Int32) : Option XW := match w[a]? with
  | some (.inl (0, n, f)) => if i < 0 ∨ n ≤ i.toNatClampNeg then none else some (w.set a (.inl (0, n, upd f i.toNatClampNeg x)))
  | _ => none
def xsZ (w : XW) (a : Nat) (i x : Int32) : Option XW := match w[a]? with
  | some (.inl (1, n, f)) => if i < 0 ∨ n ≤ i.toNatClampNeg ∨ ¬ (x = 0 ∨ x = 1) then none else some (w.set a (.inl (1, n, upd f i.toNatClampNeg x)))
  | _ => none
def xaL (w : XW) (a : Nat) : Option Int32 := match w[a]? with
  | some (.inl (0, n, _)) => some (Int32.ofNat n)
  | some (.inl (1, n, _)) => some (Int32.ofNat n)
  | _ => none
/-- is it an object of the class -/
def xis (w : XW) (a c : Nat) : Bool := match w[a]? with
  | some (.inr (c1, _)) => c1 == c
  | _ => false
/-- System.arraycopy of ints -/
def xcp (w : XW) (a : Nat) (sp : Int32) (b : Nat) (dp k : Int32) : Option XW := match w[a]?, w[b]? with
  | some (.inl (0, n0, f)), some (.inl (0, n1, g)) => if sp < 0 ∨ dp < 0 ∨ k < 0 ∨ n0 < sp.toNatClampNeg + k.toNatClampNeg ∨ n1 < dp.toNatClampNeg + k.toNatClampNeg then none else some (w.set b (.inl (0, n1, va_cpy f g sp.toNatClampNeg dp.toNatClampNeg k.toNatClampNeg)))
  | _, _ => none

section XROWS
variable {K : KX} {cx : CX} {own : String} {bytes : ByteArray} {nL n fr lo pc : Nat} {L : List (Nat × Value)} {st : List Value} {w : XW}
theorem x_sub {L1 : List (Nat × Value)} (ks : List Nat) (h : lv_pick L ks = L1) (k : Wx K cx nL n pc L1 st w) : Wx K cx nL n pc L st w := by
  obtain ⟨p, l, e, R, s, m, args, below, meth, c, Q, A, cells, slots⟩ := K
  intro H locs ls hn hP hS hl
  refine k H locs ls hn hP hS (lv_sub hl ks ?_)
  rw [← h]
  unfold lv_pick
  rw [List.map_filterMap]
  congr 1
  funext i
  rw [List.getElem?_map]
theorem x_fil (L : List (Nat × Value)) (P : Nat → Nat → Bool) : (L.map (fun q => (q.1, xv cx q.2))).filter (fun q => P q.1 q.2.category) = (L.filter (fun q => P q.1 q.2.category)).map (fun q => (q.1, xv cx q.2)) := by
  rw [List.filter_map]
  congr 1
  apply List.filter_congr
  intro q _
  simp only [Function.comp, xv_cat]

theorem x_iconst {v : Int32} {z : Int} (B : XB K cx own bytes nL n fr lo) (hd : decode bytes pc = .ok (.iconst z, 1)) (hv : Int32.ofInt z = v) (k : Wx K cx nL n (pc + 1) L (.int v :: st) w) : Wx K cx nL n pc L st w := by
  obtain ⟨p, l, e, R, s, m, args, below, meth, c, Q, A, cells, slots⟩ := K
  obtain ⟨hx, hb, hml, hown, hts, hG, hn0, hi, hA, hA0, hfr, hlo, hce, hsl⟩ := B
  intro H locs ls hn hP hS hl
  exact lv_iconst hx hb hd hv (k H locs ls hn hP hS hl)
theorem x_bipush {v : Int32} {z : Int} (B : XB K cx own bytes nL n fr lo) (hd : decode bytes pc = .ok (.bipush z, 2)) (hv : (Int8.ofInt z).toInt32 = v) (k : Wx K cx nL n (pc + 2) L (.int v :: st) w) : Wx K cx nL n pc L st w := by
  obtain ⟨p, l, e, R, s, m, args, below, meth, c, Q, A, cells, slots⟩ := K
  obtain ⟨hx, hb, hml, hown, hts, hG, hn0, hi, hA, hA0, hfr, hlo, hce, hsl⟩ := B
  intro H locs ls hn hP hS hl
  exact lv_bipush hx hb hd hv (k H locs ls hn hP hS hl)
theorem x_sipush {v : Int32} {z : Int} (B : XB K cx own bytes nL n fr lo) (hd : decode bytes pc = .ok (.sipush z, 3)) (hv : (Int16.ofInt z).toInt32 = v) (k : Wx K cx nL n (pc + 3) L (.int v :: st) w) : Wx K cx nL n pc L st w := by
  obtain ⟨p, l, e, R, s, m, args, below, meth, c, Q, A, cells, slots⟩ := K
  obtain ⟨hx, hb, hml, hown, hts, hG, hn0, hi, hA, hA0, hfr, hlo, hce, hsl⟩ := B
  intro H locs ls hn hP hS hl
  exact lv_sipush hx hb hd hv (k H locs ls hn hP hS hl)
theorem x_lconst {v : Int64} {z : Fin 2} (B : XB K cx own bytes nL n fr lo) (hd : decode bytes pc = .ok (.lconst z, 1)) (hv : Int64.ofNat (z : Nat) = v) (k : Wx K cx nL n (pc + 1) L (.long v :: st) w) : Wx K cx nL n pc L st w := by
  obtain ⟨p, l, e, R, s, m, args, below, meth, c, Q, A, cells, slots⟩ := K
  obtain ⟨hx, hb, hml, hown, hts, hG, hn0, hi, hA, hA0, hfr, hlo, hce, hsl⟩ := B
  intro H locs ls hn hP hS hl
  exact lv_lconst hx hb hd hv (k H locs ls hn hP hS hl)
theorem x_iadd {x y : Int32} (B : XB K cx own bytes nL n fr lo) (hd : decode bytes pc = .ok (.iadd, 1))  (k : Wx K cx nL n (pc + 1) L (.int (x + y) :: st) w) : Wx K cx nL n pc L (.int y :: .int x :: st) w := by
  obtain ⟨p, l, e, R, s, m, args, below, meth, c, Q, A, cells, slots⟩ := K
  obtain ⟨hx, hb, hml, hown, hts, hG, hn0, hi, hA, hA0, hfr, hlo, hce, hsl⟩ := B
  intro H locs ls hn hP hS hl
  exact lv_iadd hx hb hd  (k H locs ls hn hP hS hl)
theorem x_isub {x y : Int32} (B : XB K cx own bytes nL n fr lo) (hd : decode bytes pc = .ok (.isub, 1))  (k : Wx K cx nL n (pc + 1) L (.int (x - y) :: st) w) : Wx K cx nL n pc L (.int y :: .int x :: st) w := by
  obtain ⟨p, l, e, R, s, m, args, below, meth, c, Q, A, cells, slots⟩ := K
  obtain ⟨hx, hb, hml, hown, hts, hG, hn0, hi, hA, hA0, hfr, hlo, hce, hsl⟩ := B
  intro H locs ls hn hP hS hl
  exact lv_isub hx hb hd  (k H locs ls hn hP hS hl)
theorem x_imul {x y : Int32} (B : XB K cx own bytes nL n fr lo) (hd : decode bytes pc = .ok (.imul, 1))  (k : Wx K cx nL n (pc + 1) L (.int (x * y) :: st) w) : Wx K cx nL n pc L (.int y :: .int x :: st) w := by
  obtain ⟨p, l, e, R, s, m, args, below, meth, c, Q, A, cells, slots⟩ := K
  obtain ⟨hx, hb, hml, hown, hts, hG, hn0, hi, hA, hA0, hfr, hlo, hce, hsl⟩ := B
  intro H locs ls hn hP hS hl
  exact lv_imul hx hb hd  (k H locs ls hn hP hS hl)
theorem x_iand {x y : Int32} (B : XB K cx own bytes nL n fr lo) (hd : decode bytes pc = .ok (.iand, 1))  (k : Wx K cx nL n (pc + 1) L (.int (x &&& y) :: st) w) : Wx K cx nL n pc L (.int y :: .int x :: st) w := by
  obtain ⟨p, l, e, R, s, m, args, below, meth, c, Q, A, cells, slots⟩ := K
  obtain ⟨hx, hb, hml, hown, hts, hG, hn0, hi, hA, hA0, hfr, hlo, hce, hsl⟩ := B
  intro H locs ls hn hP hS hl
  exact lv_iand hx hb hd  (k H locs ls hn hP hS hl)
theorem x_ior {x y : Int32} (B : XB K cx own bytes nL n fr lo) (hd : decode bytes pc = .ok (.ior, 1))  (k : Wx K cx nL n (pc + 1) L (.int (x ||| y) :: st) w) : Wx K cx nL n pc L (.int y :: .int x :: st) w := by
  obtain ⟨p, l, e, R, s, m, args, below, meth, c, Q, A, cells, slots⟩ := K
  obtain ⟨hx, hb, hml, hown, hts, hG, hn0, hi, hA, hA0, hfr, hlo, hce, hsl⟩ := B
  intro H locs ls hn hP hS hl
  exact lv_ior hx hb hd  (k H locs ls hn hP hS hl)
theorem x_ixor {x y : Int32} (B : XB K cx own bytes nL n fr lo) (hd : decode bytes pc = .ok (.ixor, 1))  (k : Wx K cx nL n (pc + 1) L (.int (x ^^^ y) :: st) w) : Wx K cx nL n pc L (.int y :: .int x :: st) w := by
  obtain ⟨p, l, e, R, s, m, args, below, meth, c, Q, A, cells, slots⟩ := K
  obtain ⟨hx, hb, hml, hown, hts, hG, hn0, hi, hA, hA0, hfr, hlo, hce, hsl⟩ := B
  intro H locs ls hn hP hS hl
  exact lv_ixor hx hb hd  (k H locs ls hn hP hS hl)
theorem x_ishl {x y : Int32} (B : XB K cx own bytes nL n fr lo) (hd : decode bytes pc = .ok (.ishl, 1))  (k : Wx K cx nL n (pc + 1) L (.int (x <<< (y &&& 31)) :: st) w) : Wx K cx nL n pc L (.int y :: .int x :: st) w := by
  obtain ⟨p, l, e, R, s, m, args, below, meth, c, Q, A, cells, slots⟩ := K
  obtain ⟨hx, hb, hml, hown, hts, hG, hn0, hi, hA, hA0, hfr, hlo, hce, hsl⟩ := B
  intro H locs ls hn hP hS hl
  exact lv_ishl hx hb hd  (k H locs ls hn hP hS hl)
theorem x_ishr {x y : Int32} (B : XB K cx own bytes nL n fr lo) (hd : decode bytes pc = .ok (.ishr, 1))  (k : Wx K cx nL n (pc + 1) L (.int (x >>> (y &&& 31)) :: st) w) : Wx K cx nL n pc L (.int y :: .int x :: st) w := by
  obtain ⟨p, l, e, R, s, m, args, below, meth, c, Q, A, cells, slots⟩ := K
  obtain ⟨hx, hb, hml, hown, hts, hG, hn0, hi, hA, hA0, hfr, hlo, hce, hsl⟩ := B
  intro H locs ls hn hP hS hl
  exact lv_ishr hx hb hd  (k H locs ls hn hP hS hl)
theorem x_idiv {x y : Int32} (B : XB K cx own bytes nL n fr lo) (hd : decode bytes pc = .ok (.idiv, 1)) (h0 : ¬ y = 0) (k : Wx K cx nL n (pc + 1) L (.int (x / y) :: st) w) : Wx K cx nL n pc L (.int y :: .int x :: st) w := by
  obtain ⟨p, l, e, R, s, m, args, below, meth, c, Q, A, cells, slots⟩ := K
  obtain ⟨hx, hb, hml, hown, hts, hG, hn0, hi, hA, hA0, hfr, hlo, hce, hsl⟩ := B
  intro H locs ls hn hP hS hl
  exact lv_idiv hx hb hd h0 (k H locs ls hn hP hS hl)
theorem x_irem {x y : Int32} (B : XB K cx own bytes nL n fr lo) (hd : decode bytes pc = .ok (.irem, 1)) (h0 : ¬ y = 0) (k : Wx K cx nL n (pc + 1) L (.int (x - x / y * y) :: st) w) : Wx K cx nL n pc L (.int y :: .int x :: st) w := by
  obtain ⟨p, l, e, R, s, m, args, below, meth, c, Q, A, cells, slots⟩ := K
  obtain ⟨hx, hb, hml, hown, hts, hG, hn0, hi, hA, hA0, hfr, hlo, hce, hsl⟩ := B
  intro H locs ls hn hP hS hl
  exact lv_irem hx hb hd h0 (k H locs ls hn hP hS hl)
theorem x_ineg {x : Int32} (B : XB K cx own bytes nL n fr lo) (hd : decode bytes pc = .ok (.ineg, 1))  (k : Wx K cx nL n (pc + 1) L (.int (-x) :: st) w) : Wx K cx nL n pc L (.int x :: st) w := by
  obtain ⟨p, l, e, R, s, m, args, below, meth, c, Q, A, cells, slots⟩ := K
  obtain ⟨hx, hb, hml, hown, hts, hG, hn0, hi, hA, hA0, hfr, hlo, hce, hsl⟩ := B
  intro H locs ls hn hP hS hl
  exact lv_ineg hx hb hd  (k H locs ls hn hP hS hl)
theorem x_iushr {x y : Int32} (B : XB K cx own bytes nL n fr lo) (hd : decode bytes pc = .ok (.iushr, 1))  (k : Wx K cx nL n (pc + 1) L (.int ((x.toUInt32 >>> (y.toUInt32 &&& Int32.toUInt32 31)).toInt32) :: st) w) : Wx K cx nL n pc L (.int y :: .int x :: st) w := by
  obtain ⟨p, l, e, R, s, m, args, below, meth, c, Q, A, cells, slots⟩ := K
  obtain ⟨hx, hb, hml, hown, hts, hG, hn0, hi, hA, hA0, hfr, hlo, hce, hsl⟩ := B
  intro H locs ls hn hP hS hl
  exact lv_iushr hx hb hd rfl (k H locs ls hn hP hS hl)
theorem x_i2l {x : Int32} (B : XB K cx own bytes nL n fr lo) (hd : decode bytes pc = .ok (.i2l, 1))  (k : Wx K cx nL n (pc + 1) L (.long x.toInt64 :: st) w) : Wx K cx nL n pc L (.int x :: st) w := by
  obtain ⟨p, l, e, R, s, m, args, below, meth, c, Q, A, cells, slots⟩ := K
  obtain ⟨hx, hb, hml, hown, hts, hG, hn0, hi, hA, hA0, hfr, hlo, hce, hsl⟩ := B
  intro H locs ls hn hP hS hl
  exact lv_i2l hx hb hd rfl (k H locs ls hn hP hS hl)
theorem x_l2i {x : Int64} (B : XB K cx own bytes nL n fr lo) (hd : decode bytes pc = .ok (.l2i, 1))  (k : Wx K cx nL n (pc + 1) L (.int x.toInt32 :: st) w) : Wx K cx nL n pc L (.long x :: st) w := by
  obtain ⟨p, l, e, R, s, m, args, below, meth, c, Q, A, cells, slots⟩ := K
  obtain ⟨hx, hb, hml, hown, hts, hG, hn0, hi, hA, hA0, hfr, hlo, hce, hsl⟩ := B
  intro H locs ls hn hP hS hl
  exact lv_l2i hx hb hd rfl (k H locs ls hn hP hS hl)
theorem x_i2c {x : Int32} (B : XB K cx own bytes nL n fr lo) (hd : decode bytes pc = .ok (.i2c, 1))  (k : Wx K cx nL n (pc + 1) L (.int (x.toUInt32 % 65536).toInt32 :: st) w) : Wx K cx nL n pc L (.int x :: st) w := by
  obtain ⟨p, l, e, R, s, m, args, below, meth, c, Q, A, cells, slots⟩ := K
  obtain ⟨hx, hb, hml, hown, hts, hG, hn0, hi, hA, hA0, hfr, hlo, hce, hsl⟩ := B
  intro H locs ls hn hP hS hl
  exact lv_i2c hx hb hd rfl (k H locs ls hn hP hS hl)
theorem x_ladd {x y : Int64} (B : XB K cx own bytes nL n fr lo) (hd : decode bytes pc = .ok (.ladd, 1))  (k : Wx K cx nL n (pc + 1) L (.long (x + y) :: st) w) : Wx K cx nL n pc L (.long y :: .long x :: st) w := by
  obtain ⟨p, l, e, R, s, m, args, below, meth, c, Q, A, cells, slots⟩ := K
  obtain ⟨hx, hb, hml, hown, hts, hG, hn0, hi, hA, hA0, hfr, hlo, hce, hsl⟩ := B
  intro H locs ls hn hP hS hl
  exact lv_ladd hx hb hd  (k H locs ls hn hP hS hl)
theorem x_land {x y : Int64} (B : XB K cx own bytes nL n fr lo) (hd : decode bytes pc = .ok (.land, 1))  (k : Wx K cx nL n (pc + 1) L (.long (x &&& y) :: st) w) : Wx K cx nL n pc L (.long y :: .long x :: st) w := by
  obtain ⟨p, l, e, R, s, m, args, below, meth, c, Q, A, cells, slots⟩ := K
  obtain ⟨hx, hb, hml, hown, hts, hG, hn0, hi, hA, hA0, hfr, hlo, hce, hsl⟩ := B
  intro H locs ls hn hP hS hl
  exact lv_land hx hb hd  (k H locs ls hn hP hS hl)
theorem x_lor {x y : Int64} (B : XB K cx own bytes nL n fr lo) (hd : decode bytes pc = .ok (.lor, 1))  (k : Wx K cx nL n (pc + 1) L (.long (x ||| y) :: st) w) : Wx K cx nL n pc L (.long y :: .long x :: st) w := by
  obtain ⟨p, l, e, R, s, m, args, below, meth, c, Q, A, cells, slots⟩ := K
  obtain ⟨hx, hb, hml, hown, hts, hG, hn0, hi, hA, hA0, hfr, hlo, hce, hsl⟩ := B
  intro H locs ls hn hP hS hl
  exact lv_lor hx hb hd  (k H locs ls hn hP hS hl)
theorem x_lushr {x : Int64} {y : Int32} (B : XB K cx own bytes nL n fr lo) (hd : decode bytes pc = .ok (.lushr, 1))  (k : Wx K cx nL n (pc + 1) L (.long ((x.toUInt64 >>> (y.toInt64.toUInt64 &&& Int64.toUInt64 63)).toInt64) :: st) w) : Wx K cx nL n pc L (.int y :: .long x :: st) w := by
  obtain ⟨p, l, e, R, s, m, args, below, meth, c, Q, A, cells, slots⟩ := K
  obtain ⟨hx, hb, hml, hown, hts, hG, hn0, hi, hA, hA0, hfr, hlo, hce, hsl⟩ := B
  intro H locs ls hn hP hS hl
  exact lv_lushr hx hb hd rfl (k H locs ls hn hP hS hl)
theorem x_lshl {x : Int64} {y : Int32} (B : XB K cx own bytes nL n fr lo) (hd : decode bytes pc = .ok (.lshl, 1))  (k : Wx K cx nL n (pc + 1) L (.long (x <<< (y.toInt64 &&& 63)) :: st) w) : Wx K cx nL n pc L (.int y :: .long x :: st) w := by
  obtain ⟨p, l, e, R, s, m, args, below, meth, c, Q, A, cells, slots⟩ := K
  obtain ⟨hx, hb, hml, hown, hts, hG, hn0, hi, hA, hA0, hfr, hlo, hce, hsl⟩ := B
  intro H locs ls hn hP hS hl
  exact lv_lshl hx hb hd rfl (k H locs ls hn hP hS hl)
theorem x_lshr {x : Int64} {y : Int32} (B : XB K cx own bytes nL n fr lo) (hd : decode bytes pc = .ok (.lshr, 1))  (k : Wx K cx nL n (pc + 1) L (.long (x >>> (y.toInt64 &&& 63)) :: st) w) : Wx K cx nL n pc L (.int y :: .long x :: st) w := by
  obtain ⟨p, l, e, R, s, m, args, below, meth, c, Q, A, cells, slots⟩ := K
  obtain ⟨hx, hb, hml, hown, hts, hG, hn0, hi, hA, hA0, hfr, hlo, hce, hsl⟩ := B
  intro H locs ls hn hP hS hl
  exact lv_lshr hx hb hd rfl (k H locs ls hn hP hS hl)
theorem x_lcmp {x y : Int64} (B : XB K cx own bytes nL n fr lo) (hd : decode bytes pc = .ok (.lcmp, 1)) (k : Wx K cx nL n (pc + 1) L (.int (lg_cmp x y) :: st) w) : Wx K cx nL n pc L (.long y :: .long x :: st) w := by
  obtain ⟨p, l, e, R, s, m, args, below, meth, c, Q, A, cells, slots⟩ := K
  obtain ⟨hx, hb, hml, hown, hts, hG, hn0, hi, hA, hA0, hfr, hlo, hce, hsl⟩ := B
  intro H locs ls hn hP hS hl
  exact W.lcmp hx hb hd (k H locs ls hn hP hS hl)
theorem x_dup {v : Value} (B : XB K cx own bytes nL n fr lo) (hd : decode bytes pc = .ok (.dup, 1)) (hv : v.category = 1) (k : Wx K cx nL n (pc + 1) L (v :: v :: st) w) : Wx K cx nL n pc L (v :: st) w := by
  obtain ⟨p, l, e, R, s, m, args, below, meth, c, Q, A, cells, slots⟩ := K
  obtain ⟨hx, hb, hml, hown, hts, hG, hn0, hi, hA, hA0, hfr, hlo, hce, hsl⟩ := B
  intro H locs ls hn hP hS hl
  exact lv_dup hx hb hd (by rw [xv_cat]; exact hv) (k H locs ls hn hP hS hl)
theorem x_dup2 {v u : Value} (B : XB K cx own bytes nL n fr lo) (hd : decode bytes pc = .ok (.dup2, 1)) (hv : v.category = 1) (hu : u.category = 1) (k : Wx K cx nL n (pc + 1) L (v :: u :: v :: u :: st) w) : Wx K cx nL n pc L (v :: u :: st) w := by
  obtain ⟨p, l, e, R, s, m, args, below, meth, c, Q, A, cells, slots⟩ := K
  obtain ⟨hx, hb, hml, hown, hts, hG, hn0, hi, hA, hA0, hfr, hlo, hce, hsl⟩ := B
  intro H locs ls hn hP hS hl
  exact lv_dup2_11 hx hb hd (by rw [xv_cat]; exact hv) (by rw [xv_cat]; exact hu) (k H locs ls hn hP hS hl)
theorem x_pop {v : Value} (B : XB K cx own bytes nL n fr lo) (hd : decode bytes pc = .ok (.pop, 1)) (hv : v.category = 1) (k : Wx K cx nL n (pc + 1) L st w) : Wx K cx nL n pc L (v :: st) w := by
  obtain ⟨p, l, e, R, s, m, args, below, meth, c, Q, A, cells, slots⟩ := K
  obtain ⟨hx, hb, hml, hown, hts, hG, hn0, hi, hA, hA0, hfr, hlo, hce, hsl⟩ := B
  intro H locs ls hn hP hS hl
  exact lv_pop hx hb hd (by rw [xv_cat]; exact hv) (k H locs ls hn hP hS hl)
theorem x_goto {off : Int} {tgt : Nat} (B : XB K cx own bytes nL n fr lo) (hd : decode bytes pc = .ok (.goto off, 3)) (ht : (pc : Int) + off = (tgt : Int)) (k : Wx K cx nL n tgt L st w) : Wx K cx nL n pc L st w := by
  obtain ⟨p, l, e, R, s, m, args, below, meth, c, Q, A, cells, slots⟩ := K
  obtain ⟨hx, hb, hml, hown, hts, hG, hn0, hi, hA, hA0, hfr, hlo, hce, hsl⟩ := B
  intro H locs ls hn hP hS hl
  exact lv_goto hx hb hd ht (k H locs ls hn hP hS hl)
theorem x_iload_n {z : Fin 4} {i : Nat} {x : Int32} (B : XB K cx own bytes nL n fr lo) (j : Nat) (hd : decode bytes pc = .ok (.iload_n z, 1)) (hi9 : (z : Nat) = i) (hj : L[j]? = some (i, .int x)) (k : Wx K cx nL n (pc + 1) L (.int x :: st) w) : Wx K cx nL n pc L st w := by
  obtain ⟨p, l, e, R, s, m, args, below, meth, c, Q, A, cells, slots⟩ := K
  obtain ⟨hx, hb, hml, hown, hts, hG, hn0, hi, hA, hA0, hfr, hlo, hce, hsl⟩ := B
  intro H locs ls hn hP hS hl
  exact lv_iload_n hx hb hd hi9 (lv_at hl j (by rw [List.getElem?_map, hj]; rfl)) (k H locs ls hn hP hS hl)
theorem x_iload {i : Nat} {x : Int32} (B : XB K cx own bytes nL n fr lo) (j : Nat) (hd : decode bytes pc = .ok (.iload i, 2)) (hj : L[j]? = some (i, .int x)) (k : Wx K cx nL n (pc + 2) L (.int x :: st) w) : Wx K cx nL n pc L st w := by
  obtain ⟨p, l, e, R, s, m, args, below, meth, c, Q, A, cells, slots⟩ := K
  obtain ⟨hx, hb, hml, hown, hts, hG, hn0, hi, hA, hA0, hfr, hlo, hce, hsl⟩ := B
  intro H locs ls hn hP hS hl
  exact lv_iload hx hb hd (lv_at hl j (by rw [List.getElem?_map, hj]; rfl)) (k H locs ls hn hP hS hl)
theorem x_lload_n {z : Fin 4} {i : Nat} {x : Int64} (B : XB K cx own bytes nL n fr lo) (j : Nat) (hd : decode bytes pc = .ok (.lload_n z, 1)) (hi9 : (z : Nat) = i) (hj : L[j]? = some (i, .long x)) (k : Wx K cx nL n (pc + 1) L (.long x :: st) w) : Wx K cx nL n pc L st w := by
  obtain ⟨p, l, e, R, s, m, args, below, meth, c, Q, A, cells, slots⟩ := K
  obtain ⟨hx, hb, hml, hown, hts, hG, hn0, hi, hA, hA0, hfr, hlo, hce, hsl⟩ := B
  intro H locs ls hn hP hS hl
  exact lv_lload_n hx hb hd hi9 (lv_at hl j (by rw [List.getElem?_map, hj]; rfl)) (k H locs ls hn hP hS hl)
theorem x_lload {i : Nat} {x : Int64} (B : XB K cx own bytes nL n fr lo) (j : Nat) (hd : decode bytes pc = .ok (.lload i, 2)) (hj : L[j]? = some (i, .long x)) (k : Wx K cx nL n (pc + 2) L (.long x :: st) w) : Wx K cx nL n pc L st w := by
  obtain ⟨p, l, e, R, s, m, args, below, meth, c, Q, A, cells, slots⟩ := K
  obtain ⟨hx, hb, hml, hown, hts, hG, hn0, hi, hA, hA0, hfr, hlo, hce, hsl⟩ := B
  intro H locs ls hn hP hS hl
  exact lv_lload hx hb hd (lv_at hl j (by rw [List.getElem?_map, hj]; rfl)) (k H locs ls hn hP hS hl)
theorem x_aload_n {z : Fin 4} {i x : Nat} (B : XB K cx own bytes nL n fr lo) (j : Nat) (hd : decode bytes pc = .ok (.aload_n z, 1)) (hi9 : (z : Nat) = i) (hj : L[j]? = some (i, .ref x)) (k : Wx K cx nL n (pc + 1) L (.ref x :: st) w) : Wx K cx nL n pc L st w := by
  obtain ⟨p, l, e, R, s, m, args, below, meth, c, Q, A, cells, slots⟩ := K
  obtain ⟨hx, hb, hml, hown, hts, hG, hn0, hi, hA, hA0, hfr, hlo, hce, hsl⟩ := B
  intro H locs ls hn hP hS hl
  exact lv_aload_n hx hb hd hi9 (lv_at hl j (by rw [List.getElem?_map, hj]; rfl)) (k H locs ls hn hP hS hl)
theorem x_istore_n {z : Fin 4} {i : Nat} {x : Int32} {L1 : List (Nat × Value)} (B : XB K cx own bytes nL n fr lo) (hd : decode bytes pc = .ok (.istore_n z, 1)) (hi9 : (z : Nat) = i) (hi8 : i < nL) (hL : (i, Value.int x) :: L.filter (fun q => !(q.1 == i) && !(q.1 + 1 == i && q.2.category == 2)) = L1) (k : Wx K cx nL n (pc + 1) L1 st w) : Wx K cx nL n pc L (.int x :: st) w := by
  obtain ⟨p, l, e, R, s, m, args, below, meth, c, Q, A, cells, slots⟩ := K
  obtain ⟨hx, hb, hml, hown, hts, hG, hn0, hi, hA, hA0, hfr, hlo, hce, hsl⟩ := B
  intro H locs ls hn hP hS hl
  exact lv_istore_n (lv' := L1.map (fun q => (q.1, xv cx q.2))) hx hb hd hi9 hl hi8 (by rw [← hL, List.map_cons, ← x_fil (cx := cx) L (fun a b => !(a == i) && !(a + 1 == i && b == 2))]; rfl) (fun ls1 hl1 => k H locs ls1 hn hP hS hl1)
theorem x_istore {i : Nat} {x : Int32} {L1 : List (Nat × Value)} (B : XB K cx own bytes nL n fr lo) (hd : decode bytes pc = .ok (.istore i, 2)) (hi8 : i < nL) (hL : (i, Value.int x) :: L.filter (fun q => !(q.1 == i) && !(q.1 + 1 == i && q.2.category == 2)) = L1) (k : Wx K cx nL n (pc + 2) L1 st w) : Wx K cx nL n pc L (.int x :: st) w := by
  obtain ⟨p, l, e, R, s, m, args, below, meth, c, Q, A, cells, slots⟩ := K
  obtain ⟨hx, hb, hml, hown, hts, hG, hn0, hi, hA, hA0, hfr, hlo, hce, hsl⟩ := B
  intro H locs ls hn hP hS hl
  exact lv_istore (lv' := L1.map (fun q => (q.1, xv cx q.2))) hx hb hd hl hi8 (by rw [← hL, List.map_cons, ← x_fil (cx := cx) L (fun a b => !(a == i) && !(a + 1 == i && b == 2))]; rfl) (fun ls1 hl1 => k H locs ls1 hn hP hS hl1)
theorem x_astore_n {z : Fin 4} {i : Nat} {x : Nat} {L1 : List (Nat × Value)} (B : XB K cx own bytes nL n fr lo) (hd : decode bytes pc = .ok (.astore_n z, 1)) (hi9 : (z : Nat) = i) (hi8 : i < nL) (hL : (i, Value.ref x) :: L.filter (fun q => !(q.1 == i) && !(q.1 + 1 == i && q.2.category == 2)) = L1) (k : Wx K cx nL n (pc + 1) L1 st w) : Wx K cx nL n pc L (.ref x :: st) w := by
  obtain ⟨p, l, e, R, s, m, args, below, meth, c, Q, A, cells, slots⟩ := K
  obtain ⟨hx, hb, hml, hown, hts, hG, hn0, hi, hA, hA0, hfr, hlo, hce, hsl⟩ := B
  intro H locs ls hn hP hS hl
  exact lv_astore_n (lv' := L1.map (fun q => (q.1, xv cx q.2))) hx hb hd hi9 hl hi8 (by rw [← hL, List.map_cons, ← x_fil (cx := cx) L (fun a b => !(a == i) && !(a + 1 == i && b == 2))]; rfl) (fun ls1 hl1 => k H locs ls1 hn hP hS hl1)
theorem x_iinc {i : Nat} {z : Int} {x v : Int32} {L1 : List (Nat × Value)} (B : XB K cx own bytes nL n fr lo) (j : Nat) (hd : decode bytes pc = .ok (.iinc i z, 3)) (hj : L[j]? = some (i, .int x)) (hv : x + Int32.ofInt z = v) (hi8 : i < nL) (hL : (i, Value.int v) :: L.filter (fun q => !(q.1 == i) && !(q.1 + 1 == i && q.2.category == 2)) = L1) (k : Wx K cx nL n (pc + 3) L1 st w) : Wx K cx nL n pc L st w := by
  obtain ⟨p, l, e, R, s, m, args, below, meth, c, Q, A, cells, slots⟩ := K
  obtain ⟨hx, hb, hml, hown, hts, hG, hn0, hi, hA, hA0, hfr, hlo, hce, hsl⟩ := B
  intro H locs ls hn hP hS hl
  exact lv_iinc (lv' := L1.map (fun q => (q.1, xv cx q.2))) hx hb hd hl (k := j) (by rw [List.getElem?_map, hj]; rfl) hv hi8 (by rw [← hL, List.map_cons, ← x_fil (cx := cx) L (fun a b => !(a == i) && !(a + 1 == i && b == 2))]; rfl) (fun ls1 hl1 => k H locs ls1 hn hP hS hl1)
theorem x_if_eq_t {x : Int32} {off : Int} {tgt : Nat} (B : XB K cx own bytes nL n fr lo) (hd : decode bytes pc = .ok (.ifCond .eq off, 3)) (ht : (pc : Int) + off = (tgt : Int)) (hc : x = 0) (k : Wx K cx nL n tgt L st w) : Wx K cx nL n pc L (.int x :: st) w := by
  obtain ⟨p, l, e, R, s, m, args, below, meth, c, Q, A, cells, slots⟩ := K
  obtain ⟨hx, hb, hml, hown, hts, hG, hn0, hi, hA, hA0, hfr, hlo, hce, hsl⟩ := B
  intro H locs ls hn hP hS hl
  exact lv_if_eq hx hb hd ht (fun _ => k H locs ls hn hP hS hl) (fun q => absurd hc q)
theorem x_if_eq_f {x : Int32} {off : Int} (B : XB K cx own bytes nL n fr lo) (tgt : Nat) (hd : decode bytes pc = .ok (.ifCond .eq off, 3)) (ht : (pc : Int) + off = (tgt : Int)) (hc : ¬ x = 0) (k : Wx K cx nL n (pc + 3) L st w) : Wx K cx nL n pc L (.int x :: st) w := by
  obtain ⟨p, l, e, R, s, m, args, below, meth, c, Q, A, cells, slots⟩ := K
  obtain ⟨hx, hb, hml, hown, hts, hG, hn0, hi, hA, hA0, hfr, hlo, hce, hsl⟩ := B
  intro H locs ls hn hP hS hl
  exact lv_if_eq hx hb hd ht (fun q => absurd q hc) (fun _ => k H locs ls hn hP hS hl)
theorem x_if_ne_t {x : Int32} {off : Int} {tgt : Nat} (B : XB K cx own bytes nL n fr lo) (hd : decode bytes pc = .ok (.ifCond .ne off, 3)) (ht : (pc : Int) + off = (tgt : Int)) (hc : ¬ x = 0) (k : Wx K cx nL n tgt L st w) : Wx K cx nL n pc L (.int x :: st) w := by
  obtain ⟨p, l, e, R, s, m, args, below, meth, c, Q, A, cells, slots⟩ := K
  obtain ⟨hx, hb, hml, hown, hts, hG, hn0, hi, hA, hA0, hfr, hlo, hce, hsl⟩ := B
  intro H locs ls hn hP hS hl
  exact lv_if_ne hx hb hd ht (fun _ => k H locs ls hn hP hS hl) (fun q => absurd q hc)
theorem x_if_ne_f {x : Int32} {off : Int} (B : XB K cx own bytes nL n fr lo) (tgt : Nat) (hd : decode bytes pc = .ok (.ifCond .ne off, 3)) (ht : (pc : Int) + off = (tgt : Int)) (hc : x = 0) (k : Wx K cx nL n (pc + 3) L st w) : Wx K cx nL n pc L (.int x :: st) w := by
  obtain ⟨p, l, e, R, s, m, args, below, meth, c, Q, A, cells, slots⟩ := K
  obtain ⟨hx, hb, hml, hown, hts, hG, hn0, hi, hA, hA0, hfr, hlo, hce, hsl⟩ := B
  intro H locs ls hn hP hS hl
  exact lv_if_ne hx hb hd ht (fun q => absurd hc q) (fun _ => k H locs ls hn hP hS hl)
theorem x_if_lt_t {x : Int32} {off : Int} {tgt : Nat} (B : XB K cx own bytes nL n fr lo) (hd : decode bytes pc = .ok (.ifCond .lt off, 3)) (ht : (pc : Int) + off = (tgt : Int)) (hc : x < 0) (k : Wx K cx nL n tgt L st w) : Wx K cx nL n pc L (.int x :: st) w := by
  obtain ⟨p, l, e, R, s, m, args, below, meth, c, Q, A, cells, slots⟩ := K
  obtain ⟨hx, hb, hml, hown, hts, hG, hn0, hi, hA, hA0, hfr, hlo, hce, hsl⟩ := B
  intro H locs ls hn hP hS hl
  exact lv_if_lt hx hb hd ht (fun _ => k H locs ls hn hP hS hl) (fun q => absurd hc q)
theorem x_if_lt_f {x : Int32} {off : Int} (B : XB K cx own bytes nL n fr lo) (tgt : Nat) (hd : decode bytes pc = .ok (.ifCond .lt off, 3)) (ht : (pc : Int) + off = (tgt : Int)) (hc : ¬ x < 0) (k : Wx K cx nL n (pc + 3) L st w) : Wx K cx nL n pc L (.int x :: st) w := by
  obtain ⟨p, l, e, R, s, m, args, below, meth, c, Q, A, cells, slots⟩ := K
  obtain ⟨hx, hb, hml, hown, hts, hG, hn0, hi, hA, hA0, hfr, hlo, hce, hsl⟩ := B
  intro H locs ls hn hP hS hl
  exact lv_if_lt hx hb hd ht (fun q => absurd q hc) (fun _ => k H locs ls hn hP hS hl)
theorem x_if_ge_t {x : Int32} {off : Int} {tgt : Nat} (B : XB K cx own bytes nL n fr lo) (hd : decode bytes pc = .ok (.ifCond .ge off, 3)) (ht : (pc : Int) + off = (tgt : Int)) (hc : 0 ≤ x) (k : Wx K cx nL n tgt L st w) : Wx K cx nL n pc L (.int x :: st) w := by
  obtain ⟨p, l, e, R, s, m, args, below, meth, c, Q, A, cells, slots⟩ := K
  obtain ⟨hx, hb, hml, hown, hts, hG, hn0, hi, hA, hA0, hfr, hlo, hce, hsl⟩ := B
  intro H locs ls hn hP hS hl
  exact lv_if_ge hx hb hd ht (fun _ => k H locs ls hn hP hS hl) (fun q => absurd hc q)
theorem x_if_ge_f {x : Int32} {off : Int} (B : XB K cx own bytes nL n fr lo) (tgt : Nat) (hd : decode bytes pc = .ok (.ifCond .ge off, 3)) (ht : (pc : Int) + off = (tgt : Int)) (hc : ¬ 0 ≤ x) (k : Wx K cx nL n (pc + 3) L st w) : Wx K cx nL n pc L (.int x :: st) w := by
  obtain ⟨p, l, e, R, s, m, args, below, meth, c, Q, A, cells, slots⟩ := K
  obtain ⟨hx, hb, hml, hown, hts, hG, hn0, hi, hA, hA0, hfr, hlo, hce, hsl⟩ := B
  intro H locs ls hn hP hS hl
  exact lv_if_ge hx hb hd ht (fun q => absurd q hc) (fun _ => k H locs ls hn hP hS hl)
theorem x_if_gt_t {x : Int32} {off : Int} {tgt : Nat} (B : XB K cx own bytes nL n fr lo) (hd : decode bytes pc = .ok (.ifCond .gt off, 3)) (ht : (pc : Int) + off = (tgt : Int)) (hc : 0 < x) (k : Wx K cx nL n tgt L st w) : Wx K cx nL n pc L (.int x :: st) w := by
  obtain ⟨p, l, e, R, s, m, args, below, meth, c, Q, A, cells, slots⟩ := K
  obtain ⟨hx, hb, hml, hown, hts, hG, hn0, hi, hA, hA0, hfr, hlo, hce, hsl⟩ := B
  intro H locs ls hn hP hS hl
  exact lv_if_gt hx hb hd ht (fun _ => k H locs ls hn hP hS hl) (fun q => absurd hc q)
theorem x_if_gt_f {x : Int32} {off : Int} (B : XB K cx own bytes nL n fr lo) (tgt : Nat) (hd : decode bytes pc = .ok (.ifCond .gt off, 3)) (ht : (pc : Int) + off = (tgt : Int)) (hc : ¬ 0 < x) (k : Wx K cx nL n (pc + 3) L st w) : Wx K cx nL n pc L (.int x :: st) w := by
  obtain ⟨p, l, e, R, s, m, args, below, meth, c, Q, A, cells, slots⟩ := K
  obtain ⟨hx, hb, hml, hown, hts, hG, hn0, hi, hA, hA0, hfr, hlo, hce, hsl⟩ := B
  intro H locs ls hn hP hS hl
  exact lv_if_gt hx hb hd ht (fun q => absurd q hc) (fun _ => k H locs ls hn hP hS hl)
theorem x_if_le_t {x : Int32} {off : Int} {tgt : Nat} (B : XB K cx own bytes nL n fr lo) (hd : decode bytes pc = .ok (.ifCond .le off, 3)) (ht : (pc : Int) + off = (tgt : Int)) (hc : x ≤ 0) (k : Wx K cx nL n tgt L st w) : Wx K cx nL n pc L (.int x :: st) w := by
  obtain ⟨p, l, e, R, s, m, args, below, meth, c, Q, A, cells, slots⟩ := K
  obtain ⟨hx, hb, hml, hown, hts, hG, hn0, hi, hA, hA0, hfr, hlo, hce, hsl⟩ := B
  intro H locs ls hn hP hS hl
  exact lv_if_le hx hb hd ht (fun _ => k H locs ls hn hP hS hl) (fun q => absurd hc q)
theorem x_if_le_f {x : Int32} {off : Int} (B : XB K cx own bytes nL n fr lo) (tgt : Nat) (hd : decode bytes pc = .ok (.ifCond .le off, 3)) (ht : (pc : Int) + off = (tgt : Int)) (hc : ¬ x ≤ 0) (k : Wx K cx nL n (pc + 3) L st w) : Wx K cx nL n pc L (.int x :: st) w := by
  obtain ⟨p, l, e, R, s, m, args, below, meth, c, Q, A, cells, slots⟩ := K
  obtain ⟨hx, hb, hml, hown, hts, hG, hn0, hi, hA, hA0, hfr, hlo, hce, hsl⟩ := B
  intro H locs ls hn hP hS hl
  exact lv_if_le hx hb hd ht (fun q => absurd q hc) (fun _ => k H locs ls hn hP hS hl)
theorem x_icmp_eq_t {x y : Int32} {off : Int} {tgt : Nat} (B : XB K cx own bytes nL n fr lo) (hd : decode bytes pc = .ok (.if_icmp .eq off, 3)) (ht : (pc : Int) + off = (tgt : Int)) (hc : x = y) (k : Wx K cx nL n tgt L st w) : Wx K cx nL n pc L (.int y :: .int x :: st) w := by
  obtain ⟨p, l, e, R, s, m, args, below, meth, c, Q, A, cells, slots⟩ := K
  obtain ⟨hx, hb, hml, hown, hts, hG, hn0, hi, hA, hA0, hfr, hlo, hce, hsl⟩ := B
  intro H locs ls hn hP hS hl
  exact lv_icmp_eq hx hb hd ht (fun _ => k H locs ls hn hP hS hl) (fun q => absurd hc q)
theorem x_icmp_eq_f {x y : Int32} {off : Int} (B : XB K cx own bytes nL n fr lo) (tgt : Nat) (hd : decode bytes pc = .ok (.if_icmp .eq off, 3)) (ht : (pc : Int) + off = (tgt : Int)) (hc : ¬ x = y) (k : Wx K cx nL n (pc + 3) L st w) : Wx K cx nL n pc L (.int y :: .int x :: st) w := by
  obtain ⟨p, l, e, R, s, m, args, below, meth, c, Q, A, cells, slots⟩ := K
  obtain ⟨hx, hb, hml, hown, hts, hG, hn0, hi, hA, hA0, hfr, hlo, hce, hsl⟩ := B
  intro H locs ls hn hP hS hl
  exact lv_icmp_eq hx hb hd ht (fun q => absurd q hc) (fun _ => k H locs ls hn hP hS hl)
theorem x_icmp_ne_t {x y : Int32} {off : Int} {tgt : Nat} (B : XB K cx own bytes nL n fr lo) (hd : decode bytes pc = .ok (.if_icmp .ne off, 3)) (ht : (pc : Int) + off = (tgt : Int)) (hc : ¬ x = y) (k : Wx K cx nL n tgt L st w) : Wx K cx nL n pc L (.int y :: .int x :: st) w := by
  obtain ⟨p, l, e, R, s, m, args, below, meth, c, Q, A, cells, slots⟩ := K
  obtain ⟨hx, hb, hml, hown, hts, hG, hn0, hi, hA, hA0, hfr, hlo, hce, hsl⟩ := B
  intro H locs ls hn hP hS hl
  exact lv_icmp_ne hx hb hd ht (fun _ => k H locs ls hn hP hS hl) (fun q => absurd q hc)
theorem x_icmp_ne_f {x y : Int32} {off : Int} (B : XB K cx own bytes nL n fr lo) (tgt : Nat) (hd : decode bytes pc = .ok (.if_icmp .ne off, 3)) (ht : (pc : Int) + off = (tgt : Int)) (hc : x = y) (k : Wx K cx nL n (pc + 3) L st w) : Wx K cx nL n pc L (.int y :: .int x :: st) w := by
  obtain ⟨p, l, e, R, s, m, args, below, meth, c, Q, A, cells, slots⟩ := K
  obtain ⟨hx, hb, hml, hown, hts, hG, hn0, hi, hA, hA0, hfr, hlo, hce, hsl⟩ := B
  intro H locs ls hn hP hS hl
  exact lv_icmp_ne hx hb hd ht (fun q => absurd hc q) (fun _ => k H locs ls hn hP hS hl)
theorem x_icmp_lt_t {x y : Int32} {off : Int} {tgt : Nat} (B : XB K cx own bytes nL n fr lo) (hd : decode bytes pc = .ok (.if_icmp .lt off, 3)) (ht : (pc : Int) + off = (tgt : Int)) (hc : x < y) (k : Wx K cx nL n tgt L st w) : Wx K cx nL n pc L (.int y :: .int x :: st) w := by
  obtain ⟨p, l, e, R, s, m, args, below, meth, c, Q, A, cells, slots⟩ := K
  obtain ⟨hx, hb, hml, hown, hts, hG, hn0, hi, hA, hA0, hfr, hlo, hce, hsl⟩ := B
  intro H locs ls hn hP hS hl
  exact lv_icmp_lt hx hb hd ht (fun _ => k H locs ls hn hP hS hl) (fun q => absurd hc q)
theorem x_icmp_lt_f {x y : Int32} {off : Int} (B : XB K cx own bytes nL n fr lo) (tgt : Nat) (hd : decode bytes pc = .ok (.if_icmp .lt off, 3)) (ht : (pc : Int) + off = (tgt : Int)) (hc : ¬ x < y) (k : Wx K cx nL n (pc + 3) L st w) : Wx K cx nL n pc L (.int y :: .int x :: st) w := by
  obtain ⟨p, l, e, R, s, m, args, below, meth, c, Q, A, cells, slots⟩ := K
  obtain ⟨hx, hb, hml, hown, hts, hG, hn0, hi, hA, hA0, hfr, hlo, hce, hsl⟩ := B
  intro H locs ls hn hP hS hl
  exact lv_icmp_lt hx hb hd ht (fun q => absurd q hc) (fun _ => k H locs ls hn hP hS hl)
theorem x_icmp_ge_t {x y : Int32} {off : Int} {tgt : Nat} (B : XB K cx own bytes nL n fr lo) (hd : decode bytes pc = .ok (.if_icmp .ge off, 3)) (ht : (pc : Int) + off = (tgt : Int)) (hc : y ≤ x) (k : Wx K cx nL n tgt L st w) : Wx K cx nL n pc L (.int y :: .int x :: st) w := by
  obtain ⟨p, l, e, R, s, m, args, below, meth, c, Q, A, cells, slots⟩ := K
  obtain ⟨hx, hb, hml, hown, hts, hG, hn0, hi, hA, hA0, hfr, hlo, hce, hsl⟩ := B
  intro H locs ls hn hP hS hl
  exact lv_icmp_ge hx hb hd ht (fun _ => k H locs ls hn hP hS hl) (fun q => absurd hc q)
theorem x_icmp_ge_f {x y : Int32} {off : Int} (B : XB K cx own bytes nL n fr lo) (tgt : Nat) (hd : decode bytes pc = .ok (.if_icmp .ge off, 3)) (ht : (pc : Int) + off = (tgt : Int)) (hc : ¬ y ≤ x) (k : Wx K cx nL n (pc + 3) L st w) : Wx K cx nL n pc L (.int y :: .int x :: st) w := by
  obtain ⟨p, l, e, R, s, m, args, below, meth, c, Q, A, cells, slots⟩ := K
  obtain ⟨hx, hb, hml, hown, hts, hG, hn0, hi, hA, hA0, hfr, hlo, hce, hsl⟩ := B
  intro H locs ls hn hP hS hl
  exact lv_icmp_ge hx hb hd ht (fun q => absurd q hc) (fun _ => k H locs ls hn hP hS hl)
theorem x_icmp_gt_t {x y : Int32} {off : Int} {tgt : Nat} (B : XB K cx own bytes nL n fr lo) (hd : decode bytes pc = .ok (.if_icmp .gt off, 3)) (ht : (pc : Int) + off = (tgt : Int)) (hc : y < x) (k : Wx K cx nL n tgt L st w) : Wx K cx nL n pc L (.int y :: .int x :: st) w := by
  obtain ⟨p, l, e, R, s, m, args, below, meth, c, Q, A, cells, slots⟩ := K
  obtain ⟨hx, hb, hml, hown, hts, hG, hn0, hi, hA, hA0, hfr, hlo, hce, hsl⟩ := B
  intro H locs ls hn hP hS hl
  exact lv_icmp_gt hx hb hd ht (fun _ => k H locs ls hn hP hS hl) (fun q => absurd hc q)
theorem x_icmp_gt_f {x y : Int32} {off : Int} (B : XB K cx own bytes nL n fr lo) (tgt : Nat) (hd : decode bytes pc = .ok (.if_icmp .gt off, 3)) (ht : (pc : Int) + off = (tgt : Int)) (hc : ¬ y < x) (k : Wx K cx nL n (pc + 3) L st w) : Wx K cx nL n pc L (.int y :: .int x :: st) w := by
  obtain ⟨p, l, e, R, s, m, args, below, meth, c, Q, A, cells, slots⟩ := K
  obtain ⟨hx, hb, hml, hown, hts, hG, hn0, hi, hA, hA0, hfr, hlo, hce, hsl⟩ := B
  intro H locs ls hn hP hS hl
  exact lv_icmp_gt hx hb hd ht (fun q => absurd q hc) (fun _ => k H locs ls hn hP hS hl)
theorem x_icmp_le_t {x y : Int32} {off : Int} {tgt : Nat} (B : XB K cx own bytes nL n fr lo) (hd : decode bytes pc = .ok (.if_icmp .le off, 3)) (ht : (pc : Int) + off = (tgt : Int)) (hc : x ≤ y) (k : Wx K cx nL n tgt L st w) : Wx K cx nL n pc L (.int y :: .int x :: st) w := by
  obtain ⟨p, l, e, R, s, m, args, below, meth, c, Q, A, cells, slots⟩ := K
  obtain ⟨hx, hb, hml, hown, hts, hG, hn0, hi, hA, hA0, hfr, hlo, hce, hsl⟩ := B
  intro H locs ls hn hP hS hl
  exact lv_icmp_le hx hb hd ht (fun _ => k H locs ls hn hP hS hl) (fun q => absurd hc q)
theorem x_icmp_le_f {x y : Int32} {off : Int} (B : XB K cx own bytes nL n fr lo) (tgt : Nat) (hd : decode bytes pc = .ok (.if_icmp .le off, 3)) (ht : (pc : Int) + off = (tgt : Int)) (hc : ¬ x ≤ y) (k : Wx K cx nL n (pc + 3) L st w) : Wx K cx nL n pc L (.int y :: .int x :: st) w := by
  obtain ⟨p, l, e, R, s, m, args, below, meth, c, Q, A, cells, slots⟩ := K
  obtain ⟨hx, hb, hml, hown, hts, hG, hn0, hi, hA, hA0, hfr, hlo, hce, hsl⟩ := B
  intro H locs ls hn hP hS hl
  exact lv_icmp_le hx hb hd ht (fun q => absurd q hc) (fun _ => k H locs ls hn hP hS hl)
theorem x_look {x : Int32} {dflt off : Int} {ps : Array (Int × Int)} {len tgt : Nat} (B : XB K cx own bytes nL n fr lo) (hd : decode bytes pc = .ok (.lookupswitch dflt ps, len)) (hp : (ps.toList.zip (ps.toList.drop 1)).all (fun (a, next) => a.1 < next.1) = true) (ho : Op.lookupswitch.offset ps.toList dflt x.toInt = off) (ht : (pc : Int) + off = (tgt : Int)) (k : Wx K cx nL n tgt L st w) : Wx K cx nL n pc L (.int x :: st) w := by
  obtain ⟨p, l, e, R, s, m, args, below, meth, c, Q, A, cells, slots⟩ := K
  obtain ⟨hx, hb, hml, hown, hts, hG, hn0, hi, hA, hA0, hfr, hlo, hce, hsl⟩ := B
  intro H locs ls hn hP hS hl
  exact lv_lookup hx hb hd hp ho ht (k H locs ls hn hP hS hl)
theorem x_tabOut {x : Int32} {dflt a b : Int} {offs : Array Int} {len tgt : Nat} (B : XB K cx own bytes nL n fr lo) (hd : decode bytes pc = .ok (.tableswitch dflt a b offs, len)) (h : x.toInt < a ∨ b < x.toInt) (ht : (pc : Int) + dflt = (tgt : Int)) (k : Wx K cx nL n tgt L st w) : Wx K cx nL n pc L (.int x :: st) w := by
  obtain ⟨p, l, e, R, s, m, args, below, meth, c, Q, A, cells, slots⟩ := K
  obtain ⟨hx, hb, hml, hown, hts, hG, hn0, hi, hA, hA0, hfr, hlo, hce, hsl⟩ := B
  intro H locs ls hn hP hS hl
  exact lv_tableOut hx hb hd h ht (k H locs ls hn hP hS hl)
theorem x_tabIn {x : Int32} {dflt a b off : Int} {offs : Array Int} {len tgt : Nat} (B : XB K cx own bytes nL n fr lo) (hd : decode bytes pc = .ok (.tableswitch dflt a b offs, len)) (h1 : ¬ x.toInt < a) (h2 : ¬ b < x.toInt) (ho : offs[(x.toInt - a).toNat]? = some off) (ht : (pc : Int) + off = (tgt : Int)) (k : Wx K cx nL n tgt L st w) : Wx K cx nL n pc L (.int x :: st) w := by
  obtain ⟨p, l, e, R, s, m, args, below, meth, c, Q, A, cells, slots⟩ := K
  obtain ⟨hx, hb, hml, hown, hts, hG, hn0, hi, hA, hA0, hfr, hlo, hce, hsl⟩ := B
  intro H locs ls hn hP hS hl
  exact lv_tableIn hx hb hd h1 h2 ho ht (k H locs ls hn hP hS hl)
theorem x_ldc {i : Nat} {v : Int32} (B : XB K cx own bytes nL n fr lo) (hd : decode bytes pc = .ok (.ldc i, 2)) (hw : Cond.constant own i v ∈ xT) (k : Wx K cx nL n (pc + 2) L (.int v :: st) w) : Wx K cx nL n pc L st w := by
  obtain ⟨p, l, e, R, s, m, args, below, meth, c, Q, A, cells, slots⟩ := K
  obtain ⟨hx, hb, hml, hown, hts, hG, hn0, hi, hA, hA0, hfr, hlo, hce, hsl⟩ := B
  intro H locs ls hn hP hS hl
  exact lv_ldc hx hb hown (hts _ hw) hd (k H locs ls hn hP hS hl)
theorem x_ldcw {i : Nat} {v : Int32} (B : XB K cx own bytes nL n fr lo) (hd : decode bytes pc = .ok (.ldc_w i, 3)) (hw : Cond.constant own i v ∈ xT) (k : Wx K cx nL n (pc + 3) L (.int v :: st) w) : Wx K cx nL n pc L st w := by
  obtain ⟨p, l, e, R, s, m, args, below, meth, c, Q, A, cells, slots⟩ := K
  obtain ⟨hx, hb, hml, hown, hts, hG, hn0, hi, hA, hA0, hfr, hlo, hce, hsl⟩ := B
  intro H locs ls hn hP hS hl
  exact lv_ldcw hx hb hown (hts _ hw) hd (k H locs ls hn hP hS hl)
theorem x_ldc2 {i : Nat} {v : Int64} (B : XB K cx own bytes nL n fr lo) (hd : decode bytes pc = .ok (.ldc2_w i, 3)) (hw : Cond.constantLong own i v ∈ xT) (k : Wx K cx nL n (pc + 3) L (.long v :: st) w) : Wx K cx nL n pc L st w := by
  obtain ⟨p, l, e, R, s, m, args, below, meth, c, Q, A, cells, slots⟩ := K
  obtain ⟨hx, hb, hml, hown, hts, hG, hn0, hi, hA, hA0, hfr, hlo, hce, hsl⟩ := B
  intro H locs ls hn hP hS hl
  exact lv_ldc2 hx hb hown (hts _ hw) hd (k H locs ls hn hP hS hl)
theorem x_ldcS {i : Nat} {t : String} {q0 : Nat} (B : XB K cx own bytes nL n fr lo) (hd : decode bytes pc = .ok (.ldc i, 2)) (hw : own = RX1) (hq : (i, t, q0) ∈ xSr) (hq0 : q0 < 1000) (k : Wx K cx nL n (pc + 2) L (.ref (1000 + q0) :: st) w) : Wx K cx nL n pc L st w := by
  obtain ⟨p, l, e, R, s, m, args, below, meth, c, Q, A, cells, slots⟩ := K
  obtain ⟨hx, hb, hml, hown, hts, hG, hn0, hi, hA, hA0, hfr, hlo, hce, hsl⟩ := B
  intro H locs ls hn hP hS hl
  exact va_ldcS (tx := t) (q := xa cx (1000 + q0)) hx hb hown (by rw [xa_s hq0, hw]; exact hG.2.2.2.1 _ hq) hd (k H locs ls hn hP hS hl)
theorem x_mmax {x y : Int32} {index : Nat} (B : XB K cx own bytes nL n fr lo) (hd : decode bytes pc = .ok (.invokestatic index, 3)) (hl9 : Cond.methodLink own index yJ9_max_7cf53 ∈ xT) (hfr9 : 1 ≤ fr) (hlo9 : (st.map fun v => v.category).sum + 13 ≤ lo) (k : Wx K cx nL n (pc + 3) L (.int (if x < y then y else x) :: st) w) : Wx K cx nL n pc L (.int y :: .int x :: st) w := by
  obtain ⟨p, l, e, R, s, m, args, below, meth, c, Q, A, cells, slots⟩ := K
  obtain ⟨hx, hb, hml, hown, hts, hG, hn0, hi, hA, hA0, hfr, hlo, hce, hsl⟩ := B
  intro H locs ls hn hP hS hl
  exact va_mmax hx hb (by rw [hml]; exact hl.1.symm) hown (hts _ hl9) (hts _ xt_319) (hts _ xt_60) (hts _ xt_320) (Nat.le_trans hfr9 hfr) (Nat.le_trans (by rw [List.map_map]; rw [show ((fun v : Value => v.category) ∘ xv cx) = (fun v => v.category) from funext (xv_cat cx)]; exact hlo9) hlo) hce hsl hd (k H locs ls hn hP hS hl)
theorem x_mmin {x y : Int32} {index : Nat} (B : XB K cx own bytes nL n fr lo) (hd : decode bytes pc = .ok (.invokestatic index, 3)) (hl9 : Cond.methodLink own index yJ9_min_7cf53 ∈ xT) (hfr9 : 1 ≤ fr) (hlo9 : (st.map fun v => v.category).sum + 13 ≤ lo) (k : Wx K cx nL n (pc + 3) L (.int (if y < x then y else x) :: st) w) : Wx K cx nL n pc L (.int y :: .int x :: st) w := by
  obtain ⟨p, l, e, R, s, m, args, below, meth, c, Q, A, cells, slots⟩ := K
  obtain ⟨hx, hb, hml, hown, hts, hG, hn0, hi, hA, hA0, hfr, hlo, hce, hsl⟩ := B
  intro H locs ls hn hP hS hl
  exact va_mmin hx hb (by rw [hml]; exact hl.1.symm) hown (hts _ hl9) (hts _ xt_326) (hts _ xt_60) (hts _ xt_327) (Nat.le_trans hfr9 hfr) (Nat.le_trans (by rw [List.map_map]; rw [show ((fun v : Value => v.category) ∘ xv cx) = (fun v => v.category) from funext (xv_cat cx)]; exact hlo9) hlo) hce hsl hd (k H locs ls hn hP hS hl)
theorem x_mabs {x : Int32} {index : Nat} (B : XB K cx own bytes nL n fr lo) (hd : decode bytes pc = .ok (.invokestatic index, 3)) (hl9 : Cond.methodLink own index yJ9_abs_0f7a4 ∈ xT) (hfr9 : 1 ≤ fr) (hlo9 : (st.map fun v => v.category).sum + 13 ≤ lo) (k : Wx K cx nL n (pc + 3) L (.int (if 0 ≤ x then x else 0 - x) :: st) w) : Wx K cx nL n pc L (.int x :: st) w := by
  obtain ⟨p, l, e, R, s, m, args, below, meth, c, Q, A, cells, slots⟩ := K
  obtain ⟨hx, hb, hml, hown, hts, hG, hn0, hi, hA, hA0, hfr, hlo, hce, hsl⟩ := B
  intro H locs ls hn hP hS hl
  exact va_mabs hx hb (by rw [hml]; exact hl.1.symm) hown (hts _ hl9) (hts _ xt_377) (hts _ xt_60) (hts _ xt_378) (Nat.le_trans hfr9 hfr) (Nat.le_trans (by rw [List.map_map]; rw [show ((fun v : Value => v.category) ∘ xv cx) = (fun v => v.category) from funext (xv_cat cx)]; exact hlo9) hlo) hce hsl hd (k H locs ls hn hP hS hl)
theorem xlg3 {v : Value} (h : v.category = 1) (a b : Int32) : (lg_sl [.int a, .int b, v]).length ≤ 3 := by
  unfold lg_sl
  simp only [List.flatMap_cons, h]
  exact Nat.le_of_ble_eq_true rfl
theorem xgI_at {a ci k0 : Nat} {x : Int32} (h : xgI w a ci k0 = some x) : ∃ fs, w[a]? = some (.inr (ci, fs)) ∧ fs[k0]? = some (.int x) := by
  unfold xgI at h
  split at h
  next c1 fs e =>
    split at h
    next q =>
      subst q
      split at h
      next v e2 => cases h; exact ⟨fs, e, e2⟩
      next => cases h
    next => cases h
  next => cases h
theorem xgR_at {a ci k0 x : Nat} (h : xgR w a ci k0 = some x) : ∃ fs, w[a]? = some (.inr (ci, fs)) ∧ fs[k0]? = some (.ref x) := by
  unfold xgR at h
  split at h
  next c1 fs e =>
    split at h
    next q =>
      subst q
      split at h
      next v e2 => cases h; exact ⟨fs, e, e2⟩
      next => cases h
    next => cases h
  next => cases h
theorem xpI_at {a ci k0 : Nat} {x : Int32} {w1 : XW} (h : xpI w a ci k0 x = some w1) : ∃ fs, w[a]? = some (.inr (ci, fs)) ∧ k0 < fs.length ∧ w1 = w.set a (.inr (ci, fs.set k0 (.int x))) := by
  unfold xpI at h
  split at h
  next c1 fs e =>
    split at h
    next q =>
      obtain ⟨q1, q2⟩ := q
      subst q1
      cases h
      exact ⟨fs, e, q2, rfl⟩
    next => cases h
  next => cases h
theorem xlt {a : Nat} {e : XE} (h : w[a]? = some e) : a < w.length := (List.getElem?_eq_some_iff.mp h).1
theorem xD_B {K : KX} {A1 : Nat → Prop} (hn : w.length = n) (h1 : ∀ i j, i < n → j < n → xad cx i = xad cx j → i = j) (h2 : ∀ i, i < n → A1 (xad cx i)) : va_D A1 (xw cx w) := by
  subst hn
  exact xD_to h1 h2
theorem x_getI {ci N k0 index : Nat} {T : u_T} {Cn ref nm ds : String} {a : Nat} {x : Int32} (B : XB K cx own bytes nL n fr lo) (hd : decode bytes pc = .ok (.getfield index, 3)) (hcl : xCl[ci]? = some (Cn, T, N)) (hws : ∀ w ∈ u_ws Cn T N, w ∈ xT) (hk : k0 < N) (hT : (T k0).2.1 = nm ∧ (T k0).2.2.1 = ds ∧ (T k0).1 = ref) (hl9 : Cond.fieldLink own index ref nm ds ∈ xT) (hg : xgI w a ci k0 = some x) (k : Wx K cx nL n (pc + 3) L (.int x :: st) w) : Wx K cx nL n pc L (.ref a :: st) w := by
  obtain ⟨p, l, e, R, s, m, args, below, meth, c, Q, A, cells, slots⟩ := K
  obtain ⟨hx, hb, hml, hown, hts, hG, hn0, hi, hA, hA0, hfr, hlo, hce, hsl⟩ := B
  intro H locs ls hn hP hS hl
  obtain ⟨fs, e1, e2⟩ := xgI_at hg
  have hxa : xa cx a = xad cx a := xa_w (by have := xlt e1; omega)
  exact va_get (cl := xCl) (C := Cn) (T := T) (N := N) (ref := ref) (index := index) (v := xv cx (.int x)) (a := xa cx a) hx hb hts hws hown hG.1 hP a (by rw [hxa]; exact xw_at e1) hcl k0 hk (by rw [hT.1, hT.2.1]; exact hts _ hl9) (by rw [hT.1, hT.2.1, hT.2.2]; exact fun _ h9 => h9) (by rw [List.getElem?_map, e2]; rfl) hd (k H locs ls hn hP hS hl)
theorem x_getR {ci N k0 index : Nat} {T : u_T} {Cn ref nm ds : String} {a : Nat} {x : Nat} (B : XB K cx own bytes nL n fr lo) (hd : decode bytes pc = .ok (.getfield index, 3)) (hcl : xCl[ci]? = some (Cn, T, N)) (hws : ∀ w ∈ u_ws Cn T N, w ∈ xT) (hk : k0 < N) (hT : (T k0).2.1 = nm ∧ (T k0).2.2.1 = ds ∧ (T k0).1 = ref) (hl9 : Cond.fieldLink own index ref nm ds ∈ xT) (hg : xgR w a ci k0 = some x) (k : Wx K cx nL n (pc + 3) L (.ref x :: st) w) : Wx K cx nL n pc L (.ref a :: st) w := by
  obtain ⟨p, l, e, R, s, m, args, below, meth, c, Q, A, cells, slots⟩ := K
  obtain ⟨hx, hb, hml, hown, hts, hG, hn0, hi, hA, hA0, hfr, hlo, hce, hsl⟩ := B
  intro H locs ls hn hP hS hl
  obtain ⟨fs, e1, e2⟩ := xgR_at hg
  have hxa : xa cx a = xad cx a := xa_w (by have := xlt e1; omega)
  exact va_get (cl := xCl) (C := Cn) (T := T) (N := N) (ref := ref) (index := index) (v := xv cx (.ref x)) (a := xa cx a) hx hb hts hws hown hG.1 hP a (by rw [hxa]; exact xw_at e1) hcl k0 hk (by rw [hT.1, hT.2.1]; exact hts _ hl9) (by rw [hT.1, hT.2.1, hT.2.2]; exact fun _ h9 => h9) (by rw [List.getElem?_map, e2]; rfl) hd (k H locs ls hn hP hS hl)
theorem x_putI {ci N k0 index : Nat} {T : u_T} {Cn ref nm ds : String} {tys : Nat → FieldType} {a : Nat} {x : Int32} {w1 : XW} (B : XB K cx own bytes nL n fr lo) (hd : decode bytes pc = .ok (.putfield index, 3)) (hcl : xCl[ci]? = some (Cn, T, N)) (hws : ∀ w ∈ u_ws Cn T N, w ∈ xT) (hk : k0 < N) (hT : (T k0).2.1 = nm ∧ (T k0).2.2.1 = ds ∧ (T k0).1 = ref) (hl9 : Cond.fieldLink own index ref nm ds ∈ xT) (htys : ∀ k, k < N → parseFieldDescriptor (T k).2.2.1 = some (tys k)) (hnm : ∀ a, a < N → ∀ b, b < N → a ≠ b → (T a).2.1 ≠ (T b).2.1) (hfin : (T k0).2.2.2 = false) (hds : parseFieldDescriptor ds = some .int) (hg : xpI w a ci k0 x = some w1) (k : Wx K cx nL n (pc + 3) L st w1) : Wx K cx nL n pc L (.int x :: .ref a :: st) w := by
  obtain ⟨p, l, e, R, s, m, args, below, meth, c, Q, A, cells, slots⟩ := K
  obtain ⟨hx, hb, hml, hown, hts, hG, hn0, hi, hA, hA0, hfr, hlo, hce, hsl⟩ := B
  intro H locs ls hn hP hS hl
  obtain ⟨fs, e1, e2, e3⟩ := xpI_at hg
  have hxa : xa cx a = xad cx a := xa_w (by have := xlt e1; omega)
  have hD : va_D A (xw cx w) := xD_B (K := (p, l, e, R, s, m, args, below, meth, c, Q, A, cells, slots)) hn hi hA
  exact va_put (cl := xCl) (C := Cn) (T := T) (N := N) (ref := ref) (index := index) (v := .int x) (ty := .int) (a := xa cx a) hx hb hts hws tys htys hnm hown hG.1 hP hD hS a (by rw [hxa]; exact xw_at e1) hcl k0 hk (by rw [hT.1, hT.2.1]; exact hts _ hl9) (by rw [hT.1, hT.2.1, hT.2.2]; exact fun _ h9 => h9) hfin (by rw [hT.2.1]; exact hds) rfl rfl (by rw [List.length_map]; exact e2) hd (fun H1 locs1 hP1 hD1 hS1 => k H1 locs1 ls (by rw [e3, List.length_set]; exact hn) (by
      rw [e3, ← xw_set]
      rw [hxa] at hP1
      show va_P _ _ ((xw cx w).set a (xad cx a, .inr (ci, (fs.set k0 (.int x)).map (xv cx)))) _
      rw [List.map_set]
      exact hP1) hS1 hl)
theorem x_putZ {ci N k0 index : Nat} {T : u_T} {Cn ref nm ds : String} {tys : Nat → FieldType} {a : Nat} {x : Int32} {w1 : XW} (B : XB K cx own bytes nL n fr lo) (hd : decode bytes pc = .ok (.putfield index, 3)) (hcl : xCl[ci]? = some (Cn, T, N)) (hws : ∀ w ∈ u_ws Cn T N, w ∈ xT) (hk : k0 < N) (hT : (T k0).2.1 = nm ∧ (T k0).2.2.1 = ds ∧ (T k0).1 = ref) (hl9 : Cond.fieldLink own index ref nm ds ∈ xT) (htys : ∀ k, k < N → parseFieldDescriptor (T k).2.2.1 = some (tys k)) (hnm : ∀ a, a < N → ∀ b, b < N → a ≠ b → (T a).2.1 ≠ (T b).2.1) (hfin : (T k0).2.2.2 = false) (hds : parseFieldDescriptor ds = some .boolean) (hg : xpZ w a ci k0 x = some w1) (k : Wx K cx nL n (pc + 3) L st w1) : Wx K cx nL n pc L (.int x :: .ref a :: st) w := by
  obtain ⟨p, l, e, R, s, m, args, below, meth, c, Q, A, cells, slots⟩ := K
  obtain ⟨hx, hb, hml, hown, hts, hG, hn0, hi, hA, hA0, hfr, hlo, hce, hsl⟩ := B
  intro H locs ls hn hP hS hl
  obtain ⟨h01, hg2⟩ : (x = 0 ∨ x = 1) ∧ xpI w a ci k0 x = some w1 := by
    unfold xpZ at hg
    split at hg
    next q => exact ⟨q, hg⟩
    next => cases hg
  obtain ⟨fs, e1, e2, e3⟩ := xpI_at hg2
  have hxa : xa cx a = xad cx a := xa_w (by have := xlt e1; omega)
  have hD : va_D A (xw cx w) := xD_B (K := (p, l, e, R, s, m, args, below, meth, c, Q, A, cells, slots)) hn hi hA
  exact va_put (cl := xCl) (C := Cn) (T := T) (N := N) (ref := ref) (index := index) (v := .int x) (ty := .boolean) (a := xa cx a) hx hb hts hws tys htys hnm hown hG.1 hP hD hS a (by rw [hxa]; exact xw_at e1) hcl k0 hk (by rw [hT.1, hT.2.1]; exact hts _ hl9) (by rw [hT.1, hT.2.1, hT.2.2]; exact fun _ h9 => h9) hfin (by rw [hT.2.1]; exact hds) (by rcases h01 with rfl | rfl <;> decide +kernel) (by rcases h01 with rfl | rfl <;> decide +kernel) (by rw [List.length_map]; exact e2) hd (fun H1 locs1 hP1 hD1 hS1 => k H1 locs1 ls (by rw [e3, List.length_set]; exact hn) (by
      rw [e3, ← xw_set]
      rw [hxa] at hP1
      show va_P _ _ ((xw cx w).set a (xad cx a, .inr (ci, (fs.set k0 (.int x)).map (xv cx)))) _
      rw [List.map_set]
      exact hP1) hS1 hl)
theorem xaI_at {a : Nat} {i x : Int32} (h : xaI w a i = some x) : ∃ n0 f, w[a]? = some (.inl (0, n0, f)) ∧ vp_in i n0 ∧ x = f i.toNatClampNeg := by
  unfold xaI at h
  split at h
  next n0 f e =>
    split at h
    next => cases h
    next q => cases h; exact ⟨n0, f, e, q, rfl⟩
  next => cases h
theorem xaZ_at {a : Nat} {i x : Int32} (h : xaZ w a i = some x) : ∃ n0 f, w[a]? = some (.inl (1, n0, f)) ∧ vp_in i n0 ∧ x = f i.toNatClampNeg := by
  unfold xaZ at h
  split at h
  next n0 f e =>
    split at h
    next => cases h
    next q => cases h; exact ⟨n0, f, e, q, rfl⟩
  next => cases h
theorem xsI_at {a : Nat} {i x : Int32} {w1 : XW} (h : xsI w a i x = some w1) : ∃ n0 f, w[a]? = some (.inl (0, n0, f)) ∧ vp_in i n0 ∧ w1 = w.set a (.inl (0, n0, upd f i.toNatClampNeg x)) := by
  unfold xsI at h
  split at h
  next n0 f e =>
    split at h
    next => cases h
    next q => cases h; exact ⟨n0, f, e, q, rfl⟩
  next => cases h
theorem xsZ_at {a : Nat} {i x : Int32} {w1 : XW} (h : xsZ w a i x = some w1) : ∃ n0 f, w[a]? = some (.inl (1, n0, f)) ∧ vp_in i n0 ∧ (x = 0 ∨ x = 1) ∧ w1 = w.set a (.inl (1, n0, upd f i.toNatClampNeg x)) := by
  unfold xsZ at h
  split at h
  next n0 f e =>
    split at h
    next => cases h
    next q => cases h; exact ⟨n0, f, e, fun z => q (z.elim Or.inl (fun z => Or.inr (Or.inl z))), Classical.not_not.mp (fun z => q (Or.inr (Or.inr z))), rfl⟩
  next => cases h
theorem xaL_at {a : Nat} {x : Int32} (h : xaL w a = some x) : ∃ kd n0 f, w[a]? = some (.inl (kd, n0, f)) ∧ (kd = 0 ∨ kd = 1) ∧ x = Int32.ofNat n0 := by
  unfold xaL at h
  split at h
  next n0 f e => cases h; exact ⟨0, n0, f, e, Or.inl rfl, rfl⟩
  next n0 f e => cases h; exact ⟨1, n0, f, e, Or.inr rfl, rfl⟩
  next => cases h
theorem xis_at {a ci : Nat} (h : xis w a ci = true) : ∃ fs, w[a]? = some (.inr (ci, fs)) := by
  unfold xis at h
  split at h
  next c1 fs e => exact ⟨fs, by rw [e, beq_iff_eq.mp h]⟩
  next => cases h
theorem xcp_at {a b : Nat} {sp dp k0 : Int32} {w1 : XW} (h : xcp w a sp b dp k0 = some w1) : ∃ n0 f n1 g, w[a]? = some (.inl (0, n0, f)) ∧ w[b]? = some (.inl (0, n1, g)) ∧ ¬ sp < 0 ∧ ¬ dp < 0 ∧ ¬ k0 < 0 ∧ sp.toNatClampNeg + k0.toNatClampNeg ≤ n0 ∧ dp.toNatClampNeg + k0.toNatClampNeg ≤ n1 ∧ w1 = w.set b (.inl (0, n1, va_cpy f g sp.toNatClampNeg dp.toNatClampNeg k0.toNatClampNeg)) := by
  unfold xcp at h
  split at h
  next n0 f n1 g e1 e2 =>
    split at h
    next => cases h
    next q =>
      cases h
      simp only [not_or, Nat.not_lt] at q
      exact ⟨n0, f, n1, g, e1, e2, q.1, q.2.1, q.2.2.1, q.2.2.2.1, q.2.2.2.2, rfl⟩
  next => cases h
theorem x_iald {a : Nat} {i x : Int32} (B : XB K cx own bytes nL n fr lo) (hd : decode bytes pc = .ok (.iaload, 1)) (hg : xaI w a i = some x) (k : Wx K cx nL n (pc + 1) L (.int x :: st) w) : Wx K cx nL n pc L (.int i :: .ref a :: st) w := by
  obtain ⟨p, l, e, R, s, m, args, below, meth, c, Q, A, cells, slots⟩ := K
  obtain ⟨hx, hb, hml, hown, hts, hG, hn0, hi, hA, hA0, hfr, hlo, hce, hsl⟩ := B
  intro H locs ls hn hP hS hl
  obtain ⟨n0, f, e1, e2, rfl⟩ := xaI_at hg
  have hxa : xa cx a = xad cx a := xa_w (by have := xlt e1; omega)
  exact va_iald (cl := xCl) (a := xa cx a) hx hb hG.1 hP a 0 (by rw [hxa]; exact xw_at e1) rfl e2 hd (k H locs ls hn hP hS hl)
theorem x_zald {a : Nat} {i x : Int32} (B : XB K cx own bytes nL n fr lo) (hd : decode bytes pc = .ok (.baload, 1)) (hg : xaZ w a i = some x) (k : Wx K cx nL n (pc + 1) L (.int x :: st) w) : Wx K cx nL n pc L (.int i :: .ref a :: st) w := by
  obtain ⟨p, l, e, R, s, m, args, below, meth, c, Q, A, cells, slots⟩ := K
  obtain ⟨hx, hb, hml, hown, hts, hG, hn0, hi, hA, hA0, hfr, hlo, hce, hsl⟩ := B
  intro H locs ls hn hP hS hl
  obtain ⟨n0, f, e1, e2, rfl⟩ := xaZ_at hg
  have hxa : xa cx a = xad cx a := xa_w (by have := xlt e1; omega)
  exact va_zald (cl := xCl) (a := xa cx a) hx hb hG.1 hP a 1 (by rw [hxa]; exact xw_at e1) rfl e2 hd (k H locs ls hn hP hS hl)
theorem x_iast {a : Nat} {i x : Int32} {w1 : XW} (B : XB K cx own bytes nL n fr lo) (hd : decode bytes pc = .ok (.iastore, 1)) (hg : xsI w a i x = some w1) (k : Wx K cx nL n (pc + 1) L st w1) : Wx K cx nL n pc L (.int x :: .int i :: .ref a :: st) w := by
  obtain ⟨p, l, e, R, s, m, args, below, meth, c, Q, A, cells, slots⟩ := K
  obtain ⟨hx, hb, hml, hown, hts, hG, hn0, hi, hA, hA0, hfr, hlo, hce, hsl⟩ := B
  intro H locs ls hn hP hS hl
  obtain ⟨n0, f, e1, e2, e3⟩ := xsI_at hg
  have hxa : xa cx a = xad cx a := xa_w (by have := xlt e1; omega)
  have hD : va_D A (xw cx w) := xD_B (K := (p, l, e, R, s, m, args, below, meth, c, Q, A, cells, slots)) hn hi hA
  exact va_iast (cl := xCl) (a := xa cx a) hx hb hG.1 hP hD hS a 0 (by rw [hxa]; exact xw_at e1) rfl e2 hd (fun H1 locs1 hP1 hD1 hS1 => k H1 locs1 ls (by rw [e3, List.length_set]; exact hn) (by rw [e3, ← xw_set, ← hxa]; exact hP1) hS1 hl)
theorem x_zast {a : Nat} {i x : Int32} {w1 : XW} (B : XB K cx own bytes nL n fr lo) (hd : decode bytes pc = .ok (.bastore, 1)) (hg : xsZ w a i x = some w1) (k : Wx K cx nL n (pc + 1) L st w1) : Wx K cx nL n pc L (.int x :: .int i :: .ref a :: st) w := by
  obtain ⟨p, l, e, R, s, m, args, below, meth, c, Q, A, cells, slots⟩ := K
  obtain ⟨hx, hb, hml, hown, hts, hG, hn0, hi, hA, hA0, hfr, hlo, hce, hsl⟩ := B
  intro H locs ls hn hP hS hl
  obtain ⟨n0, f, e1, e2, e4, e3⟩ := xsZ_at hg
  have hxa : xa cx a = xad cx a := xa_w (by have := xlt e1; omega)
  have hD : va_D A (xw cx w) := xD_B (K := (p, l, e, R, s, m, args, below, meth, c, Q, A, cells, slots)) hn hi hA
  exact va_zast (cl := xCl) (a := xa cx a) hx hb hG.1 hP hD hS a 1 (by rw [hxa]; exact xw_at e1) rfl e2 hd (fun H1 locs1 hP1 hD1 hS1 => k H1 locs1 ls (by rw [e3, List.length_set]; exact hn) (by rw [e3, ← xw_set, ← hxa]; rw [show vp_nar .boolean x = x from by rcases e4 with rfl | rfl <;> decide +kernel] at hP1; exact hP1) hS1 hl)
theorem x_alen {a : Nat} {x : Int32} (B : XB K cx own bytes nL n fr lo) (hd : decode bytes pc = .ok (.arraylength, 1)) (hg : xaL w a = some x) (k : Wx K cx nL n (pc + 1) L (.int x :: st) w) : Wx K cx nL n pc L (.ref a :: st) w := by
  obtain ⟨p, l, e, R, s, m, args, below, meth, c, Q, A, cells, slots⟩ := K
  obtain ⟨hx, hb, hml, hown, hts, hG, hn0, hi, hA, hA0, hfr, hlo, hce, hsl⟩ := B
  intro H locs ls hn hP hS hl
  obtain ⟨kd, n0, f, e1, e2, e3⟩ := xaL_at hg
  have hxa : xa cx a = xad cx a := xa_w (by have := xlt e1; omega)
  exact va_alen (cl := xCl) (a := xa cx a) hx hb hG.1 hP a kd (by rw [hxa]; exact xw_at e1) (ty := if kd = 0 then .int else .boolean) (by rcases e2 with rfl | rfl <;> rfl) e3.symm hd (k H locs ls hn hP hS hl)
theorem x_copy {index a b : Nat} {sp dp k0 : Int32} {w1 : XW} (B : XB K cx own bytes nL n fr lo) (hd : decode bytes pc = .ok (.invokestatic index, 3)) (hl9 : Cond.methodLink own index arraycopyName ∈ xT) (hfr9 : 1 ≤ fr) (hlo9 : (st.map fun v => v.category).sum + (nativeFrameWords "java/lang/System" "arraycopy" 5 + 11) ≤ lo) (hg : xcp w a sp b dp k0 = some w1) (k : Wx K cx nL n (pc + 3) L st w1) : Wx K cx nL n pc L (.int k0 :: .int dp :: .ref b :: .int sp :: .ref a :: st) w := by
  obtain ⟨p, l, e, R, s, m, args, below, meth, c, Q, A, cells, slots⟩ := K
  obtain ⟨hx, hb, hml, hown, hts, hG, hn0, hi, hA, hA0, hfr, hlo, hce, hsl⟩ := B
  intro H locs ls hn hP hS hl
  obtain ⟨n0, f, n1, g, e1, e2, e3, e4, e5, e6, e7, e8⟩ := xcp_at hg
  have hxa : xa cx a = xad cx a := xa_w (by have := xlt e1; omega)
  have hxb : xa cx b = xad cx b := xa_w (by have := xlt e2; omega)
  have hD : va_D A (xw cx w) := xD_B (K := (p, l, e, R, s, m, args, below, meth, c, Q, A, cells, slots)) hn hi hA
  exact va_copyi (cl := xCl) (a := xa cx b) (a0 := xa cx a) (ty := .int) hx hb (by rw [hml]; exact hl.1.symm) hown (hts _ hl9) (hts _ xt_162) (hts _ xt_161) (hts _ xt_59) hG.1 hP hD hS a b 0 0 (by rw [hxa]; exact xw_at e1) (by rw [hxb]; exact xw_at e2) rfl rfl rfl e3 e4 e5 e6 e7 (fun _ _ => rfl) (Nat.le_trans hfr9 hfr) (Nat.le_trans (by rw [List.map_map]; rw [show ((fun v : Value => v.category) ∘ xv cx) = (fun v => v.category) from funext (xv_cat cx)]; exact hlo9) hlo) hd (fun H1 locs1 hP1 hD1 hS1 => k H1 locs1 ls (by rw [e8, List.length_set]; exact hn) (by rw [e8, ← xw_set, ← hxb]; exact hP1) hS1 hl)
/-- a String constant's bytes, their length, one of them -/
def xsv (a : Nat) : Option Nat := if 1000 ≤ a ∧ a < 1006 then some (a + 1000) else none
def xis' (a : Nat) : Bool := decide (1000 ≤ a ∧ a < 1006)
def xbl (a : Nat) : Option Int32 := if 2000 ≤ a ∧ a < 2006 then some (Int32.ofNat (xSn.getD (a - 2000) 0)) else none
def xbb (a : Nat) (i : Int32) : Option Int32 := if 2000 ≤ a ∧ a < 2006 ∧ 0 ≤ i ∧ i.toNatClampNeg < xSn.getD (a - 2000) 0 then some ((xSb.getD (a - 2000) []).getD i.toNatClampNeg 0) else none
theorem xK {a lo9 : Nat} (h1 : lo9 ≤ a) (h2 : a < lo9 + 6) : ∃ i, i < 6 ∧ a = lo9 + i := ⟨a - lo9, by omega, by omega⟩
theorem x_sval {index a b : Nat} (B : XB K cx own bytes nL n fr lo) (hd : decode bytes pc = .ok (.getfield index, 3)) (hl9 : Cond.fieldLink own index "java/lang/String" "value" "[B" ∈ xT) (hg : xsv a = some b) (k : Wx K cx nL n (pc + 3) L (.ref b :: st) w) : Wx K cx nL n pc L (.ref a :: st) w := by
  obtain ⟨p, l, e, R, s, m, args, below, meth, c, Q, A, cells, slots⟩ := K
  obtain ⟨hx, hb, hml, hown, hts, hG, hn0, hi, hA, hA0, hfr, hlo, hce, hsl⟩ := B
  intro H locs ls hn hP hS hl
  obtain ⟨i, hi9, rfl, rfl⟩ : ∃ i, i < 6 ∧ a = 1000 + i ∧ b = 2000 + i := by
    unfold xsv at hg
    split at hg
    next q => cases hg; exact ⟨a - 1000, by omega, by omega, by omega⟩
    next => cases hg
  exact vk_getf (q := xa cx (1000 + i)) (v := .ref (xa cx (2000 + i))) hx hb (by rw [xa_s (by omega), xa_b (by omega)]; exact (hG.2.2.1.1 i hi9).2.2.1) hS hown (hts _ hl9) (fun _ h9 => h9) hd (k H locs ls hn hP hS hl)
theorem x_scod {index a : Nat} (B : XB K cx own bytes nL n fr lo) (hd : decode bytes pc = .ok (.getfield index, 3)) (hl9 : Cond.fieldLink own index "java/lang/String" "coder" "B" ∈ xT) (hg : xis' a = true) (k : Wx K cx nL n (pc + 3) L (.int 0 :: st) w) : Wx K cx nL n pc L (.ref a :: st) w := by
  obtain ⟨p, l, e, R, s, m, args, below, meth, c, Q, A, cells, slots⟩ := K
  obtain ⟨hx, hb, hml, hown, hts, hG, hn0, hi, hA, hA0, hfr, hlo, hce, hsl⟩ := B
  intro H locs ls hn hP hS hl
  obtain ⟨i, hi9, rfl⟩ : ∃ i, i < 6 ∧ a = 1000 + i := by
    have q := of_decide_eq_true hg
    exact xK q.1 (by omega)
  exact vk_getf (q := xa cx (1000 + i)) (v := .int 0) hx hb (by rw [xa_s (by omega)]; exact (hG.2.2.1.1 i hi9).2.1) hS hown (hts _ hl9) (fun _ h9 => h9) hd (k H locs ls hn hP hS hl)
theorem x_blen {a : Nat} {x : Int32} (B : XB K cx own bytes nL n fr lo) (hd : decode bytes pc = .ok (.arraylength, 1)) (hg : xbl a = some x) (k : Wx K cx nL n (pc + 1) L (.int x :: st) w) : Wx K cx nL n pc L (.ref a :: st) w := by
  obtain ⟨p, l, e, R, s, m, args, below, meth, c, Q, A, cells, slots⟩ := K
  obtain ⟨hx, hb, hml, hown, hts, hG, hn0, hi, hA, hA0, hfr, hlo, hce, hsl⟩ := B
  intro H locs ls hn hP hS hl
  obtain ⟨i, hi9, rfl, rfl⟩ : ∃ i, i < 6 ∧ a = 2000 + i ∧ x = Int32.ofNat (xSn.getD i 0) := by
    unfold xbl at hg
    split at hg
    next q =>
      have h8 := Option.some.inj hg
      subst h8
      obtain ⟨i, h1, rfl⟩ := xK (a := a) q.1 q.2
      exact ⟨i, h1, rfl, by rw [Nat.add_sub_cancel_left]⟩
    next => cases hg
  exact va_tlen (t := xa cx (2000 + i)) hx hb (by rw [xa_b (by omega)]; exact (hG.2.2.1.1 i hi9).2.2.2) hS (v := Int32.ofNat (xSn.getD i 0)) rfl hd (k H locs ls hn hP hS hl)
theorem x_bald {a : Nat} {i0 x : Int32} (B : XB K cx own bytes nL n fr lo) (hd : decode bytes pc = .ok (.baload, 1)) (hg : xbb a i0 = some x) (k : Wx K cx nL n (pc + 1) L (.int x :: st) w) : Wx K cx nL n pc L (.int i0 :: .ref a :: st) w := by
  obtain ⟨p, l, e, R, s, m, args, below, meth, c, Q, A, cells, slots⟩ := K
  obtain ⟨hx, hb, hml, hown, hts, hG, hn0, hi, hA, hA0, hfr, hlo, hce, hsl⟩ := B
  intro H locs ls hn hP hS hl
  obtain ⟨i, hi9, rfl, hin9, rfl⟩ : ∃ i, i < 6 ∧ a = 2000 + i ∧ vp_in i0 (xSn.getD i 0) ∧ x = (xSb.getD i []).getD i0.toNatClampNeg 0 := by
    unfold xbb at hg
    split at hg
    next q =>
      have h8 := Option.some.inj hg
      subst h8
      obtain ⟨i, h1, rfl⟩ := xK (a := a) q.1 q.2.1
      rw [Nat.add_sub_cancel_left] at q
      exact ⟨i, h1, rfl, fun z => z.elim (fun z => absurd q.2.2.1 (Int32.not_le.mpr z)) (fun z => absurd q.2.2.2 (Nat.not_lt.mpr z)), by rw [Nat.add_sub_cancel_left]⟩
    next => cases hg
  exact va_tb (t := xa cx (2000 + i)) (f := fun j => .int ((xSb.getD i []).getD j 0)) hx hb (by rw [xa_b (by omega)]; exact (hG.2.2.1.1 i hi9).2.2.2) hS hin9 rfl hd (k H locs ls hn hP hS hl)
theorem x_gsC {index : Nat} (B : XB K cx own bytes nL n fr lo) (hd : decode bytes pc = .ok (.getstatic index, 3)) (hl9 : Cond.fieldLink own index "java/lang/String" "COMPACT_STRINGS" "Z" ∈ xT) (k : Wx K cx nL n (pc + 3) L (.int 1 :: st) w) : Wx K cx nL n pc L st w := by
  obtain ⟨p, l, e, R, s, m, args, below, meth, c, Q, A, cells, slots⟩ := K
  obtain ⟨hx, hb, hml, hown, hts, hG, hn0, hi, hA, hA0, hfr, hlo, hce, hsl⟩ := B
  intro H locs ls hn hP hS hl
  exact va_gets (v := .int 1) hx hb hG.2.2.2.2.1 hS hown (hts _ hl9) (fun _ h9 => h9) hd (k H locs ls hn hP hS hl)
theorem x_gsF {index : Nat} (B : XB K cx own bytes nL n fr lo) (hd : decode bytes pc = .ok (.getstatic index, 3)) (hl9 : Cond.fieldLink own index "jdk/internal/util/Preconditions" "SIOOBE_FORMATTER" "Ljava/util/function/BiFunction;" ∈ xT) (k : ∀ v : Value, v.category = 1 → Wx K cx nL n (pc + 3) L (v :: st) w) : Wx K cx nL n pc L st w := by
  obtain ⟨p, l, e, R, s, m, args, below, meth, c, Q, A, cells, slots⟩ := K
  obtain ⟨hx, hb, hml, hown, hts, hG, hn0, hi, hA, hA0, hfr, hlo, hce, hsl⟩ := B
  intro H locs ls hn hP hS hl
  rcases hG.2.2.2.2.2 with hz | hz
  · exact va_gets (v := .null) hx hb hz hS hown (hts _ hl9) (fun _ h9 => h9) hd (k .null rfl H locs ls hn hP hS hl)
  · exact va_gets (v := .ref (xaF cx)) hx hb hz hS hown (hts _ hl9) (fun _ h9 => h9) hd (k (.ref 3000) rfl H locs ls hn hP hS hl)
theorem x_iret {ret : Option FieldType} {v : Int32} {R9 : Int32 × XW} (B : XB K cx own bytes nL n fr lo) (hR : XR K cx n ret (some (.int R9.1)) R9.2) (hd : decode bytes pc = .ok (.ireturn, 1)) (hret : ∃ ty, ret = some ty ∧ narrow ty (.int v) = .int v) (h : some (v, w) = some R9) : Wx K cx nL n pc L [.int v] w := by
  cases h
  obtain ⟨p, l, e, R, s, m, args, below, meth, c, Q, A, cells, slots⟩ := K
  obtain ⟨hx, hb, hml, hown, hts, hG, hn0, hi, hA, hA0, hfr, hlo, hce, hsl⟩ := B
  intro H locs ls hn hP hS hl
  obtain ⟨hr, hlk, rfl⟩ := hR
  obtain ⟨ty, rfl, hnar⟩ := hret
  exact W.zret hx hb hr hnar (fun t ht hW => ⟨rfl, hn, by rw [ht]; exact hP, hS.F ht⟩) hS.2.2 hd (hlocks := hlk)
theorem x_aret {v : Nat} {nm : String} {R9 : Nat × XW} (B : XB K cx own bytes nL n fr lo) (hR : XR K cx n (some (.object nm)) (some (.ref R9.1)) R9.2) (hd : decode bytes pc = .ok (.areturn, 1)) (h : some (v, w) = some R9) : Wx K cx nL n pc L [.ref v] w := by
  cases h
  obtain ⟨p, l, e, R, s, m, args, below, meth, c, Q, A, cells, slots⟩ := K
  obtain ⟨hx, hb, hml, hown, hts, hG, hn0, hi, hA, hA0, hfr, hlo, hce, hsl⟩ := B
  intro H locs ls hn hP hS hl
  obtain ⟨hr, hlk, rfl⟩ := hR
  exact W.aret hx hb hr (Or.inl ⟨nm, rfl⟩) (Or.inr ⟨_, rfl⟩) (fun t ht hW => ⟨rfl, hn, by rw [ht]; exact hP, hS.F ht⟩) hS.2.2 hd (hlocks := hlk)
theorem x_vret {R9 : XW} (B : XB K cx own bytes nL n fr lo) (hR : XR K cx n none none R9) (hd : decode bytes pc = .ok (.return_, 1)) (h : some w = some R9) : Wx K cx nL n pc L [] w := by
  cases h
  obtain ⟨p, l, e, R, s, m, args, below, meth, c, Q, A, cells, slots⟩ := K
  obtain ⟨hx, hb, hml, hown, hts, hG, hn0, hi, hA, hA0, hfr, hlo, hce, hsl⟩ := B
  intro H locs ls hn hP hS hl
  obtain ⟨hr, hlk, rfl⟩ := hR
  exact W.vret hx hb hr (fun t ht hW => ⟨rfl, hn, by rw [ht]; exact hP, hS.F ht⟩) hS.2.2 hd (hlocks := hlk)
/-- behind a call: what came back goes on -/
theorem x_back {p : Program} {l : Launch} {e : Env} {R : Room} {s : State} {m : MethodId} {args : Array Value} {below : List Frame} {meth : Method} {c : Code} {Q : State → Prop} {A : Nat → Prop} {cells slots : Nat} {H : Heap} {locs : List Loc} {ls : Array Slot} {A1 : Nat → Prop} {a : Array Value} {r : Option Value} {w1 : XW} {rest st0 : List Value}
    (hr : va_Run p l e R s m args below meth c H locs cells slots 0 0 (F0 m pc ls st0) rest (xQ cx r w1 n A1 a) A1) (hS : va_S A s.heap H locs) (hA1 : ∀ q, A1 q → A q)
    (k : ∀ (H1 : Heap) (locs1 : List Loc), w1.length = n → va_P (xG0 cx) xCl (xw cx w1) H1 → va_S A s.heap H1 locs1 → W p l e R s m args below meth c H1 locs1 cells slots Q (F0 m (pc + 3) ls ((r.map (xv cx)).toList ++ rest))) : W p l e R s m args below meth c H locs cells slots Q (F0 m pc ls st0) := by
  intro T hT X
  obtain ⟨v, st₀, t, T', L9, h0, X', hL, e1, e2, ⟨hv, hle, hp, hz, hk⟩, st⟩ := hr T hT X
  cases hv
  rw [h0] at hz hk
  obtain ⟨t2, a1, b1⟩ := k T'.heap (locs ++ L9) hle (by rw [e1]; exact hp) ⟨Nat.le_trans hS.1 (by rw [e1]; exact hz), fun q h1 h2 => by rw [e1, hk q (Nat.lt_of_lt_of_le h1 hS.1) (fun z => h2 (hA1 q z))]; exact hS.2.1 q h1 h2, fun q hq => by
      rcases List.mem_append.mp hq with h | h
      · exact hS.2.2 q h
      · exact hA1 _ (hL q h)⟩ T' rfl X'
  exact ⟨t2, st t2 a1, b1⟩
theorem xA_in {A : Nat → Prop} {s : State} {H : Heap} {locs : List Loc} (hn : w.length = n) (hA : ∀ i, i < n → A (xad cx i)) (hA0 : ∀ q, s.heap.size ≤ q → A q) (hS : va_S A s.heap H locs) : ∀ q, va_A (xw cx w) H.size q → A q := by
  intro q hq
  rcases hq with ⟨k, e, h⟩ | h
  · have hk : k < w.length := by rw [← xw_len cx w]; exact (List.getElem?_eq_some_iff.mp h).1
    rw [xw_at (List.getElem?_eq_getElem hk)] at h
    have := congrArg Prod.fst (Option.some.inj h)
    simp only at this
    rw [← this]; exact hA k (by omega)
  · exact hA0 q (Nat.le_trans hS.1 h)
theorem xblind (av : List Value) (sz : Nat) : FrameBlind (va_Pc (av.map (xv cx)) (fun U => w.length ≤ 1000 ∧ U.heap.size = sz ∧ xG cx (va_A (xw cx w) sz) U ∧ va_P (xG0 cx) xCl (xw cx w) U.heap ∧ va_D (fun _ => True) (xw cx w))) := by
  intro a U g mk h
  obtain ⟨h0, h1, h2, h3, h4, h5⟩ := h
  exact ⟨h0, h1, h2, xG_call g mk a h3, h4, h5⟩
theorem xcode_good {y : MethodName} {bs : ByteArray} {mL : Nat} {rt : Option FieldType} {cw : Cond} (hcw : cw ∈ xT) : GoodIn xT (cw :: xT) := by
  intro w hw
  have h : w ∈ xT := by
    rcases List.mem_cons.mp hw with rfl | h
    · exact hcw
    · exact h
  exact ⟨h, good_of_word (List.mem_filter.mp h).2⟩
theorem xws_ok {args : Array Value} {s : State} {cw : Cond} (hts : ∀ w ∈ xT, w.before args s = true) (hcw : cw ∈ xT) : ∀ w ∈ cw :: xT, ∀ (a' : Array Value) (U : State), s.WarmedH U.vm → w.before a' U = true :=
  pay_in hts (xcode_good (y := ⟨"", "", ""⟩) (bs := .empty) (mL := 0) (rt := none) hcw)
theorem x_callS {index : Nat} {y : MethodName} {bs : ByteArray} {mL fr1 lo1 : Nat} {rt : Option FieldType} {av : List Value} {r : Option Value} {w1 : XW} (B : XB K cx own bytes nL n fr lo) (hd : decode bytes pc = .ok (.invokestatic index, 3)) (hC : Ct y bs mL rt fr1 lo1 cx av w r w1) (hcw : Cond.code y bs mL rt ∈ xT) (hini : Cond.initialized y.cls ∈ xT) (hnp : (parseMethodDescriptor y.desc).map (fun d => d.parameters.length) = some av.length) (hy : y.cls ≠ "java/lang/invoke/MethodHandle" ∧ y.cls ≠ "java/lang/invoke/VarHandle") (hfr9 : fr1 + 1 ≤ fr) (hlo9 : 8 + (mL + 11) + lo1 ≤ lo) (hst : (st.map fun v => v.category).sum ≤ 8) (hstt : Cond.static y ∈ xT) (hl9 : Cond.methodLink own index y ∈ xT) {st1 : List Value} (hs1 : av.reverse ++ st = st1) (k : Wx K cx nL n (pc + 3) L (r.toList ++ st) w1) : Wx K cx nL n pc L st1 w := by
  subst hs1
  obtain ⟨p, l, e, R, s, m, args, below, meth, c, Q, A, cells, slots⟩ := K
  obtain ⟨hx, hb, hml, hown, hts, hG, hn0, hi, hA, hA0, hfr, hlo, hce, hsl⟩ := B
  intro H locs ls hn hP hS hl
  have hA1 := xA_in (s := s) hn hA hA0 hS
  have hD : va_D A (xw cx w) := xD_B (K := (p, l, e, R, s, m, args, below, meth, c, Q, A, cells, slots)) hn hi hA
  have hpre : ∀ U : State, U.heap = H → s.WarmedH U.vm → w.length ≤ 1000 ∧ U.heap.size = H.size ∧ xG cx (va_A (xw cx w) H.size) U ∧ va_P (xG0 cx) xCl (xw cx w) U.heap ∧ va_D (fun _ => True) (xw cx w) := fun U hU hW => ⟨by omega, by rw [hU], xG_warm hG (by rw [hU]; exact hS) hA1 hW, by rw [hU]; exact hP, hD.weaken (fun _ _ _ _ => trivial)⟩
  have hsum : ((st.map (xv cx)).map fun v => v.category).sum ≤ 8 := by
    rw [List.map_map, show ((fun v : Value => v.category) ∘ xv cx) = (fun v => v.category) from funext (xv_cat cx)]
    exact hst
  have hpar : ∀ sig, parseMethodDescriptor y.desc = some sig → av.length = sig.parameters.length := by
    intro sig h
    rw [h] at hnp
    exact (Option.some.inj hnp).symm
  have hrun := va_runS (e := e) (below := below) (meth := meth) (locs := locs) (As := av.map (xv cx)) (rest := st.map (xv cx)) (g := F0 m pc ls ((av.reverse ++ st).map (xv cx))) ⟨hx, hb, hml, hown, hts⟩ (hC l H.size) ⟨(⟨rfl, rfl, Nat.le_trans hfr9 hfr, Nat.le_trans hlo9 hlo, xws_ok hts hcw, List.mem_cons_self, hts _ hcw, hts _ hini, hy, by rw [List.length_map]; exact hpar, hts _ hl9⟩ : CallB R s args own index y bs mL rt (.code y bs mL rt :: xT) { frames := fr1, cells := 0, slots := 0, locals := lo1 } 0 0 (av.map (xv cx)).length), hts _ hstt⟩ ⟨xblind av H.size, fun U hU hW => ⟨rfl, hpre U hU hW⟩⟩ rfl rfl hl.1 (by rw [List.map_append, List.map_reverse]) (lv_room hsum) hd ⟨hce, hsl⟩
  refine x_back (cx := cx) (r := r) (w1 := w1) (n := w.length) hrun hS hA1 (fun H1 locs1 hn1 hP1 hS1 => ?_)
  have h9 := k H1 locs1 ls (by rw [hn1]; exact hn) hP1 hS1 hl
  rw [List.map_append] at h9
  cases r with
  | none => exact h9
  | some v => exact h9
theorem x_callSN {index : Nat} {y : MethodName} {bs : ByteArray} {mL fr1 lo1 : Nat} {rt : Option FieldType} {av : List Value} {r : Option Value} {w1 : XW} (B : XB K cx own bytes nL n fr lo) (hd : decode bytes pc = .ok (.invokestatic index, 3)) (hC : Ct y bs mL rt fr1 lo1 cx av w r w1) (hcw : Cond.code y bs mL rt ∈ xT) (hini : Cond.initialized y.cls ∈ xT) (hnp : (parseMethodDescriptor y.desc).map (fun d => d.parameters.length) = some av.length) (hy : y.cls ≠ "java/lang/invoke/MethodHandle" ∧ y.cls ≠ "java/lang/invoke/VarHandle") (hfr9 : fr1 + 1 ≤ fr) (hlo9 : 8 + (mL + 11) + lo1 ≤ lo) (hst : (st.map fun v => v.category).sum ≤ 8) (hstt : Cond.static y ∈ xT) {host : String} (hl9 : (own, index, y, host) ∈ xNs) {st1 : List Value} (hs1 : av.reverse ++ st = st1) (k : Wx K cx nL n (pc + 3) L (r.toList ++ st) w1) : Wx K cx nL n pc L st1 w := by
  subst hs1
  obtain ⟨p, l, e, R, s, m, args, below, meth, c, Q, A, cells, slots⟩ := K
  obtain ⟨hx, hb, hml, hown, hts, hG, hn0, hi, hA, hA0, hfr, hlo, hce, hsl⟩ := B
  intro H locs ls hn hP hS hl
  have hA1 := xA_in (s := s) hn hA hA0 hS
  have hD : va_D A (xw cx w) := xD_B (K := (p, l, e, R, s, m, args, below, meth, c, Q, A, cells, slots)) hn hi hA
  have hpre : ∀ U : State, U.heap = H → s.WarmedH U.vm → w.length ≤ 1000 ∧ U.heap.size = H.size ∧ xG cx (va_A (xw cx w) H.size) U ∧ va_P (xG0 cx) xCl (xw cx w) U.heap ∧ va_D (fun _ => True) (xw cx w) := fun U hU hW => ⟨by omega, by rw [hU], xG_warm hG (by rw [hU]; exact hS) hA1 hW, by rw [hU]; exact hP, hD.weaken (fun _ _ _ _ => trivial)⟩
  have hsum : ((st.map (xv cx)).map fun v => v.category).sum ≤ 8 := by
    rw [List.map_map, show ((fun v : Value => v.category) ∘ xv cx) = (fun v => v.category) from funext (xv_cat cx)]
    exact hst
  have hpar : ∀ sig, parseMethodDescriptor y.desc = some sig → av.length = sig.parameters.length := by
    intro sig h
    rw [h] at hnp
    exact (Option.some.inj hnp).symm
  have hrun := va_runSN (e := e) (below := below) (meth := meth) (locs := locs) (As := av.map (xv cx)) (rest := st.map (xv cx)) (g := F0 m pc ls ((av.reverse ++ st).map (xv cx))) ⟨hx, hb, hml, hown, hts⟩ (hC l H.size) ⟨(⟨⟨rfl, rfl, Nat.le_trans hfr9 hfr, Nat.le_trans hlo9 hlo, xws_ok hts hcw, List.mem_cons_self⟩, hts _ hcw, hts _ hini, hy, by rw [List.length_map]; exact hpar, va_Nw.use rfl (hG.2.1 _ hl9)⟩ : va_CN R s args own index y host bs mL rt (.code y bs mL rt :: xT) { frames := fr1, cells := 0, slots := 0, locals := lo1 } 0 0 (av.map (xv cx)).length), hts _ hstt, trivial⟩ ⟨xblind av H.size, fun U hU hW => ⟨rfl, hpre U hU hW⟩⟩ rfl rfl hl.1 (by rw [List.map_append, List.map_reverse]) (lv_room hsum) hd ⟨hce, hsl⟩
  refine x_back (cx := cx) (r := r) (w1 := w1) (n := w.length) hrun hS hA1 (fun H1 locs1 hn1 hP1 hS1 => ?_)
  have h9 := k H1 locs1 ls (by rw [hn1]; exact hn) hP1 hS1 hl
  rw [List.map_append] at h9
  cases r with
  | none => exact h9
  | some v => exact h9
theorem x_callV {index : Nat} {y : MethodName} {bs : ByteArray} {mL fr1 lo1 : Nat} {rt : Option FieldType} {av : List Value} {r : Option Value} {w1 : XW} {a : Nat} (B : XB K cx own bytes nL n fr lo) (hd : decode bytes pc = .ok (.invokevirtual index, 3)) (hC : Ct y bs mL rt fr1 lo1 cx (.ref a :: av) w r w1) (hcw : Cond.code y bs mL rt ∈ xT) (hini : Cond.initialized y.cls ∈ xT) (hnp : (parseMethodDescriptor y.desc).map (fun d => d.parameters.length) = some av.length) (hy : y.cls ≠ "java/lang/invoke/MethodHandle" ∧ y.cls ≠ "java/lang/invoke/VarHandle") (hfr9 : fr1 + 1 ≤ fr) (hlo9 : 8 + (mL + 11) + lo1 ≤ lo) (hst : (st.map fun v => v.category).sum ≤ 8) (hins : Cond.instanceMethod y ∈ xT) (hsel : Cond.selects y.cls y y ∈ xT) (hl9 : Cond.methodLink own index y ∈ xT) {ci N : Nat} {T : u_T} (hcl : xCl[ci]? = some (y.cls, T, N)) (hg : xis w a ci = true) {st1 : List Value} (hs1 : av.reverse ++ .ref a :: st = st1) (k : Wx K cx nL n (pc + 3) L (r.toList ++ st) w1) : Wx K cx nL n pc L st1 w := by
  subst hs1
  obtain ⟨p, l, e, R, s, m, args, below, meth, c, Q, A, cells, slots⟩ := K
  obtain ⟨hx, hb, hml, hown, hts, hG, hn0, hi, hA, hA0, hfr, hlo, hce, hsl⟩ := B
  intro H locs ls hn hP hS hl
  have hA1 := xA_in (s := s) hn hA hA0 hS
  have hD : va_D A (xw cx w) := xD_B (K := (p, l, e, R, s, m, args, below, meth, c, Q, A, cells, slots)) hn hi hA
  have hpre : ∀ U : State, U.heap = H → s.WarmedH U.vm → w.length ≤ 1000 ∧ U.heap.size = H.size ∧ xG cx (va_A (xw cx w) H.size) U ∧ va_P (xG0 cx) xCl (xw cx w) U.heap ∧ va_D (fun _ => True) (xw cx w) := fun U hU hW => ⟨by omega, by rw [hU], xG_warm hG (by rw [hU]; exact hS) hA1 hW, by rw [hU]; exact hP, hD.weaken (fun _ _ _ _ => trivial)⟩
  have hsum : ((st.map (xv cx)).map fun v => v.category).sum ≤ 8 := by
    rw [List.map_map, show ((fun v : Value => v.category) ∘ xv cx) = (fun v => v.category) from funext (xv_cat cx)]
    exact hst
  have hpar : ∀ sig, parseMethodDescriptor y.desc = some sig → av.length = sig.parameters.length := by
    intro sig h
    rw [h] at hnp
    exact (Option.some.inj hnp).symm
  obtain ⟨fs, e1⟩ := xis_at hg
  have hxa : xa cx a = xad cx a := xa_w (by have := xlt e1; omega)
  have hrecv := va_recv (q := (y.cls, T, N)) (a := xa cx a) hG.1 hP hcl (by rw [hxa]; exact xw_at e1)
  have hrun := va_runV (e := e) (below := below) (meth := meth) (locs := locs) (As := av.map (xv cx)) (rest := st.map (xv cx)) (g := F0 m pc ls ((av.reverse ++ .ref a :: st).map (xv cx))) (b := xa cx a) (C := y.cls) ⟨hx, hb, hml, hown, hts⟩ (hC l H.size) ⟨(⟨rfl, rfl, Nat.le_trans hfr9 hfr, Nat.le_trans hlo9 hlo, xws_ok hts hcw, List.mem_cons_self, hts _ hcw, hts _ hini, hy, by rw [List.length_map]; exact hpar, hts _ hl9⟩ : CallB R s args own index y bs mL rt (.code y bs mL rt :: xT) { frames := fr1, cells := 0, slots := 0, locals := lo1 } 0 0 (av.map (xv cx)).length), hts _ hins, hts _ hsel⟩ ⟨xblind (.ref a :: av) H.size, hrecv, fun U hU hW => ⟨rfl, hpre U hU hW⟩⟩ rfl rfl hl.1 (by rw [List.map_append, List.map_reverse]; rfl) (lv_room hsum) hd ⟨hce, hsl⟩
  refine x_back (cx := cx) (r := r) (w1 := w1) (n := w.length) hrun hS hA1 (fun H1 locs1 hn1 hP1 hS1 => ?_)
  have h9 := k H1 locs1 ls (by rw [hn1]; exact hn) hP1 hS1 hl
  rw [List.map_append] at h9
  cases r with
  | none => exact h9
  | some v => exact h9
theorem x_callVs {index : Nat} {y : MethodName} {bs : ByteArray} {mL fr1 lo1 : Nat} {rt : Option FieldType} {av : List Value} {r : Option Value} {w1 : XW} {a : Nat} (B : XB K cx own bytes nL n fr lo) (hd : decode bytes pc = .ok (.invokevirtual index, 3)) (hC : Ct y bs mL rt fr1 lo1 cx (.ref a :: av) w r w1) (hcw : Cond.code y bs mL rt ∈ xT) (hini : Cond.initialized y.cls ∈ xT) (hnp : (parseMethodDescriptor y.desc).map (fun d => d.parameters.length) = some av.length) (hy : y.cls ≠ "java/lang/invoke/MethodHandle" ∧ y.cls ≠ "java/lang/invoke/VarHandle") (hfr9 : fr1 + 1 ≤ fr) (hlo9 : 8 + (mL + 11) + lo1 ≤ lo) (hst : (st.map fun v => v.category).sum ≤ 8) (hins : Cond.instanceMethod y ∈ xT) (hsel : Cond.selects y.cls y y ∈ xT) (hl9 : Cond.methodLink own index y ∈ xT) (hyc : y.cls = "java/lang/String") (hg : xis' a = true) {st1 : List Value} (hs1 : av.reverse ++ .ref a :: st = st1) (k : Wx K cx nL n (pc + 3) L (r.toList ++ st) w1) : Wx K cx nL n pc L st1 w := by
  subst hs1
  obtain ⟨p, l, e, R, s, m, args, below, meth, c, Q, A, cells, slots⟩ := K
  obtain ⟨hx, hb, hml, hown, hts, hG, hn0, hi, hA, hA0, hfr, hlo, hce, hsl⟩ := B
  intro H locs ls hn hP hS hl
  have hA1 := xA_in (s := s) hn hA hA0 hS
  have hD : va_D A (xw cx w) := xD_B (K := (p, l, e, R, s, m, args, below, meth, c, Q, A, cells, slots)) hn hi hA
  have hpre : ∀ U : State, U.heap = H → s.WarmedH U.vm → w.length ≤ 1000 ∧ U.heap.size = H.size ∧ xG cx (va_A (xw cx w) H.size) U ∧ va_P (xG0 cx) xCl (xw cx w) U.heap ∧ va_D (fun _ => True) (xw cx w) := fun U hU hW => ⟨by omega, by rw [hU], xG_warm hG (by rw [hU]; exact hS) hA1 hW, by rw [hU]; exact hP, hD.weaken (fun _ _ _ _ => trivial)⟩
  have hsum : ((st.map (xv cx)).map fun v => v.category).sum ≤ 8 := by
    rw [List.map_map, show ((fun v : Value => v.category) ∘ xv cx) = (fun v => v.category) from funext (xv_cat cx)]
    exact hst
  have hpar : ∀ sig, parseMethodDescriptor y.desc = some sig → av.length = sig.parameters.length := by
    intro sig h
    rw [h] at hnp
    exact (Option.some.inj hnp).symm
  obtain ⟨i, hi9, hia⟩ : ∃ i, i < 6 ∧ a = 1000 + i := by
    have q := of_decide_eq_true hg
    exact xK q.1 (by omega)
  have hrecv : ∃ cell : Cell, H[xa cx a]? = some cell ∧ cell.vm.isStatics = false ∧ s.vm.findClass y.cls = some cell.cls := by
    rw [hia, xa_s (by omega), hyc]
    exact vk_recv hG.2.2.1 hi9 hS
  have hrun := va_runV (e := e) (below := below) (meth := meth) (locs := locs) (As := av.map (xv cx)) (rest := st.map (xv cx)) (g := F0 m pc ls ((av.reverse ++ .ref a :: st).map (xv cx))) (b := xa cx a) (C := y.cls) ⟨hx, hb, hml, hown, hts⟩ (hC l H.size) ⟨(⟨rfl, rfl, Nat.le_trans hfr9 hfr, Nat.le_trans hlo9 hlo, xws_ok hts hcw, List.mem_cons_self, hts _ hcw, hts _ hini, hy, by rw [List.length_map]; exact hpar, hts _ hl9⟩ : CallB R s args own index y bs mL rt (.code y bs mL rt :: xT) { frames := fr1, cells := 0, slots := 0, locals := lo1 } 0 0 (av.map (xv cx)).length), hts _ hins, hts _ hsel⟩ ⟨xblind (.ref a :: av) H.size, hrecv, fun U hU hW => ⟨rfl, hpre U hU hW⟩⟩ rfl rfl hl.1 (by rw [List.map_append, List.map_reverse]; rfl) (lv_room hsum) hd ⟨hce, hsl⟩
  refine x_back (cx := cx) (r := r) (w1 := w1) (n := w.length) hrun hS hA1 (fun H1 locs1 hn1 hP1 hS1 => ?_)
  have h9 := k H1 locs1 ls (by rw [hn1]; exact hn) hP1 hS1 hl
  rw [List.map_append] at h9
  cases r with
  | none => exact h9
  | some v => exact h9
theorem x_callS1 {v : Value} {index : Nat} {y : MethodName} {bs : ByteArray} {mL fr1 lo1 : Nat} {rt : Option FieldType} {av : List Value} {w1 : XW} (B : XB K cx own bytes nL n fr lo) (hd : decode bytes pc = .ok (.invokestatic index, 3)) (hC : Ct y bs mL rt fr1 lo1 cx av w (some v) w1) (hcw : Cond.code y bs mL rt ∈ xT) (hini : Cond.initialized y.cls ∈ xT) (hnp : (parseMethodDescriptor y.desc).map (fun d => d.parameters.length) = some av.length) (hy : y.cls ≠ "java/lang/invoke/MethodHandle" ∧ y.cls ≠ "java/lang/invoke/VarHandle") (hfr9 : fr1 + 1 ≤ fr) (hlo9 : 8 + (mL + 11) + lo1 ≤ lo) (hst : (st.map fun v => v.category).sum ≤ 8) (hstt : Cond.static y ∈ xT) (hl9 : Cond.methodLink own index y ∈ xT) {st1 : List Value} (hs1 : av.reverse ++ st = st1) (k : Wx K cx nL n (pc + 3) L (v :: st) w1) : Wx K cx nL n pc L st1 w := x_callS B hd hC hcw hini hnp hy hfr9 hlo9 hst hstt hl9 hs1 k
theorem x_callS0 {index : Nat} {y : MethodName} {bs : ByteArray} {mL fr1 lo1 : Nat} {rt : Option FieldType} {av : List Value} {w1 : XW} (B : XB K cx own bytes nL n fr lo) (hd : decode bytes pc = .ok (.invokestatic index, 3)) (hC : Ct y bs mL rt fr1 lo1 cx av w none w1) (hcw : Cond.code y bs mL rt ∈ xT) (hini : Cond.initialized y.cls ∈ xT) (hnp : (parseMethodDescriptor y.desc).map (fun d => d.parameters.length) = some av.length) (hy : y.cls ≠ "java/lang/invoke/MethodHandle" ∧ y.cls ≠ "java/lang/invoke/VarHandle") (hfr9 : fr1 + 1 ≤ fr) (hlo9 : 8 + (mL + 11) + lo1 ≤ lo) (hst : (st.map fun v => v.category).sum ≤ 8) (hstt : Cond.static y ∈ xT) (hl9 : Cond.methodLink own index y ∈ xT) {st1 : List Value} (hs1 : av.reverse ++ st = st1) (k : Wx K cx nL n (pc + 3) L st w1) : Wx K cx nL n pc L st1 w := x_callS B hd hC hcw hini hnp hy hfr9 hlo9 hst hstt hl9 hs1 k
theorem x_callSN1 {v : Value} {index : Nat} {y : MethodName} {bs : ByteArray} {mL fr1 lo1 : Nat} {rt : Option FieldType} {av : List Value} {w1 : XW} (B : XB K cx own bytes nL n fr lo) (hd : decode bytes pc = .ok (.invokestatic index, 3)) (hC : Ct y bs mL rt fr1 lo1 cx av w (some v) w1) (hcw : Cond.code y bs mL rt ∈ xT) (hini : Cond.initialized y.cls ∈ xT) (hnp : (parseMethodDescriptor y.desc).map (fun d => d.parameters.length) = some av.length) (hy : y.cls ≠ "java/lang/invoke/MethodHandle" ∧ y.cls ≠ "java/lang/invoke/VarHandle") (hfr9 : fr1 + 1 ≤ fr) (hlo9 : 8 + (mL + 11) + lo1 ≤ lo) (hst : (st.map fun v => v.category).sum ≤ 8) (hstt : Cond.static y ∈ xT) {host : String} (hl9 : (own, index, y, host) ∈ xNs) {st1 : List Value} (hs1 : av.reverse ++ st = st1) (k : Wx K cx nL n (pc + 3) L (v :: st) w1) : Wx K cx nL n pc L st1 w := x_callSN B hd hC hcw hini hnp hy hfr9 hlo9 hst hstt hl9 hs1 k
theorem x_callSN0 {index : Nat} {y : MethodName} {bs : ByteArray} {mL fr1 lo1 : Nat} {rt : Option FieldType} {av : List Value} {w1 : XW} (B : XB K cx own bytes nL n fr lo) (hd : decode bytes pc = .ok (.invokestatic index, 3)) (hC : Ct y bs mL rt fr1 lo1 cx av w none w1) (hcw : Cond.code y bs mL rt ∈ xT) (hini : Cond.initialized y.cls ∈ xT) (hnp : (parseMethodDescriptor y.desc).map (fun d => d.parameters.length) = some av.length) (hy : y.cls ≠ "java/lang/invoke/MethodHandle" ∧ y.cls ≠ "java/lang/invoke/VarHandle") (hfr9 : fr1 + 1 ≤ fr) (hlo9 : 8 + (mL + 11) + lo1 ≤ lo) (hst : (st.map fun v => v.category).sum ≤ 8) (hstt : Cond.static y ∈ xT) {host : String} (hl9 : (own, index, y, host) ∈ xNs) {st1 : List Value} (hs1 : av.reverse ++ st = st1) (k : Wx K cx nL n (pc + 3) L st w1) : Wx K cx nL n pc L st1 w := x_callSN B hd hC hcw hini hnp hy hfr9 hlo9 hst hstt hl9 hs1 k
theorem x_callV1 {v : Value} {index : Nat} {y : MethodName} {bs : ByteArray} {mL fr1 lo1 : Nat} {rt : Option FieldType} {av : List Value} {w1 : XW} {a : Nat} (B : XB K cx own bytes nL n fr lo) (hd : decode bytes pc = .ok (.invokevirtual index, 3)) (hC : Ct y bs mL rt fr1 lo1 cx (.ref a :: av) w (some v) w1) (hcw : Cond.code y bs mL rt ∈ xT) (hini : Cond.initialized y.cls ∈ xT) (hnp : (parseMethodDescriptor y.desc).map (fun d => d.parameters.length) = some av.length) (hy : y.cls ≠ "java/lang/invoke/MethodHandle" ∧ y.cls ≠ "java/lang/invoke/VarHandle") (hfr9 : fr1 + 1 ≤ fr) (hlo9 : 8 + (mL + 11) + lo1 ≤ lo) (hst : (st.map fun v => v.category).sum ≤ 8) (hins : Cond.instanceMethod y ∈ xT) (hsel : Cond.selects y.cls y y ∈ xT) (hl9 : Cond.methodLink own index y ∈ xT) {ci N : Nat} {T : u_T} (hcl : xCl[ci]? = some (y.cls, T, N)) (hg : xis w a ci = true) {st1 : List Value} (hs1 : av.reverse ++ .ref a :: st = st1) (k : Wx K cx nL n (pc + 3) L (v :: st) w1) : Wx K cx nL n pc L st1 w := x_callV B hd hC hcw hini hnp hy hfr9 hlo9 hst hins hsel hl9 hcl hg hs1 k
theorem x_callV0 {index : Nat} {y : MethodName} {bs : ByteArray} {mL fr1 lo1 : Nat} {rt : Option FieldType} {av : List Value} {w1 : XW} {a : Nat} (B : XB K cx own bytes nL n fr lo) (hd : decode bytes pc = .ok (.invokevirtual index, 3)) (hC : Ct y bs mL rt fr1 lo1 cx (.ref a :: av) w none w1) (hcw : Cond.code y bs mL rt ∈ xT) (hini : Cond.initialized y.cls ∈ xT) (hnp : (parseMethodDescriptor y.desc).map (fun d => d.parameters.length) = some av.length) (hy : y.cls ≠ "java/lang/invoke/MethodHandle" ∧ y.cls ≠ "java/lang/invoke/VarHandle") (hfr9 : fr1 + 1 ≤ fr) (hlo9 : 8 + (mL + 11) + lo1 ≤ lo) (hst : (st.map fun v => v.category).sum ≤ 8) (hins : Cond.instanceMethod y ∈ xT) (hsel : Cond.selects y.cls y y ∈ xT) (hl9 : Cond.methodLink own index y ∈ xT) {ci N : Nat} {T : u_T} (hcl : xCl[ci]? = some (y.cls, T, N)) (hg : xis w a ci = true) {st1 : List Value} (hs1 : av.reverse ++ .ref a :: st = st1) (k : Wx K cx nL n (pc + 3) L st w1) : Wx K cx nL n pc L st1 w := x_callV B hd hC hcw hini hnp hy hfr9 hlo9 hst hins hsel hl9 hcl hg hs1 k
theorem x_callVs1 {v : Value} {index : Nat} {y : MethodName} {bs : ByteArray} {mL fr1 lo1 : Nat} {rt : Option FieldType} {av : List Value} {w1 : XW} {a : Nat} (B : XB K cx own bytes nL n fr lo) (hd : decode bytes pc = .ok (.invokevirtual index, 3)) (hC : Ct y bs mL rt fr1 lo1 cx (.ref a :: av) w (some v) w1) (hcw : Cond.code y bs mL rt ∈ xT) (hini : Cond.initialized y.cls ∈ xT) (hnp : (parseMethodDescriptor y.desc).map (fun d => d.parameters.length) = some av.length) (hy : y.cls ≠ "java/lang/invoke/MethodHandle" ∧ y.cls ≠ "java/lang/invoke/VarHandle") (hfr9 : fr1 + 1 ≤ fr) (hlo9 : 8 + (mL + 11) + lo1 ≤ lo) (hst : (st.map fun v => v.category).sum ≤ 8) (hins : Cond.instanceMethod y ∈ xT) (hsel : Cond.selects y.cls y y ∈ xT) (hl9 : Cond.methodLink own index y ∈ xT) (hyc : y.cls = "java/lang/String") (hg : xis' a = true) {st1 : List Value} (hs1 : av.reverse ++ .ref a :: st = st1) (k : Wx K cx nL n (pc + 3) L (v :: st) w1) : Wx K cx nL n pc L st1 w := x_callVs B hd hC hcw hini hnp hy hfr9 hlo9 hst hins hsel hl9 hyc hg hs1 k
theorem x_callVs0 {index : Nat} {y : MethodName} {bs : ByteArray} {mL fr1 lo1 : Nat} {rt : Option FieldType} {av : List Value} {w1 : XW} {a : Nat} (B : XB K cx own bytes nL n fr lo) (hd : decode bytes pc = .ok (.invokevirtual index, 3)) (hC : Ct y bs mL rt fr1 lo1 cx (.ref a :: av) w none w1) (hcw : Cond.code y bs mL rt ∈ xT) (hini : Cond.initialized y.cls ∈ xT) (hnp : (parseMethodDescriptor y.desc).map (fun d => d.parameters.length) = some av.length) (hy : y.cls ≠ "java/lang/invoke/MethodHandle" ∧ y.cls ≠ "java/lang/invoke/VarHandle") (hfr9 : fr1 + 1 ≤ fr) (hlo9 : 8 + (mL + 11) + lo1 ≤ lo) (hst : (st.map fun v => v.category).sum ≤ 8) (hins : Cond.instanceMethod y ∈ xT) (hsel : Cond.selects y.cls y y ∈ xT) (hl9 : Cond.methodLink own index y ∈ xT) (hyc : y.cls = "java/lang/String") (hg : xis' a = true) {st1 : List Value} (hs1 : av.reverse ++ .ref a :: st = st1) (k : Wx K cx nL n (pc + 3) L st w1) : Wx K cx nL n pc L st1 w := x_callVs B hd hC hcw hini hnp hy hfr9 hlo9 hst hins hsel hl9 hyc hg hs1 k
end XROWS
theorem xnar {ty : FieldType} {v : Int32} (ht : ty = .boolean ∨ ty = .char ∨ ty = .byte) (h : vp_nar ty v = v) : ∃ t9, some ty = some t9 ∧ narrow t9 (.int v) = .int v := by
  refine ⟨ty, rfl, ?_⟩
  rcases ht with rfl | rfl | rfl <;> exact congrArg Value.int h
theorem xz0 : ∃ ty, some FieldType.boolean = some ty ∧ narrow ty (.int 0) = .int 0 := ⟨_, rfl, by decide +kernel⟩
theorem xz1 : ∃ ty, some FieldType.boolean = some ty ∧ narrow ty (.int 1) = .int 1 := ⟨_, rfl, by decide +kernel⟩
theorem xzI (v : Int32) : ∃ ty, some FieldType.int = some ty ∧ narrow ty (.int v) = .int v := ⟨_, rfl, rfl⟩
theorem xpdI : parseFieldDescriptor "I" = some .int := by decide +kernel
theorem xpdZ : parseFieldDescriptor "Z" = some .boolean := by decide +kernel
theorem xo1 {x : Int32} {a d o : Int} {r : List (Int × Int)} (h : x.toInt = a) : Op.lookupswitch.offset ((a, o) :: r) d x.toInt = o := by rw [h]; simp [Op.lookupswitch.offset]
theorem xi_0 : ∀ w ∈ u_ws RX0 TX0 2, w ∈ xT := by
  intro w hw
  obtain ⟨k, hk, rfl⟩ := List.mem_map.mp hw
  have hk := List.mem_range.mp hk
  rcases (show k = 0 ∨ k = 1 by omega) with rfl | rfl
  · exact xt_88
  · exact xt_89
theorem xi_1 : ∀ w ∈ u_ws RX1 TX1 2, w ∈ xT := by
  intro w hw
  obtain ⟨k, hk, rfl⟩ := List.mem_map.mp hw
  have hk := List.mem_range.mp hk
  rcases (show k = 0 ∨ k = 1 by omega) with rfl | rfl
  · exact xt_115
  · exact xt_116
theorem xi_2 : ∀ w ∈ u_ws RX2 TX2 4, w ∈ xT := by
  intro w hw
  obtain ⟨k, hk, rfl⟩ := List.mem_map.mp hw
  have hk := List.mem_range.mp hk
  rcases (show k = 0 ∨ k = 1 ∨ k = 2 ∨ k = 3 by omega) with rfl | rfl | rfl | rfl
  · exact xt_103
  · exact xt_104
  · exact xt_105
  · exact xt_106
theorem xi_3 : ∀ w ∈ u_ws RX3 TX3 7, w ∈ xT := by
  intro w hw
  obtain ⟨k, hk, rfl⟩ := List.mem_map.mp hw
  have hk := List.mem_range.mp hk
  rcases (show k = 0 ∨ k = 1 ∨ k = 2 ∨ k = 3 ∨ k = 4 ∨ k = 5 ∨ k = 6 by omega) with rfl | rfl | rfl | rfl | rfl | rfl | rfl
  · exact xt_124
  · exact xt_125
  · exact xt_126
  · exact xt_127
  · exact xt_128
  · exact xt_129
  · exact xt_130
theorem xi_4 : ∀ w ∈ u_ws RX4 TX4 12, w ∈ xT := by
  intro w hw
  obtain ⟨k, hk, rfl⟩ := List.mem_map.mp hw
  have hk := List.mem_range.mp hk
  rcases (show k = 0 ∨ k = 1 ∨ k = 2 ∨ k = 3 ∨ k = 4 ∨ k = 5 ∨ k = 6 ∨ k = 7 ∨ k = 8 ∨ k = 9 ∨ k = 10 ∨ k = 11 by omega) with rfl | rfl | rfl | rfl | rfl | rfl | rfl | rfl | rfl | rfl | rfl | rfl
  · exact xt_614
  · exact xt_615
  · exact xt_616
  · exact xt_617
  · exact xt_618
  · exact xt_619
  · exact xt_620
  · exact xt_621
  · exact xt_622
  · exact xt_623
  · exact xt_624
  · exact xt_625
end
section
theorem xk_bipush_m9 : (Int8.ofInt (-9)).toInt32 = (-9 : Int32) := by decide +kernel
theorem xk_bipush_m6 : (Int8.ofInt (-6)).toInt32 = (-6 : Int32) := by decide +kernel
theorem xk_bipush_m5 : (Int8.ofInt (-5)).toInt32 = (-5 : Int32) := by decide +kernel
theorem xk_bipush_m4 : (Int8.ofInt (-4)).toInt32 = (-4 : Int32) := by decide +kernel
theorem xk_bipush_m3 : (Int8.ofInt (-3)).toInt32 = (-3 : Int32) := by decide +kernel
theorem xk_bipush_m2 : (Int8.ofInt (-2)).toInt32 = (-2 : Int32) := by decide +kernel
theorem xk_bipush_6 : (Int8.ofInt 6).toInt32 = (6 : Int32) := by decide +kernel
theorem xk_bipush_7 : (Int8.ofInt 7).toInt32 = (7 : Int32) := by decide +kernel
theorem xk_bipush_8 : (Int8.ofInt 8).toInt32 = (8 : Int32) := by decide +kernel
theorem xk_bipush_9 : (Int8.ofInt 9).toInt32 = (9 : Int32) := by decide +kernel
theorem xk_bipush_12 : (Int8.ofInt 12).toInt32 = (12 : Int32) := by decide +kernel
theorem xk_bipush_16 : (Int8.ofInt 16).toInt32 = (16 : Int32) := by decide +kernel
theorem xk_bipush_25 : (Int8.ofInt 25).toInt32 = (25 : Int32) := by decide +kernel
theorem xk_bipush_27 : (Int8.ofInt 27).toInt32 = (27 : Int32) := by decide +kernel
theorem xk_bipush_33 : (Int8.ofInt 33).toInt32 = (33 : Int32) := by decide +kernel
theorem xk_bipush_45 : (Int8.ofInt 45).toInt32 = (45 : Int32) := by decide +kernel
theorem xk_bipush_48 : (Int8.ofInt 48).toInt32 = (48 : Int32) := by decide +kernel
theorem xk_bipush_50 : (Int8.ofInt 50).toInt32 = (50 : Int32) := by decide +kernel
theorem xk_bipush_57 : (Int8.ofInt 57).toInt32 = (57 : Int32) := by decide +kernel
theorem xk_bipush_59 : (Int8.ofInt 59).toInt32 = (59 : Int32) := by decide +kernel
theorem xk_bipush_61 : (Int8.ofInt 61).toInt32 = (61 : Int32) := by decide +kernel
theorem xk_bipush_62 : (Int8.ofInt 62).toInt32 = (62 : Int32) := by decide +kernel
theorem xk_bipush_63 : (Int8.ofInt 63).toInt32 = (63 : Int32) := by decide +kernel
theorem xk_bipush_66 : (Int8.ofInt 66).toInt32 = (66 : Int32) := by decide +kernel
theorem xk_bipush_69 : (Int8.ofInt 69).toInt32 = (69 : Int32) := by decide +kernel
theorem xk_bipush_71 : (Int8.ofInt 71).toInt32 = (71 : Int32) := by decide +kernel
theorem xk_bipush_72 : (Int8.ofInt 72).toInt32 = (72 : Int32) := by decide +kernel
theorem xk_bipush_80 : (Int8.ofInt 80).toInt32 = (80 : Int32) := by decide +kernel
theorem xk_bipush_100 : (Int8.ofInt 100).toInt32 = (100 : Int32) := by decide +kernel
theorem xk_bipush_111 : (Int8.ofInt 111).toInt32 = (111 : Int32) := by decide +kernel
theorem xk_bipush_117 : (Int8.ofInt 117).toInt32 = (117 : Int32) := by decide +kernel
theorem xk_bipush_119 : (Int8.ofInt 119).toInt32 = (119 : Int32) := by decide +kernel
theorem xk_bipush_125 : (Int8.ofInt 125).toInt32 = (125 : Int32) := by decide +kernel
theorem xk_bipush_126 : (Int8.ofInt 126).toInt32 = (126 : Int32) := by decide +kernel
theorem xk_iconst_m1 : Int32.ofInt (-1) = (-1 : Int32) := by decide +kernel
theorem xk_iconst_0 : Int32.ofInt 0 = (0 : Int32) := by decide +kernel
theorem xk_iconst_1 : Int32.ofInt 1 = (1 : Int32) := by decide +kernel
theorem xk_iconst_2 : Int32.ofInt 2 = (2 : Int32) := by decide +kernel
theorem xk_iconst_3 : Int32.ofInt 3 = (3 : Int32) := by decide +kernel
theorem xk_iconst_4 : Int32.ofInt 4 = (4 : Int32) := by decide +kernel
theorem xk_iconst_5 : Int32.ofInt 5 = (5 : Int32) := by decide +kernel
theorem xk_sipush_255 : (Int16.ofInt 255).toInt32 = (255 : Int32) := by decide +kernel
theorem xk_sipush_360 : (Int16.ofInt 360).toInt32 = (360 : Int32) := by decide +kernel
theorem xk_sipush_729 : (Int16.ofInt 729).toInt32 = (729 : Int32) := by decide +kernel
theorem xk_sipush_1000 : (Int16.ofInt 1000).toInt32 = (1000 : Int32) := by decide +kernel
def fJ7_rangeCheck_23922 (i0 : Int32) (i1 : Int32) (i2 : Int32) (w : XW) : Option XW :=
  if i1 ≤ i2 then
    if (0 : Int32) ≤ i1 then
      if i2 ≤ i0 then
        some w
      else
      none
    else
    none
  else
  none
theorem np_J7_rangeCheck_23922 : (parseMethodDescriptor yJ7_rangeCheck_23922.desc).map (fun d => d.parameters.length) = some 3 := by decide +kernel
theorem hy_J7_rangeCheck_23922 : yJ7_rangeCheck_23922.cls ≠ "java/lang/invoke/MethodHandle" ∧ yJ7_rangeCheck_23922.cls ≠ "java/lang/invoke/VarHandle" := ⟨by decide +kernel, by decide +kernel⟩
set_option maxRecDepth 20000 in
theorem eJ7_rangeCheck_23922 {cx : CX} {i0 : Int32} {i1 : Int32} {i2 : Int32} {w : XW} {R9 : XW} (h : fJ7_rangeCheck_23922 i0 i1 i2 w = some R9) : Ct yJ7_rangeCheck_23922 cJ7_rangeCheck_23922 3 none 0 0 cx [.int i0, .int i1, .int i2] w none R9 := by
  refine Ct_of (by decide +kernel) (Nat.le_of_ble_eq_true rfl) (fun K B hR => ?_)
  rw [fJ7_rangeCheck_23922] at h
  show Wx K cx 3 w.length 0 [(0, .int i0), (1, .int i1), (2, .int i2)] [] w
  refine x_iload_n (pc := 0) B 1 dJ7_rangeCheck_23922_0 rfl rfl ?_
  refine x_iload_n (pc := 1) B 2 dJ7_rangeCheck_23922_1 rfl rfl ?_
  rcases xite h with ⟨hc, h⟩ | ⟨hc, h⟩
  · refine x_icmp_le_t (tgt := 46) (pc := 2) B dJ7_rangeCheck_23922_2 (by decide) hc ?_
    refine x_iload_n (pc := 46) B 1 dJ7_rangeCheck_23922_46 rfl rfl ?_
    rcases xite h with ⟨hc, h⟩ | ⟨hc, h⟩
    · refine x_if_ge_t (tgt := 59) (pc := 47) B dJ7_rangeCheck_23922_47 (by decide) hc ?_
      refine x_iload_n (pc := 59) B 2 dJ7_rangeCheck_23922_59 rfl rfl ?_
      refine x_iload_n (pc := 60) B 0 dJ7_rangeCheck_23922_60 rfl rfl ?_
      rcases xite h with ⟨hc, h⟩ | ⟨hc, h⟩
      · refine x_icmp_le_t (tgt := 73) (pc := 61) B dJ7_rangeCheck_23922_61 (by decide) hc ?_
        exact x_vret (pc := 73) B hR dJ7_rangeCheck_23922_73 h
      · refine x_icmp_le_f (pc := 61) B 73 dJ7_rangeCheck_23922_61 (by decide) hc ?_
        exact absurd h (by simp)
    · refine x_if_ge_f (pc := 47) B 59 dJ7_rangeCheck_23922_47 (by decide) hc ?_
      exact absurd h (by simp)
  · refine x_icmp_le_f (pc := 2) B 46 dJ7_rangeCheck_23922_2 (by decide) hc ?_
    exact absurd h (by simp)
def fJ7_fill_fda19_10 : Nat → Nat → Int32 → Int32 → Int32 → XW → Option XW
  | 0, _, _, _, _, _ => none
  | g + 1, a0, i2, i3, i4, w =>
    if i2 ≤ i4 then
      some w
    else
    (xsI w a0 i4 i3).bind fun w3 =>
    fJ7_fill_fda19_10 g a0 i2 i3 (i4 + (1 : Int32)) w3
set_option maxRecDepth 20000 in
theorem pJ7_fill_fda19_10 {K : KX} {cx : CX} {nn : Nat} {R9 : XW} (B : XB K cx RJ7 cJ7_fill_fda19 5 nn 1 22) (hR : XR K cx nn none none R9) : ∀ (g : Nat) (a0 : Nat) (i2 : Int32) (i3 : Int32) (i4 : Int32) (w : XW), fJ7_fill_fda19_10 g a0 i2 i3 i4 w = some R9 → Wx K cx 5 nn 10 [(0, .ref a0), (2, .int i2), (3, .int i3), (4, .int i4)] [] w := by
  intro g
  induction g with
  | zero =>
    intro a0 i2 i3 i4 w h
    exact absurd (show (none : Option XW) = some R9 from h) (by simp)
  | succ g ih =>
    intro a0 i2 i3 i4 w h
    rw [fJ7_fill_fda19_10] at h
    refine x_iload (pc := 10) B 3 dJ7_fill_fda19_10 rfl ?_
    refine x_iload_n (pc := 12) B 1 dJ7_fill_fda19_12 rfl rfl ?_
    rcases xite h with ⟨hc, h⟩ | ⟨hc, h⟩
    · refine x_icmp_ge_t (tgt := 27) (pc := 13) B dJ7_fill_fda19_13 (by decide) hc ?_
      exact x_vret (pc := 27) B hR dJ7_fill_fda19_27 h
    · refine x_icmp_ge_f (pc := 13) B 27 dJ7_fill_fda19_13 (by decide) hc ?_
      refine x_aload_n (pc := 16) B 0 dJ7_fill_fda19_16 rfl rfl ?_
      refine x_iload (pc := 17) B 3 dJ7_fill_fda19_17 rfl ?_
      refine x_iload_n (pc := 19) B 2 dJ7_fill_fda19_19 rfl rfl ?_
      obtain ⟨w3, hv, h⟩ := xbind h
      refine x_iast (pc := 20) B dJ7_fill_fda19_20 hv ?_
      refine x_iinc (L1 := [(4, .int (i4 + (1 : Int32))), (0, .ref a0), (2, .int i2), (3, .int i3)]) (pc := 21) B 3 dJ7_fill_fda19_21 rfl (congrArg _ xk_iconst_1) (by decide) rfl ?_
      refine x_goto (tgt := 10) (pc := 24) B dJ7_fill_fda19_24 (by decide) ?_
      refine x_sub (L1 := [(0, .ref a0), (2, .int i2), (3, .int i3), (4, .int (i4 + (1 : Int32)))]) [1, 2, 3, 0] rfl ?_
      exact ih a0 i2 i3 (i4 + (1 : Int32)) w3 h
def fJ7_fill_fda19 (a0 : Nat) (i1 : Int32) (i2 : Int32) (i3 : Int32) (w : XW) : Option XW :=
  (xaL w a0).bind fun v1 =>
  (fJ7_rangeCheck_23922 v1 i1 i2 w).bind fun q2 =>
  fJ7_fill_fda19_10 1000 a0 i2 i3 i1 q2
theorem np_J7_fill_fda19 : (parseMethodDescriptor yJ7_fill_fda19.desc).map (fun d => d.parameters.length) = some 4 := by decide +kernel
theorem hy_J7_fill_fda19 : yJ7_fill_fda19.cls ≠ "java/lang/invoke/MethodHandle" ∧ yJ7_fill_fda19.cls ≠ "java/lang/invoke/VarHandle" := ⟨by decide +kernel, by decide +kernel⟩
set_option maxRecDepth 20000 in
theorem eJ7_fill_fda19 {cx : CX} {a0 : Nat} {i1 : Int32} {i2 : Int32} {i3 : Int32} {w : XW} {R9 : XW} (h : fJ7_fill_fda19 a0 i1 i2 i3 w = some R9) : Ct yJ7_fill_fda19 cJ7_fill_fda19 5 none 1 22 cx [.ref a0, .int i1, .int i2, .int i3] w none R9 := by
  refine Ct_of (by decide +kernel) (Nat.le_of_ble_eq_true rfl) (fun K B hR => ?_)
  rw [fJ7_fill_fda19] at h
  show Wx K cx 5 w.length 0 [(0, .ref a0), (1, .int i1), (2, .int i2), (3, .int i3)] [] w
  refine x_aload_n (pc := 0) B 0 dJ7_fill_fda19_0 rfl rfl ?_
  obtain ⟨v1, hv, h⟩ := xbind h
  refine x_alen (pc := 1) B dJ7_fill_fda19_1 hv ?_
  refine x_iload_n (pc := 2) B 1 dJ7_fill_fda19_2 rfl rfl ?_
  refine x_iload_n (pc := 3) B 2 dJ7_fill_fda19_3 rfl rfl ?_
  obtain ⟨q2, hq, h⟩ := xbind h
  refine x_callS0 (st := []) (pc := 4) B dJ7_fill_fda19_4 (eJ7_rangeCheck_23922 hq) xt_85 xt_55 np_J7_rangeCheck_23922 hy_J7_rangeCheck_23922 (Nat.le_of_ble_eq_true rfl) (Nat.le_of_ble_eq_true rfl) (Nat.le_of_ble_eq_true rfl) xt_84 xt_83 rfl ?_
  refine x_iload_n (pc := 7) B 1 dJ7_fill_fda19_7 rfl rfl ?_
  refine x_istore (L1 := [(4, .int i1), (0, .ref a0), (1, .int i1), (2, .int i2), (3, .int i3)]) (pc := 8) B dJ7_fill_fda19_8 (by decide) rfl ?_
  refine x_sub (L1 := [(0, .ref a0), (2, .int i2), (3, .int i3), (4, .int i1)]) [1, 3, 4, 0] rfl ?_
  exact pJ7_fill_fda19_10 B hR 1000 a0 i2 i3 i1 q2 h
def fJ7_fill_53178_5 : Nat → Nat → Int32 → Int32 → Int32 → XW → Option XW
  | 0, _, _, _, _, _ => none
  | g + 1, a0, i1, i2, i3, w =>
    if i3 ≤ i2 then
      some w
    else
    (xsI w a0 i2 i1).bind fun w2 =>
    fJ7_fill_53178_5 g a0 i1 (i2 + (1 : Int32)) i3 w2
set_option maxRecDepth 20000 in
theorem pJ7_fill_53178_5 {K : KX} {cx : CX} {nn : Nat} {R9 : XW} (B : XB K cx RJ7 cJ7_fill_53178 4 nn 0 0) (hR : XR K cx nn none none R9) : ∀ (g : Nat) (a0 : Nat) (i1 : Int32) (i2 : Int32) (i3 : Int32) (w : XW), fJ7_fill_53178_5 g a0 i1 i2 i3 w = some R9 → Wx K cx 4 nn 5 [(0, .ref a0), (1, .int i1), (2, .int i2), (3, .int i3)] [] w := by
  intro g
  induction g with
  | zero =>
    intro a0 i1 i2 i3 w h
    exact absurd (show (none : Option XW) = some R9 from h) (by simp)
  | succ g ih =>
    intro a0 i1 i2 i3 w h
    rw [fJ7_fill_53178_5] at h
    refine x_iload_n (pc := 5) B 2 dJ7_fill_53178_5 rfl rfl ?_
    refine x_iload_n (pc := 6) B 3 dJ7_fill_53178_6 rfl rfl ?_
    rcases xite h with ⟨hc, h⟩ | ⟨hc, h⟩
    · refine x_icmp_ge_t (tgt := 20) (pc := 7) B dJ7_fill_53178_7 (by decide) hc ?_
      exact x_vret (pc := 20) B hR dJ7_fill_53178_20 h
    · refine x_icmp_ge_f (pc := 7) B 20 dJ7_fill_53178_7 (by decide) hc ?_
      refine x_aload_n (pc := 10) B 0 dJ7_fill_53178_10 rfl rfl ?_
      refine x_iload_n (pc := 11) B 2 dJ7_fill_53178_11 rfl rfl ?_
      refine x_iload_n (pc := 12) B 1 dJ7_fill_53178_12 rfl rfl ?_
      obtain ⟨w2, hv, h⟩ := xbind h
      refine x_iast (pc := 13) B dJ7_fill_53178_13 hv ?_
      refine x_iinc (L1 := [(2, .int (i2 + (1 : Int32))), (0, .ref a0), (1, .int i1), (3, .int i3)]) (pc := 14) B 2 dJ7_fill_53178_14 rfl (congrArg _ xk_iconst_1) (by decide) rfl ?_
      refine x_goto (tgt := 5) (pc := 17) B dJ7_fill_53178_17 (by decide) ?_
      refine x_sub (L1 := [(0, .ref a0), (1, .int i1), (2, .int (i2 + (1 : Int32))), (3, .int i3)]) [1, 2, 0, 3] rfl ?_
      exact ih a0 i1 (i2 + (1 : Int32)) i3 w2 h
def fJ7_fill_53178 (a0 : Nat) (i1 : Int32) (w : XW) : Option XW :=
  (xaL w a0).bind fun v1 =>
  fJ7_fill_53178_5 1000 a0 i1 (0 : Int32) v1 w
theorem np_J7_fill_53178 : (parseMethodDescriptor yJ7_fill_53178.desc).map (fun d => d.parameters.length) = some 2 := by decide +kernel
theorem hy_J7_fill_53178 : yJ7_fill_53178.cls ≠ "java/lang/invoke/MethodHandle" ∧ yJ7_fill_53178.cls ≠ "java/lang/invoke/VarHandle" := ⟨by decide +kernel, by decide +kernel⟩
set_option maxRecDepth 20000 in
theorem eJ7_fill_53178 {cx : CX} {a0 : Nat} {i1 : Int32} {w : XW} {R9 : XW} (h : fJ7_fill_53178 a0 i1 w = some R9) : Ct yJ7_fill_53178 cJ7_fill_53178 4 none 0 0 cx [.ref a0, .int i1] w none R9 := by
  refine Ct_of (by decide +kernel) (Nat.le_of_ble_eq_true rfl) (fun K B hR => ?_)
  rw [fJ7_fill_53178] at h
  show Wx K cx 4 w.length 0 [(0, .ref a0), (1, .int i1)] [] w
  refine x_iconst (pc := 0) B dJ7_fill_53178_0 xk_iconst_0 ?_
  refine x_istore_n (L1 := [(2, .int (0 : Int32)), (0, .ref a0), (1, .int i1)]) (pc := 1) B dJ7_fill_53178_1 rfl (by decide) rfl ?_
  refine x_aload_n (pc := 2) B 1 dJ7_fill_53178_2 rfl rfl ?_
  obtain ⟨v1, hv, h⟩ := xbind h
  refine x_alen (pc := 3) B dJ7_fill_53178_3 hv ?_
  refine x_istore_n (L1 := [(3, .int v1), (2, .int (0 : Int32)), (0, .ref a0), (1, .int i1)]) (pc := 4) B dJ7_fill_53178_4 rfl (by decide) rfl ?_
  refine x_sub (L1 := [(0, .ref a0), (1, .int i1), (2, .int (0 : Int32)), (3, .int v1)]) [2, 3, 1, 0] rfl ?_
  exact pJ7_fill_53178_5 B hR 1000 a0 i1 (0 : Int32) v1 w h
def fJ6_bitCount_0f7a4 (i0 : Int32) (w : XW) : Option (Int32 × XW) :=
  some (((((((((i0 - ((((i0).toUInt32 >>> (((1 : Int32)).toUInt32 &&& Int32.toUInt32 31)).toInt32) &&& (1431655765 : Int32))) &&& (858993459 : Int32)) + (((((i0 - ((((i0).toUInt32 >>> (((1 : Int32)).toUInt32 &&& Int32.toUInt32 31)).toInt32) &&& (1431655765 : Int32)))).toUInt32 >>> (((2 : Int32)).toUInt32 &&& Int32.toUInt32 31)).toInt32) &&& (858993459 : Int32))) + ((((((i0 - ((((i0).toUInt32 >>> (((1 : Int32)).toUInt32 &&& Int32.toUInt32 31)).toInt32) &&& (1431655765 : Int32))) &&& (858993459 : Int32)) + (((((i0 - ((((i0).toUInt32 >>> (((1 : Int32)).toUInt32 &&& Int32.toUInt32 31)).toInt32) &&& (1431655765 : Int32)))).toUInt32 >>> (((2 : Int32)).toUInt32 &&& Int32.toUInt32 31)).toInt32) &&& (858993459 : Int32)))).toUInt32 >>> (((4 : Int32)).toUInt32 &&& Int32.toUInt32 31)).toInt32)) &&& (252645135 : Int32)) + ((((((((i0 - ((((i0).toUInt32 >>> (((1 : Int32)).toUInt32 &&& Int32.toUInt32 31)).toInt32) &&& (1431655765 : Int32))) &&& (858993459 : Int32)) + (((((i0 - ((((i0).toUInt32 >>> (((1 : Int32)).toUInt32 &&& Int32.toUInt32 31)).toInt32) &&& (1431655765 : Int32)))).toUInt32 >>> (((2 : Int32)).toUInt32 &&& Int32.toUInt32 31)).toInt32) &&& (858993459 : Int32))) + ((((((i0 - ((((i0).toUInt32 >>> (((1 : Int32)).toUInt32 &&& Int32.toUInt32 31)).toInt32) &&& (1431655765 : Int32))) &&& (858993459 : Int32)) + (((((i0 - ((((i0).toUInt32 >>> (((1 : Int32)).toUInt32 &&& Int32.toUInt32 31)).toInt32) &&& (1431655765 : Int32)))).toUInt32 >>> (((2 : Int32)).toUInt32 &&& Int32.toUInt32 31)).toInt32) &&& (858993459 : Int32)))).toUInt32 >>> (((4 : Int32)).toUInt32 &&& Int32.toUInt32 31)).toInt32)) &&& (252645135 : Int32))).toUInt32 >>> (((8 : Int32)).toUInt32 &&& Int32.toUInt32 31)).toInt32)) + (((((((((i0 - ((((i0).toUInt32 >>> (((1 : Int32)).toUInt32 &&& Int32.toUInt32 31)).toInt32) &&& (1431655765 : Int32))) &&& (858993459 : Int32)) + (((((i0 - ((((i0).toUInt32 >>> (((1 : Int32)).toUInt32 &&& Int32.toUInt32 31)).toInt32) &&& (1431655765 : Int32)))).toUInt32 >>> (((2 : Int32)).toUInt32 &&& Int32.toUInt32 31)).toInt32) &&& (858993459 : Int32))) + ((((((i0 - ((((i0).toUInt32 >>> (((1 : Int32)).toUInt32 &&& Int32.toUInt32 31)).toInt32) &&& (1431655765 : Int32))) &&& (858993459 : Int32)) + (((((i0 - ((((i0).toUInt32 >>> (((1 : Int32)).toUInt32 &&& Int32.toUInt32 31)).toInt32) &&& (1431655765 : Int32)))).toUInt32 >>> (((2 : Int32)).toUInt32 &&& Int32.toUInt32 31)).toInt32) &&& (858993459 : Int32)))).toUInt32 >>> (((4 : Int32)).toUInt32 &&& Int32.toUInt32 31)).toInt32)) &&& (252645135 : Int32)) + ((((((((i0 - ((((i0).toUInt32 >>> (((1 : Int32)).toUInt32 &&& Int32.toUInt32 31)).toInt32) &&& (1431655765 : Int32))) &&& (858993459 : Int32)) + (((((i0 - ((((i0).toUInt32 >>> (((1 : Int32)).toUInt32 &&& Int32.toUInt32 31)).toInt32) &&& (1431655765 : Int32)))).toUInt32 >>> (((2 : Int32)).toUInt32 &&& Int32.toUInt32 31)).toInt32) &&& (858993459 : Int32))) + ((((((i0 - ((((i0).toUInt32 >>> (((1 : Int32)).toUInt32 &&& Int32.toUInt32 31)).toInt32) &&& (1431655765 : Int32))) &&& (858993459 : Int32)) + (((((i0 - ((((i0).toUInt32 >>> (((1 : Int32)).toUInt32 &&& Int32.toUInt32 31)).toInt32) &&& (1431655765 : Int32)))).toUInt32 >>> (((2 : Int32)).toUInt32 &&& Int32.toUInt32 31)).toInt32) &&& (858993459 : Int32)))).toUInt32 >>> (((4 : Int32)).toUInt32 &&& Int32.toUInt32 31)).toInt32)) &&& (252645135 : Int32))).toUInt32 >>> (((8 : Int32)).toUInt32 &&& Int32.toUInt32 31)).toInt32))).toUInt32 >>> (((16 : Int32)).toUInt32 &&& Int32.toUInt32 31)).toInt32)) &&& (63 : Int32)), w)
theorem np_J6_bitCount_0f7a4 : (parseMethodDescriptor yJ6_bitCount_0f7a4.desc).map (fun d => d.parameters.length) = some 1 := by decide +kernel
theorem hy_J6_bitCount_0f7a4 : yJ6_bitCount_0f7a4.cls ≠ "java/lang/invoke/MethodHandle" ∧ yJ6_bitCount_0f7a4.cls ≠ "java/lang/invoke/VarHandle" := ⟨by decide +kernel, by decide +kernel⟩
set_option maxRecDepth 20000 in
theorem eJ6_bitCount_0f7a4 {cx : CX} {i0 : Int32} {w : XW} {R9 : (Int32 × XW)} (h : fJ6_bitCount_0f7a4 i0 w = some R9) : Ct yJ6_bitCount_0f7a4 cJ6_bitCount_0f7a4 1 (some .int) 0 0 cx [.int i0] w (some (.int R9.1)) R9.2 := by
  refine Ct_of (by decide +kernel) (Nat.le_of_ble_eq_true rfl) (fun K B hR => ?_)
  rw [fJ6_bitCount_0f7a4] at h
  show Wx K cx 1 w.length 0 [(0, .int i0)] [] w
  refine x_iload_n (pc := 0) B 0 dJ6_bitCount_0f7a4_0 rfl rfl ?_
  refine x_iload_n (pc := 1) B 0 dJ6_bitCount_0f7a4_1 rfl rfl ?_
  refine x_iconst (pc := 2) B dJ6_bitCount_0f7a4_2 xk_iconst_1 ?_
  refine x_iushr (pc := 3) B dJ6_bitCount_0f7a4_3 ?_
  refine x_ldcw (pc := 4) B dJ6_bitCount_0f7a4_4 xt_339 ?_
  refine x_iand (pc := 7) B dJ6_bitCount_0f7a4_7 ?_
  refine x_isub (pc := 8) B dJ6_bitCount_0f7a4_8 ?_
  refine x_istore_n (L1 := [(0, .int (i0 - ((((i0).toUInt32 >>> (((1 : Int32)).toUInt32 &&& Int32.toUInt32 31)).toInt32) &&& (1431655765 : Int32))))]) (pc := 9) B dJ6_bitCount_0f7a4_9 rfl (by decide) rfl ?_
  refine x_iload_n (pc := 10) B 0 dJ6_bitCount_0f7a4_10 rfl rfl ?_
  refine x_ldcw (pc := 11) B dJ6_bitCount_0f7a4_11 xt_340 ?_
  refine x_iand (pc := 14) B dJ6_bitCount_0f7a4_14 ?_
  refine x_iload_n (pc := 15) B 0 dJ6_bitCount_0f7a4_15 rfl rfl ?_
  refine x_iconst (pc := 16) B dJ6_bitCount_0f7a4_16 xk_iconst_2 ?_
  refine x_iushr (pc := 17) B dJ6_bitCount_0f7a4_17 ?_
  refine x_ldcw (pc := 18) B dJ6_bitCount_0f7a4_18 xt_340 ?_
  refine x_iand (pc := 21) B dJ6_bitCount_0f7a4_21 ?_
  refine x_iadd (pc := 22) B dJ6_bitCount_0f7a4_22 ?_
  refine x_istore_n (L1 := [(0, .int (((i0 - ((((i0).toUInt32 >>> (((1 : Int32)).toUInt32 &&& Int32.toUInt32 31)).toInt32) &&& (1431655765 : Int32))) &&& (858993459 : Int32)) + (((((i0 - ((((i0).toUInt32 >>> (((1 : Int32)).toUInt32 &&& Int32.toUInt32 31)).toInt32) &&& (1431655765 : Int32)))).toUInt32 >>> (((2 : Int32)).toUInt32 &&& Int32.toUInt32 31)).toInt32) &&& (858993459 : Int32))))]) (pc := 23) B dJ6_bitCount_0f7a4_23 rfl (by decide) rfl ?_
  refine x_iload_n (pc := 24) B 0 dJ6_bitCount_0f7a4_24 rfl rfl ?_
  refine x_iload_n (pc := 25) B 0 dJ6_bitCount_0f7a4_25 rfl rfl ?_
  refine x_iconst (pc := 26) B dJ6_bitCount_0f7a4_26 xk_iconst_4 ?_
  refine x_iushr (pc := 27) B dJ6_bitCount_0f7a4_27 ?_
  refine x_iadd (pc := 28) B dJ6_bitCount_0f7a4_28 ?_
  refine x_ldcw (pc := 29) B dJ6_bitCount_0f7a4_29 xt_341 ?_
  refine x_iand (pc := 32) B dJ6_bitCount_0f7a4_32 ?_
  refine x_istore_n (L1 := [(0, .int (((((i0 - ((((i0).toUInt32 >>> (((1 : Int32)).toUInt32 &&& Int32.toUInt32 31)).toInt32) &&& (1431655765 : Int32))) &&& (858993459 : Int32)) + (((((i0 - ((((i0).toUInt32 >>> (((1 : Int32)).toUInt32 &&& Int32.toUInt32 31)).toInt32) &&& (1431655765 : Int32)))).toUInt32 >>> (((2 : Int32)).toUInt32 &&& Int32.toUInt32 31)).toInt32) &&& (858993459 : Int32))) + ((((((i0 - ((((i0).toUInt32 >>> (((1 : Int32)).toUInt32 &&& Int32.toUInt32 31)).toInt32) &&& (1431655765 : Int32))) &&& (858993459 : Int32)) + (((((i0 - ((((i0).toUInt32 >>> (((1 : Int32)).toUInt32 &&& Int32.toUInt32 31)).toInt32) &&& (1431655765 : Int32)))).toUInt32 >>> (((2 : Int32)).toUInt32 &&& Int32.toUInt32 31)).toInt32) &&& (858993459 : Int32)))).toUInt32 >>> (((4 : Int32)).toUInt32 &&& Int32.toUInt32 31)).toInt32)) &&& (252645135 : Int32)))]) (pc := 33) B dJ6_bitCount_0f7a4_33 rfl (by decide) rfl ?_
  refine x_iload_n (pc := 34) B 0 dJ6_bitCount_0f7a4_34 rfl rfl ?_
  refine x_iload_n (pc := 35) B 0 dJ6_bitCount_0f7a4_35 rfl rfl ?_
  refine x_bipush (pc := 36) B dJ6_bitCount_0f7a4_36 xk_bipush_8 ?_
  refine x_iushr (pc := 38) B dJ6_bitCount_0f7a4_38 ?_
  refine x_iadd (pc := 39) B dJ6_bitCount_0f7a4_39 ?_
  refine x_istore_n (L1 := [(0, .int ((((((i0 - ((((i0).toUInt32 >>> (((1 : Int32)).toUInt32 &&& Int32.toUInt32 31)).toInt32) &&& (1431655765 : Int32))) &&& (858993459 : Int32)) + (((((i0 - ((((i0).toUInt32 >>> (((1 : Int32)).toUInt32 &&& Int32.toUInt32 31)).toInt32) &&& (1431655765 : Int32)))).toUInt32 >>> (((2 : Int32)).toUInt32 &&& Int32.toUInt32 31)).toInt32) &&& (858993459 : Int32))) + ((((((i0 - ((((i0).toUInt32 >>> (((1 : Int32)).toUInt32 &&& Int32.toUInt32 31)).toInt32) &&& (1431655765 : Int32))) &&& (858993459 : Int32)) + (((((i0 - ((((i0).toUInt32 >>> (((1 : Int32)).toUInt32 &&& Int32.toUInt32 31)).toInt32) &&& (1431655765 : Int32)))).toUInt32 >>> (((2 : Int32)).toUInt32 &&& Int32.toUInt32 31)).toInt32) &&& (858993459 : Int32)))).toUInt32 >>> (((4 : Int32)).toUInt32 &&& Int32.toUInt32 31)).toInt32)) &&& (252645135 : Int32)) + ((((((((i0 - ((((i0).toUInt32 >>> (((1 : Int32)).toUInt32 &&& Int32.toUInt32 31)).toInt32) &&& (1431655765 : Int32))) &&& (858993459 : Int32)) + (((((i0 - ((((i0).toUInt32 >>> (((1 : Int32)).toUInt32 &&& Int32.toUInt32 31)).toInt32) &&& (1431655765 : Int32)))).toUInt32 >>> (((2 : Int32)).toUInt32 &&& Int32.toUInt32 31)).toInt32) &&& (858993459 : Int32))) + ((((((i0 - ((((i0).toUInt32 >>> (((1 : Int32)).toUInt32 &&& Int32.toUInt32 31)).toInt32) &&& (1431655765 : Int32))) &&& (858993459 : Int32)) + (((((i0 - ((((i0).toUInt32 >>> (((1 : Int32)).toUInt32 &&& Int32.toUInt32 31)).toInt32) &&& (1431655765 : Int32)))).toUInt32 >>> (((2 : Int32)).toUInt32 &&& Int32.toUInt32 31)).toInt32) &&& (858993459 : Int32)))).toUInt32 >>> (((4 : Int32)).toUInt32 &&& Int32.toUInt32 31)).toInt32)) &&& (252645135 : Int32))).toUInt32 >>> (((8 : Int32)).toUInt32 &&& Int32.toUInt32 31)).toInt32)))]) (pc := 40) B dJ6_bitCount_0f7a4_40 rfl (by decide) rfl ?_
  refine x_iload_n (pc := 41) B 0 dJ6_bitCount_0f7a4_41 rfl rfl ?_
  refine x_iload_n (pc := 42) B 0 dJ6_bitCount_0f7a4_42 rfl rfl ?_
  refine x_bipush (pc := 43) B dJ6_bitCount_0f7a4_43 xk_bipush_16 ?_
  refine x_iushr (pc := 45) B dJ6_bitCount_0f7a4_45 ?_
  refine x_iadd (pc := 46) B dJ6_bitCount_0f7a4_46 ?_
  refine x_istore_n (L1 := [(0, .int (((((((i0 - ((((i0).toUInt32 >>> (((1 : Int32)).toUInt32 &&& Int32.toUInt32 31)).toInt32) &&& (1431655765 : Int32))) &&& (858993459 : Int32)) + (((((i0 - ((((i0).toUInt32 >>> (((1 : Int32)).toUInt32 &&& Int32.toUInt32 31)).toInt32) &&& (1431655765 : Int32)))).toUInt32 >>> (((2 : Int32)).toUInt32 &&& Int32.toUInt32 31)).toInt32) &&& (858993459 : Int32))) + ((((((i0 - ((((i0).toUInt32 >>> (((1 : Int32)).toUInt32 &&& Int32.toUInt32 31)).toInt32) &&& (1431655765 : Int32))) &&& (858993459 : Int32)) + (((((i0 - ((((i0).toUInt32 >>> (((1 : Int32)).toUInt32 &&& Int32.toUInt32 31)).toInt32) &&& (1431655765 : Int32)))).toUInt32 >>> (((2 : Int32)).toUInt32 &&& Int32.toUInt32 31)).toInt32) &&& (858993459 : Int32)))).toUInt32 >>> (((4 : Int32)).toUInt32 &&& Int32.toUInt32 31)).toInt32)) &&& (252645135 : Int32)) + ((((((((i0 - ((((i0).toUInt32 >>> (((1 : Int32)).toUInt32 &&& Int32.toUInt32 31)).toInt32) &&& (1431655765 : Int32))) &&& (858993459 : Int32)) + (((((i0 - ((((i0).toUInt32 >>> (((1 : Int32)).toUInt32 &&& Int32.toUInt32 31)).toInt32) &&& (1431655765 : Int32)))).toUInt32 >>> (((2 : Int32)).toUInt32 &&& Int32.toUInt32 31)).toInt32) &&& (858993459 : Int32))) + ((((((i0 - ((((i0).toUInt32 >>> (((1 : Int32)).toUInt32 &&& Int32.toUInt32 31)).toInt32) &&& (1431655765 : Int32))) &&& (858993459 : Int32)) + (((((i0 - ((((i0).toUInt32 >>> (((1 : Int32)).toUInt32 &&& Int32.toUInt32 31)).toInt32) &&& (1431655765 : Int32)))).toUInt32 >>> (((2 : Int32)).toUInt32 &&& Int32.toUInt32 31)).toInt32) &&& (858993459 : Int32)))).toUInt32 >>> (((4 : Int32)).toUInt32 &&& Int32.toUInt32 31)).toInt32)) &&& (252645135 : Int32))).toUInt32 >>> (((8 : Int32)).toUInt32 &&& Int32.toUInt32 31)).toInt32)) + (((((((((i0 - ((((i0).toUInt32 >>> (((1 : Int32)).toUInt32 &&& Int32.toUInt32 31)).toInt32) &&& (1431655765 : Int32))) &&& (858993459 : Int32)) + (((((i0 - ((((i0).toUInt32 >>> (((1 : Int32)).toUInt32 &&& Int32.toUInt32 31)).toInt32) &&& (1431655765 : Int32)))).toUInt32 >>> (((2 : Int32)).toUInt32 &&& Int32.toUInt32 31)).toInt32) &&& (858993459 : Int32))) + ((((((i0 - ((((i0).toUInt32 >>> (((1 : Int32)).toUInt32 &&& Int32.toUInt32 31)).toInt32) &&& (1431655765 : Int32))) &&& (858993459 : Int32)) + (((((i0 - ((((i0).toUInt32 >>> (((1 : Int32)).toUInt32 &&& Int32.toUInt32 31)).toInt32) &&& (1431655765 : Int32)))).toUInt32 >>> (((2 : Int32)).toUInt32 &&& Int32.toUInt32 31)).toInt32) &&& (858993459 : Int32)))).toUInt32 >>> (((4 : Int32)).toUInt32 &&& Int32.toUInt32 31)).toInt32)) &&& (252645135 : Int32)) + ((((((((i0 - ((((i0).toUInt32 >>> (((1 : Int32)).toUInt32 &&& Int32.toUInt32 31)).toInt32) &&& (1431655765 : Int32))) &&& (858993459 : Int32)) + (((((i0 - ((((i0).toUInt32 >>> (((1 : Int32)).toUInt32 &&& Int32.toUInt32 31)).toInt32) &&& (1431655765 : Int32)))).toUInt32 >>> (((2 : Int32)).toUInt32 &&& Int32.toUInt32 31)).toInt32) &&& (858993459 : Int32))) + ((((((i0 - ((((i0).toUInt32 >>> (((1 : Int32)).toUInt32 &&& Int32.toUInt32 31)).toInt32) &&& (1431655765 : Int32))) &&& (858993459 : Int32)) + (((((i0 - ((((i0).toUInt32 >>> (((1 : Int32)).toUInt32 &&& Int32.toUInt32 31)).toInt32) &&& (1431655765 : Int32)))).toUInt32 >>> (((2 : Int32)).toUInt32 &&& Int32.toUInt32 31)).toInt32) &&& (858993459 : Int32)))).toUInt32 >>> (((4 : Int32)).toUInt32 &&& Int32.toUInt32 31)).toInt32)) &&& (252645135 : Int32))).toUInt32 >>> (((8 : Int32)).toUInt32 &&& Int32.toUInt32 31)).toInt32))).toUInt32 >>> (((16 : Int32)).toUInt32 &&& Int32.toUInt32 31)).toInt32)))]) (pc := 47) B dJ6_bitCount_0f7a4_47 rfl (by decide) rfl ?_
  refine x_iload_n (pc := 48) B 0 dJ6_bitCount_0f7a4_48 rfl rfl ?_
  refine x_bipush (pc := 49) B dJ6_bitCount_0f7a4_49 xk_bipush_63 ?_
  refine x_iand (pc := 51) B dJ6_bitCount_0f7a4_51 ?_
  exact x_iret (pc := 52) B hR dJ6_bitCount_0f7a4_52 (xzI _) h
def fJ0_isEmpty_aae02 (a0 : Nat) (w : XW) : Option (Int32 × XW) := if xis' a0 = true then
  (xsv a0).bind fun v1 =>
  (xbl v1).bind fun v2 =>
  if v2 = (0 : Int32) then
    some ((1 : Int32), w)
  else
  some ((0 : Int32), w)
  else none
theorem iJ0_isEmpty_aae02 {a0 : Nat} {w : XW} {R9 : (Int32 × XW)} (h : fJ0_isEmpty_aae02 a0 w = some R9) : xis' a0 = true := by
  unfold fJ0_isEmpty_aae02 at h
  rcases xite h with ⟨hc, h⟩ | ⟨hc, h⟩
  · exact hc
  · exact absurd h (by simp)
theorem np_J0_isEmpty_aae02 : (parseMethodDescriptor yJ0_isEmpty_aae02.desc).map (fun d => d.parameters.length) = some 0 := by decide +kernel
theorem hy_J0_isEmpty_aae02 : yJ0_isEmpty_aae02.cls ≠ "java/lang/invoke/MethodHandle" ∧ yJ0_isEmpty_aae02.cls ≠ "java/lang/invoke/VarHandle" := ⟨by decide +kernel, by decide +kernel⟩
set_option maxRecDepth 20000 in
theorem eJ0_isEmpty_aae02 {cx : CX} {a0 : Nat} {w : XW} {R9 : (Int32 × XW)} (h : fJ0_isEmpty_aae02 a0 w = some R9) : Ct yJ0_isEmpty_aae02 cJ0_isEmpty_aae02 1 (some .boolean) 0 0 cx [.ref a0] w (some (.int R9.1)) R9.2 := by
  refine Ct_of (by decide +kernel) (Nat.le_of_ble_eq_true rfl) (fun K B hR => ?_)
  rw [fJ0_isEmpty_aae02] at h
  show Wx K cx 1 w.length 0 [(0, .ref a0)] [] w
  rcases xite h with ⟨hc, h⟩ | ⟨hc, h⟩
  · skip
    refine x_aload_n (pc := 0) B 0 dJ0_isEmpty_aae02_0 rfl rfl ?_
    obtain ⟨v1, hv, h⟩ := xbind h
    refine x_sval (pc := 1) B dJ0_isEmpty_aae02_1 xt_900 hv ?_
    obtain ⟨v2, hv, h⟩ := xbind h
    refine x_blen (pc := 4) B dJ0_isEmpty_aae02_4 hv ?_
    rcases xite h with ⟨hc, h⟩ | ⟨hc, h⟩
    · refine x_if_ne_f (pc := 5) B 12 dJ0_isEmpty_aae02_5 (by decide) hc ?_
      refine x_iconst (pc := 8) B dJ0_isEmpty_aae02_8 xk_iconst_1 ?_
      refine x_goto (tgt := 13) (pc := 9) B dJ0_isEmpty_aae02_9 (by decide) ?_
      exact x_iret (pc := 13) B hR dJ0_isEmpty_aae02_13 xz1 h
    · refine x_if_ne_t (tgt := 12) (pc := 5) B dJ0_isEmpty_aae02_5 (by decide) hc ?_
      refine x_iconst (pc := 12) B dJ0_isEmpty_aae02_12 xk_iconst_0 ?_
      exact x_iret (pc := 13) B hR dJ0_isEmpty_aae02_13 xz0 h
  · exact absurd h (by simp)
def fJ0_coder_7d493 (a0 : Nat) (w : XW) : Option (Int32 × XW) := if xis' a0 = true then
  if xis' a0 = true then
    if vp_nar .byte (0 : Int32) = (0 : Int32) then some ((0 : Int32), w) else none
  else none
  else none
theorem iJ0_coder_7d493 {a0 : Nat} {w : XW} {R9 : (Int32 × XW)} (h : fJ0_coder_7d493 a0 w = some R9) : xis' a0 = true := by
  unfold fJ0_coder_7d493 at h
  rcases xite h with ⟨hc, h⟩ | ⟨hc, h⟩
  · exact hc
  · exact absurd h (by simp)
theorem np_J0_coder_7d493 : (parseMethodDescriptor yJ0_coder_7d493.desc).map (fun d => d.parameters.length) = some 0 := by decide +kernel
theorem hy_J0_coder_7d493 : yJ0_coder_7d493.cls ≠ "java/lang/invoke/MethodHandle" ∧ yJ0_coder_7d493.cls ≠ "java/lang/invoke/VarHandle" := ⟨by decide +kernel, by decide +kernel⟩
set_option maxRecDepth 20000 in
theorem eJ0_coder_7d493 {cx : CX} {a0 : Nat} {w : XW} {R9 : (Int32 × XW)} (h : fJ0_coder_7d493 a0 w = some R9) : Ct yJ0_coder_7d493 cJ0_coder_7d493 1 (some .byte) 0 0 cx [.ref a0] w (some (.int R9.1)) R9.2 := by
  refine Ct_of (by decide +kernel) (Nat.le_of_ble_eq_true rfl) (fun K B hR => ?_)
  rw [fJ0_coder_7d493] at h
  show Wx K cx 1 w.length 0 [(0, .ref a0)] [] w
  rcases xite h with ⟨hc, h⟩ | ⟨hc, h⟩
  · skip
    refine x_gsC (pc := 0) B dJ0_coder_7d493_0 xt_512 ?_
    refine x_if_eq_f (pc := 3) B 13 dJ0_coder_7d493_3 (by decide) (by decide) ?_
    refine x_aload_n (pc := 6) B 0 dJ0_coder_7d493_6 rfl rfl ?_
    rcases xite h with ⟨hc, h⟩ | ⟨hc, h⟩
    · refine x_scod (pc := 7) B dJ0_coder_7d493_7 xt_901 hc ?_
      refine x_goto (tgt := 14) (pc := 10) B dJ0_coder_7d493_10 (by decide) ?_
      rcases xite h with ⟨hc, h⟩ | ⟨hc, h⟩
      · exact x_iret (pc := 14) B hR dJ0_coder_7d493_14 (xnar (Or.inr (Or.inr rfl)) hc) h
      · exact absurd h (by simp)
    · exact absurd h (by simp)
  · exact absurd h (by simp)
def fJ0_length_8abf5 (a0 : Nat) (w : XW) : Option (Int32 × XW) := if xis' a0 = true then
  (xsv a0).bind fun v1 =>
  (xbl v1).bind fun v2 =>
  (fJ0_coder_7d493 a0 w).bind fun q3 =>
  some ((v2 >>> (q3.1 &&& 31)), q3.2)
  else none
theorem iJ0_length_8abf5 {a0 : Nat} {w : XW} {R9 : (Int32 × XW)} (h : fJ0_length_8abf5 a0 w = some R9) : xis' a0 = true := by
  unfold fJ0_length_8abf5 at h
  rcases xite h with ⟨hc, h⟩ | ⟨hc, h⟩
  · exact hc
  · exact absurd h (by simp)
theorem np_J0_length_8abf5 : (parseMethodDescriptor yJ0_length_8abf5.desc).map (fun d => d.parameters.length) = some 0 := by decide +kernel
theorem hy_J0_length_8abf5 : yJ0_length_8abf5.cls ≠ "java/lang/invoke/MethodHandle" ∧ yJ0_length_8abf5.cls ≠ "java/lang/invoke/VarHandle" := ⟨by decide +kernel, by decide +kernel⟩
set_option maxRecDepth 20000 in
theorem eJ0_length_8abf5 {cx : CX} {a0 : Nat} {w : XW} {R9 : (Int32 × XW)} (h : fJ0_length_8abf5 a0 w = some R9) : Ct yJ0_length_8abf5 cJ0_length_8abf5 1 (some .int) 1 20 cx [.ref a0] w (some (.int R9.1)) R9.2 := by
  refine Ct_of (by decide +kernel) (Nat.le_of_ble_eq_true rfl) (fun K B hR => ?_)
  rw [fJ0_length_8abf5] at h
  show Wx K cx 1 w.length 0 [(0, .ref a0)] [] w
  rcases xite h with ⟨hc, h⟩ | ⟨hc, h⟩
  · skip
    refine x_aload_n (pc := 0) B 0 dJ0_length_8abf5_0 rfl rfl ?_
    obtain ⟨v1, hv, h⟩ := xbind h
    refine x_sval (pc := 1) B dJ0_length_8abf5_1 xt_900 hv ?_
    obtain ⟨v2, hv, h⟩ := xbind h
    refine x_blen (pc := 4) B dJ0_length_8abf5_4 hv ?_
    refine x_aload_n (pc := 5) B 0 dJ0_length_8abf5_5 rfl rfl ?_
    obtain ⟨q3, hq, h⟩ := xbind h
    refine x_callVs1 (st := [.int v2]) (pc := 6) B dJ0_length_8abf5_6 (eJ0_coder_7d493 hq) xt_511 xt_62 np_J0_coder_7d493 hy_J0_coder_7d493 (Nat.le_of_ble_eq_true rfl) (Nat.le_of_ble_eq_true rfl) (Nat.le_of_ble_eq_true rfl) xt_509 xt_510 xt_508 rfl (iJ0_coder_7d493 hq) rfl ?_
    refine x_ishr (pc := 9) B dJ0_length_8abf5_9 ?_
    exact x_iret (pc := 10) B hR dJ0_length_8abf5_10 (xzI _) h
  · exact absurd h (by simp)
def fJ0_isLatin1_aae02 (a0 : Nat) (w : XW) : Option (Int32 × XW) := if xis' a0 = true then
  if xis' a0 = true then
    some ((1 : Int32), w)
  else none
  else none
theorem iJ0_isLatin1_aae02 {a0 : Nat} {w : XW} {R9 : (Int32 × XW)} (h : fJ0_isLatin1_aae02 a0 w = some R9) : xis' a0 = true := by
  unfold fJ0_isLatin1_aae02 at h
  rcases xite h with ⟨hc, h⟩ | ⟨hc, h⟩
  · exact hc
  · exact absurd h (by simp)
theorem np_J0_isLatin1_aae02 : (parseMethodDescriptor yJ0_isLatin1_aae02.desc).map (fun d => d.parameters.length) = some 0 := by decide +kernel
theorem hy_J0_isLatin1_aae02 : yJ0_isLatin1_aae02.cls ≠ "java/lang/invoke/MethodHandle" ∧ yJ0_isLatin1_aae02.cls ≠ "java/lang/invoke/VarHandle" := ⟨by decide +kernel, by decide +kernel⟩
set_option maxRecDepth 20000 in
theorem eJ0_isLatin1_aae02 {cx : CX} {a0 : Nat} {w : XW} {R9 : (Int32 × XW)} (h : fJ0_isLatin1_aae02 a0 w = some R9) : Ct yJ0_isLatin1_aae02 cJ0_isLatin1_aae02 1 (some .boolean) 0 0 cx [.ref a0] w (some (.int R9.1)) R9.2 := by
  refine Ct_of (by decide +kernel) (Nat.le_of_ble_eq_true rfl) (fun K B hR => ?_)
  rw [fJ0_isLatin1_aae02] at h
  show Wx K cx 1 w.length 0 [(0, .ref a0)] [] w
  rcases xite h with ⟨hc, h⟩ | ⟨hc, h⟩
  · skip
    refine x_gsC (pc := 0) B dJ0_isLatin1_aae02_0 xt_512 ?_
    refine x_if_eq_f (pc := 3) B 17 dJ0_isLatin1_aae02_3 (by decide) (by decide) ?_
    refine x_aload_n (pc := 6) B 0 dJ0_isLatin1_aae02_6 rfl rfl ?_
    rcases xite h with ⟨hc, h⟩ | ⟨hc, h⟩
    · refine x_scod (pc := 7) B dJ0_isLatin1_aae02_7 xt_901 hc ?_
      refine x_if_ne_f (pc := 10) B 17 dJ0_isLatin1_aae02_10 (by decide) (by decide) ?_
      refine x_iconst (pc := 13) B dJ0_isLatin1_aae02_13 xk_iconst_1 ?_
      refine x_goto (tgt := 18) (pc := 14) B dJ0_isLatin1_aae02_14 (by decide) ?_
      exact x_iret (pc := 18) B hR dJ0_isLatin1_aae02_18 xz1 h
    · exact absurd h (by simp)
  · exact absurd h (by simp)
def fJ2_length_9d52b (a0 : Nat) (w : XW) : Option (Int32 × XW) :=
  (xbl a0).bind fun v1 =>
  some ((v1 >>> ((1 : Int32) &&& 31)), w)
theorem np_J2_length_9d52b : (parseMethodDescriptor yJ2_length_9d52b.desc).map (fun d => d.parameters.length) = some 1 := by decide +kernel
theorem hy_J2_length_9d52b : yJ2_length_9d52b.cls ≠ "java/lang/invoke/MethodHandle" ∧ yJ2_length_9d52b.cls ≠ "java/lang/invoke/VarHandle" := ⟨by decide +kernel, by decide +kernel⟩
set_option maxRecDepth 20000 in
theorem eJ2_length_9d52b {cx : CX} {a0 : Nat} {w : XW} {R9 : (Int32 × XW)} (h : fJ2_length_9d52b a0 w = some R9) : Ct yJ2_length_9d52b cJ2_length_9d52b 1 (some .int) 0 0 cx [.ref a0] w (some (.int R9.1)) R9.2 := by
  refine Ct_of (by decide +kernel) (Nat.le_of_ble_eq_true rfl) (fun K B hR => ?_)
  rw [fJ2_length_9d52b] at h
  show Wx K cx 1 w.length 0 [(0, .ref a0)] [] w
  refine x_aload_n (pc := 0) B 0 dJ2_length_9d52b_0 rfl rfl ?_
  obtain ⟨v1, hv, h⟩ := xbind h
  refine x_blen (pc := 1) B dJ2_length_9d52b_1 hv ?_
  refine x_iconst (pc := 2) B dJ2_length_9d52b_2 xk_iconst_1 ?_
  refine x_ishr (pc := 3) B dJ2_length_9d52b_3 ?_
  exact x_iret (pc := 4) B hR dJ2_length_9d52b_4 (xzI _) h
def fJ3_checkIndex_8e157 (i0 : Int32) (i1 : Int32) (w : XW) : Option (Int32 × XW) :=
  if i0 < (0 : Int32) then
    none
  else
  if i0 < i1 then
    some (i0, w)
  else
  none
theorem np_J3_checkIndex_8e157 : (parseMethodDescriptor yJ3_checkIndex_8e157.desc).map (fun d => d.parameters.length) = some 3 := by decide +kernel
theorem hy_J3_checkIndex_8e157 : yJ3_checkIndex_8e157.cls ≠ "java/lang/invoke/MethodHandle" ∧ yJ3_checkIndex_8e157.cls ≠ "java/lang/invoke/VarHandle" := ⟨by decide +kernel, by decide +kernel⟩
set_option maxRecDepth 20000 in
theorem eJ3_checkIndex_8e157 {cx : CX} {i0 : Int32} {i1 : Int32} (v2 : Value) (hv2 : Value.category v2 = 1) {w : XW} {R9 : (Int32 × XW)} (h : fJ3_checkIndex_8e157 i0 i1 w = some R9) : Ct yJ3_checkIndex_8e157 cJ3_checkIndex_8e157 3 (some .int) 0 0 cx [.int i0, .int i1, v2] w (some (.int R9.1)) R9.2 := by
  refine Ct_of (by decide +kernel) (xlg3 hv2 _ _) (fun K B hR => ?_)
  rw [fJ3_checkIndex_8e157] at h
  show Wx K cx 3 w.length 0 [(0, .int i0), (1, .int i1), (2, v2)] [] w
  refine x_iload_n (pc := 0) B 0 dJ3_checkIndex_8e157_0 rfl rfl ?_
  rcases xite h with ⟨hc, h⟩ | ⟨hc, h⟩
  · refine x_if_lt_t (tgt := 9) (pc := 1) B dJ3_checkIndex_8e157_1 (by decide) hc ?_
    exact absurd h (by simp)
  · refine x_if_lt_f (pc := 1) B 9 dJ3_checkIndex_8e157_1 (by decide) hc ?_
    refine x_iload_n (pc := 4) B 0 dJ3_checkIndex_8e157_4 rfl rfl ?_
    refine x_iload_n (pc := 5) B 1 dJ3_checkIndex_8e157_5 rfl rfl ?_
    rcases xite h with ⟨hc, h⟩ | ⟨hc, h⟩
    · refine x_icmp_lt_t (tgt := 16) (pc := 6) B dJ3_checkIndex_8e157_6 (by decide) hc ?_
      refine x_iload_n (pc := 16) B 0 dJ3_checkIndex_8e157_16 rfl rfl ?_
      exact x_iret (pc := 17) B hR dJ3_checkIndex_8e157_17 (xzI _) h
    · refine x_icmp_lt_f (pc := 6) B 16 dJ3_checkIndex_8e157_6 (by decide) hc ?_
      exact absurd h (by simp)
def fJ0_checkIndex_df160 (i0 : Int32) (i1 : Int32) (w : XW) : Option XW :=
  (fJ3_checkIndex_8e157 i0 i1 w).bind fun q1 =>
  some q1.2
theorem np_J0_checkIndex_df160 : (parseMethodDescriptor yJ0_checkIndex_df160.desc).map (fun d => d.parameters.length) = some 2 := by decide +kernel
theorem hy_J0_checkIndex_df160 : yJ0_checkIndex_df160.cls ≠ "java/lang/invoke/MethodHandle" ∧ yJ0_checkIndex_df160.cls ≠ "java/lang/invoke/VarHandle" := ⟨by decide +kernel, by decide +kernel⟩
set_option maxRecDepth 20000 in
theorem eJ0_checkIndex_df160 {cx : CX} {i0 : Int32} {i1 : Int32} {w : XW} {R9 : XW} (h : fJ0_checkIndex_df160 i0 i1 w = some R9) : Ct yJ0_checkIndex_df160 cJ0_checkIndex_df160 2 none 1 22 cx [.int i0, .int i1] w none R9 := by
  refine Ct_of (by decide +kernel) (Nat.le_of_ble_eq_true rfl) (fun K B hR => ?_)
  rw [fJ0_checkIndex_df160] at h
  show Wx K cx 2 w.length 0 [(0, .int i0), (1, .int i1)] [] w
  refine x_iload_n (pc := 0) B 0 dJ0_checkIndex_df160_0 rfl rfl ?_
  refine x_iload_n (pc := 1) B 1 dJ0_checkIndex_df160_1 rfl rfl ?_
  refine x_gsF (pc := 2) B dJ0_checkIndex_df160_2 xt_528 (fun v99 hv99 => ?_)
  obtain ⟨q1, hq, h⟩ := xbind h
  refine x_callS1 (st := []) (pc := 5) B dJ0_checkIndex_df160_5 (eJ3_checkIndex_8e157 v99 hv99 hq) xt_532 xt_64 np_J3_checkIndex_8e157 hy_J3_checkIndex_8e157 (Nat.le_of_ble_eq_true rfl) (Nat.le_of_ble_eq_true rfl) (Nat.le_of_ble_eq_true rfl) xt_531 xt_530 rfl ?_
  refine x_pop (pc := 8) B dJ0_checkIndex_df160_8 rfl ?_
  exact x_vret (pc := 9) B hR dJ0_checkIndex_df160_9 h
def fJ2_checkIndex_2214a (i0 : Int32) (a1 : Nat) (w : XW) : Option XW :=
  (fJ2_length_9d52b a1 w).bind fun q1 =>
  (fJ0_checkIndex_df160 i0 q1.1 q1.2).bind fun q2 =>
  some q2
theorem np_J2_checkIndex_2214a : (parseMethodDescriptor yJ2_checkIndex_2214a.desc).map (fun d => d.parameters.length) = some 2 := by decide +kernel
theorem hy_J2_checkIndex_2214a : yJ2_checkIndex_2214a.cls ≠ "java/lang/invoke/MethodHandle" ∧ yJ2_checkIndex_2214a.cls ≠ "java/lang/invoke/VarHandle" := ⟨by decide +kernel, by decide +kernel⟩
set_option maxRecDepth 20000 in
theorem eJ2_checkIndex_2214a {cx : CX} {i0 : Int32} {a1 : Nat} {w : XW} {R9 : XW} (h : fJ2_checkIndex_2214a i0 a1 w = some R9) : Ct yJ2_checkIndex_2214a cJ2_checkIndex_2214a 2 none 2 43 cx [.int i0, .ref a1] w none R9 := by
  refine Ct_of (by decide +kernel) (Nat.le_of_ble_eq_true rfl) (fun K B hR => ?_)
  rw [fJ2_checkIndex_2214a] at h
  show Wx K cx 2 w.length 0 [(0, .int i0), (1, .ref a1)] [] w
  refine x_iload_n (pc := 0) B 0 dJ2_checkIndex_2214a_0 rfl rfl ?_
  refine x_aload_n (pc := 1) B 1 dJ2_checkIndex_2214a_1 rfl rfl ?_
  obtain ⟨q1, hq, h⟩ := xbind h
  refine x_callS1 (st := [.int i0]) (pc := 2) B dJ2_checkIndex_2214a_2 (eJ2_length_9d52b hq) xt_541 xt_65 np_J2_length_9d52b hy_J2_length_9d52b (Nat.le_of_ble_eq_true rfl) (Nat.le_of_ble_eq_true rfl) (Nat.le_of_ble_eq_true rfl) xt_540 xt_539 rfl ?_
  obtain ⟨q2, hq, h⟩ := xbind h
  refine x_callS0 (st := []) (pc := 5) B dJ2_checkIndex_2214a_5 (eJ0_checkIndex_df160 hq) xt_527 xt_62 np_J0_checkIndex_df160 hy_J0_checkIndex_df160 (Nat.le_of_ble_eq_true rfl) (Nat.le_of_ble_eq_true rfl) (Nat.le_of_ble_eq_true rfl) xt_526 xt_542 rfl ?_
  exact x_vret (pc := 8) B hR dJ2_checkIndex_2214a_8 h
def fJ2_getChar_3b067 (a0 : Nat) (i1 : Int32) (w : XW) : Option (Int32 × XW) :=
  none
theorem np_J2_getChar_3b067 : (parseMethodDescriptor yJ2_getChar_3b067.desc).map (fun d => d.parameters.length) = some 2 := by decide +kernel
theorem hy_J2_getChar_3b067 : yJ2_getChar_3b067.cls ≠ "java/lang/invoke/MethodHandle" ∧ yJ2_getChar_3b067.cls ≠ "java/lang/invoke/VarHandle" := ⟨by decide +kernel, by decide +kernel⟩
set_option maxRecDepth 20000 in
theorem eJ2_getChar_3b067 {cx : CX} {a0 : Nat} {i1 : Int32} {w : XW} {R9 : (Int32 × XW)} (h : fJ2_getChar_3b067 a0 i1 w = some R9) : Ct yJ2_getChar_3b067 cJ2_getChar_3b067 2 (some .char) 0 0 cx [.ref a0, .int i1] w (some (.int R9.1)) R9.2 := by
  refine Ct_of (by decide +kernel) (Nat.le_of_ble_eq_true rfl) (fun K B hR => ?_)
  rw [fJ2_getChar_3b067] at h
  show Wx K cx 2 w.length 0 [(0, .ref a0), (1, .int i1)] [] w
  exact absurd h (by simp)
def fJ2_charAt_3b067 (a0 : Nat) (i1 : Int32) (w : XW) : Option (Int32 × XW) :=
  (fJ2_checkIndex_2214a i1 a0 w).bind fun q1 =>
  (fJ2_getChar_3b067 a0 i1 q1).bind fun q2 =>
  if vp_nar .char q2.1 = q2.1 then some (q2.1, q2.2) else none
theorem np_J2_charAt_3b067 : (parseMethodDescriptor yJ2_charAt_3b067.desc).map (fun d => d.parameters.length) = some 2 := by decide +kernel
theorem hy_J2_charAt_3b067 : yJ2_charAt_3b067.cls ≠ "java/lang/invoke/MethodHandle" ∧ yJ2_charAt_3b067.cls ≠ "java/lang/invoke/VarHandle" := ⟨by decide +kernel, by decide +kernel⟩
set_option maxRecDepth 20000 in
theorem eJ2_charAt_3b067 {cx : CX} {a0 : Nat} {i1 : Int32} {w : XW} {R9 : (Int32 × XW)} (h : fJ2_charAt_3b067 a0 i1 w = some R9) : Ct yJ2_charAt_3b067 cJ2_charAt_3b067 2 (some .char) 3 64 cx [.ref a0, .int i1] w (some (.int R9.1)) R9.2 := by
  refine Ct_of (by decide +kernel) (Nat.le_of_ble_eq_true rfl) (fun K B hR => ?_)
  rw [fJ2_charAt_3b067] at h
  show Wx K cx 2 w.length 0 [(0, .ref a0), (1, .int i1)] [] w
  refine x_iload_n (pc := 0) B 1 dJ2_charAt_3b067_0 rfl rfl ?_
  refine x_aload_n (pc := 1) B 0 dJ2_charAt_3b067_1 rfl rfl ?_
  obtain ⟨q1, hq, h⟩ := xbind h
  refine x_callS0 (st := []) (pc := 2) B dJ2_charAt_3b067_2 (eJ2_checkIndex_2214a hq) xt_538 xt_65 np_J2_checkIndex_2214a hy_J2_checkIndex_2214a (Nat.le_of_ble_eq_true rfl) (Nat.le_of_ble_eq_true rfl) (Nat.le_of_ble_eq_true rfl) xt_537 xt_536 rfl ?_
  refine x_aload_n (pc := 5) B 0 dJ2_charAt_3b067_5 rfl rfl ?_
  refine x_iload_n (pc := 6) B 1 dJ2_charAt_3b067_6 rfl rfl ?_
  obtain ⟨q2, hq, h⟩ := xbind h
  refine x_callS1 (st := []) (pc := 7) B dJ2_charAt_3b067_7 (eJ2_getChar_3b067 hq) xt_545 xt_65 np_J2_getChar_3b067 hy_J2_getChar_3b067 (Nat.le_of_ble_eq_true rfl) (Nat.le_of_ble_eq_true rfl) (Nat.le_of_ble_eq_true rfl) xt_544 xt_543 rfl ?_
  rcases xite h with ⟨hc, h⟩ | ⟨hc, h⟩
  · exact x_iret (pc := 10) B hR dJ2_charAt_3b067_10 (xnar (Or.inr (Or.inl rfl)) hc) h
  · exact absurd h (by simp)
def fJ1_charAt_3b067 (a0 : Nat) (i1 : Int32) (w : XW) : Option (Int32 × XW) :=
  (xbl a0).bind fun v1 =>
  (fJ0_checkIndex_df160 i1 v1 w).bind fun q2 =>
  (xbb a0 i1).bind fun v3 =>
  if vp_nar .char ((((v3 &&& (255 : Int32))).toUInt32 % 65536).toInt32) = ((((v3 &&& (255 : Int32))).toUInt32 % 65536).toInt32) then some (((((v3 &&& (255 : Int32))).toUInt32 % 65536).toInt32), q2) else none
theorem np_J1_charAt_3b067 : (parseMethodDescriptor yJ1_charAt_3b067.desc).map (fun d => d.parameters.length) = some 2 := by decide +kernel
theorem hy_J1_charAt_3b067 : yJ1_charAt_3b067.cls ≠ "java/lang/invoke/MethodHandle" ∧ yJ1_charAt_3b067.cls ≠ "java/lang/invoke/VarHandle" := ⟨by decide +kernel, by decide +kernel⟩
set_option maxRecDepth 20000 in
theorem eJ1_charAt_3b067 {cx : CX} {a0 : Nat} {i1 : Int32} {w : XW} {R9 : (Int32 × XW)} (h : fJ1_charAt_3b067 a0 i1 w = some R9) : Ct yJ1_charAt_3b067 cJ1_charAt_3b067 2 (some .char) 2 43 cx [.ref a0, .int i1] w (some (.int R9.1)) R9.2 := by
  refine Ct_of (by decide +kernel) (Nat.le_of_ble_eq_true rfl) (fun K B hR => ?_)
  rw [fJ1_charAt_3b067] at h
  show Wx K cx 2 w.length 0 [(0, .ref a0), (1, .int i1)] [] w
  refine x_iload_n (pc := 0) B 1 dJ1_charAt_3b067_0 rfl rfl ?_
  refine x_aload_n (pc := 1) B 0 dJ1_charAt_3b067_1 rfl rfl ?_
  obtain ⟨v1, hv, h⟩ := xbind h
  refine x_blen (pc := 2) B dJ1_charAt_3b067_2 hv ?_
  obtain ⟨q2, hq, h⟩ := xbind h
  refine x_callS0 (st := []) (pc := 3) B dJ1_charAt_3b067_3 (eJ0_checkIndex_df160 hq) xt_527 xt_62 np_J0_checkIndex_df160 hy_J0_checkIndex_df160 (Nat.le_of_ble_eq_true rfl) (Nat.le_of_ble_eq_true rfl) (Nat.le_of_ble_eq_true rfl) xt_526 xt_525 rfl ?_
  refine x_aload_n (pc := 6) B 0 dJ1_charAt_3b067_6 rfl rfl ?_
  refine x_iload_n (pc := 7) B 1 dJ1_charAt_3b067_7 rfl rfl ?_
  obtain ⟨v3, hv, h⟩ := xbind h
  refine x_bald (pc := 8) B dJ1_charAt_3b067_8 hv ?_
  refine x_sipush (pc := 9) B dJ1_charAt_3b067_9 xk_sipush_255 ?_
  refine x_iand (pc := 12) B dJ1_charAt_3b067_12 ?_
  refine x_i2c (pc := 13) B dJ1_charAt_3b067_13 ?_
  rcases xite h with ⟨hc, h⟩ | ⟨hc, h⟩
  · exact x_iret (pc := 14) B hR dJ1_charAt_3b067_14 (xnar (Or.inr (Or.inl rfl)) hc) h
  · exact absurd h (by simp)
def fJ0_charAt_5068e (a0 : Nat) (i1 : Int32) (w : XW) : Option (Int32 × XW) := if xis' a0 = true then
  (fJ0_isLatin1_aae02 a0 w).bind fun q1 =>
  if q1.1 = (0 : Int32) then
    (xsv a0).bind fun v2 =>
    (fJ2_charAt_3b067 v2 i1 q1.2).bind fun q3 =>
    if vp_nar .char q3.1 = q3.1 then some (q3.1, q3.2) else none
  else
  (xsv a0).bind fun v4 =>
  (fJ1_charAt_3b067 v4 i1 q1.2).bind fun q5 =>
  if vp_nar .char q5.1 = q5.1 then some (q5.1, q5.2) else none
  else none
theorem iJ0_charAt_5068e {a0 : Nat} {i1 : Int32} {w : XW} {R9 : (Int32 × XW)} (h : fJ0_charAt_5068e a0 i1 w = some R9) : xis' a0 = true := by
  unfold fJ0_charAt_5068e at h
  rcases xite h with ⟨hc, h⟩ | ⟨hc, h⟩
  · exact hc
  · exact absurd h (by simp)
theorem np_J0_charAt_5068e : (parseMethodDescriptor yJ0_charAt_5068e.desc).map (fun d => d.parameters.length) = some 1 := by decide +kernel
theorem hy_J0_charAt_5068e : yJ0_charAt_5068e.cls ≠ "java/lang/invoke/MethodHandle" ∧ yJ0_charAt_5068e.cls ≠ "java/lang/invoke/VarHandle" := ⟨by decide +kernel, by decide +kernel⟩
set_option maxRecDepth 20000 in
theorem eJ0_charAt_5068e {cx : CX} {a0 : Nat} {i1 : Int32} {w : XW} {R9 : (Int32 × XW)} (h : fJ0_charAt_5068e a0 i1 w = some R9) : Ct yJ0_charAt_5068e cJ0_charAt_5068e 2 (some .char) 4 85 cx [.ref a0, .int i1] w (some (.int R9.1)) R9.2 := by
  refine Ct_of (by decide +kernel) (Nat.le_of_ble_eq_true rfl) (fun K B hR => ?_)
  rw [fJ0_charAt_5068e] at h
  show Wx K cx 2 w.length 0 [(0, .ref a0), (1, .int i1)] [] w
  rcases xite h with ⟨hc, h⟩ | ⟨hc, h⟩
  · skip
    refine x_aload_n (pc := 0) B 0 dJ0_charAt_5068e_0 rfl rfl ?_
    obtain ⟨q1, hq, h⟩ := xbind h
    refine x_callVs1 (st := []) (pc := 1) B dJ0_charAt_5068e_1 (eJ0_isLatin1_aae02 hq) xt_521 xt_62 np_J0_isLatin1_aae02 hy_J0_isLatin1_aae02 (Nat.le_of_ble_eq_true rfl) (Nat.le_of_ble_eq_true rfl) (Nat.le_of_ble_eq_true rfl) xt_519 xt_520 xt_518 rfl (iJ0_isLatin1_aae02 hq) rfl ?_
    rcases xite h with ⟨hc, h⟩ | ⟨hc, h⟩
    · refine x_if_eq_t (tgt := 16) (pc := 4) B dJ0_charAt_5068e_4 (by decide) hc ?_
      refine x_aload_n (pc := 16) B 0 dJ0_charAt_5068e_16 rfl rfl ?_
      obtain ⟨v2, hv, h⟩ := xbind h
      refine x_sval (pc := 17) B dJ0_charAt_5068e_17 xt_900 hv ?_
      refine x_iload_n (pc := 20) B 1 dJ0_charAt_5068e_20 rfl rfl ?_
      obtain ⟨q3, hq, h⟩ := xbind h
      refine x_callS1 (st := []) (pc := 21) B dJ0_charAt_5068e_21 (eJ2_charAt_3b067 hq) xt_535 xt_65 np_J2_charAt_3b067 hy_J2_charAt_3b067 (Nat.le_of_ble_eq_true rfl) (Nat.le_of_ble_eq_true rfl) (Nat.le_of_ble_eq_true rfl) xt_534 xt_533 rfl ?_
      rcases xite h with ⟨hc, h⟩ | ⟨hc, h⟩
      · exact x_iret (pc := 24) B hR dJ0_charAt_5068e_24 (xnar (Or.inr (Or.inl rfl)) hc) h
      · exact absurd h (by simp)
    · refine x_if_eq_f (pc := 4) B 16 dJ0_charAt_5068e_4 (by decide) hc ?_
      refine x_aload_n (pc := 7) B 0 dJ0_charAt_5068e_7 rfl rfl ?_
      obtain ⟨v4, hv, h⟩ := xbind h
      refine x_sval (pc := 8) B dJ0_charAt_5068e_8 xt_900 hv ?_
      refine x_iload_n (pc := 11) B 1 dJ0_charAt_5068e_11 rfl rfl ?_
      obtain ⟨q5, hq, h⟩ := xbind h
      refine x_callS1 (st := []) (pc := 12) B dJ0_charAt_5068e_12 (eJ1_charAt_3b067 hq) xt_524 xt_63 np_J1_charAt_3b067 hy_J1_charAt_3b067 (Nat.le_of_ble_eq_true rfl) (Nat.le_of_ble_eq_true rfl) (Nat.le_of_ble_eq_true rfl) xt_523 xt_522 rfl ?_
      rcases xite h with ⟨hc, h⟩ | ⟨hc, h⟩
      · exact x_iret (pc := 15) B hR dJ0_charAt_5068e_15 (xnar (Or.inr (Or.inl rfl)) hc) h
      · exact absurd h (by simp)
  · exact absurd h (by simp)
def fX3_isWithin (i0 : Int32) (i1 : Int32) (w : XW) : Option (Int32 × XW) :=
  if i0 < (0 : Int32) then
    some ((0 : Int32), w)
  else
  if i1 ≤ i0 then
    some ((0 : Int32), w)
  else
  some ((1 : Int32), w)
theorem np_X3_isWithin : (parseMethodDescriptor yX3_isWithin.desc).map (fun d => d.parameters.length) = some 2 := by decide +kernel
theorem hy_X3_isWithin : yX3_isWithin.cls ≠ "java/lang/invoke/MethodHandle" ∧ yX3_isWithin.cls ≠ "java/lang/invoke/VarHandle" := ⟨by decide +kernel, by decide +kernel⟩
set_option maxRecDepth 20000 in
theorem eX3_isWithin {cx : CX} {i0 : Int32} {i1 : Int32} {w : XW} {R9 : (Int32 × XW)} (h : fX3_isWithin i0 i1 w = some R9) : Ct yX3_isWithin cX3_isWithin 2 (some .boolean) 0 0 cx [.int i0, .int i1] w (some (.int R9.1)) R9.2 := by
  refine Ct_of (by decide +kernel) (Nat.le_of_ble_eq_true rfl) (fun K B hR => ?_)
  rw [fX3_isWithin] at h
  show Wx K cx 2 w.length 0 [(0, .int i0), (1, .int i1)] [] w
  refine x_iload_n (pc := 0) B 0 dX3_isWithin_0 rfl rfl ?_
  rcases xite h with ⟨hc, h⟩ | ⟨hc, h⟩
  · refine x_if_lt_t (tgt := 13) (pc := 1) B dX3_isWithin_1 (by decide) hc ?_
    refine x_iconst (pc := 13) B dX3_isWithin_13 xk_iconst_0 ?_
    exact x_iret (pc := 14) B hR dX3_isWithin_14 xz0 h
  · refine x_if_lt_f (pc := 1) B 13 dX3_isWithin_1 (by decide) hc ?_
    refine x_iload_n (pc := 4) B 0 dX3_isWithin_4 rfl rfl ?_
    refine x_iload_n (pc := 5) B 1 dX3_isWithin_5 rfl rfl ?_
    rcases xite h with ⟨hc, h⟩ | ⟨hc, h⟩
    · refine x_icmp_ge_t (tgt := 13) (pc := 6) B dX3_isWithin_6 (by decide) hc ?_
      refine x_iconst (pc := 13) B dX3_isWithin_13 xk_iconst_0 ?_
      exact x_iret (pc := 14) B hR dX3_isWithin_14 xz0 h
    · refine x_icmp_ge_f (pc := 6) B 13 dX3_isWithin_6 (by decide) hc ?_
      refine x_iconst (pc := 9) B dX3_isWithin_9 xk_iconst_1 ?_
      refine x_goto (tgt := 14) (pc := 10) B dX3_isWithin_10 (by decide) ?_
      exact x_iret (pc := 14) B hR dX3_isWithin_14 xz1 h
def fX3_has (i0 : Int32) (i1 : Int32) (w : XW) : Option (Int32 × XW) :=
  if ((i0 >>> (i1 &&& 31)) &&& (1 : Int32)) = (1 : Int32) then
    some ((1 : Int32), w)
  else
  some ((0 : Int32), w)
theorem np_X3_has : (parseMethodDescriptor yX3_has.desc).map (fun d => d.parameters.length) = some 2 := by decide +kernel
theorem hy_X3_has : yX3_has.cls ≠ "java/lang/invoke/MethodHandle" ∧ yX3_has.cls ≠ "java/lang/invoke/VarHandle" := ⟨by decide +kernel, by decide +kernel⟩
set_option maxRecDepth 20000 in
theorem eX3_has {cx : CX} {i0 : Int32} {i1 : Int32} {w : XW} {R9 : (Int32 × XW)} (h : fX3_has i0 i1 w = some R9) : Ct yX3_has cX3_has 2 (some .boolean) 0 0 cx [.int i0, .int i1] w (some (.int R9.1)) R9.2 := by
  refine Ct_of (by decide +kernel) (Nat.le_of_ble_eq_true rfl) (fun K B hR => ?_)
  rw [fX3_has] at h
  show Wx K cx 2 w.length 0 [(0, .int i0), (1, .int i1)] [] w
  refine x_iload_n (pc := 0) B 0 dX3_has_0 rfl rfl ?_
  refine x_iload_n (pc := 1) B 1 dX3_has_1 rfl rfl ?_
  refine x_ishr (pc := 2) B dX3_has_2 ?_
  refine x_iconst (pc := 3) B dX3_has_3 xk_iconst_1 ?_
  refine x_iand (pc := 4) B dX3_has_4 ?_
  refine x_iconst (pc := 5) B dX3_has_5 xk_iconst_1 ?_
  rcases xite h with ⟨hc, h⟩ | ⟨hc, h⟩
  · refine x_icmp_ne_f (pc := 6) B 13 dX3_has_6 (by decide) hc ?_
    refine x_iconst (pc := 9) B dX3_has_9 xk_iconst_1 ?_
    refine x_goto (tgt := 14) (pc := 10) B dX3_has_10 (by decide) ?_
    exact x_iret (pc := 14) B hR dX3_has_14 xz1 h
  · refine x_icmp_ne_t (tgt := 13) (pc := 6) B dX3_has_6 (by decide) hc ?_
    refine x_iconst (pc := 13) B dX3_has_13 xk_iconst_0 ?_
    exact x_iret (pc := 14) B hR dX3_has_14 xz0 h
end
section
def fX0_weightPlace (i0 : Int32) (w : XW) : Option (Int32 × XW) :=
  some (i0, w)
theorem np_X0_weightPlace : (parseMethodDescriptor yX0_weightPlace.desc).map (fun d => d.parameters.length) = some 1 := by decide +kernel
theorem hy_X0_weightPlace : yX0_weightPlace.cls ≠ "java/lang/invoke/MethodHandle" ∧ yX0_weightPlace.cls ≠ "java/lang/invoke/VarHandle" := ⟨by decide +kernel, by decide +kernel⟩
set_option maxRecDepth 20000 in
theorem eX0_weightPlace {cx : CX} {i0 : Int32} {w : XW} {R9 : (Int32 × XW)} (h : fX0_weightPlace i0 w = some R9) : Ct yX0_weightPlace cX0_weightPlace 1 (some .int) 0 0 cx [.int i0] w (some (.int R9.1)) R9.2 := by
  refine Ct_of (by decide +kernel) (Nat.le_of_ble_eq_true rfl) (fun K B hR => ?_)
  rw [fX0_weightPlace] at h
  show Wx K cx 1 w.length 0 [(0, .int i0)] [] w
  refine x_iload_n (pc := 0) B 0 dX0_weightPlace_0 rfl rfl ?_
  exact x_iret (pc := 1) B hR dX0_weightPlace_1 (xzI _) h
def fX0_cell (a0 : Nat) (i1 : Int32) (w : XW) : Option (Int32 × XW) := if xis w a0 0 = true then
  if i1 < (0 : Int32) then
    some ((0 : Int32), w)
  else
  if (72 : Int32) ≤ i1 then
    some ((0 : Int32), w)
  else
  (xgR w a0 0 0).bind fun v1 =>
  (xaI w v1 i1).bind fun v2 =>
  some (v2, w)
  else none
theorem iX0_cell {a0 : Nat} {i1 : Int32} {w : XW} {R9 : (Int32 × XW)} (h : fX0_cell a0 i1 w = some R9) : xis w a0 0 = true := by
  unfold fX0_cell at h
  rcases xite h with ⟨hc, h⟩ | ⟨hc, h⟩
  · exact hc
  · exact absurd h (by simp)
theorem np_X0_cell : (parseMethodDescriptor yX0_cell.desc).map (fun d => d.parameters.length) = some 1 := by decide +kernel
theorem hy_X0_cell : yX0_cell.cls ≠ "java/lang/invoke/MethodHandle" ∧ yX0_cell.cls ≠ "java/lang/invoke/VarHandle" := ⟨by decide +kernel, by decide +kernel⟩
set_option maxRecDepth 20000 in
theorem eX0_cell {cx : CX} {a0 : Nat} {i1 : Int32} {w : XW} {R9 : (Int32 × XW)} (h : fX0_cell a0 i1 w = some R9) : Ct yX0_cell cX0_cell 2 (some .int) 0 0 cx [.ref a0, .int i1] w (some (.int R9.1)) R9.2 := by
  refine Ct_of (by decide +kernel) (Nat.le_of_ble_eq_true rfl) (fun K B hR => ?_)
  rw [fX0_cell] at h
  show Wx K cx 2 w.length 0 [(0, .ref a0), (1, .int i1)] [] w
  rcases xite h with ⟨hc, h⟩ | ⟨hc, h⟩
  · skip
    refine x_iload_n (pc := 0) B 1 dX0_cell_0 rfl rfl ?_
    rcases xite h with ⟨hc, h⟩ | ⟨hc, h⟩
    · refine x_if_lt_t (tgt := 19) (pc := 1) B dX0_cell_1 (by decide) hc ?_
      refine x_iconst (pc := 19) B dX0_cell_19 xk_iconst_0 ?_
      exact x_iret (pc := 20) B hR dX0_cell_20 (xzI _) h
    · refine x_if_lt_f (pc := 1) B 19 dX0_cell_1 (by decide) hc ?_
      refine x_iload_n (pc := 4) B 1 dX0_cell_4 rfl rfl ?_
      refine x_bipush (pc := 5) B dX0_cell_5 xk_bipush_72 ?_
      rcases xite h with ⟨hc, h⟩ | ⟨hc, h⟩
      · refine x_icmp_ge_t (tgt := 19) (pc := 7) B dX0_cell_7 (by decide) hc ?_
        refine x_iconst (pc := 19) B dX0_cell_19 xk_iconst_0 ?_
        exact x_iret (pc := 20) B hR dX0_cell_20 (xzI _) h
      · refine x_icmp_ge_f (pc := 7) B 19 dX0_cell_7 (by decide) hc ?_
        refine x_aload_n (pc := 10) B 0 dX0_cell_10 rfl rfl ?_
        obtain ⟨v1, hv, h⟩ := xbind h
        refine x_getR (k0 := 0) (pc := 11) B dX0_cell_11 rfl xi_0 (by decide) ⟨rfl, rfl, rfl⟩ xt_86 hv ?_
        refine x_iload_n (pc := 14) B 1 dX0_cell_14 rfl rfl ?_
        obtain ⟨v2, hv, h⟩ := xbind h
        refine x_iald (pc := 15) B dX0_cell_15 hv ?_
        refine x_goto (tgt := 20) (pc := 16) B dX0_cell_16 (by decide) ?_
        exact x_iret (pc := 20) B hR dX0_cell_20 (xzI _) h
  · exact absurd h (by simp)
def fX0_weightSum_4 : Nat → Nat → Int32 → Int32 → XW → Option (Int32 × XW)
  | 0, _, _, _, _ => none
  | g + 1, a0, i1, i2, w =>
    if (3 : Int32) ≤ i2 then
      some (i1, w)
    else
    (fX0_weightPlace i2 w).bind fun q1 =>
    (fX0_cell a0 q1.1 q1.2).bind fun q2 =>
    fX0_weightSum_4 g a0 (i1 + q2.1) (i2 + (1 : Int32)) q2.2
set_option maxRecDepth 20000 in
theorem pX0_weightSum_4 {K : KX} {cx : CX} {nn : Nat} {R9 : Int32 × XW} (B : XB K cx RX0 cX0_weightSum 3 nn 1 21) (hR : XR K cx nn (some .int) (some (.int R9.1)) R9.2) : ∀ (g : Nat) (a0 : Nat) (i1 : Int32) (i2 : Int32) (w : XW), fX0_weightSum_4 g a0 i1 i2 w = some R9 → Wx K cx 3 nn 4 [(0, .ref a0), (1, .int i1), (2, .int i2)] [] w := by
  intro g
  induction g with
  | zero =>
    intro a0 i1 i2 w h
    exact absurd (show (none : Option (Int32 × XW)) = some R9 from h) (by simp)
  | succ g ih =>
    intro a0 i1 i2 w h
    rw [fX0_weightSum_4] at h
    refine x_iload_n (pc := 4) B 2 dX0_weightSum_4 rfl rfl ?_
    refine x_iconst (pc := 5) B dX0_weightSum_5 xk_iconst_3 ?_
    rcases xite h with ⟨hc, h⟩ | ⟨hc, h⟩
    · refine x_icmp_ge_t (tgt := 26) (pc := 6) B dX0_weightSum_6 (by decide) hc ?_
      refine x_iload_n (pc := 26) B 1 dX0_weightSum_26 rfl rfl ?_
      exact x_iret (pc := 27) B hR dX0_weightSum_27 (xzI _) h
    · refine x_icmp_ge_f (pc := 6) B 26 dX0_weightSum_6 (by decide) hc ?_
      refine x_iload_n (pc := 9) B 1 dX0_weightSum_9 rfl rfl ?_
      refine x_aload_n (pc := 10) B 0 dX0_weightSum_10 rfl rfl ?_
      refine x_iload_n (pc := 11) B 2 dX0_weightSum_11 rfl rfl ?_
      obtain ⟨q1, hq, h⟩ := xbind h
      refine x_callS1 (st := [.ref a0, .int i1]) (pc := 12) B dX0_weightSum_12 (eX0_weightPlace hq) xt_149 xt_54 np_X0_weightPlace hy_X0_weightPlace (Nat.le_of_ble_eq_true rfl) (Nat.le_of_ble_eq_true rfl) (Nat.le_of_ble_eq_true rfl) xt_148 xt_147 rfl ?_
      obtain ⟨q2, hq, h⟩ := xbind h
      refine x_callV1 (st := [.int i1]) (pc := 15) B dX0_weightSum_15 (eX0_cell hq) xt_153 xt_54 np_X0_cell hy_X0_cell (Nat.le_of_ble_eq_true rfl) (Nat.le_of_ble_eq_true rfl) (Nat.le_of_ble_eq_true rfl) xt_151 xt_152 xt_150 rfl (iX0_cell hq) rfl ?_
      refine x_iadd (pc := 18) B dX0_weightSum_18 ?_
      refine x_istore_n (L1 := [(1, .int (i1 + q2.1)), (0, .ref a0), (2, .int i2)]) (pc := 19) B dX0_weightSum_19 rfl (by decide) rfl ?_
      refine x_iinc (L1 := [(2, .int (i2 + (1 : Int32))), (1, .int (i1 + q2.1)), (0, .ref a0)]) (pc := 20) B 2 dX0_weightSum_20 rfl (congrArg _ xk_iconst_1) (by decide) rfl ?_
      refine x_goto (tgt := 4) (pc := 23) B dX0_weightSum_23 (by decide) ?_
      refine x_sub (L1 := [(0, .ref a0), (1, .int (i1 + q2.1)), (2, .int (i2 + (1 : Int32)))]) [2, 1, 0] rfl ?_
      exact ih a0 (i1 + q2.1) (i2 + (1 : Int32)) q2.2 h
def fX0_weightSum (a0 : Nat) (w : XW) : Option (Int32 × XW) := if xis w a0 0 = true then
  fX0_weightSum_4 1000 a0 (0 : Int32) (0 : Int32) w
  else none
theorem iX0_weightSum {a0 : Nat} {w : XW} {R9 : (Int32 × XW)} (h : fX0_weightSum a0 w = some R9) : xis w a0 0 = true := by
  unfold fX0_weightSum at h
  rcases xite h with ⟨hc, h⟩ | ⟨hc, h⟩
  · exact hc
  · exact absurd h (by simp)
theorem np_X0_weightSum : (parseMethodDescriptor yX0_weightSum.desc).map (fun d => d.parameters.length) = some 0 := by decide +kernel
theorem hy_X0_weightSum : yX0_weightSum.cls ≠ "java/lang/invoke/MethodHandle" ∧ yX0_weightSum.cls ≠ "java/lang/invoke/VarHandle" := ⟨by decide +kernel, by decide +kernel⟩
set_option maxRecDepth 20000 in
theorem eX0_weightSum {cx : CX} {a0 : Nat} {w : XW} {R9 : (Int32 × XW)} (h : fX0_weightSum a0 w = some R9) : Ct yX0_weightSum cX0_weightSum 3 (some .int) 1 21 cx [.ref a0] w (some (.int R9.1)) R9.2 := by
  refine Ct_of (by decide +kernel) (Nat.le_of_ble_eq_true rfl) (fun K B hR => ?_)
  rw [fX0_weightSum] at h
  show Wx K cx 3 w.length 0 [(0, .ref a0)] [] w
  rcases xite h with ⟨hc, h⟩ | ⟨hc, h⟩
  · skip
    refine x_iconst (pc := 0) B dX0_weightSum_0 xk_iconst_0 ?_
    refine x_istore_n (L1 := [(1, .int (0 : Int32)), (0, .ref a0)]) (pc := 1) B dX0_weightSum_1 rfl (by decide) rfl ?_
    refine x_iconst (pc := 2) B dX0_weightSum_2 xk_iconst_0 ?_
    refine x_istore_n (L1 := [(2, .int (0 : Int32)), (1, .int (0 : Int32)), (0, .ref a0)]) (pc := 3) B dX0_weightSum_3 rfl (by decide) rfl ?_
    refine x_sub (L1 := [(0, .ref a0), (1, .int (0 : Int32)), (2, .int (0 : Int32))]) [2, 1, 0] rfl ?_
    exact pX0_weightSum_4 B hR 1000 a0 (0 : Int32) (0 : Int32) w h
  · exact absurd h (by simp)
def fX0_writeTo (a0 : Nat) (a1 : Nat) (i2 : Int32) (w : XW) : Option XW := if xis w a0 0 = true then
  if i2 < (0 : Int32) then
    some w
  else
  (xaL w a1).bind fun v1 =>
  if (v1 - (72 : Int32)) < i2 then
    some w
  else
  (xgR w a0 0 0).bind fun v2 =>
  (xcp w v2 (0 : Int32) a1 i2 (72 : Int32)).bind fun w3 =>
  some w3
  else none
theorem iX0_writeTo {a0 : Nat} {a1 : Nat} {i2 : Int32} {w : XW} {R9 : XW} (h : fX0_writeTo a0 a1 i2 w = some R9) : xis w a0 0 = true := by
  unfold fX0_writeTo at h
  rcases xite h with ⟨hc, h⟩ | ⟨hc, h⟩
  · exact hc
  · exact absurd h (by simp)
theorem np_X0_writeTo : (parseMethodDescriptor yX0_writeTo.desc).map (fun d => d.parameters.length) = some 2 := by decide +kernel
theorem hy_X0_writeTo : yX0_writeTo.cls ≠ "java/lang/invoke/MethodHandle" ∧ yX0_writeTo.cls ≠ "java/lang/invoke/VarHandle" := ⟨by decide +kernel, by decide +kernel⟩
set_option maxRecDepth 20000 in
theorem eX0_writeTo {cx : CX} {a0 : Nat} {a1 : Nat} {i2 : Int32} {w : XW} {R9 : XW} (h : fX0_writeTo a0 a1 i2 w = some R9) : Ct yX0_writeTo cX0_writeTo 3 none 1 40 cx [.ref a0, .ref a1, .int i2] w none R9 := by
  refine Ct_of (by decide +kernel) (Nat.le_of_ble_eq_true rfl) (fun K B hR => ?_)
  rw [fX0_writeTo] at h
  show Wx K cx 3 w.length 0 [(0, .ref a0), (1, .ref a1), (2, .int i2)] [] w
  rcases xite h with ⟨hc, h⟩ | ⟨hc, h⟩
  · skip
    refine x_iload_n (pc := 0) B 2 dX0_writeTo_0 rfl rfl ?_
    rcases xite h with ⟨hc, h⟩ | ⟨hc, h⟩
    · refine x_if_lt_t (tgt := 25) (pc := 1) B dX0_writeTo_1 (by decide) hc ?_
      exact x_vret (pc := 25) B hR dX0_writeTo_25 h
    · refine x_if_lt_f (pc := 1) B 25 dX0_writeTo_1 (by decide) hc ?_
      refine x_iload_n (pc := 4) B 2 dX0_writeTo_4 rfl rfl ?_
      refine x_aload_n (pc := 5) B 1 dX0_writeTo_5 rfl rfl ?_
      obtain ⟨v1, hv, h⟩ := xbind h
      refine x_alen (pc := 6) B dX0_writeTo_6 hv ?_
      refine x_bipush (pc := 7) B dX0_writeTo_7 xk_bipush_72 ?_
      refine x_isub (pc := 9) B dX0_writeTo_9 ?_
      rcases xite h with ⟨hc, h⟩ | ⟨hc, h⟩
      · refine x_icmp_gt_t (tgt := 25) (pc := 10) B dX0_writeTo_10 (by decide) hc ?_
        exact x_vret (pc := 25) B hR dX0_writeTo_25 h
      · refine x_icmp_gt_f (pc := 10) B 25 dX0_writeTo_10 (by decide) hc ?_
        refine x_aload_n (pc := 13) B 0 dX0_writeTo_13 rfl rfl ?_
        obtain ⟨v2, hv, h⟩ := xbind h
        refine x_getR (k0 := 0) (pc := 14) B dX0_writeTo_14 rfl xi_0 (by decide) ⟨rfl, rfl, rfl⟩ xt_86 hv ?_
        refine x_iconst (pc := 17) B dX0_writeTo_17 xk_iconst_0 ?_
        refine x_aload_n (pc := 18) B 1 dX0_writeTo_18 rfl rfl ?_
        refine x_iload_n (pc := 19) B 2 dX0_writeTo_19 rfl rfl ?_
        refine x_bipush (pc := 20) B dX0_writeTo_20 xk_bipush_72 ?_
        obtain ⟨w3, hv, h⟩ := xbind h
        refine x_copy (pc := 22) B dX0_writeTo_22 xt_167 (Nat.le_of_ble_eq_true rfl) (Nat.le_of_ble_eq_true rfl) hv ?_
        exact x_vret (pc := 25) B hR dX0_writeTo_25 h
  · exact absurd h (by simp)
def fX0_forgetPossible (a0 : Nat) (w : XW) : Option XW := if xis w a0 0 = true then
  (xgR w a0 0 1).bind fun v1 =>
  (fJ7_fill_53178 v1 (0 : Int32) w).bind fun q2 =>
  some q2
  else none
theorem iX0_forgetPossible {a0 : Nat} {w : XW} {R9 : XW} (h : fX0_forgetPossible a0 w = some R9) : xis w a0 0 = true := by
  unfold fX0_forgetPossible at h
  rcases xite h with ⟨hc, h⟩ | ⟨hc, h⟩
  · exact hc
  · exact absurd h (by simp)
theorem np_X0_forgetPossible : (parseMethodDescriptor yX0_forgetPossible.desc).map (fun d => d.parameters.length) = some 0 := by decide +kernel
theorem hy_X0_forgetPossible : yX0_forgetPossible.cls ≠ "java/lang/invoke/MethodHandle" ∧ yX0_forgetPossible.cls ≠ "java/lang/invoke/VarHandle" := ⟨by decide +kernel, by decide +kernel⟩
set_option maxRecDepth 20000 in
theorem eX0_forgetPossible {cx : CX} {a0 : Nat} {w : XW} {R9 : XW} (h : fX0_forgetPossible a0 w = some R9) : Ct yX0_forgetPossible cX0_forgetPossible 1 none 1 23 cx [.ref a0] w none R9 := by
  refine Ct_of (by decide +kernel) (Nat.le_of_ble_eq_true rfl) (fun K B hR => ?_)
  rw [fX0_forgetPossible] at h
  show Wx K cx 1 w.length 0 [(0, .ref a0)] [] w
  rcases xite h with ⟨hc, h⟩ | ⟨hc, h⟩
  · skip
    refine x_aload_n (pc := 0) B 0 dX0_forgetPossible_0 rfl rfl ?_
    obtain ⟨v1, hv, h⟩ := xbind h
    refine x_getR (k0 := 1) (pc := 1) B dX0_forgetPossible_1 rfl xi_0 (by decide) ⟨rfl, rfl, rfl⟩ xt_87 hv ?_
    refine x_iconst (pc := 4) B dX0_forgetPossible_4 xk_iconst_0 ?_
    obtain ⟨q2, hq, h⟩ := xbind h
    refine x_callS0 (st := []) (pc := 5) B dX0_forgetPossible_5 (eJ7_fill_53178 hq) xt_179 xt_55 np_J7_fill_53178 hy_J7_fill_53178 (Nat.le_of_ble_eq_true rfl) (Nat.le_of_ble_eq_true rfl) (Nat.le_of_ble_eq_true rfl) xt_178 xt_177 rfl ?_
    exact x_vret (pc := 8) B hR dX0_forgetPossible_8 h
  · exact absurd h (by simp)
def fX0_change (a0 : Nat) (i1 : Int32) (i2 : Int32) (w : XW) : Option (Int32 × XW) := if xis w a0 0 = true then
  (fX3_isWithin i1 (72 : Int32) w).bind fun q1 =>
  if q1.1 = (0 : Int32) then
    some ((0 : Int32), q1.2)
  else
  (xgR q1.2 a0 0 0).bind fun v2 =>
  (xaI q1.2 v2 i1).bind fun v3 =>
  (xgR q1.2 a0 0 0).bind fun v4 =>
  (xsI q1.2 v4 i1 i2).bind fun w5 =>
  if i1 < (12 : Int32) then
    some (v3, w5)
  else
  if (66 : Int32) ≤ i1 then
    some (v3, w5)
  else
  (fX0_forgetPossible a0 w5).bind fun q6 =>
  some (v3, q6)
  else none
theorem iX0_change {a0 : Nat} {i1 : Int32} {i2 : Int32} {w : XW} {R9 : (Int32 × XW)} (h : fX0_change a0 i1 i2 w = some R9) : xis w a0 0 = true := by
  unfold fX0_change at h
  rcases xite h with ⟨hc, h⟩ | ⟨hc, h⟩
  · exact hc
  · exact absurd h (by simp)
theorem np_X0_change : (parseMethodDescriptor yX0_change.desc).map (fun d => d.parameters.length) = some 2 := by decide +kernel
theorem hy_X0_change : yX0_change.cls ≠ "java/lang/invoke/MethodHandle" ∧ yX0_change.cls ≠ "java/lang/invoke/VarHandle" := ⟨by decide +kernel, by decide +kernel⟩
set_option maxRecDepth 20000 in
theorem eX0_change {cx : CX} {a0 : Nat} {i1 : Int32} {i2 : Int32} {w : XW} {R9 : (Int32 × XW)} (h : fX0_change a0 i1 i2 w = some R9) : Ct yX0_change cX0_change 4 (some .int) 2 43 cx [.ref a0, .int i1, .int i2] w (some (.int R9.1)) R9.2 := by
  refine Ct_of (by decide +kernel) (Nat.le_of_ble_eq_true rfl) (fun K B hR => ?_)
  rw [fX0_change] at h
  show Wx K cx 4 w.length 0 [(0, .ref a0), (1, .int i1), (2, .int i2)] [] w
  rcases xite h with ⟨hc, h⟩ | ⟨hc, h⟩
  · skip
    refine x_iload_n (pc := 0) B 1 dX0_change_0 rfl rfl ?_
    refine x_bipush (pc := 1) B dX0_change_1 xk_bipush_72 ?_
    obtain ⟨q1, hq, h⟩ := xbind h
    refine x_callSN1 (st := []) (pc := 3) B dX0_change_3 (eX3_isWithin hq) xt_142 xt_53 np_X3_isWithin hy_X3_isWithin (Nat.le_of_ble_eq_true rfl) (Nat.le_of_ble_eq_true rfl) (Nat.le_of_ble_eq_true rfl) xt_141 (List.mem_of_getElem? (i := 0) rfl) rfl ?_
    rcases xite h with ⟨hc, h⟩ | ⟨hc, h⟩
    · refine x_if_ne_f (pc := 6) B 11 dX0_change_6 (by decide) hc ?_
      refine x_iconst (pc := 9) B dX0_change_9 xk_iconst_0 ?_
      exact x_iret (pc := 10) B hR dX0_change_10 (xzI _) h
    · refine x_if_ne_t (tgt := 11) (pc := 6) B dX0_change_6 (by decide) hc ?_
      refine x_aload_n (pc := 11) B 0 dX0_change_11 rfl rfl ?_
      obtain ⟨v2, hv, h⟩ := xbind h
      refine x_getR (k0 := 0) (pc := 12) B dX0_change_12 rfl xi_0 (by decide) ⟨rfl, rfl, rfl⟩ xt_86 hv ?_
      refine x_iload_n (pc := 15) B 1 dX0_change_15 rfl rfl ?_
      obtain ⟨v3, hv, h⟩ := xbind h
      refine x_iald (pc := 16) B dX0_change_16 hv ?_
      refine x_istore_n (L1 := [(3, .int v3), (0, .ref a0), (1, .int i1), (2, .int i2)]) (pc := 17) B dX0_change_17 rfl (by decide) rfl ?_
      refine x_aload_n (pc := 18) B 1 dX0_change_18 rfl rfl ?_
      obtain ⟨v4, hv, h⟩ := xbind h
      refine x_getR (k0 := 0) (pc := 19) B dX0_change_19 rfl xi_0 (by decide) ⟨rfl, rfl, rfl⟩ xt_86 hv ?_
      refine x_iload_n (pc := 22) B 2 dX0_change_22 rfl rfl ?_
      refine x_iload_n (pc := 23) B 3 dX0_change_23 rfl rfl ?_
      obtain ⟨w5, hv, h⟩ := xbind h
      refine x_iast (pc := 24) B dX0_change_24 hv ?_
      refine x_iload_n (pc := 25) B 2 dX0_change_25 rfl rfl ?_
      refine x_bipush (pc := 26) B dX0_change_26 xk_bipush_12 ?_
      rcases xite h with ⟨hc, h⟩ | ⟨hc, h⟩
      · refine x_icmp_lt_t (tgt := 41) (pc := 28) B dX0_change_28 (by decide) hc ?_
        refine x_iload_n (pc := 41) B 0 dX0_change_41 rfl rfl ?_
        exact x_iret (pc := 42) B hR dX0_change_42 (xzI _) h
      · refine x_icmp_lt_f (pc := 28) B 41 dX0_change_28 (by decide) hc ?_
        refine x_iload_n (pc := 31) B 2 dX0_change_31 rfl rfl ?_
        refine x_bipush (pc := 32) B dX0_change_32 xk_bipush_66 ?_
        rcases xite h with ⟨hc, h⟩ | ⟨hc, h⟩
        · refine x_icmp_ge_t (tgt := 41) (pc := 34) B dX0_change_34 (by decide) hc ?_
          refine x_iload_n (pc := 41) B 0 dX0_change_41 rfl rfl ?_
          exact x_iret (pc := 42) B hR dX0_change_42 (xzI _) h
        · refine x_icmp_ge_f (pc := 34) B 41 dX0_change_34 (by decide) hc ?_
          refine x_aload_n (pc := 37) B 1 dX0_change_37 rfl rfl ?_
          obtain ⟨q6, hq, h⟩ := xbind h
          refine x_callV0 (st := []) (pc := 38) B dX0_change_38 (eX0_forgetPossible hq) xt_176 xt_54 np_X0_forgetPossible hy_X0_forgetPossible (Nat.le_of_ble_eq_true rfl) (Nat.le_of_ble_eq_true rfl) (Nat.le_of_ble_eq_true rfl) xt_175 xt_2 xt_173 rfl (iX0_forgetPossible hq) rfl ?_
          refine x_iload_n (pc := 41) B 0 dX0_change_41 rfl rfl ?_
          exact x_iret (pc := 42) B hR dX0_change_42 (xzI _) h
  · exact absurd h (by simp)
def fX0_payPlace (i0 : Int32) (i1 : Int32) (i2 : Int32) (i3 : Int32) (w : XW) : Option (Int32 × XW) :=
  some (((((12 : Int32) + (i0 * (27 : Int32))) + (((i1 * (3 : Int32)) + i2) * (3 : Int32))) + i3), w)
theorem np_X0_payPlace : (parseMethodDescriptor yX0_payPlace.desc).map (fun d => d.parameters.length) = some 4 := by decide +kernel
theorem hy_X0_payPlace : yX0_payPlace.cls ≠ "java/lang/invoke/MethodHandle" ∧ yX0_payPlace.cls ≠ "java/lang/invoke/VarHandle" := ⟨by decide +kernel, by decide +kernel⟩
set_option maxRecDepth 20000 in
theorem eX0_payPlace {cx : CX} {i0 : Int32} {i1 : Int32} {i2 : Int32} {i3 : Int32} {w : XW} {R9 : (Int32 × XW)} (h : fX0_payPlace i0 i1 i2 i3 w = some R9) : Ct yX0_payPlace cX0_payPlace 4 (some .int) 0 0 cx [.int i0, .int i1, .int i2, .int i3] w (some (.int R9.1)) R9.2 := by
  refine Ct_of (by decide +kernel) (Nat.le_of_ble_eq_true rfl) (fun K B hR => ?_)
  rw [fX0_payPlace] at h
  show Wx K cx 4 w.length 0 [(0, .int i0), (1, .int i1), (2, .int i2), (3, .int i3)] [] w
  refine x_bipush (pc := 0) B dX0_payPlace_0 xk_bipush_12 ?_
  refine x_iload_n (pc := 2) B 0 dX0_payPlace_2 rfl rfl ?_
  refine x_bipush (pc := 3) B dX0_payPlace_3 xk_bipush_27 ?_
  refine x_imul (pc := 5) B dX0_payPlace_5 ?_
  refine x_iadd (pc := 6) B dX0_payPlace_6 ?_
  refine x_iload_n (pc := 7) B 1 dX0_payPlace_7 rfl rfl ?_
  refine x_iconst (pc := 8) B dX0_payPlace_8 xk_iconst_3 ?_
  refine x_imul (pc := 9) B dX0_payPlace_9 ?_
  refine x_iload_n (pc := 10) B 2 dX0_payPlace_10 rfl rfl ?_
  refine x_iadd (pc := 11) B dX0_payPlace_11 ?_
  refine x_iconst (pc := 12) B dX0_payPlace_12 xk_iconst_3 ?_
  refine x_imul (pc := 13) B dX0_payPlace_13 ?_
  refine x_iadd (pc := 14) B dX0_payPlace_14 ?_
  refine x_iload_n (pc := 15) B 3 dX0_payPlace_15 rfl rfl ?_
  refine x_iadd (pc := 16) B dX0_payPlace_16 ?_
  exact x_iret (pc := 17) B hR dX0_payPlace_17 (xzI _) h
def fX0_toldPlace (i0 : Int32) (i1 : Int32) (w : XW) : Option (Int32 × XW) :=
  some ((((3 : Int32) + (i0 * (3 : Int32))) + i1), w)
theorem np_X0_toldPlace : (parseMethodDescriptor yX0_toldPlace.desc).map (fun d => d.parameters.length) = some 2 := by decide +kernel
theorem hy_X0_toldPlace : yX0_toldPlace.cls ≠ "java/lang/invoke/MethodHandle" ∧ yX0_toldPlace.cls ≠ "java/lang/invoke/VarHandle" := ⟨by decide +kernel, by decide +kernel⟩
set_option maxRecDepth 20000 in
theorem eX0_toldPlace {cx : CX} {i0 : Int32} {i1 : Int32} {w : XW} {R9 : (Int32 × XW)} (h : fX0_toldPlace i0 i1 w = some R9) : Ct yX0_toldPlace cX0_toldPlace 2 (some .int) 0 0 cx [.int i0, .int i1] w (some (.int R9.1)) R9.2 := by
  refine Ct_of (by decide +kernel) (Nat.le_of_ble_eq_true rfl) (fun K B hR => ?_)
  rw [fX0_toldPlace] at h
  show Wx K cx 2 w.length 0 [(0, .int i0), (1, .int i1)] [] w
  refine x_iconst (pc := 0) B dX0_toldPlace_0 xk_iconst_3 ?_
  refine x_iload_n (pc := 1) B 0 dX0_toldPlace_1 rfl rfl ?_
  refine x_iconst (pc := 2) B dX0_toldPlace_2 xk_iconst_3 ?_
  refine x_imul (pc := 3) B dX0_toldPlace_3 ?_
  refine x_iadd (pc := 4) B dX0_toldPlace_4 ?_
  refine x_iload_n (pc := 5) B 1 dX0_toldPlace_5 rfl rfl ?_
  refine x_iadd (pc := 6) B dX0_toldPlace_6 ?_
  exact x_iret (pc := 7) B hR dX0_toldPlace_7 (xzI _) h
def fX0_toldSum_4 : Nat → Nat → Int32 → Int32 → Int32 → XW → Option (Int32 × XW)
  | 0, _, _, _, _, _ => none
  | g + 1, a0, i1, i2, i3, w =>
    if (3 : Int32) ≤ i3 then
      some (i2, w)
    else
    (fX0_toldPlace i1 i3 w).bind fun q1 =>
    (fX0_cell a0 q1.1 q1.2).bind fun q2 =>
    fX0_toldSum_4 g a0 i1 (i2 + q2.1) (i3 + (1 : Int32)) q2.2
set_option maxRecDepth 20000 in
theorem pX0_toldSum_4 {K : KX} {cx : CX} {nn : Nat} {R9 : Int32 × XW} (B : XB K cx RX0 cX0_toldSum 4 nn 1 21) (hR : XR K cx nn (some .int) (some (.int R9.1)) R9.2) : ∀ (g : Nat) (a0 : Nat) (i1 : Int32) (i2 : Int32) (i3 : Int32) (w : XW), fX0_toldSum_4 g a0 i1 i2 i3 w = some R9 → Wx K cx 4 nn 4 [(0, .ref a0), (1, .int i1), (2, .int i2), (3, .int i3)] [] w := by
  intro g
  induction g with
  | zero =>
    intro a0 i1 i2 i3 w h
    exact absurd (show (none : Option (Int32 × XW)) = some R9 from h) (by simp)
  | succ g ih =>
    intro a0 i1 i2 i3 w h
    rw [fX0_toldSum_4] at h
    refine x_iload_n (pc := 4) B 3 dX0_toldSum_4 rfl rfl ?_
    refine x_iconst (pc := 5) B dX0_toldSum_5 xk_iconst_3 ?_
    rcases xite h with ⟨hc, h⟩ | ⟨hc, h⟩
    · refine x_icmp_ge_t (tgt := 27) (pc := 6) B dX0_toldSum_6 (by decide) hc ?_
      refine x_iload_n (pc := 27) B 2 dX0_toldSum_27 rfl rfl ?_
      exact x_iret (pc := 28) B hR dX0_toldSum_28 (xzI _) h
    · refine x_icmp_ge_f (pc := 6) B 27 dX0_toldSum_6 (by decide) hc ?_
      refine x_iload_n (pc := 9) B 2 dX0_toldSum_9 rfl rfl ?_
      refine x_aload_n (pc := 10) B 0 dX0_toldSum_10 rfl rfl ?_
      refine x_iload_n (pc := 11) B 1 dX0_toldSum_11 rfl rfl ?_
      refine x_iload_n (pc := 12) B 3 dX0_toldSum_12 rfl rfl ?_
      obtain ⟨q1, hq, h⟩ := xbind h
      refine x_callS1 (st := [.ref a0, .int i2]) (pc := 13) B dX0_toldSum_13 (eX0_toldPlace hq) xt_201 xt_54 np_X0_toldPlace hy_X0_toldPlace (Nat.le_of_ble_eq_true rfl) (Nat.le_of_ble_eq_true rfl) (Nat.le_of_ble_eq_true rfl) xt_200 xt_199 rfl ?_
      obtain ⟨q2, hq, h⟩ := xbind h
      refine x_callV1 (st := [.int i2]) (pc := 16) B dX0_toldSum_16 (eX0_cell hq) xt_153 xt_54 np_X0_cell hy_X0_cell (Nat.le_of_ble_eq_true rfl) (Nat.le_of_ble_eq_true rfl) (Nat.le_of_ble_eq_true rfl) xt_151 xt_152 xt_150 rfl (iX0_cell hq) rfl ?_
      refine x_iadd (pc := 19) B dX0_toldSum_19 ?_
      refine x_istore_n (L1 := [(2, .int (i2 + q2.1)), (0, .ref a0), (1, .int i1), (3, .int i3)]) (pc := 20) B dX0_toldSum_20 rfl (by decide) rfl ?_
      refine x_iinc (L1 := [(3, .int (i3 + (1 : Int32))), (2, .int (i2 + q2.1)), (0, .ref a0), (1, .int i1)]) (pc := 21) B 3 dX0_toldSum_21 rfl (congrArg _ xk_iconst_1) (by decide) rfl ?_
      refine x_goto (tgt := 4) (pc := 24) B dX0_toldSum_24 (by decide) ?_
      refine x_sub (L1 := [(0, .ref a0), (1, .int i1), (2, .int (i2 + q2.1)), (3, .int (i3 + (1 : Int32)))]) [2, 3, 1, 0] rfl ?_
      exact ih a0 i1 (i2 + q2.1) (i3 + (1 : Int32)) q2.2 h
def fX0_toldSum (a0 : Nat) (i1 : Int32) (w : XW) : Option (Int32 × XW) := if xis w a0 0 = true then
  fX0_toldSum_4 1000 a0 i1 (0 : Int32) (0 : Int32) w
  else none
theorem iX0_toldSum {a0 : Nat} {i1 : Int32} {w : XW} {R9 : (Int32 × XW)} (h : fX0_toldSum a0 i1 w = some R9) : xis w a0 0 = true := by
  unfold fX0_toldSum at h
  rcases xite h with ⟨hc, h⟩ | ⟨hc, h⟩
  · exact hc
  · exact absurd h (by simp)
theorem np_X0_toldSum : (parseMethodDescriptor yX0_toldSum.desc).map (fun d => d.parameters.length) = some 1 := by decide +kernel
theorem hy_X0_toldSum : yX0_toldSum.cls ≠ "java/lang/invoke/MethodHandle" ∧ yX0_toldSum.cls ≠ "java/lang/invoke/VarHandle" := ⟨by decide +kernel, by decide +kernel⟩
set_option maxRecDepth 20000 in
theorem eX0_toldSum {cx : CX} {a0 : Nat} {i1 : Int32} {w : XW} {R9 : (Int32 × XW)} (h : fX0_toldSum a0 i1 w = some R9) : Ct yX0_toldSum cX0_toldSum 4 (some .int) 1 21 cx [.ref a0, .int i1] w (some (.int R9.1)) R9.2 := by
  refine Ct_of (by decide +kernel) (Nat.le_of_ble_eq_true rfl) (fun K B hR => ?_)
  rw [fX0_toldSum] at h
  show Wx K cx 4 w.length 0 [(0, .ref a0), (1, .int i1)] [] w
  rcases xite h with ⟨hc, h⟩ | ⟨hc, h⟩
  · skip
    refine x_iconst (pc := 0) B dX0_toldSum_0 xk_iconst_0 ?_
    refine x_istore_n (L1 := [(2, .int (0 : Int32)), (0, .ref a0), (1, .int i1)]) (pc := 1) B dX0_toldSum_1 rfl (by decide) rfl ?_
    refine x_iconst (pc := 2) B dX0_toldSum_2 xk_iconst_0 ?_
    refine x_istore_n (L1 := [(3, .int (0 : Int32)), (2, .int (0 : Int32)), (0, .ref a0), (1, .int i1)]) (pc := 3) B dX0_toldSum_3 rfl (by decide) rfl ?_
    refine x_sub (L1 := [(0, .ref a0), (1, .int i1), (2, .int (0 : Int32)), (3, .int (0 : Int32))]) [2, 3, 1, 0] rfl ?_
    exact pX0_toldSum_4 B hR 1000 a0 i1 (0 : Int32) (0 : Int32) w h
  · exact absurd h (by simp)
def fX0_messagePlace (i0 : Int32) (w : XW) : Option (Int32 × XW) :=
  some (((66 : Int32) + i0), w)
theorem np_X0_messagePlace : (parseMethodDescriptor yX0_messagePlace.desc).map (fun d => d.parameters.length) = some 1 := by decide +kernel
theorem hy_X0_messagePlace : yX0_messagePlace.cls ≠ "java/lang/invoke/MethodHandle" ∧ yX0_messagePlace.cls ≠ "java/lang/invoke/VarHandle" := ⟨by decide +kernel, by decide +kernel⟩
set_option maxRecDepth 20000 in
theorem eX0_messagePlace {cx : CX} {i0 : Int32} {w : XW} {R9 : (Int32 × XW)} (h : fX0_messagePlace i0 w = some R9) : Ct yX0_messagePlace cX0_messagePlace 1 (some .int) 0 0 cx [.int i0] w (some (.int R9.1)) R9.2 := by
  refine Ct_of (by decide +kernel) (Nat.le_of_ble_eq_true rfl) (fun K B hR => ?_)
  rw [fX0_messagePlace] at h
  show Wx K cx 1 w.length 0 [(0, .int i0)] [] w
  refine x_bipush (pc := 0) B dX0_messagePlace_0 xk_bipush_66 ?_
  refine x_iload_n (pc := 2) B 0 dX0_messagePlace_2 rfl rfl ?_
  refine x_iadd (pc := 3) B dX0_messagePlace_3 ?_
  exact x_iret (pc := 4) B hR dX0_messagePlace_4 (xzI _) h
def fX0_answerPlace (i0 : Int32) (w : XW) : Option (Int32 × XW) :=
  some (((69 : Int32) + i0), w)
theorem np_X0_answerPlace : (parseMethodDescriptor yX0_answerPlace.desc).map (fun d => d.parameters.length) = some 1 := by decide +kernel
theorem hy_X0_answerPlace : yX0_answerPlace.cls ≠ "java/lang/invoke/MethodHandle" ∧ yX0_answerPlace.cls ≠ "java/lang/invoke/VarHandle" := ⟨by decide +kernel, by decide +kernel⟩
set_option maxRecDepth 20000 in
theorem eX0_answerPlace {cx : CX} {i0 : Int32} {w : XW} {R9 : (Int32 × XW)} (h : fX0_answerPlace i0 w = some R9) : Ct yX0_answerPlace cX0_answerPlace 1 (some .int) 0 0 cx [.int i0] w (some (.int R9.1)) R9.2 := by
  refine Ct_of (by decide +kernel) (Nat.le_of_ble_eq_true rfl) (fun K B hR => ?_)
  rw [fX0_answerPlace] at h
  show Wx K cx 1 w.length 0 [(0, .int i0)] [] w
  refine x_bipush (pc := 0) B dX0_answerPlace_0 xk_bipush_69 ?_
  refine x_iload_n (pc := 2) B 0 dX0_answerPlace_2 rfl rfl ?_
  refine x_iadd (pc := 3) B dX0_answerPlace_3 ?_
  exact x_iret (pc := 4) B hR dX0_answerPlace_4 (xzI _) h
def fX0_readFrom (a0 : Nat) (a1 : Nat) (i2 : Int32) (w : XW) : Option XW := if xis w a0 0 = true then
  if i2 < (0 : Int32) then
    some w
  else
  (xaL w a1).bind fun v1 =>
  if (v1 - (72 : Int32)) < i2 then
    some w
  else
  (xgR w a0 0 0).bind fun v2 =>
  (xcp w a1 i2 v2 (0 : Int32) (72 : Int32)).bind fun w3 =>
  (fX0_forgetPossible a0 w3).bind fun q4 =>
  some q4
  else none
theorem iX0_readFrom {a0 : Nat} {a1 : Nat} {i2 : Int32} {w : XW} {R9 : XW} (h : fX0_readFrom a0 a1 i2 w = some R9) : xis w a0 0 = true := by
  unfold fX0_readFrom at h
  rcases xite h with ⟨hc, h⟩ | ⟨hc, h⟩
  · exact hc
  · exact absurd h (by simp)
theorem np_X0_readFrom : (parseMethodDescriptor yX0_readFrom.desc).map (fun d => d.parameters.length) = some 2 := by decide +kernel
theorem hy_X0_readFrom : yX0_readFrom.cls ≠ "java/lang/invoke/MethodHandle" ∧ yX0_readFrom.cls ≠ "java/lang/invoke/VarHandle" := ⟨by decide +kernel, by decide +kernel⟩
set_option maxRecDepth 20000 in
theorem eX0_readFrom {cx : CX} {a0 : Nat} {a1 : Nat} {i2 : Int32} {w : XW} {R9 : XW} (h : fX0_readFrom a0 a1 i2 w = some R9) : Ct yX0_readFrom cX0_readFrom 3 none 2 43 cx [.ref a0, .ref a1, .int i2] w none R9 := by
  refine Ct_of (by decide +kernel) (Nat.le_of_ble_eq_true rfl) (fun K B hR => ?_)
  rw [fX0_readFrom] at h
  show Wx K cx 3 w.length 0 [(0, .ref a0), (1, .ref a1), (2, .int i2)] [] w
  rcases xite h with ⟨hc, h⟩ | ⟨hc, h⟩
  · skip
    refine x_iload_n (pc := 0) B 2 dX0_readFrom_0 rfl rfl ?_
    rcases xite h with ⟨hc, h⟩ | ⟨hc, h⟩
    · refine x_if_lt_t (tgt := 29) (pc := 1) B dX0_readFrom_1 (by decide) hc ?_
      exact x_vret (pc := 29) B hR dX0_readFrom_29 h
    · refine x_if_lt_f (pc := 1) B 29 dX0_readFrom_1 (by decide) hc ?_
      refine x_iload_n (pc := 4) B 2 dX0_readFrom_4 rfl rfl ?_
      refine x_aload_n (pc := 5) B 1 dX0_readFrom_5 rfl rfl ?_
      obtain ⟨v1, hv, h⟩ := xbind h
      refine x_alen (pc := 6) B dX0_readFrom_6 hv ?_
      refine x_bipush (pc := 7) B dX0_readFrom_7 xk_bipush_72 ?_
      refine x_isub (pc := 9) B dX0_readFrom_9 ?_
      rcases xite h with ⟨hc, h⟩ | ⟨hc, h⟩
      · refine x_icmp_gt_t (tgt := 29) (pc := 10) B dX0_readFrom_10 (by decide) hc ?_
        exact x_vret (pc := 29) B hR dX0_readFrom_29 h
      · refine x_icmp_gt_f (pc := 10) B 29 dX0_readFrom_10 (by decide) hc ?_
        refine x_aload_n (pc := 13) B 1 dX0_readFrom_13 rfl rfl ?_
        refine x_iload_n (pc := 14) B 2 dX0_readFrom_14 rfl rfl ?_
        refine x_aload_n (pc := 15) B 0 dX0_readFrom_15 rfl rfl ?_
        obtain ⟨v2, hv, h⟩ := xbind h
        refine x_getR (k0 := 0) (pc := 16) B dX0_readFrom_16 rfl xi_0 (by decide) ⟨rfl, rfl, rfl⟩ xt_86 hv ?_
        refine x_iconst (pc := 19) B dX0_readFrom_19 xk_iconst_0 ?_
        refine x_bipush (pc := 20) B dX0_readFrom_20 xk_bipush_72 ?_
        obtain ⟨w3, hv, h⟩ := xbind h
        refine x_copy (pc := 22) B dX0_readFrom_22 xt_167 (Nat.le_of_ble_eq_true rfl) (Nat.le_of_ble_eq_true rfl) hv ?_
        refine x_aload_n (pc := 25) B 0 dX0_readFrom_25 rfl rfl ?_
        obtain ⟨q4, hq, h⟩ := xbind h
        refine x_callV0 (st := []) (pc := 26) B dX0_readFrom_26 (eX0_forgetPossible hq) xt_176 xt_54 np_X0_forgetPossible hy_X0_forgetPossible (Nat.le_of_ble_eq_true rfl) (Nat.le_of_ble_eq_true rfl) (Nat.le_of_ble_eq_true rfl) xt_175 xt_2 xt_173 rfl (iX0_forgetPossible hq) rfl ?_
        exact x_vret (pc := 29) B hR dX0_readFrom_29 h
  · exact absurd h (by simp)
def fX0_copyFrom (a0 : Nat) (a1 : Nat) (w : XW) : Option XW := if xis w a0 0 = true then
  (xgR w a1 0 0).bind fun v1 =>
  (fX0_readFrom a0 v1 (0 : Int32) w).bind fun q2 =>
  some q2
  else none
theorem iX0_copyFrom {a0 : Nat} {a1 : Nat} {w : XW} {R9 : XW} (h : fX0_copyFrom a0 a1 w = some R9) : xis w a0 0 = true := by
  unfold fX0_copyFrom at h
  rcases xite h with ⟨hc, h⟩ | ⟨hc, h⟩
  · exact hc
  · exact absurd h (by simp)
theorem np_X0_copyFrom : (parseMethodDescriptor yX0_copyFrom.desc).map (fun d => d.parameters.length) = some 1 := by decide +kernel
theorem hy_X0_copyFrom : yX0_copyFrom.cls ≠ "java/lang/invoke/MethodHandle" ∧ yX0_copyFrom.cls ≠ "java/lang/invoke/VarHandle" := ⟨by decide +kernel, by decide +kernel⟩
set_option maxRecDepth 20000 in
theorem eX0_copyFrom {cx : CX} {a0 : Nat} {a1 : Nat} {w : XW} {R9 : XW} (h : fX0_copyFrom a0 a1 w = some R9) : Ct yX0_copyFrom cX0_copyFrom 2 none 3 65 cx [.ref a0, .ref a1] w none R9 := by
  refine Ct_of (by decide +kernel) (Nat.le_of_ble_eq_true rfl) (fun K B hR => ?_)
  rw [fX0_copyFrom] at h
  show Wx K cx 2 w.length 0 [(0, .ref a0), (1, .ref a1)] [] w
  rcases xite h with ⟨hc, h⟩ | ⟨hc, h⟩
  · skip
    refine x_aload_n (pc := 0) B 0 dX0_copyFrom_0 rfl rfl ?_
    refine x_aload_n (pc := 1) B 1 dX0_copyFrom_1 rfl rfl ?_
    obtain ⟨v1, hv, h⟩ := xbind h
    refine x_getR (k0 := 0) (pc := 2) B dX0_copyFrom_2 rfl xi_0 (by decide) ⟨rfl, rfl, rfl⟩ xt_86 hv ?_
    refine x_iconst (pc := 5) B dX0_copyFrom_5 xk_iconst_0 ?_
    obtain ⟨q2, hq, h⟩ := xbind h
    refine x_callV0 (st := []) (pc := 6) B dX0_copyFrom_6 (eX0_readFrom hq) xt_240 xt_54 np_X0_readFrom hy_X0_readFrom (Nat.le_of_ble_eq_true rfl) (Nat.le_of_ble_eq_true rfl) (Nat.le_of_ble_eq_true rfl) xt_238 xt_239 xt_237 rfl (iX0_readFrom hq) rfl ?_
    exact x_vret (pc := 9) B hR dX0_copyFrom_9 h
  · exact absurd h (by simp)
def fX0_takePlan_5 : Nat → Nat → Int32 → Int32 → XW → Option XW
  | 0, _, _, _, _ => none
  | g + 1, a0, i2, i3, w =>
    if i3 < (66 : Int32) then
      some w
    else
    (xgR w a0 0 0).bind fun v1 =>
    (xsI w v1 i3 (i2 - i2 / (3 : Int32) * (3 : Int32))).bind fun w2 =>
    fX0_takePlan_5 g a0 (i2 / (3 : Int32)) (i3 + (-1 : Int32)) w2
set_option maxRecDepth 20000 in
theorem pX0_takePlan_5 {K : KX} {cx : CX} {nn : Nat} {R9 : XW} (B : XB K cx RX0 cX0_takePlan 4 nn 0 0) (hR : XR K cx nn none none R9) : ∀ (g : Nat) (a0 : Nat) (i2 : Int32) (i3 : Int32) (w : XW), fX0_takePlan_5 g a0 i2 i3 w = some R9 → Wx K cx 4 nn 5 [(0, .ref a0), (2, .int i2), (3, .int i3)] [] w := by
  intro g
  induction g with
  | zero =>
    intro a0 i2 i3 w h
    exact absurd (show (none : Option XW) = some R9 from h) (by simp)
  | succ g ih =>
    intro a0 i2 i3 w h
    rw [fX0_takePlan_5] at h
    refine x_iload_n (pc := 5) B 2 dX0_takePlan_5 rfl rfl ?_
    refine x_bipush (pc := 6) B dX0_takePlan_6 xk_bipush_66 ?_
    rcases xite h with ⟨hc, h⟩ | ⟨hc, h⟩
    · refine x_icmp_lt_t (tgt := 30) (pc := 8) B dX0_takePlan_8 (by decide) hc ?_
      exact x_vret (pc := 30) B hR dX0_takePlan_30 h
    · refine x_icmp_lt_f (pc := 8) B 30 dX0_takePlan_8 (by decide) hc ?_
      refine x_aload_n (pc := 11) B 0 dX0_takePlan_11 rfl rfl ?_
      obtain ⟨v1, hv, h⟩ := xbind h
      refine x_getR (k0 := 0) (pc := 12) B dX0_takePlan_12 rfl xi_0 (by decide) ⟨rfl, rfl, rfl⟩ xt_86 hv ?_
      refine x_iload_n (pc := 15) B 2 dX0_takePlan_15 rfl rfl ?_
      refine x_iload_n (pc := 16) B 1 dX0_takePlan_16 rfl rfl ?_
      refine x_iconst (pc := 17) B dX0_takePlan_17 xk_iconst_3 ?_
      refine x_irem (pc := 18) B dX0_takePlan_18 (by decide) ?_
      obtain ⟨w2, hv, h⟩ := xbind h
      refine x_iast (pc := 19) B dX0_takePlan_19 hv ?_
      refine x_iload_n (pc := 20) B 1 dX0_takePlan_20 rfl rfl ?_
      refine x_iconst (pc := 21) B dX0_takePlan_21 xk_iconst_3 ?_
      refine x_idiv (pc := 22) B dX0_takePlan_22 (by decide) ?_
      refine x_istore_n (L1 := [(2, .int (i2 / (3 : Int32))), (0, .ref a0), (3, .int i3)]) (pc := 23) B dX0_takePlan_23 rfl (by decide) rfl ?_
      refine x_iinc (L1 := [(3, .int (i3 + (-1 : Int32))), (2, .int (i2 / (3 : Int32))), (0, .ref a0)]) (pc := 24) B 2 dX0_takePlan_24 rfl (congrArg _ xk_iconst_m1) (by decide) rfl ?_
      refine x_goto (tgt := 5) (pc := 27) B dX0_takePlan_27 (by decide) ?_
      refine x_sub (L1 := [(0, .ref a0), (2, .int (i2 / (3 : Int32))), (3, .int (i3 + (-1 : Int32)))]) [2, 1, 0] rfl ?_
      exact ih a0 (i2 / (3 : Int32)) (i3 + (-1 : Int32)) w2 h
def fX0_takePlan (a0 : Nat) (i1 : Int32) (w : XW) : Option XW := if xis w a0 0 = true then
  fX0_takePlan_5 1000 a0 i1 (71 : Int32) w
  else none
theorem iX0_takePlan {a0 : Nat} {i1 : Int32} {w : XW} {R9 : XW} (h : fX0_takePlan a0 i1 w = some R9) : xis w a0 0 = true := by
  unfold fX0_takePlan at h
  rcases xite h with ⟨hc, h⟩ | ⟨hc, h⟩
  · exact hc
  · exact absurd h (by simp)
theorem np_X0_takePlan : (parseMethodDescriptor yX0_takePlan.desc).map (fun d => d.parameters.length) = some 1 := by decide +kernel
theorem hy_X0_takePlan : yX0_takePlan.cls ≠ "java/lang/invoke/MethodHandle" ∧ yX0_takePlan.cls ≠ "java/lang/invoke/VarHandle" := ⟨by decide +kernel, by decide +kernel⟩
set_option maxRecDepth 20000 in
theorem eX0_takePlan {cx : CX} {a0 : Nat} {i1 : Int32} {w : XW} {R9 : XW} (h : fX0_takePlan a0 i1 w = some R9) : Ct yX0_takePlan cX0_takePlan 4 none 0 0 cx [.ref a0, .int i1] w none R9 := by
  refine Ct_of (by decide +kernel) (Nat.le_of_ble_eq_true rfl) (fun K B hR => ?_)
  rw [fX0_takePlan] at h
  show Wx K cx 4 w.length 0 [(0, .ref a0), (1, .int i1)] [] w
  rcases xite h with ⟨hc, h⟩ | ⟨hc, h⟩
  · skip
    refine x_iload_n (pc := 0) B 1 dX0_takePlan_0 rfl rfl ?_
    refine x_istore_n (L1 := [(2, .int i1), (0, .ref a0), (1, .int i1)]) (pc := 1) B dX0_takePlan_1 rfl (by decide) rfl ?_
    refine x_bipush (pc := 2) B dX0_takePlan_2 xk_bipush_71 ?_
    refine x_istore_n (L1 := [(3, .int (71 : Int32)), (2, .int i1), (0, .ref a0), (1, .int i1)]) (pc := 4) B dX0_takePlan_4 rfl (by decide) rfl ?_
    refine x_sub (L1 := [(0, .ref a0), (2, .int i1), (3, .int (71 : Int32))]) [2, 1, 0] rfl ?_
    exact pX0_takePlan_5 B hR 1000 a0 i1 (71 : Int32) w h
  · exact absurd h (by simp)
def fX0_sendersOf_4 : Nat → Nat → Int32 → Int32 → Int32 → XW → Option (Int32 × XW)
  | 0, _, _, _, _, _ => none
  | g + 1, a0, i1, i2, i3, w =>
    if (3 : Int32) ≤ i3 then
      some (i2, w)
    else
    (fX0_weightPlace i3 w).bind fun q1 =>
    (fX0_cell a0 q1.1 q1.2).bind fun q2 =>
    if q2.1 ≤ (0 : Int32) then
      fX0_sendersOf_4 g a0 i1 i2 (i3 + (1 : Int32)) q2.2
    else
    (fX0_messagePlace i3 q2.2).bind fun q3 =>
    (fX0_cell a0 q3.1 q3.2).bind fun q4 =>
    if q4.1 = i1 then
      fX0_sendersOf_4 g a0 i1 (i2 ||| ((1 : Int32) <<< (i3 &&& 31))) (i3 + (1 : Int32)) q4.2
    else
    fX0_sendersOf_4 g a0 i1 i2 (i3 + (1 : Int32)) q4.2
set_option maxRecDepth 20000 in
theorem pX0_sendersOf_4 {K : KX} {cx : CX} {nn : Nat} {R9 : Int32 × XW} (B : XB K cx RX0 cX0_sendersOf 4 nn 1 21) (hR : XR K cx nn (some .int) (some (.int R9.1)) R9.2) : ∀ (g : Nat) (a0 : Nat) (i1 : Int32) (i2 : Int32) (i3 : Int32) (w : XW), fX0_sendersOf_4 g a0 i1 i2 i3 w = some R9 → Wx K cx 4 nn 4 [(0, .ref a0), (1, .int i1), (2, .int i2), (3, .int i3)] [] w := by
  intro g
  induction g with
  | zero =>
    intro a0 i1 i2 i3 w h
    exact absurd (show (none : Option (Int32 × XW)) = some R9 from h) (by simp)
  | succ g ih =>
    intro a0 i1 i2 i3 w h
    rw [fX0_sendersOf_4] at h
    refine x_iload_n (pc := 4) B 3 dX0_sendersOf_4 rfl rfl ?_
    refine x_iconst (pc := 5) B dX0_sendersOf_5 xk_iconst_3 ?_
    rcases xite h with ⟨hc, h⟩ | ⟨hc, h⟩
    · refine x_icmp_ge_t (tgt := 44) (pc := 6) B dX0_sendersOf_6 (by decide) hc ?_
      refine x_iload_n (pc := 44) B 2 dX0_sendersOf_44 rfl rfl ?_
      exact x_iret (pc := 45) B hR dX0_sendersOf_45 (xzI _) h
    · refine x_icmp_ge_f (pc := 6) B 44 dX0_sendersOf_6 (by decide) hc ?_
      refine x_aload_n (pc := 9) B 0 dX0_sendersOf_9 rfl rfl ?_
      refine x_iload_n (pc := 10) B 3 dX0_sendersOf_10 rfl rfl ?_
      obtain ⟨q1, hq, h⟩ := xbind h
      refine x_callS1 (st := [.ref a0]) (pc := 11) B dX0_sendersOf_11 (eX0_weightPlace hq) xt_149 xt_54 np_X0_weightPlace hy_X0_weightPlace (Nat.le_of_ble_eq_true rfl) (Nat.le_of_ble_eq_true rfl) (Nat.le_of_ble_eq_true rfl) xt_148 xt_147 rfl ?_
      obtain ⟨q2, hq, h⟩ := xbind h
      refine x_callV1 (st := []) (pc := 14) B dX0_sendersOf_14 (eX0_cell hq) xt_153 xt_54 np_X0_cell hy_X0_cell (Nat.le_of_ble_eq_true rfl) (Nat.le_of_ble_eq_true rfl) (Nat.le_of_ble_eq_true rfl) xt_151 xt_152 xt_150 rfl (iX0_cell hq) rfl ?_
      rcases xite h with ⟨hc, h⟩ | ⟨hc, h⟩
      · refine x_if_le_t (tgt := 38) (pc := 17) B dX0_sendersOf_17 (by decide) hc ?_
        refine x_iinc (L1 := [(3, .int (i3 + (1 : Int32))), (0, .ref a0), (1, .int i1), (2, .int i2)]) (pc := 38) B 3 dX0_sendersOf_38 rfl (congrArg _ xk_iconst_1) (by decide) rfl ?_
        refine x_goto (tgt := 4) (pc := 41) B dX0_sendersOf_41 (by decide) ?_
        refine x_sub (L1 := [(0, .ref a0), (1, .int i1), (2, .int i2), (3, .int (i3 + (1 : Int32)))]) [1, 2, 3, 0] rfl ?_
        exact ih a0 i1 i2 (i3 + (1 : Int32)) q2.2 h
      · refine x_if_le_f (pc := 17) B 38 dX0_sendersOf_17 (by decide) hc ?_
        refine x_aload_n (pc := 20) B 0 dX0_sendersOf_20 rfl rfl ?_
        refine x_iload_n (pc := 21) B 3 dX0_sendersOf_21 rfl rfl ?_
        obtain ⟨q3, hq, h⟩ := xbind h
        refine x_callS1 (st := [.ref a0]) (pc := 22) B dX0_sendersOf_22 (eX0_messagePlace hq) xt_209 xt_54 np_X0_messagePlace hy_X0_messagePlace (Nat.le_of_ble_eq_true rfl) (Nat.le_of_ble_eq_true rfl) (Nat.le_of_ble_eq_true rfl) xt_208 xt_262 rfl ?_
        obtain ⟨q4, hq, h⟩ := xbind h
        refine x_callV1 (st := []) (pc := 25) B dX0_sendersOf_25 (eX0_cell hq) xt_153 xt_54 np_X0_cell hy_X0_cell (Nat.le_of_ble_eq_true rfl) (Nat.le_of_ble_eq_true rfl) (Nat.le_of_ble_eq_true rfl) xt_151 xt_152 xt_150 rfl (iX0_cell hq) rfl ?_
        refine x_iload_n (pc := 28) B 1 dX0_sendersOf_28 rfl rfl ?_
        rcases xite h with ⟨hc, h⟩ | ⟨hc, h⟩
        · refine x_icmp_ne_f (pc := 29) B 38 dX0_sendersOf_29 (by decide) hc ?_
          refine x_iload_n (pc := 32) B 2 dX0_sendersOf_32 rfl rfl ?_
          refine x_iconst (pc := 33) B dX0_sendersOf_33 xk_iconst_1 ?_
          refine x_iload_n (pc := 34) B 3 dX0_sendersOf_34 rfl rfl ?_
          refine x_ishl (pc := 35) B dX0_sendersOf_35 ?_
          refine x_ior (pc := 36) B dX0_sendersOf_36 ?_
          refine x_istore_n (L1 := [(2, .int (i2 ||| ((1 : Int32) <<< (i3 &&& 31)))), (0, .ref a0), (1, .int i1), (3, .int i3)]) (pc := 37) B dX0_sendersOf_37 rfl (by decide) rfl ?_
          refine x_iinc (L1 := [(3, .int (i3 + (1 : Int32))), (2, .int (i2 ||| ((1 : Int32) <<< (i3 &&& 31)))), (0, .ref a0), (1, .int i1)]) (pc := 38) B 3 dX0_sendersOf_38 rfl (congrArg _ xk_iconst_1) (by decide) rfl ?_
          refine x_goto (tgt := 4) (pc := 41) B dX0_sendersOf_41 (by decide) ?_
          refine x_sub (L1 := [(0, .ref a0), (1, .int i1), (2, .int (i2 ||| ((1 : Int32) <<< (i3 &&& 31)))), (3, .int (i3 + (1 : Int32)))]) [2, 3, 1, 0] rfl ?_
          exact ih a0 i1 (i2 ||| ((1 : Int32) <<< (i3 &&& 31))) (i3 + (1 : Int32)) q4.2 h
        · refine x_icmp_ne_t (tgt := 38) (pc := 29) B dX0_sendersOf_29 (by decide) hc ?_
          refine x_iinc (L1 := [(3, .int (i3 + (1 : Int32))), (0, .ref a0), (1, .int i1), (2, .int i2)]) (pc := 38) B 3 dX0_sendersOf_38 rfl (congrArg _ xk_iconst_1) (by decide) rfl ?_
          refine x_goto (tgt := 4) (pc := 41) B dX0_sendersOf_41 (by decide) ?_
          refine x_sub (L1 := [(0, .ref a0), (1, .int i1), (2, .int i2), (3, .int (i3 + (1 : Int32)))]) [1, 2, 3, 0] rfl ?_
          exact ih a0 i1 i2 (i3 + (1 : Int32)) q4.2 h
def fX0_sendersOf (a0 : Nat) (i1 : Int32) (w : XW) : Option (Int32 × XW) := if xis w a0 0 = true then
  fX0_sendersOf_4 1000 a0 i1 (0 : Int32) (0 : Int32) w
  else none
theorem iX0_sendersOf {a0 : Nat} {i1 : Int32} {w : XW} {R9 : (Int32 × XW)} (h : fX0_sendersOf a0 i1 w = some R9) : xis w a0 0 = true := by
  unfold fX0_sendersOf at h
  rcases xite h with ⟨hc, h⟩ | ⟨hc, h⟩
  · exact hc
  · exact absurd h (by simp)
theorem np_X0_sendersOf : (parseMethodDescriptor yX0_sendersOf.desc).map (fun d => d.parameters.length) = some 1 := by decide +kernel
theorem hy_X0_sendersOf : yX0_sendersOf.cls ≠ "java/lang/invoke/MethodHandle" ∧ yX0_sendersOf.cls ≠ "java/lang/invoke/VarHandle" := ⟨by decide +kernel, by decide +kernel⟩
set_option maxRecDepth 20000 in
theorem eX0_sendersOf {cx : CX} {a0 : Nat} {i1 : Int32} {w : XW} {R9 : (Int32 × XW)} (h : fX0_sendersOf a0 i1 w = some R9) : Ct yX0_sendersOf cX0_sendersOf 4 (some .int) 1 21 cx [.ref a0, .int i1] w (some (.int R9.1)) R9.2 := by
  refine Ct_of (by decide +kernel) (Nat.le_of_ble_eq_true rfl) (fun K B hR => ?_)
  rw [fX0_sendersOf] at h
  show Wx K cx 4 w.length 0 [(0, .ref a0), (1, .int i1)] [] w
  rcases xite h with ⟨hc, h⟩ | ⟨hc, h⟩
  · skip
    refine x_iconst (pc := 0) B dX0_sendersOf_0 xk_iconst_0 ?_
    refine x_istore_n (L1 := [(2, .int (0 : Int32)), (0, .ref a0), (1, .int i1)]) (pc := 1) B dX0_sendersOf_1 rfl (by decide) rfl ?_
    refine x_iconst (pc := 2) B dX0_sendersOf_2 xk_iconst_0 ?_
    refine x_istore_n (L1 := [(3, .int (0 : Int32)), (2, .int (0 : Int32)), (0, .ref a0), (1, .int i1)]) (pc := 3) B dX0_sendersOf_3 rfl (by decide) rfl ?_
    refine x_sub (L1 := [(0, .ref a0), (1, .int i1), (2, .int (0 : Int32)), (3, .int (0 : Int32))]) [2, 3, 1, 0] rfl ?_
    exact pX0_sendersOf_4 B hR 1000 a0 i1 (0 : Int32) (0 : Int32) w h
  · exact absurd h (by simp)
def fX0_beliefWeight (a0 : Nat) (i1 : Int32) (i2 : Int32) (w : XW) : Option (Int32 × XW) := if xis w a0 0 = true then
  (fX0_sendersOf a0 i1 w).bind fun q1 =>
  if q1.1 = (0 : Int32) then
    (fX0_toldPlace i1 i2 q1.2).bind fun q2 =>
    (fX0_cell a0 q2.1 q2.2).bind fun q3 =>
    some (q3.1, q3.2)
  else
  (fX3_has q1.1 i2 q1.2).bind fun q4 =>
  if q4.1 = (0 : Int32) then
    some ((0 : Int32), q4.2)
  else
  (fX0_weightPlace i2 q4.2).bind fun q5 =>
  (fX0_cell a0 q5.1 q5.2).bind fun q6 =>
  some (q6.1, q6.2)
  else none
theorem iX0_beliefWeight {a0 : Nat} {i1 : Int32} {i2 : Int32} {w : XW} {R9 : (Int32 × XW)} (h : fX0_beliefWeight a0 i1 i2 w = some R9) : xis w a0 0 = true := by
  unfold fX0_beliefWeight at h
  rcases xite h with ⟨hc, h⟩ | ⟨hc, h⟩
  · exact hc
  · exact absurd h (by simp)
theorem np_X0_beliefWeight : (parseMethodDescriptor yX0_beliefWeight.desc).map (fun d => d.parameters.length) = some 2 := by decide +kernel
theorem hy_X0_beliefWeight : yX0_beliefWeight.cls ≠ "java/lang/invoke/MethodHandle" ∧ yX0_beliefWeight.cls ≠ "java/lang/invoke/VarHandle" := ⟨by decide +kernel, by decide +kernel⟩
set_option maxRecDepth 20000 in
theorem eX0_beliefWeight {cx : CX} {a0 : Nat} {i1 : Int32} {i2 : Int32} {w : XW} {R9 : (Int32 × XW)} (h : fX0_beliefWeight a0 i1 i2 w = some R9) : Ct yX0_beliefWeight cX0_beliefWeight 4 (some .int) 2 44 cx [.ref a0, .int i1, .int i2] w (some (.int R9.1)) R9.2 := by
  refine Ct_of (by decide +kernel) (Nat.le_of_ble_eq_true rfl) (fun K B hR => ?_)
  rw [fX0_beliefWeight] at h
  show Wx K cx 4 w.length 0 [(0, .ref a0), (1, .int i1), (2, .int i2)] [] w
  rcases xite h with ⟨hc, h⟩ | ⟨hc, h⟩
  · skip
    refine x_aload_n (pc := 0) B 0 dX0_beliefWeight_0 rfl rfl ?_
    refine x_iload_n (pc := 1) B 1 dX0_beliefWeight_1 rfl rfl ?_
    obtain ⟨q1, hq, h⟩ := xbind h
    refine x_callV1 (st := []) (pc := 2) B dX0_beliefWeight_2 (eX0_sendersOf hq) xt_261 xt_54 np_X0_sendersOf hy_X0_sendersOf (Nat.le_of_ble_eq_true rfl) (Nat.le_of_ble_eq_true rfl) (Nat.le_of_ble_eq_true rfl) xt_259 xt_260 xt_258 rfl (iX0_sendersOf hq) rfl ?_
    refine x_istore_n (L1 := [(3, .int q1.1), (0, .ref a0), (1, .int i1), (2, .int i2)]) (pc := 5) B dX0_beliefWeight_5 rfl (by decide) rfl ?_
    refine x_iload_n (pc := 6) B 0 dX0_beliefWeight_6 rfl rfl ?_
    rcases xite h with ⟨hc, h⟩ | ⟨hc, h⟩
    · refine x_if_ne_f (pc := 7) B 20 dX0_beliefWeight_7 (by decide) hc ?_
      refine x_aload_n (pc := 10) B 1 dX0_beliefWeight_10 rfl rfl ?_
      refine x_iload_n (pc := 11) B 2 dX0_beliefWeight_11 rfl rfl ?_
      refine x_iload_n (pc := 12) B 3 dX0_beliefWeight_12 rfl rfl ?_
      obtain ⟨q2, hq, h⟩ := xbind h
      refine x_callS1 (st := [.ref a0]) (pc := 13) B dX0_beliefWeight_13 (eX0_toldPlace hq) xt_201 xt_54 np_X0_toldPlace hy_X0_toldPlace (Nat.le_of_ble_eq_true rfl) (Nat.le_of_ble_eq_true rfl) (Nat.le_of_ble_eq_true rfl) xt_200 xt_199 rfl ?_
      obtain ⟨q3, hq, h⟩ := xbind h
      refine x_callV1 (st := []) (pc := 16) B dX0_beliefWeight_16 (eX0_cell hq) xt_153 xt_54 np_X0_cell hy_X0_cell (Nat.le_of_ble_eq_true rfl) (Nat.le_of_ble_eq_true rfl) (Nat.le_of_ble_eq_true rfl) xt_151 xt_152 xt_150 rfl (iX0_cell hq) rfl ?_
      exact x_iret (pc := 19) B hR dX0_beliefWeight_19 (xzI _) h
    · refine x_if_ne_t (tgt := 20) (pc := 7) B dX0_beliefWeight_7 (by decide) hc ?_
      refine x_iload_n (pc := 20) B 0 dX0_beliefWeight_20 rfl rfl ?_
      refine x_iload_n (pc := 21) B 3 dX0_beliefWeight_21 rfl rfl ?_
      obtain ⟨q4, hq, h⟩ := xbind h
      refine x_callSN1 (st := []) (pc := 22) B dX0_beliefWeight_22 (eX3_has hq) xt_265 xt_53 np_X3_has hy_X3_has (Nat.le_of_ble_eq_true rfl) (Nat.le_of_ble_eq_true rfl) (Nat.le_of_ble_eq_true rfl) xt_264 (List.mem_of_getElem? (i := 1) rfl) rfl ?_
      rcases xite h with ⟨hc, h⟩ | ⟨hc, h⟩
      · refine x_if_eq_t (tgt := 39) (pc := 25) B dX0_beliefWeight_25 (by decide) hc ?_
        refine x_iconst (pc := 39) B dX0_beliefWeight_39 xk_iconst_0 ?_
        exact x_iret (pc := 40) B hR dX0_beliefWeight_40 (xzI _) h
      · refine x_if_eq_f (pc := 25) B 39 dX0_beliefWeight_25 (by decide) hc ?_
        refine x_aload_n (pc := 28) B 1 dX0_beliefWeight_28 rfl rfl ?_
        refine x_iload_n (pc := 29) B 3 dX0_beliefWeight_29 rfl rfl ?_
        obtain ⟨q5, hq, h⟩ := xbind h
        refine x_callS1 (st := [.ref a0]) (pc := 30) B dX0_beliefWeight_30 (eX0_weightPlace hq) xt_149 xt_54 np_X0_weightPlace hy_X0_weightPlace (Nat.le_of_ble_eq_true rfl) (Nat.le_of_ble_eq_true rfl) (Nat.le_of_ble_eq_true rfl) xt_148 xt_147 rfl ?_
        obtain ⟨q6, hq, h⟩ := xbind h
        refine x_callV1 (st := []) (pc := 33) B dX0_beliefWeight_33 (eX0_cell hq) xt_153 xt_54 np_X0_cell hy_X0_cell (Nat.le_of_ble_eq_true rfl) (Nat.le_of_ble_eq_true rfl) (Nat.le_of_ble_eq_true rfl) xt_151 xt_152 xt_150 rfl (iX0_cell hq) rfl ?_
        refine x_goto (tgt := 40) (pc := 36) B dX0_beliefWeight_36 (by decide) ?_
        exact x_iret (pc := 40) B hR dX0_beliefWeight_40 (xzI _) h
  · exact absurd h (by simp)
def fX0_worthBy (a0 : Nat) (i1 : Int32) (i2 : Int32) (i3 : Int32) (i4 : Int32) (i5 : Int32) (w : XW) : Option (Int32 × XW) := if xis w a0 0 = true then
  (fX0_payPlace (1 : Int32) (0 : Int32) i1 i2 w).bind fun q1 =>
  (fX0_cell a0 q1.1 q1.2).bind fun q2 =>
  (fX0_payPlace (1 : Int32) (1 : Int32) i1 i2 q2.2).bind fun q3 =>
  (fX0_cell a0 q3.1 q3.2).bind fun q4 =>
  (fX0_payPlace (1 : Int32) (2 : Int32) i1 i2 q4.2).bind fun q5 =>
  (fX0_cell a0 q5.1 q5.2).bind fun q6 =>
  some ((((i3 * q2.1) + (i4 * q4.1)) + (i5 * q6.1)), q6.2)
  else none
theorem iX0_worthBy {a0 : Nat} {i1 : Int32} {i2 : Int32} {i3 : Int32} {i4 : Int32} {i5 : Int32} {w : XW} {R9 : (Int32 × XW)} (h : fX0_worthBy a0 i1 i2 i3 i4 i5 w = some R9) : xis w a0 0 = true := by
  unfold fX0_worthBy at h
  rcases xite h with ⟨hc, h⟩ | ⟨hc, h⟩
  · exact hc
  · exact absurd h (by simp)
theorem np_X0_worthBy : (parseMethodDescriptor yX0_worthBy.desc).map (fun d => d.parameters.length) = some 5 := by decide +kernel
theorem hy_X0_worthBy : yX0_worthBy.cls ≠ "java/lang/invoke/MethodHandle" ∧ yX0_worthBy.cls ≠ "java/lang/invoke/VarHandle" := ⟨by decide +kernel, by decide +kernel⟩
set_option maxRecDepth 20000 in
theorem eX0_worthBy {cx : CX} {a0 : Nat} {i1 : Int32} {i2 : Int32} {i3 : Int32} {i4 : Int32} {i5 : Int32} {w : XW} {R9 : (Int32 × XW)} (h : fX0_worthBy a0 i1 i2 i3 i4 i5 w = some R9) : Ct yX0_worthBy cX0_worthBy 6 (some .int) 1 23 cx [.ref a0, .int i1, .int i2, .int i3, .int i4, .int i5] w (some (.int R9.1)) R9.2 := by
  refine Ct_of (by decide +kernel) (Nat.le_of_ble_eq_true rfl) (fun K B hR => ?_)
  rw [fX0_worthBy] at h
  show Wx K cx 6 w.length 0 [(0, .ref a0), (1, .int i1), (2, .int i2), (3, .int i3), (4, .int i4), (5, .int i5)] [] w
  rcases xite h with ⟨hc, h⟩ | ⟨hc, h⟩
  · skip
    refine x_iload_n (pc := 0) B 3 dX0_worthBy_0 rfl rfl ?_
    refine x_aload_n (pc := 1) B 0 dX0_worthBy_1 rfl rfl ?_
    refine x_iconst (pc := 2) B dX0_worthBy_2 xk_iconst_1 ?_
    refine x_iconst (pc := 3) B dX0_worthBy_3 xk_iconst_0 ?_
    refine x_iload_n (pc := 4) B 1 dX0_worthBy_4 rfl rfl ?_
    refine x_iload_n (pc := 5) B 2 dX0_worthBy_5 rfl rfl ?_
    obtain ⟨q1, hq, h⟩ := xbind h
    refine x_callS1 (st := [.ref a0, .int i3]) (pc := 6) B dX0_worthBy_6 (eX0_payPlace hq) xt_186 xt_54 np_X0_payPlace hy_X0_payPlace (Nat.le_of_ble_eq_true rfl) (Nat.le_of_ble_eq_true rfl) (Nat.le_of_ble_eq_true rfl) xt_185 xt_274 rfl ?_
    obtain ⟨q2, hq, h⟩ := xbind h
    refine x_callV1 (st := [.int i3]) (pc := 9) B dX0_worthBy_9 (eX0_cell hq) xt_153 xt_54 np_X0_cell hy_X0_cell (Nat.le_of_ble_eq_true rfl) (Nat.le_of_ble_eq_true rfl) (Nat.le_of_ble_eq_true rfl) xt_151 xt_152 xt_150 rfl (iX0_cell hq) rfl ?_
    refine x_imul (pc := 12) B dX0_worthBy_12 ?_
    refine x_iload (pc := 13) B 4 dX0_worthBy_13 rfl ?_
    refine x_aload_n (pc := 15) B 0 dX0_worthBy_15 rfl rfl ?_
    refine x_iconst (pc := 16) B dX0_worthBy_16 xk_iconst_1 ?_
    refine x_iconst (pc := 17) B dX0_worthBy_17 xk_iconst_1 ?_
    refine x_iload_n (pc := 18) B 1 dX0_worthBy_18 rfl rfl ?_
    refine x_iload_n (pc := 19) B 2 dX0_worthBy_19 rfl rfl ?_
    obtain ⟨q3, hq, h⟩ := xbind h
    refine x_callS1 (st := [.ref a0, .int i4, .int (i3 * q2.1)]) (pc := 20) B dX0_worthBy_20 (eX0_payPlace hq) xt_186 xt_54 np_X0_payPlace hy_X0_payPlace (Nat.le_of_ble_eq_true rfl) (Nat.le_of_ble_eq_true rfl) (Nat.le_of_ble_eq_true rfl) xt_185 xt_274 rfl ?_
    obtain ⟨q4, hq, h⟩ := xbind h
    refine x_callV1 (st := [.int i4, .int (i3 * q2.1)]) (pc := 23) B dX0_worthBy_23 (eX0_cell hq) xt_153 xt_54 np_X0_cell hy_X0_cell (Nat.le_of_ble_eq_true rfl) (Nat.le_of_ble_eq_true rfl) (Nat.le_of_ble_eq_true rfl) xt_151 xt_152 xt_150 rfl (iX0_cell hq) rfl ?_
    refine x_imul (pc := 26) B dX0_worthBy_26 ?_
    refine x_iadd (pc := 27) B dX0_worthBy_27 ?_
    refine x_iload (pc := 28) B 5 dX0_worthBy_28 rfl ?_
    refine x_aload_n (pc := 30) B 0 dX0_worthBy_30 rfl rfl ?_
    refine x_iconst (pc := 31) B dX0_worthBy_31 xk_iconst_1 ?_
    refine x_iconst (pc := 32) B dX0_worthBy_32 xk_iconst_2 ?_
    refine x_iload_n (pc := 33) B 1 dX0_worthBy_33 rfl rfl ?_
    refine x_iload_n (pc := 34) B 2 dX0_worthBy_34 rfl rfl ?_
    obtain ⟨q5, hq, h⟩ := xbind h
    refine x_callS1 (st := [.ref a0, .int i5, .int ((i3 * q2.1) + (i4 * q4.1))]) (pc := 35) B dX0_worthBy_35 (eX0_payPlace hq) xt_186 xt_54 np_X0_payPlace hy_X0_payPlace (Nat.le_of_ble_eq_true rfl) (Nat.le_of_ble_eq_true rfl) (Nat.le_of_ble_eq_true rfl) xt_185 xt_274 rfl ?_
    obtain ⟨q6, hq, h⟩ := xbind h
    refine x_callV1 (st := [.int i5, .int ((i3 * q2.1) + (i4 * q4.1))]) (pc := 38) B dX0_worthBy_38 (eX0_cell hq) xt_153 xt_54 np_X0_cell hy_X0_cell (Nat.le_of_ble_eq_true rfl) (Nat.le_of_ble_eq_true rfl) (Nat.le_of_ble_eq_true rfl) xt_151 xt_152 xt_150 rfl (iX0_cell hq) rfl ?_
    refine x_imul (pc := 41) B dX0_worthBy_41 ?_
    refine x_iadd (pc := 42) B dX0_worthBy_42 ?_
    exact x_iret (pc := 43) B hR dX0_worthBy_43 (xzI _) h
  · exact absurd h (by simp)
def fX0_bestBy_9 : Nat → Nat → Int32 → Int32 → Int32 → Int32 → Int32 → Int32 → Int32 → XW → Option (Int32 × XW)
  | 0, _, _, _, _, _, _, _, _, _ => none
  | g + 1, a0, i1, i2, i3, i4, i5, i6, i7, w =>
    if (3 : Int32) ≤ i7 then
      some (i5, w)
    else
    (fX0_worthBy a0 i1 i7 i2 i3 i4 w).bind fun q1 =>
    if i5 = (0 : Int32) then
      fX0_bestBy_9 g a0 i1 i2 i3 i4 ((1 : Int32) <<< (i7 &&& 31)) q1.1 (i7 + (1 : Int32)) q1.2
    else
    if q1.1 ≤ i6 then
      if q1.1 = i6 then
        fX0_bestBy_9 g a0 i1 i2 i3 i4 (i5 ||| ((1 : Int32) <<< (i7 &&& 31))) i6 (i7 + (1 : Int32)) q1.2
      else
      fX0_bestBy_9 g a0 i1 i2 i3 i4 i5 i6 (i7 + (1 : Int32)) q1.2
    else
    fX0_bestBy_9 g a0 i1 i2 i3 i4 ((1 : Int32) <<< (i7 &&& 31)) q1.1 (i7 + (1 : Int32)) q1.2
set_option maxRecDepth 20000 in
theorem pX0_bestBy_9 {K : KX} {cx : CX} {nn : Nat} {R9 : Int32 × XW} (B : XB K cx RX0 cX0_bestBy 9 nn 2 48) (hR : XR K cx nn (some .int) (some (.int R9.1)) R9.2) : ∀ (g : Nat) (a0 : Nat) (i1 : Int32) (i2 : Int32) (i3 : Int32) (i4 : Int32) (i5 : Int32) (i6 : Int32) (i7 : Int32) (w : XW), fX0_bestBy_9 g a0 i1 i2 i3 i4 i5 i6 i7 w = some R9 → Wx K cx 9 nn 9 [(0, .ref a0), (1, .int i1), (2, .int i2), (3, .int i3), (4, .int i4), (5, .int i5), (6, .int i6), (7, .int i7)] [] w := by
  intro g
  induction g with
  | zero =>
    intro a0 i1 i2 i3 i4 i5 i6 i7 w h
    exact absurd (show (none : Option (Int32 × XW)) = some R9 from h) (by simp)
  | succ g ih =>
    intro a0 i1 i2 i3 i4 i5 i6 i7 w h
    rw [fX0_bestBy_9] at h
    refine x_iload (pc := 9) B 7 dX0_bestBy_9 rfl ?_
    refine x_iconst (pc := 11) B dX0_bestBy_11 xk_iconst_3 ?_
    rcases xite h with ⟨hc, h⟩ | ⟨hc, h⟩
    · refine x_icmp_ge_t (tgt := 75) (pc := 12) B dX0_bestBy_12 (by decide) hc ?_
      refine x_iload (pc := 75) B 5 dX0_bestBy_75 rfl ?_
      exact x_iret (pc := 77) B hR dX0_bestBy_77 (xzI _) h
    · refine x_icmp_ge_f (pc := 12) B 75 dX0_bestBy_12 (by decide) hc ?_
      refine x_aload_n (pc := 15) B 0 dX0_bestBy_15 rfl rfl ?_
      refine x_iload_n (pc := 16) B 1 dX0_bestBy_16 rfl rfl ?_
      refine x_iload (pc := 17) B 7 dX0_bestBy_17 rfl ?_
      refine x_iload_n (pc := 19) B 2 dX0_bestBy_19 rfl rfl ?_
      refine x_iload_n (pc := 20) B 3 dX0_bestBy_20 rfl rfl ?_
      refine x_iload (pc := 21) B 4 dX0_bestBy_21 rfl ?_
      obtain ⟨q1, hq, h⟩ := xbind h
      refine x_callV1 (st := []) (pc := 23) B dX0_bestBy_23 (eX0_worthBy hq) xt_273 xt_54 np_X0_worthBy hy_X0_worthBy (Nat.le_of_ble_eq_true rfl) (Nat.le_of_ble_eq_true rfl) (Nat.le_of_ble_eq_true rfl) xt_272 xt_7 xt_270 rfl (iX0_worthBy hq) rfl ?_
      refine x_istore (L1 := [(8, .int q1.1), (0, .ref a0), (1, .int i1), (2, .int i2), (3, .int i3), (4, .int i4), (5, .int i5), (6, .int i6), (7, .int i7)]) (pc := 26) B dX0_bestBy_26 (by decide) rfl ?_
      refine x_iload (pc := 28) B 6 dX0_bestBy_28 rfl ?_
      rcases xite h with ⟨hc, h⟩ | ⟨hc, h⟩
      · refine x_if_eq_t (tgt := 40) (pc := 30) B dX0_bestBy_30 (by decide) hc ?_
        refine x_iconst (pc := 40) B dX0_bestBy_40 xk_iconst_1 ?_
        refine x_iload (pc := 41) B 8 dX0_bestBy_41 rfl ?_
        refine x_ishl (pc := 43) B dX0_bestBy_43 ?_
        refine x_istore (L1 := [(5, .int ((1 : Int32) <<< (i7 &&& 31))), (8, .int q1.1), (0, .ref a0), (1, .int i1), (2, .int i2), (3, .int i3), (4, .int i4), (6, .int i6), (7, .int i7)]) (pc := 44) B dX0_bestBy_44 (by decide) rfl ?_
        refine x_iload (pc := 46) B 1 dX0_bestBy_46 rfl ?_
        refine x_istore (L1 := [(6, .int q1.1), (5, .int ((1 : Int32) <<< (i7 &&& 31))), (8, .int q1.1), (0, .ref a0), (1, .int i1), (2, .int i2), (3, .int i3), (4, .int i4), (7, .int i7)]) (pc := 48) B dX0_bestBy_48 (by decide) rfl ?_
        refine x_goto (tgt := 69) (pc := 50) B dX0_bestBy_50 (by decide) ?_
        refine x_iinc (L1 := [(7, .int (i7 + (1 : Int32))), (6, .int q1.1), (5, .int ((1 : Int32) <<< (i7 &&& 31))), (8, .int q1.1), (0, .ref a0), (1, .int i1), (2, .int i2), (3, .int i3), (4, .int i4)]) (pc := 69) B 8 dX0_bestBy_69 rfl (congrArg _ xk_iconst_1) (by decide) rfl ?_
        refine x_goto (tgt := 9) (pc := 72) B dX0_bestBy_72 (by decide) ?_
        refine x_sub (L1 := [(0, .ref a0), (1, .int i1), (2, .int i2), (3, .int i3), (4, .int i4), (5, .int ((1 : Int32) <<< (i7 &&& 31))), (6, .int q1.1), (7, .int (i7 + (1 : Int32)))]) [4, 5, 6, 7, 8, 2, 1, 0] rfl ?_
        exact ih a0 i1 i2 i3 i4 ((1 : Int32) <<< (i7 &&& 31)) q1.1 (i7 + (1 : Int32)) q1.2 h
      · refine x_if_eq_f (pc := 30) B 40 dX0_bestBy_30 (by decide) hc ?_
        refine x_iload (pc := 33) B 0 dX0_bestBy_33 rfl ?_
        refine x_iload (pc := 35) B 7 dX0_bestBy_35 rfl ?_
        rcases xite h with ⟨hc, h⟩ | ⟨hc, h⟩
        · refine x_icmp_le_t (tgt := 53) (pc := 37) B dX0_bestBy_37 (by decide) hc ?_
          refine x_iload (pc := 53) B 0 dX0_bestBy_53 rfl ?_
          refine x_iload (pc := 55) B 7 dX0_bestBy_55 rfl ?_
          rcases xite h with ⟨hc, h⟩ | ⟨hc, h⟩
          · refine x_icmp_ne_f (pc := 57) B 69 dX0_bestBy_57 (by decide) hc ?_
            refine x_iload (pc := 60) B 6 dX0_bestBy_60 rfl ?_
            refine x_iconst (pc := 62) B dX0_bestBy_62 xk_iconst_1 ?_
            refine x_iload (pc := 63) B 8 dX0_bestBy_63 rfl ?_
            refine x_ishl (pc := 65) B dX0_bestBy_65 ?_
            refine x_ior (pc := 66) B dX0_bestBy_66 ?_
            refine x_istore (L1 := [(5, .int (i5 ||| ((1 : Int32) <<< (i7 &&& 31)))), (8, .int q1.1), (0, .ref a0), (1, .int i1), (2, .int i2), (3, .int i3), (4, .int i4), (6, .int i6), (7, .int i7)]) (pc := 67) B dX0_bestBy_67 (by decide) rfl ?_
            refine x_iinc (L1 := [(7, .int (i7 + (1 : Int32))), (5, .int (i5 ||| ((1 : Int32) <<< (i7 &&& 31)))), (8, .int q1.1), (0, .ref a0), (1, .int i1), (2, .int i2), (3, .int i3), (4, .int i4), (6, .int i6)]) (pc := 69) B 8 dX0_bestBy_69 rfl (congrArg _ xk_iconst_1) (by decide) rfl ?_
            refine x_goto (tgt := 9) (pc := 72) B dX0_bestBy_72 (by decide) ?_
            refine x_sub (L1 := [(0, .ref a0), (1, .int i1), (2, .int i2), (3, .int i3), (4, .int i4), (5, .int (i5 ||| ((1 : Int32) <<< (i7 &&& 31)))), (6, .int i6), (7, .int (i7 + (1 : Int32)))]) [3, 4, 5, 6, 7, 1, 8, 0] rfl ?_
            exact ih a0 i1 i2 i3 i4 (i5 ||| ((1 : Int32) <<< (i7 &&& 31))) i6 (i7 + (1 : Int32)) q1.2 h
          · refine x_icmp_ne_t (tgt := 69) (pc := 57) B dX0_bestBy_57 (by decide) hc ?_
            refine x_iinc (L1 := [(7, .int (i7 + (1 : Int32))), (8, .int q1.1), (0, .ref a0), (1, .int i1), (2, .int i2), (3, .int i3), (4, .int i4), (5, .int i5), (6, .int i6)]) (pc := 69) B 8 dX0_bestBy_69 rfl (congrArg _ xk_iconst_1) (by decide) rfl ?_
            refine x_goto (tgt := 9) (pc := 72) B dX0_bestBy_72 (by decide) ?_
            refine x_sub (L1 := [(0, .ref a0), (1, .int i1), (2, .int i2), (3, .int i3), (4, .int i4), (5, .int i5), (6, .int i6), (7, .int (i7 + (1 : Int32)))]) [2, 3, 4, 5, 6, 7, 8, 0] rfl ?_
            exact ih a0 i1 i2 i3 i4 i5 i6 (i7 + (1 : Int32)) q1.2 h
        · refine x_icmp_le_f (pc := 37) B 53 dX0_bestBy_37 (by decide) hc ?_
          refine x_iconst (pc := 40) B dX0_bestBy_40 xk_iconst_1 ?_
          refine x_iload (pc := 41) B 8 dX0_bestBy_41 rfl ?_
          refine x_ishl (pc := 43) B dX0_bestBy_43 ?_
          refine x_istore (L1 := [(5, .int ((1 : Int32) <<< (i7 &&& 31))), (8, .int q1.1), (0, .ref a0), (1, .int i1), (2, .int i2), (3, .int i3), (4, .int i4), (6, .int i6), (7, .int i7)]) (pc := 44) B dX0_bestBy_44 (by decide) rfl ?_
          refine x_iload (pc := 46) B 1 dX0_bestBy_46 rfl ?_
          refine x_istore (L1 := [(6, .int q1.1), (5, .int ((1 : Int32) <<< (i7 &&& 31))), (8, .int q1.1), (0, .ref a0), (1, .int i1), (2, .int i2), (3, .int i3), (4, .int i4), (7, .int i7)]) (pc := 48) B dX0_bestBy_48 (by decide) rfl ?_
          refine x_goto (tgt := 69) (pc := 50) B dX0_bestBy_50 (by decide) ?_
          refine x_iinc (L1 := [(7, .int (i7 + (1 : Int32))), (6, .int q1.1), (5, .int ((1 : Int32) <<< (i7 &&& 31))), (8, .int q1.1), (0, .ref a0), (1, .int i1), (2, .int i2), (3, .int i3), (4, .int i4)]) (pc := 69) B 8 dX0_bestBy_69 rfl (congrArg _ xk_iconst_1) (by decide) rfl ?_
          refine x_goto (tgt := 9) (pc := 72) B dX0_bestBy_72 (by decide) ?_
          refine x_sub (L1 := [(0, .ref a0), (1, .int i1), (2, .int i2), (3, .int i3), (4, .int i4), (5, .int ((1 : Int32) <<< (i7 &&& 31))), (6, .int q1.1), (7, .int (i7 + (1 : Int32)))]) [4, 5, 6, 7, 8, 2, 1, 0] rfl ?_
          exact ih a0 i1 i2 i3 i4 ((1 : Int32) <<< (i7 &&& 31)) q1.1 (i7 + (1 : Int32)) q1.2 h
def fX0_bestBy (a0 : Nat) (i1 : Int32) (i2 : Int32) (i3 : Int32) (i4 : Int32) (w : XW) : Option (Int32 × XW) := if xis w a0 0 = true then
  fX0_bestBy_9 1000 a0 i1 i2 i3 i4 (0 : Int32) (0 : Int32) (0 : Int32) w
  else none
theorem iX0_bestBy {a0 : Nat} {i1 : Int32} {i2 : Int32} {i3 : Int32} {i4 : Int32} {w : XW} {R9 : (Int32 × XW)} (h : fX0_bestBy a0 i1 i2 i3 i4 w = some R9) : xis w a0 0 = true := by
  unfold fX0_bestBy at h
  rcases xite h with ⟨hc, h⟩ | ⟨hc, h⟩
  · exact hc
  · exact absurd h (by simp)
theorem np_X0_bestBy : (parseMethodDescriptor yX0_bestBy.desc).map (fun d => d.parameters.length) = some 4 := by decide +kernel
theorem hy_X0_bestBy : yX0_bestBy.cls ≠ "java/lang/invoke/MethodHandle" ∧ yX0_bestBy.cls ≠ "java/lang/invoke/VarHandle" := ⟨by decide +kernel, by decide +kernel⟩
set_option maxRecDepth 20000 in
theorem eX0_bestBy {cx : CX} {a0 : Nat} {i1 : Int32} {i2 : Int32} {i3 : Int32} {i4 : Int32} {w : XW} {R9 : (Int32 × XW)} (h : fX0_bestBy a0 i1 i2 i3 i4 w = some R9) : Ct yX0_bestBy cX0_bestBy 9 (some .int) 2 48 cx [.ref a0, .int i1, .int i2, .int i3, .int i4] w (some (.int R9.1)) R9.2 := by
  refine Ct_of (by decide +kernel) (Nat.le_of_ble_eq_true rfl) (fun K B hR => ?_)
  rw [fX0_bestBy] at h
  show Wx K cx 9 w.length 0 [(0, .ref a0), (1, .int i1), (2, .int i2), (3, .int i3), (4, .int i4)] [] w
  rcases xite h with ⟨hc, h⟩ | ⟨hc, h⟩
  · skip
    refine x_iconst (pc := 0) B dX0_bestBy_0 xk_iconst_0 ?_
    refine x_istore (L1 := [(5, .int (0 : Int32)), (0, .ref a0), (1, .int i1), (2, .int i2), (3, .int i3), (4, .int i4)]) (pc := 1) B dX0_bestBy_1 (by decide) rfl ?_
    refine x_iconst (pc := 3) B dX0_bestBy_3 xk_iconst_0 ?_
    refine x_istore (L1 := [(6, .int (0 : Int32)), (5, .int (0 : Int32)), (0, .ref a0), (1, .int i1), (2, .int i2), (3, .int i3), (4, .int i4)]) (pc := 4) B dX0_bestBy_4 (by decide) rfl ?_
    refine x_iconst (pc := 6) B dX0_bestBy_6 xk_iconst_0 ?_
    refine x_istore (L1 := [(7, .int (0 : Int32)), (6, .int (0 : Int32)), (5, .int (0 : Int32)), (0, .ref a0), (1, .int i1), (2, .int i2), (3, .int i3), (4, .int i4)]) (pc := 7) B dX0_bestBy_7 (by decide) rfl ?_
    refine x_sub (L1 := [(0, .ref a0), (1, .int i1), (2, .int i2), (3, .int i3), (4, .int i4), (5, .int (0 : Int32)), (6, .int (0 : Int32)), (7, .int (0 : Int32))]) [3, 4, 5, 6, 7, 2, 1, 0] rfl ?_
    exact pX0_bestBy_9 B hR 1000 a0 i1 i2 i3 i4 (0 : Int32) (0 : Int32) (0 : Int32) w h
  · exact absurd h (by simp)
def fX0_bestActions (a0 : Nat) (i1 : Int32) (w : XW) : Option (Int32 × XW) := if xis w a0 0 = true then
  (fX0_beliefWeight a0 i1 (0 : Int32) w).bind fun q1 =>
  (fX0_beliefWeight a0 i1 (1 : Int32) q1.2).bind fun q2 =>
  (fX0_beliefWeight a0 i1 (2 : Int32) q2.2).bind fun q3 =>
  (fX0_bestBy a0 i1 q1.1 q2.1 q3.1 q3.2).bind fun q4 =>
  some (q4.1, q4.2)
  else none
theorem iX0_bestActions {a0 : Nat} {i1 : Int32} {w : XW} {R9 : (Int32 × XW)} (h : fX0_bestActions a0 i1 w = some R9) : xis w a0 0 = true := by
  unfold fX0_bestActions at h
  rcases xite h with ⟨hc, h⟩ | ⟨hc, h⟩
  · exact hc
  · exact absurd h (by simp)
theorem np_X0_bestActions : (parseMethodDescriptor yX0_bestActions.desc).map (fun d => d.parameters.length) = some 1 := by decide +kernel
theorem hy_X0_bestActions : yX0_bestActions.cls ≠ "java/lang/invoke/MethodHandle" ∧ yX0_bestActions.cls ≠ "java/lang/invoke/VarHandle" := ⟨by decide +kernel, by decide +kernel⟩
set_option maxRecDepth 20000 in
theorem eX0_bestActions {cx : CX} {a0 : Nat} {i1 : Int32} {w : XW} {R9 : (Int32 × XW)} (h : fX0_bestActions a0 i1 w = some R9) : Ct yX0_bestActions cX0_bestActions 5 (some .int) 3 76 cx [.ref a0, .int i1] w (some (.int R9.1)) R9.2 := by
  refine Ct_of (by decide +kernel) (Nat.le_of_ble_eq_true rfl) (fun K B hR => ?_)
  rw [fX0_bestActions] at h
  show Wx K cx 5 w.length 0 [(0, .ref a0), (1, .int i1)] [] w
  rcases xite h with ⟨hc, h⟩ | ⟨hc, h⟩
  · skip
    refine x_aload_n (pc := 0) B 0 dX0_bestActions_0 rfl rfl ?_
    refine x_iload_n (pc := 1) B 1 dX0_bestActions_1 rfl rfl ?_
    refine x_iconst (pc := 2) B dX0_bestActions_2 xk_iconst_0 ?_
    obtain ⟨q1, hq, h⟩ := xbind h
    refine x_callV1 (st := []) (pc := 3) B dX0_bestActions_3 (eX0_beliefWeight hq) xt_257 xt_54 np_X0_beliefWeight hy_X0_beliefWeight (Nat.le_of_ble_eq_true rfl) (Nat.le_of_ble_eq_true rfl) (Nat.le_of_ble_eq_true rfl) xt_255 xt_256 xt_254 rfl (iX0_beliefWeight hq) rfl ?_
    refine x_istore_n (L1 := [(2, .int q1.1), (0, .ref a0), (1, .int i1)]) (pc := 6) B dX0_bestActions_6 rfl (by decide) rfl ?_
    refine x_aload_n (pc := 7) B 1 dX0_bestActions_7 rfl rfl ?_
    refine x_iload_n (pc := 8) B 2 dX0_bestActions_8 rfl rfl ?_
    refine x_iconst (pc := 9) B dX0_bestActions_9 xk_iconst_1 ?_
    obtain ⟨q2, hq, h⟩ := xbind h
    refine x_callV1 (st := []) (pc := 10) B dX0_bestActions_10 (eX0_beliefWeight hq) xt_257 xt_54 np_X0_beliefWeight hy_X0_beliefWeight (Nat.le_of_ble_eq_true rfl) (Nat.le_of_ble_eq_true rfl) (Nat.le_of_ble_eq_true rfl) xt_255 xt_256 xt_254 rfl (iX0_beliefWeight hq) rfl ?_
    refine x_istore_n (L1 := [(3, .int q2.1), (2, .int q1.1), (0, .ref a0), (1, .int i1)]) (pc := 13) B dX0_bestActions_13 rfl (by decide) rfl ?_
    refine x_aload_n (pc := 14) B 2 dX0_bestActions_14 rfl rfl ?_
    refine x_iload_n (pc := 15) B 3 dX0_bestActions_15 rfl rfl ?_
    refine x_iconst (pc := 16) B dX0_bestActions_16 xk_iconst_2 ?_
    obtain ⟨q3, hq, h⟩ := xbind h
    refine x_callV1 (st := []) (pc := 17) B dX0_bestActions_17 (eX0_beliefWeight hq) xt_257 xt_54 np_X0_beliefWeight hy_X0_beliefWeight (Nat.le_of_ble_eq_true rfl) (Nat.le_of_ble_eq_true rfl) (Nat.le_of_ble_eq_true rfl) xt_255 xt_256 xt_254 rfl (iX0_beliefWeight hq) rfl ?_
    refine x_istore (L1 := [(4, .int q3.1), (3, .int q2.1), (2, .int q1.1), (0, .ref a0), (1, .int i1)]) (pc := 20) B dX0_bestActions_20 (by decide) rfl ?_
    refine x_aload_n (pc := 22) B 3 dX0_bestActions_22 rfl rfl ?_
    refine x_iload_n (pc := 23) B 4 dX0_bestActions_23 rfl rfl ?_
    refine x_iload_n (pc := 24) B 2 dX0_bestActions_24 rfl rfl ?_
    refine x_iload_n (pc := 25) B 1 dX0_bestActions_25 rfl rfl ?_
    refine x_iload (pc := 26) B 0 dX0_bestActions_26 rfl ?_
    obtain ⟨q4, hq, h⟩ := xbind h
    refine x_callV1 (st := []) (pc := 28) B dX0_bestActions_28 (eX0_bestBy hq) xt_269 xt_54 np_X0_bestBy hy_X0_bestBy (Nat.le_of_ble_eq_true rfl) (Nat.le_of_ble_eq_true rfl) (Nat.le_of_ble_eq_true rfl) xt_268 xt_6 xt_266 rfl (iX0_bestBy hq) rfl ?_
    exact x_iret (pc := 31) B hR dX0_bestActions_31 (xzI _) h
  · exact absurd h (by simp)
def fX0_payoffBy (a0 : Nat) (i1 : Int32) (i2 : Int32) (w : XW) : Option (Int32 × XW) := if xis w a0 0 = true then
  (fX0_answerPlace i2 w).bind fun q1 =>
  (fX0_cell a0 q1.1 q1.2).bind fun q2 =>
  (fX0_payPlace (0 : Int32) i1 i2 q2.1 q2.2).bind fun q3 =>
  (fX0_cell a0 q3.1 q3.2).bind fun q4 =>
  some (q4.1, q4.2)
  else none
theorem iX0_payoffBy {a0 : Nat} {i1 : Int32} {i2 : Int32} {w : XW} {R9 : (Int32 × XW)} (h : fX0_payoffBy a0 i1 i2 w = some R9) : xis w a0 0 = true := by
  unfold fX0_payoffBy at h
  rcases xite h with ⟨hc, h⟩ | ⟨hc, h⟩
  · exact hc
  · exact absurd h (by simp)
theorem np_X0_payoffBy : (parseMethodDescriptor yX0_payoffBy.desc).map (fun d => d.parameters.length) = some 2 := by decide +kernel
theorem hy_X0_payoffBy : yX0_payoffBy.cls ≠ "java/lang/invoke/MethodHandle" ∧ yX0_payoffBy.cls ≠ "java/lang/invoke/VarHandle" := ⟨by decide +kernel, by decide +kernel⟩
set_option maxRecDepth 20000 in
theorem eX0_payoffBy {cx : CX} {a0 : Nat} {i1 : Int32} {i2 : Int32} {w : XW} {R9 : (Int32 × XW)} (h : fX0_payoffBy a0 i1 i2 w = some R9) : Ct yX0_payoffBy cX0_payoffBy 3 (some .int) 1 23 cx [.ref a0, .int i1, .int i2] w (some (.int R9.1)) R9.2 := by
  refine Ct_of (by decide +kernel) (Nat.le_of_ble_eq_true rfl) (fun K B hR => ?_)
  rw [fX0_payoffBy] at h
  show Wx K cx 3 w.length 0 [(0, .ref a0), (1, .int i1), (2, .int i2)] [] w
  rcases xite h with ⟨hc, h⟩ | ⟨hc, h⟩
  · skip
    refine x_aload_n (pc := 0) B 0 dX0_payoffBy_0 rfl rfl ?_
    refine x_iconst (pc := 1) B dX0_payoffBy_1 xk_iconst_0 ?_
    refine x_iload_n (pc := 2) B 1 dX0_payoffBy_2 rfl rfl ?_
    refine x_iload_n (pc := 3) B 2 dX0_payoffBy_3 rfl rfl ?_
    refine x_aload_n (pc := 4) B 0 dX0_payoffBy_4 rfl rfl ?_
    refine x_iload_n (pc := 5) B 2 dX0_payoffBy_5 rfl rfl ?_
    obtain ⟨q1, hq, h⟩ := xbind h
    refine x_callS1 (st := [.ref a0, .int i2, .int i1, .int (0 : Int32), .ref a0]) (pc := 6) B dX0_payoffBy_6 (eX0_answerPlace hq) xt_216 xt_54 np_X0_answerPlace hy_X0_answerPlace (Nat.le_of_ble_eq_true rfl) (Nat.le_of_ble_eq_true rfl) (Nat.le_of_ble_eq_true rfl) xt_215 xt_288 rfl ?_
    obtain ⟨q2, hq, h⟩ := xbind h
    refine x_callV1 (st := [.int i2, .int i1, .int (0 : Int32), .ref a0]) (pc := 9) B dX0_payoffBy_9 (eX0_cell hq) xt_153 xt_54 np_X0_cell hy_X0_cell (Nat.le_of_ble_eq_true rfl) (Nat.le_of_ble_eq_true rfl) (Nat.le_of_ble_eq_true rfl) xt_151 xt_152 xt_150 rfl (iX0_cell hq) rfl ?_
    obtain ⟨q3, hq, h⟩ := xbind h
    refine x_callS1 (st := [.ref a0]) (pc := 12) B dX0_payoffBy_12 (eX0_payPlace hq) xt_186 xt_54 np_X0_payPlace hy_X0_payPlace (Nat.le_of_ble_eq_true rfl) (Nat.le_of_ble_eq_true rfl) (Nat.le_of_ble_eq_true rfl) xt_185 xt_274 rfl ?_
    obtain ⟨q4, hq, h⟩ := xbind h
    refine x_callV1 (st := []) (pc := 15) B dX0_payoffBy_15 (eX0_cell hq) xt_153 xt_54 np_X0_cell hy_X0_cell (Nat.le_of_ble_eq_true rfl) (Nat.le_of_ble_eq_true rfl) (Nat.le_of_ble_eq_true rfl) xt_151 xt_152 xt_150 rfl (iX0_cell hq) rfl ?_
    exact x_iret (pc := 18) B hR dX0_payoffBy_18 (xzI _) h
  · exact absurd h (by simp)
def fX0_dearestMessage_4 : Nat → Nat → Int32 → Int32 → Int32 → XW → Option (Int32 × XW)
  | 0, _, _, _, _, _ => none
  | g + 1, a0, i1, i2, i3, w =>
    if (3 : Int32) ≤ i3 then
      some (i2, w)
    else
    (fX0_payoffBy a0 i1 i3 w).bind fun q1 =>
    (fX0_payoffBy a0 i1 i2 q1.2).bind fun q2 =>
    if q1.1 ≤ q2.1 then
      fX0_dearestMessage_4 g a0 i1 i2 (i3 + (1 : Int32)) q2.2
    else
    fX0_dearestMessage_4 g a0 i1 i3 (i3 + (1 : Int32)) q2.2
set_option maxRecDepth 20000 in
theorem pX0_dearestMessage_4 {K : KX} {cx : CX} {nn : Nat} {R9 : Int32 × XW} (B : XB K cx RX0 cX0_dearestMessage 4 nn 2 45) (hR : XR K cx nn (some .int) (some (.int R9.1)) R9.2) : ∀ (g : Nat) (a0 : Nat) (i1 : Int32) (i2 : Int32) (i3 : Int32) (w : XW), fX0_dearestMessage_4 g a0 i1 i2 i3 w = some R9 → Wx K cx 4 nn 4 [(0, .ref a0), (1, .int i1), (2, .int i2), (3, .int i3)] [] w := by
  intro g
  induction g with
  | zero =>
    intro a0 i1 i2 i3 w h
    exact absurd (show (none : Option (Int32 × XW)) = some R9 from h) (by simp)
  | succ g ih =>
    intro a0 i1 i2 i3 w h
    rw [fX0_dearestMessage_4] at h
    refine x_iload_n (pc := 4) B 3 dX0_dearestMessage_4 rfl rfl ?_
    refine x_iconst (pc := 5) B dX0_dearestMessage_5 xk_iconst_3 ?_
    rcases xite h with ⟨hc, h⟩ | ⟨hc, h⟩
    · refine x_icmp_ge_t (tgt := 32) (pc := 6) B dX0_dearestMessage_6 (by decide) hc ?_
      refine x_iload_n (pc := 32) B 2 dX0_dearestMessage_32 rfl rfl ?_
      exact x_iret (pc := 33) B hR dX0_dearestMessage_33 (xzI _) h
    · refine x_icmp_ge_f (pc := 6) B 32 dX0_dearestMessage_6 (by decide) hc ?_
      refine x_aload_n (pc := 9) B 0 dX0_dearestMessage_9 rfl rfl ?_
      refine x_iload_n (pc := 10) B 1 dX0_dearestMessage_10 rfl rfl ?_
      refine x_iload_n (pc := 11) B 3 dX0_dearestMessage_11 rfl rfl ?_
      obtain ⟨q1, hq, h⟩ := xbind h
      refine x_callV1 (st := []) (pc := 12) B dX0_dearestMessage_12 (eX0_payoffBy hq) xt_287 xt_54 np_X0_payoffBy hy_X0_payoffBy (Nat.le_of_ble_eq_true rfl) (Nat.le_of_ble_eq_true rfl) (Nat.le_of_ble_eq_true rfl) xt_285 xt_286 xt_284 rfl (iX0_payoffBy hq) rfl ?_
      refine x_aload_n (pc := 15) B 0 dX0_dearestMessage_15 rfl rfl ?_
      refine x_iload_n (pc := 16) B 1 dX0_dearestMessage_16 rfl rfl ?_
      refine x_iload_n (pc := 17) B 2 dX0_dearestMessage_17 rfl rfl ?_
      obtain ⟨q2, hq, h⟩ := xbind h
      refine x_callV1 (st := [.int q1.1]) (pc := 18) B dX0_dearestMessage_18 (eX0_payoffBy hq) xt_287 xt_54 np_X0_payoffBy hy_X0_payoffBy (Nat.le_of_ble_eq_true rfl) (Nat.le_of_ble_eq_true rfl) (Nat.le_of_ble_eq_true rfl) xt_285 xt_286 xt_284 rfl (iX0_payoffBy hq) rfl ?_
      rcases xite h with ⟨hc, h⟩ | ⟨hc, h⟩
      · refine x_icmp_le_t (tgt := 26) (pc := 21) B dX0_dearestMessage_21 (by decide) hc ?_
        refine x_iinc (L1 := [(3, .int (i3 + (1 : Int32))), (0, .ref a0), (1, .int i1), (2, .int i2)]) (pc := 26) B 3 dX0_dearestMessage_26 rfl (congrArg _ xk_iconst_1) (by decide) rfl ?_
        refine x_goto (tgt := 4) (pc := 29) B dX0_dearestMessage_29 (by decide) ?_
        refine x_sub (L1 := [(0, .ref a0), (1, .int i1), (2, .int i2), (3, .int (i3 + (1 : Int32)))]) [1, 2, 3, 0] rfl ?_
        exact ih a0 i1 i2 (i3 + (1 : Int32)) q2.2 h
      · refine x_icmp_le_f (pc := 21) B 26 dX0_dearestMessage_21 (by decide) hc ?_
        refine x_iload_n (pc := 24) B 3 dX0_dearestMessage_24 rfl rfl ?_
        refine x_istore_n (L1 := [(2, .int i3), (0, .ref a0), (1, .int i1), (3, .int i3)]) (pc := 25) B dX0_dearestMessage_25 rfl (by decide) rfl ?_
        refine x_iinc (L1 := [(3, .int (i3 + (1 : Int32))), (2, .int i3), (0, .ref a0), (1, .int i1)]) (pc := 26) B 3 dX0_dearestMessage_26 rfl (congrArg _ xk_iconst_1) (by decide) rfl ?_
        refine x_goto (tgt := 4) (pc := 29) B dX0_dearestMessage_29 (by decide) ?_
        refine x_sub (L1 := [(0, .ref a0), (1, .int i1), (2, .int i3), (3, .int (i3 + (1 : Int32)))]) [2, 3, 1, 0] rfl ?_
        exact ih a0 i1 i3 (i3 + (1 : Int32)) q2.2 h
def fX0_dearestMessage (a0 : Nat) (i1 : Int32) (w : XW) : Option (Int32 × XW) := if xis w a0 0 = true then
  fX0_dearestMessage_4 1000 a0 i1 (0 : Int32) (1 : Int32) w
  else none
theorem iX0_dearestMessage {a0 : Nat} {i1 : Int32} {w : XW} {R9 : (Int32 × XW)} (h : fX0_dearestMessage a0 i1 w = some R9) : xis w a0 0 = true := by
  unfold fX0_dearestMessage at h
  rcases xite h with ⟨hc, h⟩ | ⟨hc, h⟩
  · exact hc
  · exact absurd h (by simp)
theorem np_X0_dearestMessage : (parseMethodDescriptor yX0_dearestMessage.desc).map (fun d => d.parameters.length) = some 1 := by decide +kernel
theorem hy_X0_dearestMessage : yX0_dearestMessage.cls ≠ "java/lang/invoke/MethodHandle" ∧ yX0_dearestMessage.cls ≠ "java/lang/invoke/VarHandle" := ⟨by decide +kernel, by decide +kernel⟩
set_option maxRecDepth 20000 in
theorem eX0_dearestMessage {cx : CX} {a0 : Nat} {i1 : Int32} {w : XW} {R9 : (Int32 × XW)} (h : fX0_dearestMessage a0 i1 w = some R9) : Ct yX0_dearestMessage cX0_dearestMessage 4 (some .int) 2 45 cx [.ref a0, .int i1] w (some (.int R9.1)) R9.2 := by
  refine Ct_of (by decide +kernel) (Nat.le_of_ble_eq_true rfl) (fun K B hR => ?_)
  rw [fX0_dearestMessage] at h
  show Wx K cx 4 w.length 0 [(0, .ref a0), (1, .int i1)] [] w
  rcases xite h with ⟨hc, h⟩ | ⟨hc, h⟩
  · skip
    refine x_iconst (pc := 0) B dX0_dearestMessage_0 xk_iconst_0 ?_
    refine x_istore_n (L1 := [(2, .int (0 : Int32)), (0, .ref a0), (1, .int i1)]) (pc := 1) B dX0_dearestMessage_1 rfl (by decide) rfl ?_
    refine x_iconst (pc := 2) B dX0_dearestMessage_2 xk_iconst_1 ?_
    refine x_istore_n (L1 := [(3, .int (1 : Int32)), (2, .int (0 : Int32)), (0, .ref a0), (1, .int i1)]) (pc := 3) B dX0_dearestMessage_3 rfl (by decide) rfl ?_
    refine x_sub (L1 := [(0, .ref a0), (1, .int i1), (2, .int (0 : Int32)), (3, .int (1 : Int32))]) [2, 3, 1, 0] rfl ?_
    exact pX0_dearestMessage_4 B hR 1000 a0 i1 (0 : Int32) (1 : Int32) w h
  · exact absurd h (by simp)
def fX0_ownPayoff (a0 : Nat) (i1 : Int32) (w : XW) : Option (Int32 × XW) := if xis w a0 0 = true then
  (fX0_messagePlace i1 w).bind fun q1 =>
  (fX0_cell a0 q1.1 q1.2).bind fun q2 =>
  (fX0_payoffBy a0 i1 q2.1 q2.2).bind fun q3 =>
  some (q3.1, q3.2)
  else none
theorem iX0_ownPayoff {a0 : Nat} {i1 : Int32} {w : XW} {R9 : (Int32 × XW)} (h : fX0_ownPayoff a0 i1 w = some R9) : xis w a0 0 = true := by
  unfold fX0_ownPayoff at h
  rcases xite h with ⟨hc, h⟩ | ⟨hc, h⟩
  · exact hc
  · exact absurd h (by simp)
theorem np_X0_ownPayoff : (parseMethodDescriptor yX0_ownPayoff.desc).map (fun d => d.parameters.length) = some 1 := by decide +kernel
theorem hy_X0_ownPayoff : yX0_ownPayoff.cls ≠ "java/lang/invoke/MethodHandle" ∧ yX0_ownPayoff.cls ≠ "java/lang/invoke/VarHandle" := ⟨by decide +kernel, by decide +kernel⟩
set_option maxRecDepth 20000 in
theorem eX0_ownPayoff {cx : CX} {a0 : Nat} {i1 : Int32} {w : XW} {R9 : (Int32 × XW)} (h : fX0_ownPayoff a0 i1 w = some R9) : Ct yX0_ownPayoff cX0_ownPayoff 2 (some .int) 2 45 cx [.ref a0, .int i1] w (some (.int R9.1)) R9.2 := by
  refine Ct_of (by decide +kernel) (Nat.le_of_ble_eq_true rfl) (fun K B hR => ?_)
  rw [fX0_ownPayoff] at h
  show Wx K cx 2 w.length 0 [(0, .ref a0), (1, .int i1)] [] w
  rcases xite h with ⟨hc, h⟩ | ⟨hc, h⟩
  · skip
    refine x_aload_n (pc := 0) B 0 dX0_ownPayoff_0 rfl rfl ?_
    refine x_iload_n (pc := 1) B 1 dX0_ownPayoff_1 rfl rfl ?_
    refine x_aload_n (pc := 2) B 0 dX0_ownPayoff_2 rfl rfl ?_
    refine x_iload_n (pc := 3) B 1 dX0_ownPayoff_3 rfl rfl ?_
    obtain ⟨q1, hq, h⟩ := xbind h
    refine x_callS1 (st := [.ref a0, .int i1, .ref a0]) (pc := 4) B dX0_ownPayoff_4 (eX0_messagePlace hq) xt_209 xt_54 np_X0_messagePlace hy_X0_messagePlace (Nat.le_of_ble_eq_true rfl) (Nat.le_of_ble_eq_true rfl) (Nat.le_of_ble_eq_true rfl) xt_208 xt_262 rfl ?_
    obtain ⟨q2, hq, h⟩ := xbind h
    refine x_callV1 (st := [.int i1, .ref a0]) (pc := 7) B dX0_ownPayoff_7 (eX0_cell hq) xt_153 xt_54 np_X0_cell hy_X0_cell (Nat.le_of_ble_eq_true rfl) (Nat.le_of_ble_eq_true rfl) (Nat.le_of_ble_eq_true rfl) xt_151 xt_152 xt_150 rfl (iX0_cell hq) rfl ?_
    obtain ⟨q3, hq, h⟩ := xbind h
    refine x_callV1 (st := []) (pc := 10) B dX0_ownPayoff_10 (eX0_payoffBy hq) xt_287 xt_54 np_X0_payoffBy hy_X0_payoffBy (Nat.le_of_ble_eq_true rfl) (Nat.le_of_ble_eq_true rfl) (Nat.le_of_ble_eq_true rfl) xt_285 xt_286 xt_284 rfl (iX0_payoffBy hq) rfl ?_
    exact x_iret (pc := 13) B hR dX0_ownPayoff_13 (xzI _) h
  · exact absurd h (by simp)
def fX0_lowestBetterType_2 : Nat → Nat → Int32 → XW → Option (Int32 × XW)
  | 0, _, _, _ => none
  | g + 1, a0, i1, w =>
    if (3 : Int32) ≤ i1 then
      some ((-6 : Int32), w)
    else
    (fX0_weightPlace i1 w).bind fun q1 =>
    (fX0_cell a0 q1.1 q1.2).bind fun q2 =>
    if q2.1 ≤ (0 : Int32) then
      fX0_lowestBetterType_2 g a0 (i1 + (1 : Int32)) q2.2
    else
    (fX0_dearestMessage a0 i1 q2.2).bind fun q3 =>
    (fX0_payoffBy a0 i1 q3.1 q3.2).bind fun q4 =>
    (fX0_ownPayoff a0 i1 q4.2).bind fun q5 =>
    if q4.1 ≤ q5.1 then
      fX0_lowestBetterType_2 g a0 (i1 + (1 : Int32)) q5.2
    else
    some (i1, q5.2)
set_option maxRecDepth 20000 in
theorem pX0_lowestBetterType_2 {K : KX} {cx : CX} {nn : Nat} {R9 : Int32 × XW} (B : XB K cx RX0 cX0_lowestBetterType 3 nn 3 68) (hR : XR K cx nn (some .int) (some (.int R9.1)) R9.2) : ∀ (g : Nat) (a0 : Nat) (i1 : Int32) (w : XW), fX0_lowestBetterType_2 g a0 i1 w = some R9 → Wx K cx 3 nn 2 [(0, .ref a0), (1, .int i1)] [] w := by
  intro g
  induction g with
  | zero =>
    intro a0 i1 w h
    exact absurd (show (none : Option (Int32 × XW)) = some R9 from h) (by simp)
  | succ g ih =>
    intro a0 i1 w h
    rw [fX0_lowestBetterType_2] at h
    refine x_iload_n (pc := 2) B 1 dX0_lowestBetterType_2 rfl rfl ?_
    refine x_iconst (pc := 3) B dX0_lowestBetterType_3 xk_iconst_3 ?_
    rcases xite h with ⟨hc, h⟩ | ⟨hc, h⟩
    · refine x_icmp_ge_t (tgt := 54) (pc := 4) B dX0_lowestBetterType_4 (by decide) hc ?_
      refine x_bipush (pc := 54) B dX0_lowestBetterType_54 xk_bipush_m6 ?_
      exact x_iret (pc := 56) B hR dX0_lowestBetterType_56 (xzI _) h
    · refine x_icmp_ge_f (pc := 4) B 54 dX0_lowestBetterType_4 (by decide) hc ?_
      refine x_aload_n (pc := 7) B 0 dX0_lowestBetterType_7 rfl rfl ?_
      refine x_iload_n (pc := 8) B 1 dX0_lowestBetterType_8 rfl rfl ?_
      obtain ⟨q1, hq, h⟩ := xbind h
      refine x_callS1 (st := [.ref a0]) (pc := 9) B dX0_lowestBetterType_9 (eX0_weightPlace hq) xt_149 xt_54 np_X0_weightPlace hy_X0_weightPlace (Nat.le_of_ble_eq_true rfl) (Nat.le_of_ble_eq_true rfl) (Nat.le_of_ble_eq_true rfl) xt_148 xt_147 rfl ?_
      obtain ⟨q2, hq, h⟩ := xbind h
      refine x_callV1 (st := []) (pc := 12) B dX0_lowestBetterType_12 (eX0_cell hq) xt_153 xt_54 np_X0_cell hy_X0_cell (Nat.le_of_ble_eq_true rfl) (Nat.le_of_ble_eq_true rfl) (Nat.le_of_ble_eq_true rfl) xt_151 xt_152 xt_150 rfl (iX0_cell hq) rfl ?_
      rcases xite h with ⟨hc, h⟩ | ⟨hc, h⟩
      · refine x_if_le_t (tgt := 22) (pc := 15) B dX0_lowestBetterType_15 (by decide) hc ?_
        refine x_iconst (pc := 22) B dX0_lowestBetterType_22 xk_iconst_0 ?_
        refine x_istore_n (L1 := [(2, .int (0 : Int32)), (0, .ref a0), (1, .int i1)]) (pc := 23) B dX0_lowestBetterType_23 rfl (by decide) rfl ?_
        refine x_iload_n (pc := 24) B 0 dX0_lowestBetterType_24 rfl rfl ?_
        refine x_if_eq_t (tgt := 48) (pc := 25) B dX0_lowestBetterType_25 (by decide) (by decide) ?_
        refine x_iinc (L1 := [(1, .int (i1 + (1 : Int32))), (2, .int (0 : Int32)), (0, .ref a0)]) (pc := 48) B 2 dX0_lowestBetterType_48 rfl (congrArg _ xk_iconst_1) (by decide) rfl ?_
        refine x_goto (tgt := 2) (pc := 51) B dX0_lowestBetterType_51 (by decide) ?_
        refine x_sub (L1 := [(0, .ref a0), (1, .int (i1 + (1 : Int32)))]) [2, 0] rfl ?_
        exact ih a0 (i1 + (1 : Int32)) q2.2 h
      · refine x_if_le_f (pc := 15) B 22 dX0_lowestBetterType_15 (by decide) hc ?_
        refine x_iconst (pc := 18) B dX0_lowestBetterType_18 xk_iconst_1 ?_
        refine x_goto (tgt := 23) (pc := 19) B dX0_lowestBetterType_19 (by decide) ?_
        refine x_istore_n (L1 := [(2, .int (1 : Int32)), (0, .ref a0), (1, .int i1)]) (pc := 23) B dX0_lowestBetterType_23 rfl (by decide) rfl ?_
        refine x_iload_n (pc := 24) B 0 dX0_lowestBetterType_24 rfl rfl ?_
        refine x_if_eq_f (pc := 25) B 48 dX0_lowestBetterType_25 (by decide) (by decide) ?_
        refine x_aload_n (pc := 28) B 1 dX0_lowestBetterType_28 rfl rfl ?_
        refine x_iload_n (pc := 29) B 2 dX0_lowestBetterType_29 rfl rfl ?_
        refine x_aload_n (pc := 30) B 1 dX0_lowestBetterType_30 rfl rfl ?_
        refine x_iload_n (pc := 31) B 2 dX0_lowestBetterType_31 rfl rfl ?_
        obtain ⟨q3, hq, h⟩ := xbind h
        refine x_callV1 (st := [.int i1, .ref a0]) (pc := 32) B dX0_lowestBetterType_32 (eX0_dearestMessage hq) xt_283 xt_54 np_X0_dearestMessage hy_X0_dearestMessage (Nat.le_of_ble_eq_true rfl) (Nat.le_of_ble_eq_true rfl) (Nat.le_of_ble_eq_true rfl) xt_281 xt_282 xt_280 rfl (iX0_dearestMessage hq) rfl ?_
        obtain ⟨q4, hq, h⟩ := xbind h
        refine x_callV1 (st := []) (pc := 35) B dX0_lowestBetterType_35 (eX0_payoffBy hq) xt_287 xt_54 np_X0_payoffBy hy_X0_payoffBy (Nat.le_of_ble_eq_true rfl) (Nat.le_of_ble_eq_true rfl) (Nat.le_of_ble_eq_true rfl) xt_285 xt_286 xt_284 rfl (iX0_payoffBy hq) rfl ?_
        refine x_aload_n (pc := 38) B 1 dX0_lowestBetterType_38 rfl rfl ?_
        refine x_iload_n (pc := 39) B 2 dX0_lowestBetterType_39 rfl rfl ?_
        obtain ⟨q5, hq, h⟩ := xbind h
        refine x_callV1 (st := [.int q4.1]) (pc := 40) B dX0_lowestBetterType_40 (eX0_ownPayoff hq) xt_292 xt_54 np_X0_ownPayoff hy_X0_ownPayoff (Nat.le_of_ble_eq_true rfl) (Nat.le_of_ble_eq_true rfl) (Nat.le_of_ble_eq_true rfl) xt_290 xt_291 xt_289 rfl (iX0_ownPayoff hq) rfl ?_
        rcases xite h with ⟨hc, h⟩ | ⟨hc, h⟩
        · refine x_icmp_le_t (tgt := 48) (pc := 43) B dX0_lowestBetterType_43 (by decide) hc ?_
          refine x_iinc (L1 := [(1, .int (i1 + (1 : Int32))), (2, .int (1 : Int32)), (0, .ref a0)]) (pc := 48) B 2 dX0_lowestBetterType_48 rfl (congrArg _ xk_iconst_1) (by decide) rfl ?_
          refine x_goto (tgt := 2) (pc := 51) B dX0_lowestBetterType_51 (by decide) ?_
          refine x_sub (L1 := [(0, .ref a0), (1, .int (i1 + (1 : Int32)))]) [2, 0] rfl ?_
          exact ih a0 (i1 + (1 : Int32)) q5.2 h
        · refine x_icmp_le_f (pc := 43) B 48 dX0_lowestBetterType_43 (by decide) hc ?_
          refine x_iload_n (pc := 46) B 2 dX0_lowestBetterType_46 rfl rfl ?_
          exact x_iret (pc := 47) B hR dX0_lowestBetterType_47 (xzI _) h
def fX0_lowestBetterType (a0 : Nat) (w : XW) : Option (Int32 × XW) := if xis w a0 0 = true then
  fX0_lowestBetterType_2 1000 a0 (0 : Int32) w
  else none
theorem iX0_lowestBetterType {a0 : Nat} {w : XW} {R9 : (Int32 × XW)} (h : fX0_lowestBetterType a0 w = some R9) : xis w a0 0 = true := by
  unfold fX0_lowestBetterType at h
  rcases xite h with ⟨hc, h⟩ | ⟨hc, h⟩
  · exact hc
  · exact absurd h (by simp)
theorem np_X0_lowestBetterType : (parseMethodDescriptor yX0_lowestBetterType.desc).map (fun d => d.parameters.length) = some 0 := by decide +kernel
theorem hy_X0_lowestBetterType : yX0_lowestBetterType.cls ≠ "java/lang/invoke/MethodHandle" ∧ yX0_lowestBetterType.cls ≠ "java/lang/invoke/VarHandle" := ⟨by decide +kernel, by decide +kernel⟩
set_option maxRecDepth 20000 in
theorem eX0_lowestBetterType {cx : CX} {a0 : Nat} {w : XW} {R9 : (Int32 × XW)} (h : fX0_lowestBetterType a0 w = some R9) : Ct yX0_lowestBetterType cX0_lowestBetterType 3 (some .int) 3 68 cx [.ref a0] w (some (.int R9.1)) R9.2 := by
  refine Ct_of (by decide +kernel) (Nat.le_of_ble_eq_true rfl) (fun K B hR => ?_)
  rw [fX0_lowestBetterType] at h
  show Wx K cx 3 w.length 0 [(0, .ref a0)] [] w
  rcases xite h with ⟨hc, h⟩ | ⟨hc, h⟩
  · skip
    refine x_iconst (pc := 0) B dX0_lowestBetterType_0 xk_iconst_0 ?_
    refine x_istore_n (L1 := [(1, .int (0 : Int32)), (0, .ref a0)]) (pc := 1) B dX0_lowestBetterType_1 rfl (by decide) rfl ?_
    refine x_sub (L1 := [(0, .ref a0), (1, .int (0 : Int32))]) [1, 0] rfl ?_
    exact pX0_lowestBetterType_2 B hR 1000 a0 (0 : Int32) w h
  · exact absurd h (by simp)
def fX0_differsOnlyInPlan_2 : Nat → Nat → Nat → Int32 → XW → Option (Int32 × XW)
  | 0, _, _, _, _ => none
  | g + 1, a0, a1, i2, w =>
    if (66 : Int32) ≤ i2 then
      some ((1 : Int32), w)
    else
    (xgR w a0 0 0).bind fun v1 =>
    (xaI w v1 i2).bind fun v2 =>
    (xgR w a1 0 0).bind fun v3 =>
    (xaI w v3 i2).bind fun v4 =>
    if v2 = v4 then
      fX0_differsOnlyInPlan_2 g a0 a1 (i2 + (1 : Int32)) w
    else
    some ((0 : Int32), w)
set_option maxRecDepth 20000 in
theorem pX0_differsOnlyInPlan_2 {K : KX} {cx : CX} {nn : Nat} {R9 : Int32 × XW} (B : XB K cx RX0 cX0_differsOnlyInPlan 3 nn 0 0) (hR : XR K cx nn (some .boolean) (some (.int R9.1)) R9.2) : ∀ (g : Nat) (a0 : Nat) (a1 : Nat) (i2 : Int32) (w : XW), fX0_differsOnlyInPlan_2 g a0 a1 i2 w = some R9 → Wx K cx 3 nn 2 [(0, .ref a0), (1, .ref a1), (2, .int i2)] [] w := by
  intro g
  induction g with
  | zero =>
    intro a0 a1 i2 w h
    exact absurd (show (none : Option (Int32 × XW)) = some R9 from h) (by simp)
  | succ g ih =>
    intro a0 a1 i2 w h
    rw [fX0_differsOnlyInPlan_2] at h
    refine x_iload_n (pc := 2) B 2 dX0_differsOnlyInPlan_2 rfl rfl ?_
    refine x_bipush (pc := 3) B dX0_differsOnlyInPlan_3 xk_bipush_66 ?_
    rcases xite h with ⟨hc, h⟩ | ⟨hc, h⟩
    · refine x_icmp_ge_t (tgt := 31) (pc := 5) B dX0_differsOnlyInPlan_5 (by decide) hc ?_
      refine x_iconst (pc := 31) B dX0_differsOnlyInPlan_31 xk_iconst_1 ?_
      exact x_iret (pc := 32) B hR dX0_differsOnlyInPlan_32 xz1 h
    · refine x_icmp_ge_f (pc := 5) B 31 dX0_differsOnlyInPlan_5 (by decide) hc ?_
      refine x_aload_n (pc := 8) B 0 dX0_differsOnlyInPlan_8 rfl rfl ?_
      obtain ⟨v1, hv, h⟩ := xbind h
      refine x_getR (k0 := 0) (pc := 9) B dX0_differsOnlyInPlan_9 rfl xi_0 (by decide) ⟨rfl, rfl, rfl⟩ xt_86 hv ?_
      refine x_iload_n (pc := 12) B 2 dX0_differsOnlyInPlan_12 rfl rfl ?_
      obtain ⟨v2, hv, h⟩ := xbind h
      refine x_iald (pc := 13) B dX0_differsOnlyInPlan_13 hv ?_
      refine x_aload_n (pc := 14) B 1 dX0_differsOnlyInPlan_14 rfl rfl ?_
      obtain ⟨v3, hv, h⟩ := xbind h
      refine x_getR (k0 := 0) (pc := 15) B dX0_differsOnlyInPlan_15 rfl xi_0 (by decide) ⟨rfl, rfl, rfl⟩ xt_86 hv ?_
      refine x_iload_n (pc := 18) B 2 dX0_differsOnlyInPlan_18 rfl rfl ?_
      obtain ⟨v4, hv, h⟩ := xbind h
      refine x_iald (pc := 19) B dX0_differsOnlyInPlan_19 hv ?_
      rcases xite h with ⟨hc, h⟩ | ⟨hc, h⟩
      · refine x_icmp_eq_t (tgt := 25) (pc := 20) B dX0_differsOnlyInPlan_20 (by decide) hc ?_
        refine x_iinc (L1 := [(2, .int (i2 + (1 : Int32))), (0, .ref a0), (1, .ref a1)]) (pc := 25) B 2 dX0_differsOnlyInPlan_25 rfl (congrArg _ xk_iconst_1) (by decide) rfl ?_
        refine x_goto (tgt := 2) (pc := 28) B dX0_differsOnlyInPlan_28 (by decide) ?_
        refine x_sub (L1 := [(0, .ref a0), (1, .ref a1), (2, .int (i2 + (1 : Int32)))]) [1, 2, 0] rfl ?_
        exact ih a0 a1 (i2 + (1 : Int32)) w h
      · refine x_icmp_eq_f (pc := 20) B 25 dX0_differsOnlyInPlan_20 (by decide) hc ?_
        refine x_iconst (pc := 23) B dX0_differsOnlyInPlan_23 xk_iconst_0 ?_
        exact x_iret (pc := 24) B hR dX0_differsOnlyInPlan_24 xz0 h
def fX0_differsOnlyInPlan (a0 : Nat) (a1 : Nat) (w : XW) : Option (Int32 × XW) := if xis w a0 0 = true then
  fX0_differsOnlyInPlan_2 1000 a0 a1 (0 : Int32) w
  else none
theorem iX0_differsOnlyInPlan {a0 : Nat} {a1 : Nat} {w : XW} {R9 : (Int32 × XW)} (h : fX0_differsOnlyInPlan a0 a1 w = some R9) : xis w a0 0 = true := by
  unfold fX0_differsOnlyInPlan at h
  rcases xite h with ⟨hc, h⟩ | ⟨hc, h⟩
  · exact hc
  · exact absurd h (by simp)
theorem np_X0_differsOnlyInPlan : (parseMethodDescriptor yX0_differsOnlyInPlan.desc).map (fun d => d.parameters.length) = some 1 := by decide +kernel
theorem hy_X0_differsOnlyInPlan : yX0_differsOnlyInPlan.cls ≠ "java/lang/invoke/MethodHandle" ∧ yX0_differsOnlyInPlan.cls ≠ "java/lang/invoke/VarHandle" := ⟨by decide +kernel, by decide +kernel⟩
set_option maxRecDepth 20000 in
theorem eX0_differsOnlyInPlan {cx : CX} {a0 : Nat} {a1 : Nat} {w : XW} {R9 : (Int32 × XW)} (h : fX0_differsOnlyInPlan a0 a1 w = some R9) : Ct yX0_differsOnlyInPlan cX0_differsOnlyInPlan 3 (some .boolean) 0 0 cx [.ref a0, .ref a1] w (some (.int R9.1)) R9.2 := by
  refine Ct_of (by decide +kernel) (Nat.le_of_ble_eq_true rfl) (fun K B hR => ?_)
  rw [fX0_differsOnlyInPlan] at h
  show Wx K cx 3 w.length 0 [(0, .ref a0), (1, .ref a1)] [] w
  rcases xite h with ⟨hc, h⟩ | ⟨hc, h⟩
  · skip
    refine x_iconst (pc := 0) B dX0_differsOnlyInPlan_0 xk_iconst_0 ?_
    refine x_istore_n (L1 := [(2, .int (0 : Int32)), (0, .ref a0), (1, .ref a1)]) (pc := 1) B dX0_differsOnlyInPlan_1 rfl (by decide) rfl ?_
    refine x_sub (L1 := [(0, .ref a0), (1, .ref a1), (2, .int (0 : Int32))]) [1, 2, 0] rfl ?_
    exact pX0_differsOnlyInPlan_2 B hR 1000 a0 a1 (0 : Int32) w h
  · exact absurd h (by simp)
def fX0_typesThere_4 : Nat → Nat → Int32 → Int32 → XW → Option (Int32 × XW)
  | 0, _, _, _, _ => none
  | g + 1, a0, i1, i2, w =>
    if (3 : Int32) ≤ i2 then
      some (i1, w)
    else
    (fX0_weightPlace i2 w).bind fun q1 =>
    (fX0_cell a0 q1.1 q1.2).bind fun q2 =>
    if q2.1 ≤ (0 : Int32) then
      fX0_typesThere_4 g a0 i1 (i2 + (1 : Int32)) q2.2
    else
    fX0_typesThere_4 g a0 (i1 ||| ((1 : Int32) <<< (i2 &&& 31))) (i2 + (1 : Int32)) q2.2
set_option maxRecDepth 20000 in
theorem pX0_typesThere_4 {K : KX} {cx : CX} {nn : Nat} {R9 : Int32 × XW} (B : XB K cx RX0 cX0_typesThere 3 nn 1 21) (hR : XR K cx nn (some .int) (some (.int R9.1)) R9.2) : ∀ (g : Nat) (a0 : Nat) (i1 : Int32) (i2 : Int32) (w : XW), fX0_typesThere_4 g a0 i1 i2 w = some R9 → Wx K cx 3 nn 4 [(0, .ref a0), (1, .int i1), (2, .int i2)] [] w := by
  intro g
  induction g with
  | zero =>
    intro a0 i1 i2 w h
    exact absurd (show (none : Option (Int32 × XW)) = some R9 from h) (by simp)
  | succ g ih =>
    intro a0 i1 i2 w h
    rw [fX0_typesThere_4] at h
    refine x_iload_n (pc := 4) B 2 dX0_typesThere_4 rfl rfl ?_
    refine x_iconst (pc := 5) B dX0_typesThere_5 xk_iconst_3 ?_
    rcases xite h with ⟨hc, h⟩ | ⟨hc, h⟩
    · refine x_icmp_ge_t (tgt := 32) (pc := 6) B dX0_typesThere_6 (by decide) hc ?_
      refine x_iload_n (pc := 32) B 1 dX0_typesThere_32 rfl rfl ?_
      exact x_iret (pc := 33) B hR dX0_typesThere_33 (xzI _) h
    · refine x_icmp_ge_f (pc := 6) B 32 dX0_typesThere_6 (by decide) hc ?_
      refine x_aload_n (pc := 9) B 0 dX0_typesThere_9 rfl rfl ?_
      refine x_iload_n (pc := 10) B 2 dX0_typesThere_10 rfl rfl ?_
      obtain ⟨q1, hq, h⟩ := xbind h
      refine x_callS1 (st := [.ref a0]) (pc := 11) B dX0_typesThere_11 (eX0_weightPlace hq) xt_149 xt_54 np_X0_weightPlace hy_X0_weightPlace (Nat.le_of_ble_eq_true rfl) (Nat.le_of_ble_eq_true rfl) (Nat.le_of_ble_eq_true rfl) xt_148 xt_147 rfl ?_
      obtain ⟨q2, hq, h⟩ := xbind h
      refine x_callV1 (st := []) (pc := 14) B dX0_typesThere_14 (eX0_cell hq) xt_153 xt_54 np_X0_cell hy_X0_cell (Nat.le_of_ble_eq_true rfl) (Nat.le_of_ble_eq_true rfl) (Nat.le_of_ble_eq_true rfl) xt_151 xt_152 xt_150 rfl (iX0_cell hq) rfl ?_
      rcases xite h with ⟨hc, h⟩ | ⟨hc, h⟩
      · refine x_if_le_t (tgt := 26) (pc := 17) B dX0_typesThere_17 (by decide) hc ?_
        refine x_iinc (L1 := [(2, .int (i2 + (1 : Int32))), (0, .ref a0), (1, .int i1)]) (pc := 26) B 2 dX0_typesThere_26 rfl (congrArg _ xk_iconst_1) (by decide) rfl ?_
        refine x_goto (tgt := 4) (pc := 29) B dX0_typesThere_29 (by decide) ?_
        refine x_sub (L1 := [(0, .ref a0), (1, .int i1), (2, .int (i2 + (1 : Int32)))]) [1, 2, 0] rfl ?_
        exact ih a0 i1 (i2 + (1 : Int32)) q2.2 h
      · refine x_if_le_f (pc := 17) B 26 dX0_typesThere_17 (by decide) hc ?_
        refine x_iload_n (pc := 20) B 1 dX0_typesThere_20 rfl rfl ?_
        refine x_iconst (pc := 21) B dX0_typesThere_21 xk_iconst_1 ?_
        refine x_iload_n (pc := 22) B 2 dX0_typesThere_22 rfl rfl ?_
        refine x_ishl (pc := 23) B dX0_typesThere_23 ?_
        refine x_ior (pc := 24) B dX0_typesThere_24 ?_
        refine x_istore_n (L1 := [(1, .int (i1 ||| ((1 : Int32) <<< (i2 &&& 31)))), (0, .ref a0), (2, .int i2)]) (pc := 25) B dX0_typesThere_25 rfl (by decide) rfl ?_
        refine x_iinc (L1 := [(2, .int (i2 + (1 : Int32))), (1, .int (i1 ||| ((1 : Int32) <<< (i2 &&& 31)))), (0, .ref a0)]) (pc := 26) B 2 dX0_typesThere_26 rfl (congrArg _ xk_iconst_1) (by decide) rfl ?_
        refine x_goto (tgt := 4) (pc := 29) B dX0_typesThere_29 (by decide) ?_
        refine x_sub (L1 := [(0, .ref a0), (1, .int (i1 ||| ((1 : Int32) <<< (i2 &&& 31)))), (2, .int (i2 + (1 : Int32)))]) [2, 1, 0] rfl ?_
        exact ih a0 (i1 ||| ((1 : Int32) <<< (i2 &&& 31))) (i2 + (1 : Int32)) q2.2 h
def fX0_typesThere (a0 : Nat) (w : XW) : Option (Int32 × XW) := if xis w a0 0 = true then
  fX0_typesThere_4 1000 a0 (0 : Int32) (0 : Int32) w
  else none
theorem iX0_typesThere {a0 : Nat} {w : XW} {R9 : (Int32 × XW)} (h : fX0_typesThere a0 w = some R9) : xis w a0 0 = true := by
  unfold fX0_typesThere at h
  rcases xite h with ⟨hc, h⟩ | ⟨hc, h⟩
  · exact hc
  · exact absurd h (by simp)
theorem np_X0_typesThere : (parseMethodDescriptor yX0_typesThere.desc).map (fun d => d.parameters.length) = some 0 := by decide +kernel
theorem hy_X0_typesThere : yX0_typesThere.cls ≠ "java/lang/invoke/MethodHandle" ∧ yX0_typesThere.cls ≠ "java/lang/invoke/VarHandle" := ⟨by decide +kernel, by decide +kernel⟩
set_option maxRecDepth 20000 in
theorem eX0_typesThere {cx : CX} {a0 : Nat} {w : XW} {R9 : (Int32 × XW)} (h : fX0_typesThere a0 w = some R9) : Ct yX0_typesThere cX0_typesThere 3 (some .int) 1 21 cx [.ref a0] w (some (.int R9.1)) R9.2 := by
  refine Ct_of (by decide +kernel) (Nat.le_of_ble_eq_true rfl) (fun K B hR => ?_)
  rw [fX0_typesThere] at h
  show Wx K cx 3 w.length 0 [(0, .ref a0)] [] w
  rcases xite h with ⟨hc, h⟩ | ⟨hc, h⟩
  · skip
    refine x_iconst (pc := 0) B dX0_typesThere_0 xk_iconst_0 ?_
    refine x_istore_n (L1 := [(1, .int (0 : Int32)), (0, .ref a0)]) (pc := 1) B dX0_typesThere_1 rfl (by decide) rfl ?_
    refine x_iconst (pc := 2) B dX0_typesThere_2 xk_iconst_0 ?_
    refine x_istore_n (L1 := [(2, .int (0 : Int32)), (1, .int (0 : Int32)), (0, .ref a0)]) (pc := 3) B dX0_typesThere_3 rfl (by decide) rfl ?_
    refine x_sub (L1 := [(0, .ref a0), (1, .int (0 : Int32)), (2, .int (0 : Int32))]) [2, 1, 0] rfl ?_
    exact pX0_typesThere_4 B hR 1000 a0 (0 : Int32) (0 : Int32) w h
  · exact absurd h (by simp)
def fX0_possibleActions_108 (k148 : Nat → Int32 → Int32 → Int32 → Int32 → Int32 → Int32 → Int32 → Int32 → XW → Option (Int32 × XW)) : Nat → Nat → Int32 → Int32 → Int32 → Int32 → Int32 → Int32 → Int32 → Int32 → Int32 → XW → Option (Int32 × XW)
  | 0, _, _, _, _, _, _, _, _, _, _, _ => none
  | g + 1, a0, i1, i3, i4, i5, i6, i7, i8, i9, i10, w =>
    if i6 < i10 then
      k148 a0 i1 i3 i4 i5 i6 i7 i8 i9 w
    else
    if ((i8 + i9) + i10) ≤ (0 : Int32) then
      fX0_possibleActions_108 k148 g a0 i1 i3 i4 i5 i6 i7 i8 i9 (i10 + (1 : Int32)) w
    else
    (fX0_bestBy a0 i1 i8 i9 i10 w).bind fun q11 =>
    fX0_possibleActions_108 k148 g a0 i1 i3 i4 i5 i6 (i7 ||| q11.1) i8 i9 (i10 + (1 : Int32)) q11.2
set_option maxRecDepth 20000 in
theorem pX0_possibleActions_108 {K : KX} {cx : CX} {nn : Nat} {R9 : Int32 × XW} (B : XB K cx RX0 cX0_possibleActions 11 nn 3 76) (hR : XR K cx nn (some .int) (some (.int R9.1)) R9.2) {k148 : Nat → Int32 → Int32 → Int32 → Int32 → Int32 → Int32 → Int32 → Int32 → XW → Option (Int32 × XW)} (hk148 : ∀ (a0 : Nat) (i1 : Int32) (i3 : Int32) (i4 : Int32) (i5 : Int32) (i6 : Int32) (i7 : Int32) (i8 : Int32) (i9 : Int32) (w : XW), k148 a0 i1 i3 i4 i5 i6 i7 i8 i9 w = some R9 → Wx K cx 11 nn 148 [(0, .ref a0), (1, .int i1), (3, .int i3), (4, .int i4), (5, .int i5), (6, .int i6), (7, .int i7), (8, .int i8), (9, .int i9)] [] w) : ∀ (g : Nat) (a0 : Nat) (i1 : Int32) (i3 : Int32) (i4 : Int32) (i5 : Int32) (i6 : Int32) (i7 : Int32) (i8 : Int32) (i9 : Int32) (i10 : Int32) (w : XW), fX0_possibleActions_108 k148 g a0 i1 i3 i4 i5 i6 i7 i8 i9 i10 w = some R9 → Wx K cx 11 nn 108 [(0, .ref a0), (1, .int i1), (3, .int i3), (4, .int i4), (5, .int i5), (6, .int i6), (7, .int i7), (8, .int i8), (9, .int i9), (10, .int i10)] [] w := by
  intro g
  induction g with
  | zero =>
    intro a0 i1 i3 i4 i5 i6 i7 i8 i9 i10 w h
    exact absurd (show (none : Option (Int32 × XW)) = some R9 from h) (by simp)
  | succ g ih =>
    intro a0 i1 i3 i4 i5 i6 i7 i8 i9 i10 w h
    rw [fX0_possibleActions_108] at h
    refine x_iload (pc := 108) B 9 dX0_possibleActions_108 rfl ?_
    refine x_iload (pc := 110) B 5 dX0_possibleActions_110 rfl ?_
    rcases xite h with ⟨hc, h⟩ | ⟨hc, h⟩
    · refine x_icmp_gt_t (tgt := 148) (pc := 112) B dX0_possibleActions_112 (by decide) hc ?_
      refine x_sub (L1 := [(0, .ref a0), (1, .int i1), (3, .int i3), (4, .int i4), (5, .int i5), (6, .int i6), (7, .int i7), (8, .int i8), (9, .int i9)]) [0, 1, 2, 3, 4, 5, 6, 7, 8] rfl ?_
      exact hk148 a0 i1 i3 i4 i5 i6 i7 i8 i9 w h
    · refine x_icmp_gt_f (pc := 112) B 148 dX0_possibleActions_112 (by decide) hc ?_
      refine x_iload (pc := 115) B 7 dX0_possibleActions_115 rfl ?_
      refine x_iload (pc := 117) B 8 dX0_possibleActions_117 rfl ?_
      refine x_iadd (pc := 119) B dX0_possibleActions_119 ?_
      refine x_iload (pc := 120) B 9 dX0_possibleActions_120 rfl ?_
      refine x_iadd (pc := 122) B dX0_possibleActions_122 ?_
      rcases xite h with ⟨hc, h⟩ | ⟨hc, h⟩
      · refine x_if_le_t (tgt := 142) (pc := 123) B dX0_possibleActions_123 (by decide) hc ?_
        refine x_iinc (L1 := [(10, .int (i10 + (1 : Int32))), (0, .ref a0), (1, .int i1), (3, .int i3), (4, .int i4), (5, .int i5), (6, .int i6), (7, .int i7), (8, .int i8), (9, .int i9)]) (pc := 142) B 9 dX0_possibleActions_142 rfl (congrArg _ xk_iconst_1) (by decide) rfl ?_
        refine x_goto (tgt := 108) (pc := 145) B dX0_possibleActions_145 (by decide) ?_
        refine x_sub (L1 := [(0, .ref a0), (1, .int i1), (3, .int i3), (4, .int i4), (5, .int i5), (6, .int i6), (7, .int i7), (8, .int i8), (9, .int i9), (10, .int (i10 + (1 : Int32)))]) [1, 2, 3, 4, 5, 6, 7, 8, 9, 0] rfl ?_
        exact ih a0 i1 i3 i4 i5 i6 i7 i8 i9 (i10 + (1 : Int32)) w h
      · refine x_if_le_f (pc := 123) B 142 dX0_possibleActions_123 (by decide) hc ?_
        refine x_iload (pc := 126) B 6 dX0_possibleActions_126 rfl ?_
        refine x_aload_n (pc := 128) B 0 dX0_possibleActions_128 rfl rfl ?_
        refine x_iload_n (pc := 129) B 1 dX0_possibleActions_129 rfl rfl ?_
        refine x_iload (pc := 130) B 7 dX0_possibleActions_130 rfl ?_
        refine x_iload (pc := 132) B 8 dX0_possibleActions_132 rfl ?_
        refine x_iload (pc := 134) B 9 dX0_possibleActions_134 rfl ?_
        obtain ⟨q11, hq, h⟩ := xbind h
        refine x_callV1 (st := [.int i7]) (pc := 136) B dX0_possibleActions_136 (eX0_bestBy hq) xt_269 xt_54 np_X0_bestBy hy_X0_bestBy (Nat.le_of_ble_eq_true rfl) (Nat.le_of_ble_eq_true rfl) (Nat.le_of_ble_eq_true rfl) xt_268 xt_6 xt_266 rfl (iX0_bestBy hq) rfl ?_
        refine x_ior (pc := 139) B dX0_possibleActions_139 ?_
        refine x_istore (L1 := [(7, .int (i7 ||| q11.1)), (0, .ref a0), (1, .int i1), (3, .int i3), (4, .int i4), (5, .int i5), (6, .int i6), (8, .int i8), (9, .int i9), (10, .int i10)]) (pc := 140) B dX0_possibleActions_140 (by decide) rfl ?_
        refine x_iinc (L1 := [(10, .int (i10 + (1 : Int32))), (7, .int (i7 ||| q11.1)), (0, .ref a0), (1, .int i1), (3, .int i3), (4, .int i4), (5, .int i5), (6, .int i6), (8, .int i8), (9, .int i9)]) (pc := 142) B 9 dX0_possibleActions_142 rfl (congrArg _ xk_iconst_1) (by decide) rfl ?_
        refine x_goto (tgt := 108) (pc := 145) B dX0_possibleActions_145 (by decide) ?_
        refine x_sub (L1 := [(0, .ref a0), (1, .int i1), (3, .int i3), (4, .int i4), (5, .int i5), (6, .int i6), (7, .int (i7 ||| q11.1)), (8, .int i8), (9, .int i9), (10, .int (i10 + (1 : Int32)))]) [2, 3, 4, 5, 6, 7, 1, 8, 9, 0] rfl ?_
        exact ih a0 i1 i3 i4 i5 i6 (i7 ||| q11.1) i8 i9 (i10 + (1 : Int32)) q11.2 h
def fX0_possibleActions_98 (k154 : Nat → Int32 → Int32 → Int32 → Int32 → Int32 → Int32 → Int32 → XW → Option (Int32 × XW)) : Nat → Nat → Int32 → Int32 → Int32 → Int32 → Int32 → Int32 → Int32 → Int32 → XW → Option (Int32 × XW)
  | 0, _, _, _, _, _, _, _, _, _, _ => none
  | g + 1, a0, i1, i3, i4, i5, i6, i7, i8, i9, w =>
    if i5 < i9 then
      k154 a0 i1 i3 i4 i5 i6 i7 i8 w
    else
    fX0_possibleActions_108 (fun a0_12 i1_12 i3_12 i4_12 i5_12 i6_12 i7_12 i8_12 i9_12 w_12 =>
      fX0_possibleActions_98 k154 g a0_12 i1_12 i3_12 i4_12 i5_12 i6_12 i7_12 i8_12 (i9_12 + (1 : Int32)) w_12) 1000 a0 i1 i3 i4 i5 i6 i7 i8 i9 (0 : Int32) w
set_option maxRecDepth 20000 in
theorem pX0_possibleActions_98 {K : KX} {cx : CX} {nn : Nat} {R9 : Int32 × XW} (B : XB K cx RX0 cX0_possibleActions 11 nn 3 76) (hR : XR K cx nn (some .int) (some (.int R9.1)) R9.2) {k154 : Nat → Int32 → Int32 → Int32 → Int32 → Int32 → Int32 → Int32 → XW → Option (Int32 × XW)} (hk154 : ∀ (a0 : Nat) (i1 : Int32) (i3 : Int32) (i4 : Int32) (i5 : Int32) (i6 : Int32) (i7 : Int32) (i8 : Int32) (w : XW), k154 a0 i1 i3 i4 i5 i6 i7 i8 w = some R9 → Wx K cx 11 nn 154 [(0, .ref a0), (1, .int i1), (3, .int i3), (4, .int i4), (5, .int i5), (6, .int i6), (7, .int i7), (8, .int i8)] [] w) : ∀ (g : Nat) (a0 : Nat) (i1 : Int32) (i3 : Int32) (i4 : Int32) (i5 : Int32) (i6 : Int32) (i7 : Int32) (i8 : Int32) (i9 : Int32) (w : XW), fX0_possibleActions_98 k154 g a0 i1 i3 i4 i5 i6 i7 i8 i9 w = some R9 → Wx K cx 11 nn 98 [(0, .ref a0), (1, .int i1), (3, .int i3), (4, .int i4), (5, .int i5), (6, .int i6), (7, .int i7), (8, .int i8), (9, .int i9)] [] w := by
  intro g
  induction g with
  | zero =>
    intro a0 i1 i3 i4 i5 i6 i7 i8 i9 w h
    exact absurd (show (none : Option (Int32 × XW)) = some R9 from h) (by simp)
  | succ g ih =>
    intro a0 i1 i3 i4 i5 i6 i7 i8 i9 w h
    rw [fX0_possibleActions_98] at h
    refine x_iload (pc := 98) B 8 dX0_possibleActions_98 rfl ?_
    refine x_iload (pc := 100) B 4 dX0_possibleActions_100 rfl ?_
    rcases xite h with ⟨hc, h⟩ | ⟨hc, h⟩
    · refine x_icmp_gt_t (tgt := 154) (pc := 102) B dX0_possibleActions_102 (by decide) hc ?_
      refine x_sub (L1 := [(0, .ref a0), (1, .int i1), (3, .int i3), (4, .int i4), (5, .int i5), (6, .int i6), (7, .int i7), (8, .int i8)]) [0, 1, 2, 3, 4, 5, 6, 7] rfl ?_
      exact hk154 a0 i1 i3 i4 i5 i6 i7 i8 w h
    · refine x_icmp_gt_f (pc := 102) B 154 dX0_possibleActions_102 (by decide) hc ?_
      refine x_iconst (pc := 105) B dX0_possibleActions_105 xk_iconst_0 ?_
      refine x_istore (L1 := [(10, .int (0 : Int32)), (0, .ref a0), (1, .int i1), (3, .int i3), (4, .int i4), (5, .int i5), (6, .int i6), (7, .int i7), (8, .int i8), (9, .int i9)]) (pc := 106) B dX0_possibleActions_106 (by decide) rfl ?_
      refine x_sub (L1 := [(0, .ref a0), (1, .int i1), (3, .int i3), (4, .int i4), (5, .int i5), (6, .int i6), (7, .int i7), (8, .int i8), (9, .int i9), (10, .int (0 : Int32))]) [1, 2, 3, 4, 5, 6, 7, 8, 9, 0] rfl ?_
      refine pX0_possibleActions_108 B hR ?_ 1000 a0 i1 i3 i4 i5 i6 i7 i8 i9 (0 : Int32) w h
      · intro a0_12 i1_12 i3_12 i4_12 i5_12 i6_12 i7_12 i8_12 i9_12 w_12 h
        refine x_iinc (L1 := [(9, .int (i9_12 + (1 : Int32))), (0, .ref a0_12), (1, .int i1_12), (3, .int i3_12), (4, .int i4_12), (5, .int i5_12), (6, .int i6_12), (7, .int i7_12), (8, .int i8_12)]) (pc := 148) B 8 dX0_possibleActions_148 rfl (congrArg _ xk_iconst_1) (by decide) rfl ?_
        refine x_goto (tgt := 98) (pc := 151) B dX0_possibleActions_151 (by decide) ?_
        refine x_sub (L1 := [(0, .ref a0_12), (1, .int i1_12), (3, .int i3_12), (4, .int i4_12), (5, .int i5_12), (6, .int i6_12), (7, .int i7_12), (8, .int i8_12), (9, .int (i9_12 + (1 : Int32)))]) [1, 2, 3, 4, 5, 6, 7, 8, 0] rfl ?_
        exact ih a0_12 i1_12 i3_12 i4_12 i5_12 i6_12 i7_12 i8_12 (i9_12 + (1 : Int32)) w_12 h
def fX0_possibleActions_88 : Nat → Nat → Int32 → Int32 → Int32 → Int32 → Int32 → Int32 → Int32 → XW → Option (Int32 × XW)
  | 0, _, _, _, _, _, _, _, _, _ => none
  | g + 1, a0, i1, i3, i4, i5, i6, i7, i8, w =>
    if i4 < i8 then
      (xgR w a0 0 1).bind fun v9 =>
      (xsI w v9 i3 i7).bind fun w10 =>
      some (i7, w10)
    else
    fX0_possibleActions_98 (fun a0_13 i1_13 i3_13 i4_13 i5_13 i6_13 i7_13 i8_13 w_13 =>
      fX0_possibleActions_88 g a0_13 i1_13 i3_13 i4_13 i5_13 i6_13 i7_13 (i8_13 + (1 : Int32)) w_13) 1000 a0 i1 i3 i4 i5 i6 i7 i8 (0 : Int32) w
set_option maxRecDepth 20000 in
theorem pX0_possibleActions_88 {K : KX} {cx : CX} {nn : Nat} {R9 : Int32 × XW} (B : XB K cx RX0 cX0_possibleActions 11 nn 3 76) (hR : XR K cx nn (some .int) (some (.int R9.1)) R9.2) : ∀ (g : Nat) (a0 : Nat) (i1 : Int32) (i3 : Int32) (i4 : Int32) (i5 : Int32) (i6 : Int32) (i7 : Int32) (i8 : Int32) (w : XW), fX0_possibleActions_88 g a0 i1 i3 i4 i5 i6 i7 i8 w = some R9 → Wx K cx 11 nn 88 [(0, .ref a0), (1, .int i1), (3, .int i3), (4, .int i4), (5, .int i5), (6, .int i6), (7, .int i7), (8, .int i8)] [] w := by
  intro g
  induction g with
  | zero =>
    intro a0 i1 i3 i4 i5 i6 i7 i8 w h
    exact absurd (show (none : Option (Int32 × XW)) = some R9 from h) (by simp)
  | succ g ih =>
    intro a0 i1 i3 i4 i5 i6 i7 i8 w h
    rw [fX0_possibleActions_88] at h
    refine x_iload (pc := 88) B 7 dX0_possibleActions_88 rfl ?_
    refine x_iload (pc := 90) B 3 dX0_possibleActions_90 rfl ?_
    rcases xite h with ⟨hc, h⟩ | ⟨hc, h⟩
    · refine x_icmp_gt_t (tgt := 160) (pc := 92) B dX0_possibleActions_92 (by decide) hc ?_
      refine x_aload_n (pc := 160) B 0 dX0_possibleActions_160 rfl rfl ?_
      obtain ⟨v9, hv, h⟩ := xbind h
      refine x_getR (k0 := 1) (pc := 161) B dX0_possibleActions_161 rfl xi_0 (by decide) ⟨rfl, rfl, rfl⟩ xt_87 hv ?_
      refine x_iload_n (pc := 164) B 2 dX0_possibleActions_164 rfl rfl ?_
      refine x_iload (pc := 165) B 6 dX0_possibleActions_165 rfl ?_
      obtain ⟨w10, hv, h⟩ := xbind h
      refine x_iast (pc := 167) B dX0_possibleActions_167 hv ?_
      refine x_iload (pc := 168) B 6 dX0_possibleActions_168 rfl ?_
      exact x_iret (pc := 170) B hR dX0_possibleActions_170 (xzI _) h
    · refine x_icmp_gt_f (pc := 92) B 160 dX0_possibleActions_92 (by decide) hc ?_
      refine x_iconst (pc := 95) B dX0_possibleActions_95 xk_iconst_0 ?_
      refine x_istore (L1 := [(9, .int (0 : Int32)), (0, .ref a0), (1, .int i1), (3, .int i3), (4, .int i4), (5, .int i5), (6, .int i6), (7, .int i7), (8, .int i8)]) (pc := 96) B dX0_possibleActions_96 (by decide) rfl ?_
      refine x_sub (L1 := [(0, .ref a0), (1, .int i1), (3, .int i3), (4, .int i4), (5, .int i5), (6, .int i6), (7, .int i7), (8, .int i8), (9, .int (0 : Int32))]) [1, 2, 3, 4, 5, 6, 7, 8, 0] rfl ?_
      refine pX0_possibleActions_98 B hR ?_ 1000 a0 i1 i3 i4 i5 i6 i7 i8 (0 : Int32) w h
      · intro a0_13 i1_13 i3_13 i4_13 i5_13 i6_13 i7_13 i8_13 w_13 h
        refine x_iinc (L1 := [(8, .int (i8_13 + (1 : Int32))), (0, .ref a0_13), (1, .int i1_13), (3, .int i3_13), (4, .int i4_13), (5, .int i5_13), (6, .int i6_13), (7, .int i7_13)]) (pc := 154) B 7 dX0_possibleActions_154 rfl (congrArg _ xk_iconst_1) (by decide) rfl ?_
        refine x_goto (tgt := 88) (pc := 157) B dX0_possibleActions_157 (by decide) ?_
        refine x_sub (L1 := [(0, .ref a0_13), (1, .int i1_13), (3, .int i3_13), (4, .int i4_13), (5, .int i5_13), (6, .int i6_13), (7, .int i7_13), (8, .int (i8_13 + (1 : Int32)))]) [1, 2, 3, 4, 5, 6, 7, 0] rfl ?_
        exact ih a0_13 i1_13 i3_13 i4_13 i5_13 i6_13 i7_13 (i8_13 + (1 : Int32)) w_13 h
def fX0_possibleActions_80 (a0 : Nat) (i1 : Int32) (i3 : Int32) (i4 : Int32) (i5 : Int32) (s0 : Int32) (w : XW) : Option (Int32 × XW) :=
  fX0_possibleActions_88 1000 a0 i1 i3 i4 i5 s0 (0 : Int32) (0 : Int32) w
set_option maxRecDepth 20000 in
theorem pX0_possibleActions_80 {K : KX} {cx : CX} {nn : Nat} {R9 : Int32 × XW} (B : XB K cx RX0 cX0_possibleActions 11 nn 3 76) (hR : XR K cx nn (some .int) (some (.int R9.1)) R9.2) : ∀ (a0 : Nat) (i1 : Int32) (i3 : Int32) (i4 : Int32) (i5 : Int32) (s0 : Int32) (w : XW), fX0_possibleActions_80 a0 i1 i3 i4 i5 s0 w = some R9 → Wx K cx 11 nn 80 [(0, .ref a0), (1, .int i1), (3, .int i3), (4, .int i4), (5, .int i5)] [.int s0] w := by
  intro a0 i1 i3 i4 i5 s0 w h
  rw [fX0_possibleActions_80] at h
  refine x_istore (L1 := [(6, .int s0), (0, .ref a0), (1, .int i1), (3, .int i3), (4, .int i4), (5, .int i5)]) (pc := 80) B dX0_possibleActions_80 (by decide) rfl ?_
  refine x_iconst (pc := 82) B dX0_possibleActions_82 xk_iconst_0 ?_
  refine x_istore (L1 := [(7, .int (0 : Int32)), (6, .int s0), (0, .ref a0), (1, .int i1), (3, .int i3), (4, .int i4), (5, .int i5)]) (pc := 83) B dX0_possibleActions_83 (by decide) rfl ?_
  refine x_iconst (pc := 85) B dX0_possibleActions_85 xk_iconst_0 ?_
  refine x_istore (L1 := [(8, .int (0 : Int32)), (7, .int (0 : Int32)), (6, .int s0), (0, .ref a0), (1, .int i1), (3, .int i3), (4, .int i4), (5, .int i5)]) (pc := 86) B dX0_possibleActions_86 (by decide) rfl ?_
  refine x_sub (L1 := [(0, .ref a0), (1, .int i1), (3, .int i3), (4, .int i4), (5, .int i5), (6, .int s0), (7, .int (0 : Int32)), (8, .int (0 : Int32))]) [3, 4, 5, 6, 7, 2, 1, 0] rfl ?_
  exact pX0_possibleActions_88 B hR 1000 a0 i1 i3 i4 i5 s0 (0 : Int32) (0 : Int32) w h
def fX0_possibleActions_65 (a0 : Nat) (i1 : Int32) (i2 : Int32) (i3 : Int32) (i4 : Int32) (s0 : Int32) (w : XW) : Option (Int32 × XW) :=
  (fX3_has i2 (2 : Int32) w).bind fun q8 =>
  if q8.1 = (0 : Int32) then
    fX0_possibleActions_80 a0 i1 i3 i4 s0 (0 : Int32) q8.2
  else
  fX0_possibleActions_80 a0 i1 i3 i4 s0 (4 : Int32) q8.2
set_option maxRecDepth 20000 in
theorem pX0_possibleActions_65 {K : KX} {cx : CX} {nn : Nat} {R9 : Int32 × XW} (B : XB K cx RX0 cX0_possibleActions 11 nn 3 76) (hR : XR K cx nn (some .int) (some (.int R9.1)) R9.2) : ∀ (a0 : Nat) (i1 : Int32) (i2 : Int32) (i3 : Int32) (i4 : Int32) (s0 : Int32) (w : XW), fX0_possibleActions_65 a0 i1 i2 i3 i4 s0 w = some R9 → Wx K cx 11 nn 65 [(0, .ref a0), (1, .int i1), (2, .int i2), (3, .int i3), (4, .int i4)] [.int s0] w := by
  intro a0 i1 i2 i3 i4 s0 w h
  rw [fX0_possibleActions_65] at h
  refine x_istore (L1 := [(5, .int s0), (0, .ref a0), (1, .int i1), (2, .int i2), (3, .int i3), (4, .int i4)]) (pc := 65) B dX0_possibleActions_65 (by decide) rfl ?_
  refine x_iload_n (pc := 67) B 3 dX0_possibleActions_67 rfl rfl ?_
  refine x_iconst (pc := 68) B dX0_possibleActions_68 xk_iconst_2 ?_
  obtain ⟨q8, hq, h⟩ := xbind h
  refine x_callSN1 (st := []) (pc := 69) B dX0_possibleActions_69 (eX3_has hq) xt_265 xt_53 np_X3_has hy_X3_has (Nat.le_of_ble_eq_true rfl) (Nat.le_of_ble_eq_true rfl) (Nat.le_of_ble_eq_true rfl) xt_264 (List.mem_of_getElem? (i := 1) rfl) rfl ?_
  rcases xite h with ⟨hc, h⟩ | ⟨hc, h⟩
  · refine x_if_eq_t (tgt := 79) (pc := 72) B dX0_possibleActions_72 (by decide) hc ?_
    refine x_iconst (pc := 79) B dX0_possibleActions_79 xk_iconst_0 ?_
    refine x_sub (L1 := [(0, .ref a0), (1, .int i1), (3, .int i3), (4, .int i4), (5, .int s0)]) [1, 2, 4, 5, 0] rfl ?_
    exact pX0_possibleActions_80 B hR a0 i1 i3 i4 s0 (0 : Int32) q8.2 h
  · refine x_if_eq_f (pc := 72) B 79 dX0_possibleActions_72 (by decide) hc ?_
    refine x_iconst (pc := 75) B dX0_possibleActions_75 xk_iconst_4 ?_
    refine x_goto (tgt := 80) (pc := 76) B dX0_possibleActions_76 (by decide) ?_
    refine x_sub (L1 := [(0, .ref a0), (1, .int i1), (3, .int i3), (4, .int i4), (5, .int s0)]) [1, 2, 4, 5, 0] rfl ?_
    exact pX0_possibleActions_80 B hR a0 i1 i3 i4 s0 (4 : Int32) q8.2 h
def fX0_possibleActions_50 (a0 : Nat) (i1 : Int32) (i2 : Int32) (i3 : Int32) (s0 : Int32) (w : XW) : Option (Int32 × XW) :=
  (fX3_has i2 (1 : Int32) w).bind fun q7 =>
  if q7.1 = (0 : Int32) then
    fX0_possibleActions_65 a0 i1 i2 i3 s0 (0 : Int32) q7.2
  else
  fX0_possibleActions_65 a0 i1 i2 i3 s0 (4 : Int32) q7.2
set_option maxRecDepth 20000 in
theorem pX0_possibleActions_50 {K : KX} {cx : CX} {nn : Nat} {R9 : Int32 × XW} (B : XB K cx RX0 cX0_possibleActions 11 nn 3 76) (hR : XR K cx nn (some .int) (some (.int R9.1)) R9.2) : ∀ (a0 : Nat) (i1 : Int32) (i2 : Int32) (i3 : Int32) (s0 : Int32) (w : XW), fX0_possibleActions_50 a0 i1 i2 i3 s0 w = some R9 → Wx K cx 11 nn 50 [(0, .ref a0), (1, .int i1), (2, .int i2), (3, .int i3)] [.int s0] w := by
  intro a0 i1 i2 i3 s0 w h
  rw [fX0_possibleActions_50] at h
  refine x_istore (L1 := [(4, .int s0), (0, .ref a0), (1, .int i1), (2, .int i2), (3, .int i3)]) (pc := 50) B dX0_possibleActions_50 (by decide) rfl ?_
  refine x_iload_n (pc := 52) B 3 dX0_possibleActions_52 rfl rfl ?_
  refine x_iconst (pc := 53) B dX0_possibleActions_53 xk_iconst_1 ?_
  obtain ⟨q7, hq, h⟩ := xbind h
  refine x_callSN1 (st := []) (pc := 54) B dX0_possibleActions_54 (eX3_has hq) xt_265 xt_53 np_X3_has hy_X3_has (Nat.le_of_ble_eq_true rfl) (Nat.le_of_ble_eq_true rfl) (Nat.le_of_ble_eq_true rfl) xt_264 (List.mem_of_getElem? (i := 1) rfl) rfl ?_
  rcases xite h with ⟨hc, h⟩ | ⟨hc, h⟩
  · refine x_if_eq_t (tgt := 64) (pc := 57) B dX0_possibleActions_57 (by decide) hc ?_
    refine x_iconst (pc := 64) B dX0_possibleActions_64 xk_iconst_0 ?_
    refine x_sub (L1 := [(0, .ref a0), (1, .int i1), (2, .int i2), (3, .int i3), (4, .int s0)]) [1, 2, 3, 4, 0] rfl ?_
    exact pX0_possibleActions_65 B hR a0 i1 i2 i3 s0 (0 : Int32) q7.2 h
  · refine x_if_eq_f (pc := 57) B 64 dX0_possibleActions_57 (by decide) hc ?_
    refine x_iconst (pc := 60) B dX0_possibleActions_60 xk_iconst_4 ?_
    refine x_goto (tgt := 65) (pc := 61) B dX0_possibleActions_61 (by decide) ?_
    refine x_sub (L1 := [(0, .ref a0), (1, .int i1), (2, .int i2), (3, .int i3), (4, .int s0)]) [1, 2, 3, 4, 0] rfl ?_
    exact pX0_possibleActions_65 B hR a0 i1 i2 i3 s0 (4 : Int32) q7.2 h
def fX0_possibleActions (a0 : Nat) (i1 : Int32) (i2 : Int32) (w : XW) : Option (Int32 × XW) := if xis w a0 0 = true then
  (xgR w a0 0 1).bind fun v1 =>
  (xaL w v1).bind fun v2 =>
  (fX3_isWithin ((i1 * (8 : Int32)) + i2) v2 w).bind fun q3 =>
  if q3.1 = (0 : Int32) then
    some ((0 : Int32), q3.2)
  else
  (xgR q3.2 a0 0 1).bind fun v4 =>
  (xaI q3.2 v4 ((i1 * (8 : Int32)) + i2)).bind fun v5 =>
  if v5 = (0 : Int32) then
    (fX3_has i2 (0 : Int32) q3.2).bind fun q6 =>
    if q6.1 = (0 : Int32) then
      fX0_possibleActions_50 a0 i1 i2 ((i1 * (8 : Int32)) + i2) (0 : Int32) q6.2
    else
    fX0_possibleActions_50 a0 i1 i2 ((i1 * (8 : Int32)) + i2) (4 : Int32) q6.2
  else
  (xgR q3.2 a0 0 1).bind fun v14 =>
  (xaI q3.2 v14 ((i1 * (8 : Int32)) + i2)).bind fun v15 =>
  some (v15, q3.2)
  else none
theorem iX0_possibleActions {a0 : Nat} {i1 : Int32} {i2 : Int32} {w : XW} {R9 : (Int32 × XW)} (h : fX0_possibleActions a0 i1 i2 w = some R9) : xis w a0 0 = true := by
  unfold fX0_possibleActions at h
  rcases xite h with ⟨hc, h⟩ | ⟨hc, h⟩
  · exact hc
  · exact absurd h (by simp)
theorem np_X0_possibleActions : (parseMethodDescriptor yX0_possibleActions.desc).map (fun d => d.parameters.length) = some 2 := by decide +kernel
theorem hy_X0_possibleActions : yX0_possibleActions.cls ≠ "java/lang/invoke/MethodHandle" ∧ yX0_possibleActions.cls ≠ "java/lang/invoke/VarHandle" := ⟨by decide +kernel, by decide +kernel⟩
set_option maxRecDepth 20000 in
theorem eX0_possibleActions {cx : CX} {a0 : Nat} {i1 : Int32} {i2 : Int32} {w : XW} {R9 : (Int32 × XW)} (h : fX0_possibleActions a0 i1 i2 w = some R9) : Ct yX0_possibleActions cX0_possibleActions 11 (some .int) 3 76 cx [.ref a0, .int i1, .int i2] w (some (.int R9.1)) R9.2 := by
  refine Ct_of (by decide +kernel) (Nat.le_of_ble_eq_true rfl) (fun K B hR => ?_)
  rw [fX0_possibleActions] at h
  show Wx K cx 11 w.length 0 [(0, .ref a0), (1, .int i1), (2, .int i2)] [] w
  rcases xite h with ⟨hc, h⟩ | ⟨hc, h⟩
  · skip
    refine x_iload_n (pc := 0) B 1 dX0_possibleActions_0 rfl rfl ?_
    refine x_bipush (pc := 1) B dX0_possibleActions_1 xk_bipush_8 ?_
    refine x_imul (pc := 3) B dX0_possibleActions_3 ?_
    refine x_iload_n (pc := 4) B 2 dX0_possibleActions_4 rfl rfl ?_
    refine x_iadd (pc := 5) B dX0_possibleActions_5 ?_
    refine x_istore_n (L1 := [(3, .int ((i1 * (8 : Int32)) + i2)), (0, .ref a0), (1, .int i1), (2, .int i2)]) (pc := 6) B dX0_possibleActions_6 rfl (by decide) rfl ?_
    refine x_iload_n (pc := 7) B 0 dX0_possibleActions_7 rfl rfl ?_
    refine x_aload_n (pc := 8) B 1 dX0_possibleActions_8 rfl rfl ?_
    obtain ⟨v1, hv, h⟩ := xbind h
    refine x_getR (k0 := 1) (pc := 9) B dX0_possibleActions_9 rfl xi_0 (by decide) ⟨rfl, rfl, rfl⟩ xt_87 hv ?_
    obtain ⟨v2, hv, h⟩ := xbind h
    refine x_alen (pc := 12) B dX0_possibleActions_12 hv ?_
    obtain ⟨q3, hq, h⟩ := xbind h
    refine x_callSN1 (st := []) (pc := 13) B dX0_possibleActions_13 (eX3_isWithin hq) xt_142 xt_53 np_X3_isWithin hy_X3_isWithin (Nat.le_of_ble_eq_true rfl) (Nat.le_of_ble_eq_true rfl) (Nat.le_of_ble_eq_true rfl) xt_141 (List.mem_of_getElem? (i := 0) rfl) rfl ?_
    rcases xite h with ⟨hc, h⟩ | ⟨hc, h⟩
    · refine x_if_ne_f (pc := 16) B 21 dX0_possibleActions_16 (by decide) hc ?_
      refine x_iconst (pc := 19) B dX0_possibleActions_19 xk_iconst_0 ?_
      exact x_iret (pc := 20) B hR dX0_possibleActions_20 (xzI _) h
    · refine x_if_ne_t (tgt := 21) (pc := 16) B dX0_possibleActions_16 (by decide) hc ?_
      refine x_aload_n (pc := 21) B 1 dX0_possibleActions_21 rfl rfl ?_
      obtain ⟨v4, hv, h⟩ := xbind h
      refine x_getR (k0 := 1) (pc := 22) B dX0_possibleActions_22 rfl xi_0 (by decide) ⟨rfl, rfl, rfl⟩ xt_87 hv ?_
      refine x_iload_n (pc := 25) B 0 dX0_possibleActions_25 rfl rfl ?_
      obtain ⟨v5, hv, h⟩ := xbind h
      refine x_iald (pc := 26) B dX0_possibleActions_26 hv ?_
      rcases xite h with ⟨hc, h⟩ | ⟨hc, h⟩
      · refine x_if_eq_t (tgt := 37) (pc := 27) B dX0_possibleActions_27 (by decide) hc ?_
        refine x_iload_n (pc := 37) B 3 dX0_possibleActions_37 rfl rfl ?_
        refine x_iconst (pc := 38) B dX0_possibleActions_38 xk_iconst_0 ?_
        obtain ⟨q6, hq, h⟩ := xbind h
        refine x_callSN1 (st := []) (pc := 39) B dX0_possibleActions_39 (eX3_has hq) xt_265 xt_53 np_X3_has hy_X3_has (Nat.le_of_ble_eq_true rfl) (Nat.le_of_ble_eq_true rfl) (Nat.le_of_ble_eq_true rfl) xt_264 (List.mem_of_getElem? (i := 1) rfl) rfl ?_
        rcases xite h with ⟨hc, h⟩ | ⟨hc, h⟩
        · refine x_if_eq_t (tgt := 49) (pc := 42) B dX0_possibleActions_42 (by decide) hc ?_
          refine x_iconst (pc := 49) B dX0_possibleActions_49 xk_iconst_0 ?_
          refine x_sub (L1 := [(0, .ref a0), (1, .int i1), (2, .int i2), (3, .int ((i1 * (8 : Int32)) + i2))]) [1, 2, 3, 0] rfl ?_
          exact pX0_possibleActions_50 B hR a0 i1 i2 ((i1 * (8 : Int32)) + i2) (0 : Int32) q6.2 h
        · refine x_if_eq_f (pc := 42) B 49 dX0_possibleActions_42 (by decide) hc ?_
          refine x_iconst (pc := 45) B dX0_possibleActions_45 xk_iconst_4 ?_
          refine x_goto (tgt := 50) (pc := 46) B dX0_possibleActions_46 (by decide) ?_
          refine x_sub (L1 := [(0, .ref a0), (1, .int i1), (2, .int i2), (3, .int ((i1 * (8 : Int32)) + i2))]) [1, 2, 3, 0] rfl ?_
          exact pX0_possibleActions_50 B hR a0 i1 i2 ((i1 * (8 : Int32)) + i2) (4 : Int32) q6.2 h
      · refine x_if_eq_f (pc := 27) B 37 dX0_possibleActions_27 (by decide) hc ?_
        refine x_aload_n (pc := 30) B 1 dX0_possibleActions_30 rfl rfl ?_
        obtain ⟨v14, hv, h⟩ := xbind h
        refine x_getR (k0 := 1) (pc := 31) B dX0_possibleActions_31 rfl xi_0 (by decide) ⟨rfl, rfl, rfl⟩ xt_87 hv ?_
        refine x_iload_n (pc := 34) B 0 dX0_possibleActions_34 rfl rfl ?_
        obtain ⟨v15, hv, h⟩ := xbind h
        refine x_iald (pc := 35) B dX0_possibleActions_35 hv ?_
        exact x_iret (pc := 36) B hR dX0_possibleActions_36 (xzI _) h
  · exact absurd h (by simp)
def fX0_mostByAny_7 : Nat → Nat → Int32 → Int32 → Int32 → Int32 → Int32 → XW → Option (Int32 × XW)
  | 0, _, _, _, _, _, _, _ => none
  | g + 1, a0, i1, i2, i3, i4, i5, w =>
    if (3 : Int32) ≤ i5 then
      some (i4, w)
    else
    (fX3_has i3 i5 w).bind fun q1 =>
    if q1.1 = (0 : Int32) then
      fX0_mostByAny_7 g a0 i1 i2 i3 i4 (i5 + (1 : Int32)) q1.2
    else
    (fX0_payPlace (0 : Int32) i1 i2 i5 q1.2).bind fun q2 =>
    (fX0_cell a0 q2.1 q2.2).bind fun q3 =>
    fX0_mostByAny_7 g a0 i1 i2 i3 (if i4 < q3.1 then q3.1 else i4) (i5 + (1 : Int32)) q3.2
set_option maxRecDepth 20000 in
theorem pX0_mostByAny_7 {K : KX} {cx : CX} {nn : Nat} {R9 : Int32 × XW} (B : XB K cx RX0 cX0_mostByAny 6 nn 1 23) (hR : XR K cx nn (some .int) (some (.int R9.1)) R9.2) : ∀ (g : Nat) (a0 : Nat) (i1 : Int32) (i2 : Int32) (i3 : Int32) (i4 : Int32) (i5 : Int32) (w : XW), fX0_mostByAny_7 g a0 i1 i2 i3 i4 i5 w = some R9 → Wx K cx 6 nn 7 [(0, .ref a0), (1, .int i1), (2, .int i2), (3, .int i3), (4, .int i4), (5, .int i5)] [] w := by
  intro g
  induction g with
  | zero =>
    intro a0 i1 i2 i3 i4 i5 w h
    exact absurd (show (none : Option (Int32 × XW)) = some R9 from h) (by simp)
  | succ g ih =>
    intro a0 i1 i2 i3 i4 i5 w h
    rw [fX0_mostByAny_7] at h
    refine x_iload (pc := 7) B 5 dX0_mostByAny_7 rfl ?_
    refine x_iconst (pc := 9) B dX0_mostByAny_9 xk_iconst_3 ?_
    rcases xite h with ⟨hc, h⟩ | ⟨hc, h⟩
    · refine x_icmp_ge_t (tgt := 47) (pc := 10) B dX0_mostByAny_10 (by decide) hc ?_
      refine x_iload (pc := 47) B 4 dX0_mostByAny_47 rfl ?_
      exact x_iret (pc := 49) B hR dX0_mostByAny_49 (xzI _) h
    · refine x_icmp_ge_f (pc := 10) B 47 dX0_mostByAny_10 (by decide) hc ?_
      refine x_iload_n (pc := 13) B 3 dX0_mostByAny_13 rfl rfl ?_
      refine x_iload (pc := 14) B 5 dX0_mostByAny_14 rfl ?_
      obtain ⟨q1, hq, h⟩ := xbind h
      refine x_callSN1 (st := []) (pc := 16) B dX0_mostByAny_16 (eX3_has hq) xt_265 xt_53 np_X3_has hy_X3_has (Nat.le_of_ble_eq_true rfl) (Nat.le_of_ble_eq_true rfl) (Nat.le_of_ble_eq_true rfl) xt_264 (List.mem_of_getElem? (i := 1) rfl) rfl ?_
      rcases xite h with ⟨hc, h⟩ | ⟨hc, h⟩
      · refine x_if_eq_t (tgt := 41) (pc := 19) B dX0_mostByAny_19 (by decide) hc ?_
        refine x_iinc (L1 := [(5, .int (i5 + (1 : Int32))), (0, .ref a0), (1, .int i1), (2, .int i2), (3, .int i3), (4, .int i4)]) (pc := 41) B 5 dX0_mostByAny_41 rfl (congrArg _ xk_iconst_1) (by decide) rfl ?_
        refine x_goto (tgt := 7) (pc := 44) B dX0_mostByAny_44 (by decide) ?_
        refine x_sub (L1 := [(0, .ref a0), (1, .int i1), (2, .int i2), (3, .int i3), (4, .int i4), (5, .int (i5 + (1 : Int32)))]) [1, 2, 3, 4, 5, 0] rfl ?_
        exact ih a0 i1 i2 i3 i4 (i5 + (1 : Int32)) q1.2 h
      · refine x_if_eq_f (pc := 19) B 41 dX0_mostByAny_19 (by decide) hc ?_
        refine x_iload (pc := 22) B 4 dX0_mostByAny_22 rfl ?_
        refine x_aload_n (pc := 24) B 0 dX0_mostByAny_24 rfl rfl ?_
        refine x_iconst (pc := 25) B dX0_mostByAny_25 xk_iconst_0 ?_
        refine x_iload_n (pc := 26) B 1 dX0_mostByAny_26 rfl rfl ?_
        refine x_iload_n (pc := 27) B 2 dX0_mostByAny_27 rfl rfl ?_
        refine x_iload (pc := 28) B 5 dX0_mostByAny_28 rfl ?_
        obtain ⟨q2, hq, h⟩ := xbind h
        refine x_callS1 (st := [.ref a0, .int i4]) (pc := 30) B dX0_mostByAny_30 (eX0_payPlace hq) xt_186 xt_54 np_X0_payPlace hy_X0_payPlace (Nat.le_of_ble_eq_true rfl) (Nat.le_of_ble_eq_true rfl) (Nat.le_of_ble_eq_true rfl) xt_185 xt_274 rfl ?_
        obtain ⟨q3, hq, h⟩ := xbind h
        refine x_callV1 (st := [.int i4]) (pc := 33) B dX0_mostByAny_33 (eX0_cell hq) xt_153 xt_54 np_X0_cell hy_X0_cell (Nat.le_of_ble_eq_true rfl) (Nat.le_of_ble_eq_true rfl) (Nat.le_of_ble_eq_true rfl) xt_151 xt_152 xt_150 rfl (iX0_cell hq) rfl ?_
        refine x_mmax (pc := 36) B dX0_mostByAny_36 xt_318 (Nat.le_of_ble_eq_true rfl) (Nat.le_of_ble_eq_true rfl) ?_
        refine x_istore (L1 := [(4, .int (if i4 < q3.1 then q3.1 else i4)), (0, .ref a0), (1, .int i1), (2, .int i2), (3, .int i3), (5, .int i5)]) (pc := 39) B dX0_mostByAny_39 (by decide) rfl ?_
        refine x_iinc (L1 := [(5, .int (i5 + (1 : Int32))), (4, .int (if i4 < q3.1 then q3.1 else i4)), (0, .ref a0), (1, .int i1), (2, .int i2), (3, .int i3)]) (pc := 41) B 5 dX0_mostByAny_41 rfl (congrArg _ xk_iconst_1) (by decide) rfl ?_
        refine x_goto (tgt := 7) (pc := 44) B dX0_mostByAny_44 (by decide) ?_
        refine x_sub (L1 := [(0, .ref a0), (1, .int i1), (2, .int i2), (3, .int i3), (4, .int (if i4 < q3.1 then q3.1 else i4)), (5, .int (i5 + (1 : Int32)))]) [2, 3, 4, 5, 1, 0] rfl ?_
        exact ih a0 i1 i2 i3 (if i4 < q3.1 then q3.1 else i4) (i5 + (1 : Int32)) q3.2 h
def fX0_mostByAny (a0 : Nat) (i1 : Int32) (i2 : Int32) (i3 : Int32) (w : XW) : Option (Int32 × XW) := if xis w a0 0 = true then
  fX0_mostByAny_7 1000 a0 i1 i2 i3 (-9 : Int32) (0 : Int32) w
  else none
theorem iX0_mostByAny {a0 : Nat} {i1 : Int32} {i2 : Int32} {i3 : Int32} {w : XW} {R9 : (Int32 × XW)} (h : fX0_mostByAny a0 i1 i2 i3 w = some R9) : xis w a0 0 = true := by
  unfold fX0_mostByAny at h
  rcases xite h with ⟨hc, h⟩ | ⟨hc, h⟩
  · exact hc
  · exact absurd h (by simp)
theorem np_X0_mostByAny : (parseMethodDescriptor yX0_mostByAny.desc).map (fun d => d.parameters.length) = some 3 := by decide +kernel
theorem hy_X0_mostByAny : yX0_mostByAny.cls ≠ "java/lang/invoke/MethodHandle" ∧ yX0_mostByAny.cls ≠ "java/lang/invoke/VarHandle" := ⟨by decide +kernel, by decide +kernel⟩
set_option maxRecDepth 20000 in
theorem eX0_mostByAny {cx : CX} {a0 : Nat} {i1 : Int32} {i2 : Int32} {i3 : Int32} {w : XW} {R9 : (Int32 × XW)} (h : fX0_mostByAny a0 i1 i2 i3 w = some R9) : Ct yX0_mostByAny cX0_mostByAny 6 (some .int) 1 23 cx [.ref a0, .int i1, .int i2, .int i3] w (some (.int R9.1)) R9.2 := by
  refine Ct_of (by decide +kernel) (Nat.le_of_ble_eq_true rfl) (fun K B hR => ?_)
  rw [fX0_mostByAny] at h
  show Wx K cx 6 w.length 0 [(0, .ref a0), (1, .int i1), (2, .int i2), (3, .int i3)] [] w
  rcases xite h with ⟨hc, h⟩ | ⟨hc, h⟩
  · skip
    refine x_bipush (pc := 0) B dX0_mostByAny_0 xk_bipush_m9 ?_
    refine x_istore (L1 := [(4, .int (-9 : Int32)), (0, .ref a0), (1, .int i1), (2, .int i2), (3, .int i3)]) (pc := 2) B dX0_mostByAny_2 (by decide) rfl ?_
    refine x_iconst (pc := 4) B dX0_mostByAny_4 xk_iconst_0 ?_
    refine x_istore (L1 := [(5, .int (0 : Int32)), (4, .int (-9 : Int32)), (0, .ref a0), (1, .int i1), (2, .int i2), (3, .int i3)]) (pc := 5) B dX0_mostByAny_5 (by decide) rfl ?_
    refine x_sub (L1 := [(0, .ref a0), (1, .int i1), (2, .int i2), (3, .int i3), (4, .int (-9 : Int32)), (5, .int (0 : Int32))]) [2, 3, 4, 5, 1, 0] rfl ?_
    exact pX0_mostByAny_7 B hR 1000 a0 i1 i2 i3 (-9 : Int32) (0 : Int32) w h
  · exact absurd h (by simp)
def fX0_neverSenders_28 : Nat → Nat → Int32 → Int32 → Int32 → Int32 → Int32 → XW → Option (Int32 × XW)
  | 0, _, _, _, _, _, _, _ => none
  | g + 1, a0, i1, i2, i3, i4, i5, w =>
    if (3 : Int32) ≤ i5 then
      some (i4, w)
    else
    (fX3_has i2 i5 w).bind fun q4 =>
    if q4.1 = (0 : Int32) then
      fX0_neverSenders_28 g a0 i1 i2 i3 i4 (i5 + (1 : Int32)) q4.2
    else
    (fX0_ownPayoff a0 i5 q4.2).bind fun q5 =>
    (fX0_mostByAny a0 i5 i1 i3 q5.2).bind fun q6 =>
    if q5.1 ≤ q6.1 then
      fX0_neverSenders_28 g a0 i1 i2 i3 i4 (i5 + (1 : Int32)) q6.2
    else
    fX0_neverSenders_28 g a0 i1 i2 i3 (i4 ||| ((1 : Int32) <<< (i5 &&& 31))) (i5 + (1 : Int32)) q6.2
set_option maxRecDepth 20000 in
theorem pX0_neverSenders_28 {K : KX} {cx : CX} {nn : Nat} {R9 : Int32 × XW} (B : XB K cx RX0 cX0_neverSenders 6 nn 4 106) (hR : XR K cx nn (some .int) (some (.int R9.1)) R9.2) : ∀ (g : Nat) (a0 : Nat) (i1 : Int32) (i2 : Int32) (i3 : Int32) (i4 : Int32) (i5 : Int32) (w : XW), fX0_neverSenders_28 g a0 i1 i2 i3 i4 i5 w = some R9 → Wx K cx 6 nn 28 [(0, .ref a0), (1, .int i1), (2, .int i2), (3, .int i3), (4, .int i4), (5, .int i5)] [] w := by
  intro g
  induction g with
  | zero =>
    intro a0 i1 i2 i3 i4 i5 w h
    exact absurd (show (none : Option (Int32 × XW)) = some R9 from h) (by simp)
  | succ g ih =>
    intro a0 i1 i2 i3 i4 i5 w h
    rw [fX0_neverSenders_28] at h
    refine x_iload (pc := 28) B 5 dX0_neverSenders_28 rfl ?_
    refine x_iconst (pc := 30) B dX0_neverSenders_30 xk_iconst_3 ?_
    rcases xite h with ⟨hc, h⟩ | ⟨hc, h⟩
    · refine x_icmp_ge_t (tgt := 75) (pc := 31) B dX0_neverSenders_31 (by decide) hc ?_
      refine x_iload (pc := 75) B 4 dX0_neverSenders_75 rfl ?_
      exact x_iret (pc := 77) B hR dX0_neverSenders_77 (xzI _) h
    · refine x_icmp_ge_f (pc := 31) B 75 dX0_neverSenders_31 (by decide) hc ?_
      refine x_iload_n (pc := 34) B 2 dX0_neverSenders_34 rfl rfl ?_
      refine x_iload (pc := 35) B 5 dX0_neverSenders_35 rfl ?_
      obtain ⟨q4, hq, h⟩ := xbind h
      refine x_callSN1 (st := []) (pc := 37) B dX0_neverSenders_37 (eX3_has hq) xt_265 xt_53 np_X3_has hy_X3_has (Nat.le_of_ble_eq_true rfl) (Nat.le_of_ble_eq_true rfl) (Nat.le_of_ble_eq_true rfl) xt_264 (List.mem_of_getElem? (i := 1) rfl) rfl ?_
      rcases xite h with ⟨hc, h⟩ | ⟨hc, h⟩
      · refine x_if_eq_t (tgt := 69) (pc := 40) B dX0_neverSenders_40 (by decide) hc ?_
        refine x_iinc (L1 := [(5, .int (i5 + (1 : Int32))), (0, .ref a0), (1, .int i1), (2, .int i2), (3, .int i3), (4, .int i4)]) (pc := 69) B 5 dX0_neverSenders_69 rfl (congrArg _ xk_iconst_1) (by decide) rfl ?_
        refine x_goto (tgt := 28) (pc := 72) B dX0_neverSenders_72 (by decide) ?_
        refine x_sub (L1 := [(0, .ref a0), (1, .int i1), (2, .int i2), (3, .int i3), (4, .int i4), (5, .int (i5 + (1 : Int32)))]) [1, 2, 3, 4, 5, 0] rfl ?_
        exact ih a0 i1 i2 i3 i4 (i5 + (1 : Int32)) q4.2 h
      · refine x_if_eq_f (pc := 40) B 69 dX0_neverSenders_40 (by decide) hc ?_
        refine x_aload_n (pc := 43) B 0 dX0_neverSenders_43 rfl rfl ?_
        refine x_iload (pc := 44) B 5 dX0_neverSenders_44 rfl ?_
        obtain ⟨q5, hq, h⟩ := xbind h
        refine x_callV1 (st := []) (pc := 46) B dX0_neverSenders_46 (eX0_ownPayoff hq) xt_292 xt_54 np_X0_ownPayoff hy_X0_ownPayoff (Nat.le_of_ble_eq_true rfl) (Nat.le_of_ble_eq_true rfl) (Nat.le_of_ble_eq_true rfl) xt_290 xt_291 xt_289 rfl (iX0_ownPayoff hq) rfl ?_
        refine x_aload_n (pc := 49) B 0 dX0_neverSenders_49 rfl rfl ?_
        refine x_iload (pc := 50) B 5 dX0_neverSenders_50 rfl ?_
        refine x_iload_n (pc := 52) B 1 dX0_neverSenders_52 rfl rfl ?_
        refine x_iload_n (pc := 53) B 3 dX0_neverSenders_53 rfl rfl ?_
        obtain ⟨q6, hq, h⟩ := xbind h
        refine x_callV1 (st := [.int q5.1]) (pc := 54) B dX0_neverSenders_54 (eX0_mostByAny hq) xt_317 xt_54 np_X0_mostByAny hy_X0_mostByAny (Nat.le_of_ble_eq_true rfl) (Nat.le_of_ble_eq_true rfl) (Nat.le_of_ble_eq_true rfl) xt_316 xt_8 xt_314 rfl (iX0_mostByAny hq) rfl ?_
        rcases xite h with ⟨hc, h⟩ | ⟨hc, h⟩
        · refine x_icmp_le_t (tgt := 69) (pc := 57) B dX0_neverSenders_57 (by decide) hc ?_
          refine x_iinc (L1 := [(5, .int (i5 + (1 : Int32))), (0, .ref a0), (1, .int i1), (2, .int i2), (3, .int i3), (4, .int i4)]) (pc := 69) B 5 dX0_neverSenders_69 rfl (congrArg _ xk_iconst_1) (by decide) rfl ?_
          refine x_goto (tgt := 28) (pc := 72) B dX0_neverSenders_72 (by decide) ?_
          refine x_sub (L1 := [(0, .ref a0), (1, .int i1), (2, .int i2), (3, .int i3), (4, .int i4), (5, .int (i5 + (1 : Int32)))]) [1, 2, 3, 4, 5, 0] rfl ?_
          exact ih a0 i1 i2 i3 i4 (i5 + (1 : Int32)) q6.2 h
        · refine x_icmp_le_f (pc := 57) B 69 dX0_neverSenders_57 (by decide) hc ?_
          refine x_iload (pc := 60) B 4 dX0_neverSenders_60 rfl ?_
          refine x_iconst (pc := 62) B dX0_neverSenders_62 xk_iconst_1 ?_
          refine x_iload (pc := 63) B 5 dX0_neverSenders_63 rfl ?_
          refine x_ishl (pc := 65) B dX0_neverSenders_65 ?_
          refine x_ior (pc := 66) B dX0_neverSenders_66 ?_
          refine x_istore (L1 := [(4, .int (i4 ||| ((1 : Int32) <<< (i5 &&& 31)))), (0, .ref a0), (1, .int i1), (2, .int i2), (3, .int i3), (5, .int i5)]) (pc := 67) B dX0_neverSenders_67 (by decide) rfl ?_
          refine x_iinc (L1 := [(5, .int (i5 + (1 : Int32))), (4, .int (i4 ||| ((1 : Int32) <<< (i5 &&& 31)))), (0, .ref a0), (1, .int i1), (2, .int i2), (3, .int i3)]) (pc := 69) B 5 dX0_neverSenders_69 rfl (congrArg _ xk_iconst_1) (by decide) rfl ?_
          refine x_goto (tgt := 28) (pc := 72) B dX0_neverSenders_72 (by decide) ?_
          refine x_sub (L1 := [(0, .ref a0), (1, .int i1), (2, .int i2), (3, .int i3), (4, .int (i4 ||| ((1 : Int32) <<< (i5 &&& 31)))), (5, .int (i5 + (1 : Int32)))]) [2, 3, 4, 5, 1, 0] rfl ?_
          exact ih a0 i1 i2 i3 (i4 ||| ((1 : Int32) <<< (i5 &&& 31))) (i5 + (1 : Int32)) q6.2 h
def fX0_neverSenders (a0 : Nat) (i1 : Int32) (w : XW) : Option (Int32 × XW) := if xis w a0 0 = true then
  (fX0_sendersOf a0 i1 w).bind fun q1 =>
  if q1.1 = (0 : Int32) then
    (fX0_typesThere a0 q1.2).bind fun q2 =>
    (fX0_possibleActions a0 i1 q2.1 q2.2).bind fun q3 =>
    fX0_neverSenders_28 1000 a0 i1 q2.1 q3.1 (0 : Int32) (0 : Int32) q3.2
  else
  some ((0 : Int32), q1.2)
  else none
theorem iX0_neverSenders {a0 : Nat} {i1 : Int32} {w : XW} {R9 : (Int32 × XW)} (h : fX0_neverSenders a0 i1 w = some R9) : xis w a0 0 = true := by
  unfold fX0_neverSenders at h
  rcases xite h with ⟨hc, h⟩ | ⟨hc, h⟩
  · exact hc
  · exact absurd h (by simp)
theorem np_X0_neverSenders : (parseMethodDescriptor yX0_neverSenders.desc).map (fun d => d.parameters.length) = some 1 := by decide +kernel
theorem hy_X0_neverSenders : yX0_neverSenders.cls ≠ "java/lang/invoke/MethodHandle" ∧ yX0_neverSenders.cls ≠ "java/lang/invoke/VarHandle" := ⟨by decide +kernel, by decide +kernel⟩
set_option maxRecDepth 20000 in
theorem eX0_neverSenders {cx : CX} {a0 : Nat} {i1 : Int32} {w : XW} {R9 : (Int32 × XW)} (h : fX0_neverSenders a0 i1 w = some R9) : Ct yX0_neverSenders cX0_neverSenders 6 (some .int) 4 106 cx [.ref a0, .int i1] w (some (.int R9.1)) R9.2 := by
  refine Ct_of (by decide +kernel) (Nat.le_of_ble_eq_true rfl) (fun K B hR => ?_)
  rw [fX0_neverSenders] at h
  show Wx K cx 6 w.length 0 [(0, .ref a0), (1, .int i1)] [] w
  rcases xite h with ⟨hc, h⟩ | ⟨hc, h⟩
  · skip
    refine x_aload_n (pc := 0) B 0 dX0_neverSenders_0 rfl rfl ?_
    refine x_iload_n (pc := 1) B 1 dX0_neverSenders_1 rfl rfl ?_
    obtain ⟨q1, hq, h⟩ := xbind h
    refine x_callV1 (st := []) (pc := 2) B dX0_neverSenders_2 (eX0_sendersOf hq) xt_261 xt_54 np_X0_sendersOf hy_X0_sendersOf (Nat.le_of_ble_eq_true rfl) (Nat.le_of_ble_eq_true rfl) (Nat.le_of_ble_eq_true rfl) xt_259 xt_260 xt_258 rfl (iX0_sendersOf hq) rfl ?_
    rcases xite h with ⟨hc, h⟩ | ⟨hc, h⟩
    · refine x_if_eq_t (tgt := 10) (pc := 5) B dX0_neverSenders_5 (by decide) hc ?_
      refine x_aload_n (pc := 10) B 0 dX0_neverSenders_10 rfl rfl ?_
      obtain ⟨q2, hq, h⟩ := xbind h
      refine x_callV1 (st := []) (pc := 11) B dX0_neverSenders_11 (eX0_typesThere hq) xt_305 xt_54 np_X0_typesThere hy_X0_typesThere (Nat.le_of_ble_eq_true rfl) (Nat.le_of_ble_eq_true rfl) (Nat.le_of_ble_eq_true rfl) xt_303 xt_304 xt_302 rfl (iX0_typesThere hq) rfl ?_
      refine x_istore_n (L1 := [(2, .int q2.1), (0, .ref a0), (1, .int i1)]) (pc := 14) B dX0_neverSenders_14 rfl (by decide) rfl ?_
      refine x_aload_n (pc := 15) B 1 dX0_neverSenders_15 rfl rfl ?_
      refine x_iload_n (pc := 16) B 2 dX0_neverSenders_16 rfl rfl ?_
      refine x_iload_n (pc := 17) B 0 dX0_neverSenders_17 rfl rfl ?_
      obtain ⟨q3, hq, h⟩ := xbind h
      refine x_callV1 (st := []) (pc := 18) B dX0_neverSenders_18 (eX0_possibleActions hq) xt_313 xt_54 np_X0_possibleActions hy_X0_possibleActions (Nat.le_of_ble_eq_true rfl) (Nat.le_of_ble_eq_true rfl) (Nat.le_of_ble_eq_true rfl) xt_311 xt_312 xt_310 rfl (iX0_possibleActions hq) rfl ?_
      refine x_istore_n (L1 := [(3, .int q3.1), (2, .int q2.1), (0, .ref a0), (1, .int i1)]) (pc := 21) B dX0_neverSenders_21 rfl (by decide) rfl ?_
      refine x_iconst (pc := 22) B dX0_neverSenders_22 xk_iconst_0 ?_
      refine x_istore (L1 := [(4, .int (0 : Int32)), (3, .int q3.1), (2, .int q2.1), (0, .ref a0), (1, .int i1)]) (pc := 23) B dX0_neverSenders_23 (by decide) rfl ?_
      refine x_iconst (pc := 25) B dX0_neverSenders_25 xk_iconst_0 ?_
      refine x_istore (L1 := [(5, .int (0 : Int32)), (4, .int (0 : Int32)), (3, .int q3.1), (2, .int q2.1), (0, .ref a0), (1, .int i1)]) (pc := 26) B dX0_neverSenders_26 (by decide) rfl ?_
      refine x_sub (L1 := [(0, .ref a0), (1, .int i1), (2, .int q2.1), (3, .int q3.1), (4, .int (0 : Int32)), (5, .int (0 : Int32))]) [4, 5, 3, 2, 1, 0] rfl ?_
      exact pX0_neverSenders_28 B hR 1000 a0 i1 q2.1 q3.1 (0 : Int32) (0 : Int32) q3.2 h
    · refine x_if_eq_f (pc := 5) B 10 dX0_neverSenders_5 (by decide) hc ?_
      refine x_iconst (pc := 8) B dX0_neverSenders_8 xk_iconst_0 ?_
      exact x_iret (pc := 9) B hR dX0_neverSenders_9 (xzI _) h
  · exact absurd h (by simp)
def fX0_leastByAny_7 : Nat → Nat → Int32 → Int32 → Int32 → Int32 → Int32 → XW → Option (Int32 × XW)
  | 0, _, _, _, _, _, _, _ => none
  | g + 1, a0, i1, i2, i3, i4, i5, w =>
    if (3 : Int32) ≤ i5 then
      some (i4, w)
    else
    (fX3_has i3 i5 w).bind fun q1 =>
    if q1.1 = (0 : Int32) then
      fX0_leastByAny_7 g a0 i1 i2 i3 i4 (i5 + (1 : Int32)) q1.2
    else
    (fX0_payPlace (0 : Int32) i1 i2 i5 q1.2).bind fun q2 =>
    (fX0_cell a0 q2.1 q2.2).bind fun q3 =>
    fX0_leastByAny_7 g a0 i1 i2 i3 (if q3.1 < i4 then q3.1 else i4) (i5 + (1 : Int32)) q3.2
set_option maxRecDepth 20000 in
theorem pX0_leastByAny_7 {K : KX} {cx : CX} {nn : Nat} {R9 : Int32 × XW} (B : XB K cx RX0 cX0_leastByAny 6 nn 1 23) (hR : XR K cx nn (some .int) (some (.int R9.1)) R9.2) : ∀ (g : Nat) (a0 : Nat) (i1 : Int32) (i2 : Int32) (i3 : Int32) (i4 : Int32) (i5 : Int32) (w : XW), fX0_leastByAny_7 g a0 i1 i2 i3 i4 i5 w = some R9 → Wx K cx 6 nn 7 [(0, .ref a0), (1, .int i1), (2, .int i2), (3, .int i3), (4, .int i4), (5, .int i5)] [] w := by
  intro g
  induction g with
  | zero =>
    intro a0 i1 i2 i3 i4 i5 w h
    exact absurd (show (none : Option (Int32 × XW)) = some R9 from h) (by simp)
  | succ g ih =>
    intro a0 i1 i2 i3 i4 i5 w h
    rw [fX0_leastByAny_7] at h
    refine x_iload (pc := 7) B 5 dX0_leastByAny_7 rfl ?_
    refine x_iconst (pc := 9) B dX0_leastByAny_9 xk_iconst_3 ?_
    rcases xite h with ⟨hc, h⟩ | ⟨hc, h⟩
    · refine x_icmp_ge_t (tgt := 47) (pc := 10) B dX0_leastByAny_10 (by decide) hc ?_
      refine x_iload (pc := 47) B 4 dX0_leastByAny_47 rfl ?_
      exact x_iret (pc := 49) B hR dX0_leastByAny_49 (xzI _) h
    · refine x_icmp_ge_f (pc := 10) B 47 dX0_leastByAny_10 (by decide) hc ?_
      refine x_iload_n (pc := 13) B 3 dX0_leastByAny_13 rfl rfl ?_
      refine x_iload (pc := 14) B 5 dX0_leastByAny_14 rfl ?_
      obtain ⟨q1, hq, h⟩ := xbind h
      refine x_callSN1 (st := []) (pc := 16) B dX0_leastByAny_16 (eX3_has hq) xt_265 xt_53 np_X3_has hy_X3_has (Nat.le_of_ble_eq_true rfl) (Nat.le_of_ble_eq_true rfl) (Nat.le_of_ble_eq_true rfl) xt_264 (List.mem_of_getElem? (i := 1) rfl) rfl ?_
      rcases xite h with ⟨hc, h⟩ | ⟨hc, h⟩
      · refine x_if_eq_t (tgt := 41) (pc := 19) B dX0_leastByAny_19 (by decide) hc ?_
        refine x_iinc (L1 := [(5, .int (i5 + (1 : Int32))), (0, .ref a0), (1, .int i1), (2, .int i2), (3, .int i3), (4, .int i4)]) (pc := 41) B 5 dX0_leastByAny_41 rfl (congrArg _ xk_iconst_1) (by decide) rfl ?_
        refine x_goto (tgt := 7) (pc := 44) B dX0_leastByAny_44 (by decide) ?_
        refine x_sub (L1 := [(0, .ref a0), (1, .int i1), (2, .int i2), (3, .int i3), (4, .int i4), (5, .int (i5 + (1 : Int32)))]) [1, 2, 3, 4, 5, 0] rfl ?_
        exact ih a0 i1 i2 i3 i4 (i5 + (1 : Int32)) q1.2 h
      · refine x_if_eq_f (pc := 19) B 41 dX0_leastByAny_19 (by decide) hc ?_
        refine x_iload (pc := 22) B 4 dX0_leastByAny_22 rfl ?_
        refine x_aload_n (pc := 24) B 0 dX0_leastByAny_24 rfl rfl ?_
        refine x_iconst (pc := 25) B dX0_leastByAny_25 xk_iconst_0 ?_
        refine x_iload_n (pc := 26) B 1 dX0_leastByAny_26 rfl rfl ?_
        refine x_iload_n (pc := 27) B 2 dX0_leastByAny_27 rfl rfl ?_
        refine x_iload (pc := 28) B 5 dX0_leastByAny_28 rfl ?_
        obtain ⟨q2, hq, h⟩ := xbind h
        refine x_callS1 (st := [.ref a0, .int i4]) (pc := 30) B dX0_leastByAny_30 (eX0_payPlace hq) xt_186 xt_54 np_X0_payPlace hy_X0_payPlace (Nat.le_of_ble_eq_true rfl) (Nat.le_of_ble_eq_true rfl) (Nat.le_of_ble_eq_true rfl) xt_185 xt_274 rfl ?_
        obtain ⟨q3, hq, h⟩ := xbind h
        refine x_callV1 (st := [.int i4]) (pc := 33) B dX0_leastByAny_33 (eX0_cell hq) xt_153 xt_54 np_X0_cell hy_X0_cell (Nat.le_of_ble_eq_true rfl) (Nat.le_of_ble_eq_true rfl) (Nat.le_of_ble_eq_true rfl) xt_151 xt_152 xt_150 rfl (iX0_cell hq) rfl ?_
        refine x_mmin (pc := 36) B dX0_leastByAny_36 xt_325 (Nat.le_of_ble_eq_true rfl) (Nat.le_of_ble_eq_true rfl) ?_
        refine x_istore (L1 := [(4, .int (if q3.1 < i4 then q3.1 else i4)), (0, .ref a0), (1, .int i1), (2, .int i2), (3, .int i3), (5, .int i5)]) (pc := 39) B dX0_leastByAny_39 (by decide) rfl ?_
        refine x_iinc (L1 := [(5, .int (i5 + (1 : Int32))), (4, .int (if q3.1 < i4 then q3.1 else i4)), (0, .ref a0), (1, .int i1), (2, .int i2), (3, .int i3)]) (pc := 41) B 5 dX0_leastByAny_41 rfl (congrArg _ xk_iconst_1) (by decide) rfl ?_
        refine x_goto (tgt := 7) (pc := 44) B dX0_leastByAny_44 (by decide) ?_
        refine x_sub (L1 := [(0, .ref a0), (1, .int i1), (2, .int i2), (3, .int i3), (4, .int (if q3.1 < i4 then q3.1 else i4)), (5, .int (i5 + (1 : Int32)))]) [2, 3, 4, 5, 1, 0] rfl ?_
        exact ih a0 i1 i2 i3 (if q3.1 < i4 then q3.1 else i4) (i5 + (1 : Int32)) q3.2 h
def fX0_leastByAny (a0 : Nat) (i1 : Int32) (i2 : Int32) (i3 : Int32) (w : XW) : Option (Int32 × XW) := if xis w a0 0 = true then
  fX0_leastByAny_7 1000 a0 i1 i2 i3 (9 : Int32) (0 : Int32) w
  else none
theorem iX0_leastByAny {a0 : Nat} {i1 : Int32} {i2 : Int32} {i3 : Int32} {w : XW} {R9 : (Int32 × XW)} (h : fX0_leastByAny a0 i1 i2 i3 w = some R9) : xis w a0 0 = true := by
  unfold fX0_leastByAny at h
  rcases xite h with ⟨hc, h⟩ | ⟨hc, h⟩
  · exact hc
  · exact absurd h (by simp)
theorem np_X0_leastByAny : (parseMethodDescriptor yX0_leastByAny.desc).map (fun d => d.parameters.length) = some 3 := by decide +kernel
theorem hy_X0_leastByAny : yX0_leastByAny.cls ≠ "java/lang/invoke/MethodHandle" ∧ yX0_leastByAny.cls ≠ "java/lang/invoke/VarHandle" := ⟨by decide +kernel, by decide +kernel⟩
set_option maxRecDepth 20000 in
theorem eX0_leastByAny {cx : CX} {a0 : Nat} {i1 : Int32} {i2 : Int32} {i3 : Int32} {w : XW} {R9 : (Int32 × XW)} (h : fX0_leastByAny a0 i1 i2 i3 w = some R9) : Ct yX0_leastByAny cX0_leastByAny 6 (some .int) 1 23 cx [.ref a0, .int i1, .int i2, .int i3] w (some (.int R9.1)) R9.2 := by
  refine Ct_of (by decide +kernel) (Nat.le_of_ble_eq_true rfl) (fun K B hR => ?_)
  rw [fX0_leastByAny] at h
  show Wx K cx 6 w.length 0 [(0, .ref a0), (1, .int i1), (2, .int i2), (3, .int i3)] [] w
  rcases xite h with ⟨hc, h⟩ | ⟨hc, h⟩
  · skip
    refine x_bipush (pc := 0) B dX0_leastByAny_0 xk_bipush_9 ?_
    refine x_istore (L1 := [(4, .int (9 : Int32)), (0, .ref a0), (1, .int i1), (2, .int i2), (3, .int i3)]) (pc := 2) B dX0_leastByAny_2 (by decide) rfl ?_
    refine x_iconst (pc := 4) B dX0_leastByAny_4 xk_iconst_0 ?_
    refine x_istore (L1 := [(5, .int (0 : Int32)), (4, .int (9 : Int32)), (0, .ref a0), (1, .int i1), (2, .int i2), (3, .int i3)]) (pc := 5) B dX0_leastByAny_5 (by decide) rfl ?_
    refine x_sub (L1 := [(0, .ref a0), (1, .int i1), (2, .int i2), (3, .int i3), (4, .int (9 : Int32)), (5, .int (0 : Int32))]) [2, 3, 4, 5, 1, 0] rfl ?_
    exact pX0_leastByAny_7 B hR 1000 a0 i1 i2 i3 (9 : Int32) (0 : Int32) w h
  · exact absurd h (by simp)
def fX0_isUntempted_41 (k81 : Nat → Int32 → XW → Option (Int32 × XW)) (k73 : XW → Option (Int32 × XW)) : Nat → Nat → Int32 → Int32 → Int32 → Int32 → XW → Option (Int32 × XW)
  | 0, _, _, _, _, _, _ => none
  | g + 1, a0, i1, i2, i3, i4, w =>
    if (3 : Int32) ≤ i4 then
      k81 a0 i1 w
    else
    (fX3_has i2 i4 w).bind fun q5 =>
    if q5.1 = (0 : Int32) then
      fX0_isUntempted_41 k81 k73 g a0 i1 i2 i3 (i4 + (1 : Int32)) q5.2
    else
    (fX0_ownPayoff a0 i4 q5.2).bind fun q6 =>
    (fX0_leastByAny a0 i4 i1 i3 q6.2).bind fun q7 =>
    if q7.1 ≤ q6.1 then
      fX0_isUntempted_41 k81 k73 g a0 i1 i2 i3 (i4 + (1 : Int32)) q7.2
    else
    k73 q7.2
set_option maxRecDepth 20000 in
theorem pX0_isUntempted_41 {K : KX} {cx : CX} {nn : Nat} {R9 : Int32 × XW} (B : XB K cx RX0 cX0_isUntempted 5 nn 5 131) (hR : XR K cx nn (some .boolean) (some (.int R9.1)) R9.2) {k81 : Nat → Int32 → XW → Option (Int32 × XW)} (hk81 : ∀ (a0 : Nat) (i1 : Int32) (w : XW), k81 a0 i1 w = some R9 → Wx K cx 5 nn 81 [(0, .ref a0), (1, .int i1)] [] w) {k73 : XW → Option (Int32 × XW)} (hk73 : ∀ (w : XW), k73 w = some R9 → Wx K cx 5 nn 73 [] [] w) : ∀ (g : Nat) (a0 : Nat) (i1 : Int32) (i2 : Int32) (i3 : Int32) (i4 : Int32) (w : XW), fX0_isUntempted_41 k81 k73 g a0 i1 i2 i3 i4 w = some R9 → Wx K cx 5 nn 41 [(0, .ref a0), (1, .int i1), (2, .int i2), (3, .int i3), (4, .int i4)] [] w := by
  intro g
  induction g with
  | zero =>
    intro a0 i1 i2 i3 i4 w h
    exact absurd (show (none : Option (Int32 × XW)) = some R9 from h) (by simp)
  | succ g ih =>
    intro a0 i1 i2 i3 i4 w h
    rw [fX0_isUntempted_41] at h
    refine x_iload (pc := 41) B 4 dX0_isUntempted_41 rfl ?_
    refine x_iconst (pc := 43) B dX0_isUntempted_43 xk_iconst_3 ?_
    rcases xite h with ⟨hc, h⟩ | ⟨hc, h⟩
    · refine x_icmp_ge_t (tgt := 81) (pc := 44) B dX0_isUntempted_44 (by decide) hc ?_
      refine x_sub (L1 := [(0, .ref a0), (1, .int i1)]) [0, 1] rfl ?_
      exact hk81 a0 i1 w h
    · refine x_icmp_ge_f (pc := 44) B 81 dX0_isUntempted_44 (by decide) hc ?_
      refine x_iload_n (pc := 47) B 2 dX0_isUntempted_47 rfl rfl ?_
      refine x_iload (pc := 48) B 4 dX0_isUntempted_48 rfl ?_
      obtain ⟨q5, hq, h⟩ := xbind h
      refine x_callSN1 (st := []) (pc := 50) B dX0_isUntempted_50 (eX3_has hq) xt_265 xt_53 np_X3_has hy_X3_has (Nat.le_of_ble_eq_true rfl) (Nat.le_of_ble_eq_true rfl) (Nat.le_of_ble_eq_true rfl) xt_264 (List.mem_of_getElem? (i := 1) rfl) rfl ?_
      rcases xite h with ⟨hc, h⟩ | ⟨hc, h⟩
      · refine x_if_eq_t (tgt := 75) (pc := 53) B dX0_isUntempted_53 (by decide) hc ?_
        refine x_iinc (L1 := [(4, .int (i4 + (1 : Int32))), (0, .ref a0), (1, .int i1), (2, .int i2), (3, .int i3)]) (pc := 75) B 4 dX0_isUntempted_75 rfl (congrArg _ xk_iconst_1) (by decide) rfl ?_
        refine x_goto (tgt := 41) (pc := 78) B dX0_isUntempted_78 (by decide) ?_
        refine x_sub (L1 := [(0, .ref a0), (1, .int i1), (2, .int i2), (3, .int i3), (4, .int (i4 + (1 : Int32)))]) [1, 2, 3, 4, 0] rfl ?_
        exact ih a0 i1 i2 i3 (i4 + (1 : Int32)) q5.2 h
      · refine x_if_eq_f (pc := 53) B 75 dX0_isUntempted_53 (by decide) hc ?_
        refine x_aload_n (pc := 56) B 0 dX0_isUntempted_56 rfl rfl ?_
        refine x_iload (pc := 57) B 4 dX0_isUntempted_57 rfl ?_
        obtain ⟨q6, hq, h⟩ := xbind h
        refine x_callV1 (st := []) (pc := 59) B dX0_isUntempted_59 (eX0_ownPayoff hq) xt_292 xt_54 np_X0_ownPayoff hy_X0_ownPayoff (Nat.le_of_ble_eq_true rfl) (Nat.le_of_ble_eq_true rfl) (Nat.le_of_ble_eq_true rfl) xt_290 xt_291 xt_289 rfl (iX0_ownPayoff hq) rfl ?_
        refine x_aload_n (pc := 62) B 0 dX0_isUntempted_62 rfl rfl ?_
        refine x_iload (pc := 63) B 4 dX0_isUntempted_63 rfl ?_
        refine x_iload_n (pc := 65) B 1 dX0_isUntempted_65 rfl rfl ?_
        refine x_iload_n (pc := 66) B 3 dX0_isUntempted_66 rfl rfl ?_
        obtain ⟨q7, hq, h⟩ := xbind h
        refine x_callV1 (st := [.int q6.1]) (pc := 67) B dX0_isUntempted_67 (eX0_leastByAny hq) xt_324 xt_54 np_X0_leastByAny hy_X0_leastByAny (Nat.le_of_ble_eq_true rfl) (Nat.le_of_ble_eq_true rfl) (Nat.le_of_ble_eq_true rfl) xt_323 xt_9 xt_321 rfl (iX0_leastByAny hq) rfl ?_
        rcases xite h with ⟨hc, h⟩ | ⟨hc, h⟩
        · refine x_icmp_ge_t (tgt := 75) (pc := 70) B dX0_isUntempted_70 (by decide) hc ?_
          refine x_iinc (L1 := [(4, .int (i4 + (1 : Int32))), (0, .ref a0), (1, .int i1), (2, .int i2), (3, .int i3)]) (pc := 75) B 4 dX0_isUntempted_75 rfl (congrArg _ xk_iconst_1) (by decide) rfl ?_
          refine x_goto (tgt := 41) (pc := 78) B dX0_isUntempted_78 (by decide) ?_
          refine x_sub (L1 := [(0, .ref a0), (1, .int i1), (2, .int i2), (3, .int i3), (4, .int (i4 + (1 : Int32)))]) [1, 2, 3, 4, 0] rfl ?_
          exact ih a0 i1 i2 i3 (i4 + (1 : Int32)) q7.2 h
        · refine x_icmp_ge_f (pc := 70) B 75 dX0_isUntempted_70 (by decide) hc ?_
          refine x_sub (L1 := []) [] rfl ?_
          exact hk73 q7.2 h
def fX0_isUntempted_2 : Nat → Nat → Int32 → XW → Option (Int32 × XW)
  | 0, _, _, _ => none
  | g + 1, a0, i1, w =>
    if (3 : Int32) ≤ i1 then
      some ((1 : Int32), w)
    else
    (fX0_sendersOf a0 i1 w).bind fun q1 =>
    if q1.1 = (0 : Int32) then
      (fX0_typesThere a0 q1.2).bind fun q2 =>
      (fX0_neverSenders a0 i1 q2.2).bind fun q3 =>
      (fX0_possibleActions a0 i1 (q2.1 &&& (q3.1 ^^^ (-1 : Int32))) q3.2).bind fun q4 =>
      fX0_isUntempted_41 (fun a0_8 i1_8 w_8 =>
        fX0_isUntempted_2 g a0_8 (i1_8 + (1 : Int32)) w_8) (fun (w_9 : XW) =>
        some ((0 : Int32), w_9)) 1000 a0 i1 (q2.1 &&& (q3.1 ^^^ (-1 : Int32))) q4.1 (0 : Int32) q4.2
    else
    fX0_isUntempted_2 g a0 (i1 + (1 : Int32)) q1.2
set_option maxRecDepth 20000 in
theorem pX0_isUntempted_2 {K : KX} {cx : CX} {nn : Nat} {R9 : Int32 × XW} (B : XB K cx RX0 cX0_isUntempted 5 nn 5 131) (hR : XR K cx nn (some .boolean) (some (.int R9.1)) R9.2) : ∀ (g : Nat) (a0 : Nat) (i1 : Int32) (w : XW), fX0_isUntempted_2 g a0 i1 w = some R9 → Wx K cx 5 nn 2 [(0, .ref a0), (1, .int i1)] [] w := by
  intro g
  induction g with
  | zero =>
    intro a0 i1 w h
    exact absurd (show (none : Option (Int32 × XW)) = some R9 from h) (by simp)
  | succ g ih =>
    intro a0 i1 w h
    rw [fX0_isUntempted_2] at h
    refine x_iload_n (pc := 2) B 1 dX0_isUntempted_2 rfl rfl ?_
    refine x_iconst (pc := 3) B dX0_isUntempted_3 xk_iconst_3 ?_
    rcases xite h with ⟨hc, h⟩ | ⟨hc, h⟩
    · refine x_icmp_ge_t (tgt := 87) (pc := 4) B dX0_isUntempted_4 (by decide) hc ?_
      refine x_iconst (pc := 87) B dX0_isUntempted_87 xk_iconst_1 ?_
      exact x_iret (pc := 88) B hR dX0_isUntempted_88 xz1 h
    · refine x_icmp_ge_f (pc := 4) B 87 dX0_isUntempted_4 (by decide) hc ?_
      refine x_aload_n (pc := 7) B 0 dX0_isUntempted_7 rfl rfl ?_
      refine x_iload_n (pc := 8) B 1 dX0_isUntempted_8 rfl rfl ?_
      obtain ⟨q1, hq, h⟩ := xbind h
      refine x_callV1 (st := []) (pc := 9) B dX0_isUntempted_9 (eX0_sendersOf hq) xt_261 xt_54 np_X0_sendersOf hy_X0_sendersOf (Nat.le_of_ble_eq_true rfl) (Nat.le_of_ble_eq_true rfl) (Nat.le_of_ble_eq_true rfl) xt_259 xt_260 xt_258 rfl (iX0_sendersOf hq) rfl ?_
      rcases xite h with ⟨hc, h⟩ | ⟨hc, h⟩
      · refine x_if_eq_t (tgt := 18) (pc := 12) B dX0_isUntempted_12 (by decide) hc ?_
        refine x_aload_n (pc := 18) B 0 dX0_isUntempted_18 rfl rfl ?_
        obtain ⟨q2, hq, h⟩ := xbind h
        refine x_callV1 (st := []) (pc := 19) B dX0_isUntempted_19 (eX0_typesThere hq) xt_305 xt_54 np_X0_typesThere hy_X0_typesThere (Nat.le_of_ble_eq_true rfl) (Nat.le_of_ble_eq_true rfl) (Nat.le_of_ble_eq_true rfl) xt_303 xt_304 xt_302 rfl (iX0_typesThere hq) rfl ?_
        refine x_aload_n (pc := 22) B 0 dX0_isUntempted_22 rfl rfl ?_
        refine x_iload_n (pc := 23) B 1 dX0_isUntempted_23 rfl rfl ?_
        obtain ⟨q3, hq, h⟩ := xbind h
        refine x_callV1 (st := [.int q2.1]) (pc := 24) B dX0_isUntempted_24 (eX0_neverSenders hq) xt_309 xt_54 np_X0_neverSenders hy_X0_neverSenders (Nat.le_of_ble_eq_true rfl) (Nat.le_of_ble_eq_true rfl) (Nat.le_of_ble_eq_true rfl) xt_307 xt_308 xt_306 rfl (iX0_neverSenders hq) rfl ?_
        refine x_iconst (pc := 27) B dX0_isUntempted_27 xk_iconst_m1 ?_
        refine x_ixor (pc := 28) B dX0_isUntempted_28 ?_
        refine x_iand (pc := 29) B dX0_isUntempted_29 ?_
        refine x_istore_n (L1 := [(2, .int (q2.1 &&& (q3.1 ^^^ (-1 : Int32)))), (0, .ref a0), (1, .int i1)]) (pc := 30) B dX0_isUntempted_30 rfl (by decide) rfl ?_
        refine x_aload_n (pc := 31) B 1 dX0_isUntempted_31 rfl rfl ?_
        refine x_iload_n (pc := 32) B 2 dX0_isUntempted_32 rfl rfl ?_
        refine x_iload_n (pc := 33) B 0 dX0_isUntempted_33 rfl rfl ?_
        obtain ⟨q4, hq, h⟩ := xbind h
        refine x_callV1 (st := []) (pc := 34) B dX0_isUntempted_34 (eX0_possibleActions hq) xt_313 xt_54 np_X0_possibleActions hy_X0_possibleActions (Nat.le_of_ble_eq_true rfl) (Nat.le_of_ble_eq_true rfl) (Nat.le_of_ble_eq_true rfl) xt_311 xt_312 xt_310 rfl (iX0_possibleActions hq) rfl ?_
        refine x_istore_n (L1 := [(3, .int q4.1), (2, .int (q2.1 &&& (q3.1 ^^^ (-1 : Int32)))), (0, .ref a0), (1, .int i1)]) (pc := 37) B dX0_isUntempted_37 rfl (by decide) rfl ?_
        refine x_iconst (pc := 38) B dX0_isUntempted_38 xk_iconst_0 ?_
        refine x_istore (L1 := [(4, .int (0 : Int32)), (3, .int q4.1), (2, .int (q2.1 &&& (q3.1 ^^^ (-1 : Int32)))), (0, .ref a0), (1, .int i1)]) (pc := 39) B dX0_isUntempted_39 (by decide) rfl ?_
        refine x_sub (L1 := [(0, .ref a0), (1, .int i1), (2, .int (q2.1 &&& (q3.1 ^^^ (-1 : Int32)))), (3, .int q4.1), (4, .int (0 : Int32))]) [3, 4, 2, 1, 0] rfl ?_
        refine pX0_isUntempted_41 B hR ?_ ?_ 1000 a0 i1 (q2.1 &&& (q3.1 ^^^ (-1 : Int32))) q4.1 (0 : Int32) q4.2 h
        · intro a0_8 i1_8 w_8 h
          refine x_iinc (L1 := [(1, .int (i1_8 + (1 : Int32))), (0, .ref a0_8)]) (pc := 81) B 1 dX0_isUntempted_81 rfl (congrArg _ xk_iconst_1) (by decide) rfl ?_
          refine x_goto (tgt := 2) (pc := 84) B dX0_isUntempted_84 (by decide) ?_
          refine x_sub (L1 := [(0, .ref a0_8), (1, .int (i1_8 + (1 : Int32)))]) [1, 0] rfl ?_
          exact ih a0_8 (i1_8 + (1 : Int32)) w_8 h
        · intro w_9 h
          refine x_iconst (pc := 73) B dX0_isUntempted_73 xk_iconst_0 ?_
          exact x_iret (pc := 74) B hR dX0_isUntempted_74 xz0 h
      · refine x_if_eq_f (pc := 12) B 18 dX0_isUntempted_12 (by decide) hc ?_
        refine x_goto (tgt := 81) (pc := 15) B dX0_isUntempted_15 (by decide) ?_
        refine x_iinc (L1 := [(1, .int (i1 + (1 : Int32))), (0, .ref a0)]) (pc := 81) B 1 dX0_isUntempted_81 rfl (congrArg _ xk_iconst_1) (by decide) rfl ?_
        refine x_goto (tgt := 2) (pc := 84) B dX0_isUntempted_84 (by decide) ?_
        refine x_sub (L1 := [(0, .ref a0), (1, .int (i1 + (1 : Int32)))]) [1, 0] rfl ?_
        exact ih a0 (i1 + (1 : Int32)) q1.2 h
def fX0_isUntempted (a0 : Nat) (w : XW) : Option (Int32 × XW) := if xis w a0 0 = true then
  fX0_isUntempted_2 1000 a0 (0 : Int32) w
  else none
theorem iX0_isUntempted {a0 : Nat} {w : XW} {R9 : (Int32 × XW)} (h : fX0_isUntempted a0 w = some R9) : xis w a0 0 = true := by
  unfold fX0_isUntempted at h
  rcases xite h with ⟨hc, h⟩ | ⟨hc, h⟩
  · exact hc
  · exact absurd h (by simp)
theorem np_X0_isUntempted : (parseMethodDescriptor yX0_isUntempted.desc).map (fun d => d.parameters.length) = some 0 := by decide +kernel
theorem hy_X0_isUntempted : yX0_isUntempted.cls ≠ "java/lang/invoke/MethodHandle" ∧ yX0_isUntempted.cls ≠ "java/lang/invoke/VarHandle" := ⟨by decide +kernel, by decide +kernel⟩
set_option maxRecDepth 20000 in
theorem eX0_isUntempted {cx : CX} {a0 : Nat} {w : XW} {R9 : (Int32 × XW)} (h : fX0_isUntempted a0 w = some R9) : Ct yX0_isUntempted cX0_isUntempted 5 (some .boolean) 5 131 cx [.ref a0] w (some (.int R9.1)) R9.2 := by
  refine Ct_of (by decide +kernel) (Nat.le_of_ble_eq_true rfl) (fun K B hR => ?_)
  rw [fX0_isUntempted] at h
  show Wx K cx 5 w.length 0 [(0, .ref a0)] [] w
  rcases xite h with ⟨hc, h⟩ | ⟨hc, h⟩
  · skip
    refine x_iconst (pc := 0) B dX0_isUntempted_0 xk_iconst_0 ?_
    refine x_istore_n (L1 := [(1, .int (0 : Int32)), (0, .ref a0)]) (pc := 1) B dX0_isUntempted_1 rfl (by decide) rfl ?_
    refine x_sub (L1 := [(0, .ref a0), (1, .int (0 : Int32))]) [1, 0] rfl ?_
    exact pX0_isUntempted_2 B hR 1000 a0 (0 : Int32) w h
  · exact absurd h (by simp)
def fX0_messagesSent_4 : Nat → Nat → Int32 → Int32 → XW → Option (Int32 × XW)
  | 0, _, _, _, _ => none
  | g + 1, a0, i1, i2, w =>
    if (3 : Int32) ≤ i2 then
      some (i1, w)
    else
    (fX0_sendersOf a0 i2 w).bind fun q1 =>
    if q1.1 = (0 : Int32) then
      fX0_messagesSent_4 g a0 i1 (i2 + (1 : Int32)) q1.2
    else
    fX0_messagesSent_4 g a0 (i1 ||| ((1 : Int32) <<< (i2 &&& 31))) (i2 + (1 : Int32)) q1.2
set_option maxRecDepth 20000 in
theorem pX0_messagesSent_4 {K : KX} {cx : CX} {nn : Nat} {R9 : Int32 × XW} (B : XB K cx RX0 cX0_messagesSent 3 nn 2 44) (hR : XR K cx nn (some .int) (some (.int R9.1)) R9.2) : ∀ (g : Nat) (a0 : Nat) (i1 : Int32) (i2 : Int32) (w : XW), fX0_messagesSent_4 g a0 i1 i2 w = some R9 → Wx K cx 3 nn 4 [(0, .ref a0), (1, .int i1), (2, .int i2)] [] w := by
  intro g
  induction g with
  | zero =>
    intro a0 i1 i2 w h
    exact absurd (show (none : Option (Int32 × XW)) = some R9 from h) (by simp)
  | succ g ih =>
    intro a0 i1 i2 w h
    rw [fX0_messagesSent_4] at h
    refine x_iload_n (pc := 4) B 2 dX0_messagesSent_4 rfl rfl ?_
    refine x_iconst (pc := 5) B dX0_messagesSent_5 xk_iconst_3 ?_
    rcases xite h with ⟨hc, h⟩ | ⟨hc, h⟩
    · refine x_icmp_ge_t (tgt := 29) (pc := 6) B dX0_messagesSent_6 (by decide) hc ?_
      refine x_iload_n (pc := 29) B 1 dX0_messagesSent_29 rfl rfl ?_
      exact x_iret (pc := 30) B hR dX0_messagesSent_30 (xzI _) h
    · refine x_icmp_ge_f (pc := 6) B 29 dX0_messagesSent_6 (by decide) hc ?_
      refine x_aload_n (pc := 9) B 0 dX0_messagesSent_9 rfl rfl ?_
      refine x_iload_n (pc := 10) B 2 dX0_messagesSent_10 rfl rfl ?_
      obtain ⟨q1, hq, h⟩ := xbind h
      refine x_callV1 (st := []) (pc := 11) B dX0_messagesSent_11 (eX0_sendersOf hq) xt_261 xt_54 np_X0_sendersOf hy_X0_sendersOf (Nat.le_of_ble_eq_true rfl) (Nat.le_of_ble_eq_true rfl) (Nat.le_of_ble_eq_true rfl) xt_259 xt_260 xt_258 rfl (iX0_sendersOf hq) rfl ?_
      rcases xite h with ⟨hc, h⟩ | ⟨hc, h⟩
      · refine x_if_eq_t (tgt := 23) (pc := 14) B dX0_messagesSent_14 (by decide) hc ?_
        refine x_iinc (L1 := [(2, .int (i2 + (1 : Int32))), (0, .ref a0), (1, .int i1)]) (pc := 23) B 2 dX0_messagesSent_23 rfl (congrArg _ xk_iconst_1) (by decide) rfl ?_
        refine x_goto (tgt := 4) (pc := 26) B dX0_messagesSent_26 (by decide) ?_
        refine x_sub (L1 := [(0, .ref a0), (1, .int i1), (2, .int (i2 + (1 : Int32)))]) [1, 2, 0] rfl ?_
        exact ih a0 i1 (i2 + (1 : Int32)) q1.2 h
      · refine x_if_eq_f (pc := 14) B 23 dX0_messagesSent_14 (by decide) hc ?_
        refine x_iload_n (pc := 17) B 1 dX0_messagesSent_17 rfl rfl ?_
        refine x_iconst (pc := 18) B dX0_messagesSent_18 xk_iconst_1 ?_
        refine x_iload_n (pc := 19) B 2 dX0_messagesSent_19 rfl rfl ?_
        refine x_ishl (pc := 20) B dX0_messagesSent_20 ?_
        refine x_ior (pc := 21) B dX0_messagesSent_21 ?_
        refine x_istore_n (L1 := [(1, .int (i1 ||| ((1 : Int32) <<< (i2 &&& 31)))), (0, .ref a0), (2, .int i2)]) (pc := 22) B dX0_messagesSent_22 rfl (by decide) rfl ?_
        refine x_iinc (L1 := [(2, .int (i2 + (1 : Int32))), (1, .int (i1 ||| ((1 : Int32) <<< (i2 &&& 31)))), (0, .ref a0)]) (pc := 23) B 2 dX0_messagesSent_23 rfl (congrArg _ xk_iconst_1) (by decide) rfl ?_
        refine x_goto (tgt := 4) (pc := 26) B dX0_messagesSent_26 (by decide) ?_
        refine x_sub (L1 := [(0, .ref a0), (1, .int (i1 ||| ((1 : Int32) <<< (i2 &&& 31)))), (2, .int (i2 + (1 : Int32)))]) [2, 1, 0] rfl ?_
        exact ih a0 (i1 ||| ((1 : Int32) <<< (i2 &&& 31))) (i2 + (1 : Int32)) q1.2 h
def fX0_messagesSent (a0 : Nat) (w : XW) : Option (Int32 × XW) := if xis w a0 0 = true then
  fX0_messagesSent_4 1000 a0 (0 : Int32) (0 : Int32) w
  else none
theorem iX0_messagesSent {a0 : Nat} {w : XW} {R9 : (Int32 × XW)} (h : fX0_messagesSent a0 w = some R9) : xis w a0 0 = true := by
  unfold fX0_messagesSent at h
  rcases xite h with ⟨hc, h⟩ | ⟨hc, h⟩
  · exact hc
  · exact absurd h (by simp)
theorem np_X0_messagesSent : (parseMethodDescriptor yX0_messagesSent.desc).map (fun d => d.parameters.length) = some 0 := by decide +kernel
theorem hy_X0_messagesSent : yX0_messagesSent.cls ≠ "java/lang/invoke/MethodHandle" ∧ yX0_messagesSent.cls ≠ "java/lang/invoke/VarHandle" := ⟨by decide +kernel, by decide +kernel⟩
set_option maxRecDepth 20000 in
theorem eX0_messagesSent {cx : CX} {a0 : Nat} {w : XW} {R9 : (Int32 × XW)} (h : fX0_messagesSent a0 w = some R9) : Ct yX0_messagesSent cX0_messagesSent 3 (some .int) 2 44 cx [.ref a0] w (some (.int R9.1)) R9.2 := by
  refine Ct_of (by decide +kernel) (Nat.le_of_ble_eq_true rfl) (fun K B hR => ?_)
  rw [fX0_messagesSent] at h
  show Wx K cx 3 w.length 0 [(0, .ref a0)] [] w
  rcases xite h with ⟨hc, h⟩ | ⟨hc, h⟩
  · skip
    refine x_iconst (pc := 0) B dX0_messagesSent_0 xk_iconst_0 ?_
    refine x_istore_n (L1 := [(1, .int (0 : Int32)), (0, .ref a0)]) (pc := 1) B dX0_messagesSent_1 rfl (by decide) rfl ?_
    refine x_iconst (pc := 2) B dX0_messagesSent_2 xk_iconst_0 ?_
    refine x_istore_n (L1 := [(2, .int (0 : Int32)), (1, .int (0 : Int32)), (0, .ref a0)]) (pc := 3) B dX0_messagesSent_3 rfl (by decide) rfl ?_
    refine x_sub (L1 := [(0, .ref a0), (1, .int (0 : Int32)), (2, .int (0 : Int32))]) [2, 1, 0] rfl ?_
    exact pX0_messagesSent_4 B hR 1000 a0 (0 : Int32) (0 : Int32) w h
  · exact absurd h (by simp)
def fX0_kind (a0 : Nat) (w : XW) : Option (Int32 × XW) := if xis w a0 0 = true then
  (fX0_messagesSent a0 w).bind fun q1 =>
  (fJ6_bitCount_0f7a4 q1.1 q1.2).bind fun q2 =>
  if q2.1 = (1 : Int32) then
    some ((0 : Int32), q2.2)
  else
  (fX0_typesThere a0 q2.2).bind fun q3 =>
  (fJ6_bitCount_0f7a4 q3.1 q3.2).bind fun q4 =>
  if q2.1 = q4.1 then
    some ((1 : Int32), q4.2)
  else
  some ((2 : Int32), q4.2)
  else none
theorem iX0_kind {a0 : Nat} {w : XW} {R9 : (Int32 × XW)} (h : fX0_kind a0 w = some R9) : xis w a0 0 = true := by
  unfold fX0_kind at h
  rcases xite h with ⟨hc, h⟩ | ⟨hc, h⟩
  · exact hc
  · exact absurd h (by simp)
theorem np_X0_kind : (parseMethodDescriptor yX0_kind.desc).map (fun d => d.parameters.length) = some 0 := by decide +kernel
theorem hy_X0_kind : yX0_kind.cls ≠ "java/lang/invoke/MethodHandle" ∧ yX0_kind.cls ≠ "java/lang/invoke/VarHandle" := ⟨by decide +kernel, by decide +kernel⟩
set_option maxRecDepth 20000 in
theorem eX0_kind {cx : CX} {a0 : Nat} {w : XW} {R9 : (Int32 × XW)} (h : fX0_kind a0 w = some R9) : Ct yX0_kind cX0_kind 2 (some .int) 3 66 cx [.ref a0] w (some (.int R9.1)) R9.2 := by
  refine Ct_of (by decide +kernel) (Nat.le_of_ble_eq_true rfl) (fun K B hR => ?_)
  rw [fX0_kind] at h
  show Wx K cx 2 w.length 0 [(0, .ref a0)] [] w
  rcases xite h with ⟨hc, h⟩ | ⟨hc, h⟩
  · skip
    refine x_aload_n (pc := 0) B 0 dX0_kind_0 rfl rfl ?_
    obtain ⟨q1, hq, h⟩ := xbind h
    refine x_callV1 (st := []) (pc := 1) B dX0_kind_1 (eX0_messagesSent hq) xt_335 xt_54 np_X0_messagesSent hy_X0_messagesSent (Nat.le_of_ble_eq_true rfl) (Nat.le_of_ble_eq_true rfl) (Nat.le_of_ble_eq_true rfl) xt_333 xt_334 xt_332 rfl (iX0_messagesSent hq) rfl ?_
    obtain ⟨q2, hq, h⟩ := xbind h
    refine x_callS1 (st := []) (pc := 4) B dX0_kind_4 (eJ6_bitCount_0f7a4 hq) xt_338 xt_61 np_J6_bitCount_0f7a4 hy_J6_bitCount_0f7a4 (Nat.le_of_ble_eq_true rfl) (Nat.le_of_ble_eq_true rfl) (Nat.le_of_ble_eq_true rfl) xt_337 xt_336 rfl ?_
    refine x_istore_n (L1 := [(1, .int q2.1), (0, .ref a0)]) (pc := 7) B dX0_kind_7 rfl (by decide) rfl ?_
    refine x_iload_n (pc := 8) B 0 dX0_kind_8 rfl rfl ?_
    refine x_iconst (pc := 9) B dX0_kind_9 xk_iconst_1 ?_
    rcases xite h with ⟨hc, h⟩ | ⟨hc, h⟩
    · refine x_icmp_ne_f (pc := 10) B 15 dX0_kind_10 (by decide) hc ?_
      refine x_iconst (pc := 13) B dX0_kind_13 xk_iconst_0 ?_
      exact x_iret (pc := 14) B hR dX0_kind_14 (xzI _) h
    · refine x_icmp_ne_t (tgt := 15) (pc := 10) B dX0_kind_10 (by decide) hc ?_
      refine x_iload_n (pc := 15) B 0 dX0_kind_15 rfl rfl ?_
      refine x_aload_n (pc := 16) B 1 dX0_kind_16 rfl rfl ?_
      obtain ⟨q3, hq, h⟩ := xbind h
      refine x_callV1 (st := [.int q2.1]) (pc := 17) B dX0_kind_17 (eX0_typesThere hq) xt_305 xt_54 np_X0_typesThere hy_X0_typesThere (Nat.le_of_ble_eq_true rfl) (Nat.le_of_ble_eq_true rfl) (Nat.le_of_ble_eq_true rfl) xt_303 xt_304 xt_302 rfl (iX0_typesThere hq) rfl ?_
      obtain ⟨q4, hq, h⟩ := xbind h
      refine x_callS1 (st := [.int q2.1]) (pc := 20) B dX0_kind_20 (eJ6_bitCount_0f7a4 hq) xt_338 xt_61 np_J6_bitCount_0f7a4 hy_J6_bitCount_0f7a4 (Nat.le_of_ble_eq_true rfl) (Nat.le_of_ble_eq_true rfl) (Nat.le_of_ble_eq_true rfl) xt_337 xt_336 rfl ?_
      rcases xite h with ⟨hc, h⟩ | ⟨hc, h⟩
      · refine x_icmp_ne_f (pc := 23) B 30 dX0_kind_23 (by decide) hc ?_
        refine x_iconst (pc := 26) B dX0_kind_26 xk_iconst_1 ?_
        refine x_goto (tgt := 31) (pc := 27) B dX0_kind_27 (by decide) ?_
        exact x_iret (pc := 31) B hR dX0_kind_31 (xzI _) h
      · refine x_icmp_ne_t (tgt := 30) (pc := 23) B dX0_kind_23 (by decide) hc ?_
        refine x_iconst (pc := 30) B dX0_kind_30 xk_iconst_2 ?_
        exact x_iret (pc := 31) B hR dX0_kind_31 (xzI _) h
  · exact absurd h (by simp)
def fX0_beliefSum_4 : Nat → Nat → Int32 → Int32 → Int32 → XW → Option (Int32 × XW)
  | 0, _, _, _, _, _ => none
  | g + 1, a0, i1, i2, i3, w =>
    if (3 : Int32) ≤ i3 then
      some (i2, w)
    else
    (fX0_beliefWeight a0 i1 i3 w).bind fun q1 =>
    fX0_beliefSum_4 g a0 i1 (i2 + q1.1) (i3 + (1 : Int32)) q1.2
set_option maxRecDepth 20000 in
theorem pX0_beliefSum_4 {K : KX} {cx : CX} {nn : Nat} {R9 : Int32 × XW} (B : XB K cx RX0 cX0_beliefSum 4 nn 3 67) (hR : XR K cx nn (some .int) (some (.int R9.1)) R9.2) : ∀ (g : Nat) (a0 : Nat) (i1 : Int32) (i2 : Int32) (i3 : Int32) (w : XW), fX0_beliefSum_4 g a0 i1 i2 i3 w = some R9 → Wx K cx 4 nn 4 [(0, .ref a0), (1, .int i1), (2, .int i2), (3, .int i3)] [] w := by
  intro g
  induction g with
  | zero =>
    intro a0 i1 i2 i3 w h
    exact absurd (show (none : Option (Int32 × XW)) = some R9 from h) (by simp)
  | succ g ih =>
    intro a0 i1 i2 i3 w h
    rw [fX0_beliefSum_4] at h
    refine x_iload_n (pc := 4) B 3 dX0_beliefSum_4 rfl rfl ?_
    refine x_iconst (pc := 5) B dX0_beliefSum_5 xk_iconst_3 ?_
    rcases xite h with ⟨hc, h⟩ | ⟨hc, h⟩
    · refine x_icmp_ge_t (tgt := 24) (pc := 6) B dX0_beliefSum_6 (by decide) hc ?_
      refine x_iload_n (pc := 24) B 2 dX0_beliefSum_24 rfl rfl ?_
      exact x_iret (pc := 25) B hR dX0_beliefSum_25 (xzI _) h
    · refine x_icmp_ge_f (pc := 6) B 24 dX0_beliefSum_6 (by decide) hc ?_
      refine x_iload_n (pc := 9) B 2 dX0_beliefSum_9 rfl rfl ?_
      refine x_aload_n (pc := 10) B 0 dX0_beliefSum_10 rfl rfl ?_
      refine x_iload_n (pc := 11) B 1 dX0_beliefSum_11 rfl rfl ?_
      refine x_iload_n (pc := 12) B 3 dX0_beliefSum_12 rfl rfl ?_
      obtain ⟨q1, hq, h⟩ := xbind h
      refine x_callV1 (st := [.int i2]) (pc := 13) B dX0_beliefSum_13 (eX0_beliefWeight hq) xt_257 xt_54 np_X0_beliefWeight hy_X0_beliefWeight (Nat.le_of_ble_eq_true rfl) (Nat.le_of_ble_eq_true rfl) (Nat.le_of_ble_eq_true rfl) xt_255 xt_256 xt_254 rfl (iX0_beliefWeight hq) rfl ?_
      refine x_iadd (pc := 16) B dX0_beliefSum_16 ?_
      refine x_istore_n (L1 := [(2, .int (i2 + q1.1)), (0, .ref a0), (1, .int i1), (3, .int i3)]) (pc := 17) B dX0_beliefSum_17 rfl (by decide) rfl ?_
      refine x_iinc (L1 := [(3, .int (i3 + (1 : Int32))), (2, .int (i2 + q1.1)), (0, .ref a0), (1, .int i1)]) (pc := 18) B 3 dX0_beliefSum_18 rfl (congrArg _ xk_iconst_1) (by decide) rfl ?_
      refine x_goto (tgt := 4) (pc := 21) B dX0_beliefSum_21 (by decide) ?_
      refine x_sub (L1 := [(0, .ref a0), (1, .int i1), (2, .int (i2 + q1.1)), (3, .int (i3 + (1 : Int32)))]) [2, 3, 1, 0] rfl ?_
      exact ih a0 i1 (i2 + q1.1) (i3 + (1 : Int32)) q1.2 h
def fX0_beliefSum (a0 : Nat) (i1 : Int32) (w : XW) : Option (Int32 × XW) := if xis w a0 0 = true then
  fX0_beliefSum_4 1000 a0 i1 (0 : Int32) (0 : Int32) w
  else none
theorem iX0_beliefSum {a0 : Nat} {i1 : Int32} {w : XW} {R9 : (Int32 × XW)} (h : fX0_beliefSum a0 i1 w = some R9) : xis w a0 0 = true := by
  unfold fX0_beliefSum at h
  rcases xite h with ⟨hc, h⟩ | ⟨hc, h⟩
  · exact hc
  · exact absurd h (by simp)
theorem np_X0_beliefSum : (parseMethodDescriptor yX0_beliefSum.desc).map (fun d => d.parameters.length) = some 1 := by decide +kernel
theorem hy_X0_beliefSum : yX0_beliefSum.cls ≠ "java/lang/invoke/MethodHandle" ∧ yX0_beliefSum.cls ≠ "java/lang/invoke/VarHandle" := ⟨by decide +kernel, by decide +kernel⟩
set_option maxRecDepth 20000 in
theorem eX0_beliefSum {cx : CX} {a0 : Nat} {i1 : Int32} {w : XW} {R9 : (Int32 × XW)} (h : fX0_beliefSum a0 i1 w = some R9) : Ct yX0_beliefSum cX0_beliefSum 4 (some .int) 3 67 cx [.ref a0, .int i1] w (some (.int R9.1)) R9.2 := by
  refine Ct_of (by decide +kernel) (Nat.le_of_ble_eq_true rfl) (fun K B hR => ?_)
  rw [fX0_beliefSum] at h
  show Wx K cx 4 w.length 0 [(0, .ref a0), (1, .int i1)] [] w
  rcases xite h with ⟨hc, h⟩ | ⟨hc, h⟩
  · skip
    refine x_iconst (pc := 0) B dX0_beliefSum_0 xk_iconst_0 ?_
    refine x_istore_n (L1 := [(2, .int (0 : Int32)), (0, .ref a0), (1, .int i1)]) (pc := 1) B dX0_beliefSum_1 rfl (by decide) rfl ?_
    refine x_iconst (pc := 2) B dX0_beliefSum_2 xk_iconst_0 ?_
    refine x_istore_n (L1 := [(3, .int (0 : Int32)), (2, .int (0 : Int32)), (0, .ref a0), (1, .int i1)]) (pc := 3) B dX0_beliefSum_3 rfl (by decide) rfl ?_
    refine x_sub (L1 := [(0, .ref a0), (1, .int i1), (2, .int (0 : Int32)), (3, .int (0 : Int32))]) [2, 3, 1, 0] rfl ?_
    exact pX0_beliefSum_4 B hR 1000 a0 i1 (0 : Int32) (0 : Int32) w h
  · exact absurd h (by simp)
def fX0_worthOf (a0 : Nat) (i1 : Int32) (i2 : Int32) (w : XW) : Option (Int32 × XW) := if xis w a0 0 = true then
  (fX0_beliefWeight a0 i1 (0 : Int32) w).bind fun q1 =>
  (fX0_beliefWeight a0 i1 (1 : Int32) q1.2).bind fun q2 =>
  (fX0_beliefWeight a0 i1 (2 : Int32) q2.2).bind fun q3 =>
  (fX0_worthBy a0 i1 i2 q1.1 q2.1 q3.1 q3.2).bind fun q4 =>
  some (q4.1, q4.2)
  else none
theorem iX0_worthOf {a0 : Nat} {i1 : Int32} {i2 : Int32} {w : XW} {R9 : (Int32 × XW)} (h : fX0_worthOf a0 i1 i2 w = some R9) : xis w a0 0 = true := by
  unfold fX0_worthOf at h
  rcases xite h with ⟨hc, h⟩ | ⟨hc, h⟩
  · exact hc
  · exact absurd h (by simp)
theorem np_X0_worthOf : (parseMethodDescriptor yX0_worthOf.desc).map (fun d => d.parameters.length) = some 2 := by decide +kernel
theorem hy_X0_worthOf : yX0_worthOf.cls ≠ "java/lang/invoke/MethodHandle" ∧ yX0_worthOf.cls ≠ "java/lang/invoke/VarHandle" := ⟨by decide +kernel, by decide +kernel⟩
set_option maxRecDepth 20000 in
theorem eX0_worthOf {cx : CX} {a0 : Nat} {i1 : Int32} {i2 : Int32} {w : XW} {R9 : (Int32 × XW)} (h : fX0_worthOf a0 i1 i2 w = some R9) : Ct yX0_worthOf cX0_worthOf 6 (some .int) 3 67 cx [.ref a0, .int i1, .int i2] w (some (.int R9.1)) R9.2 := by
  refine Ct_of (by decide +kernel) (Nat.le_of_ble_eq_true rfl) (fun K B hR => ?_)
  rw [fX0_worthOf] at h
  show Wx K cx 6 w.length 0 [(0, .ref a0), (1, .int i1), (2, .int i2)] [] w
  rcases xite h with ⟨hc, h⟩ | ⟨hc, h⟩
  · skip
    refine x_aload_n (pc := 0) B 0 dX0_worthOf_0 rfl rfl ?_
    refine x_iload_n (pc := 1) B 1 dX0_worthOf_1 rfl rfl ?_
    refine x_iconst (pc := 2) B dX0_worthOf_2 xk_iconst_0 ?_
    obtain ⟨q1, hq, h⟩ := xbind h
    refine x_callV1 (st := []) (pc := 3) B dX0_worthOf_3 (eX0_beliefWeight hq) xt_257 xt_54 np_X0_beliefWeight hy_X0_beliefWeight (Nat.le_of_ble_eq_true rfl) (Nat.le_of_ble_eq_true rfl) (Nat.le_of_ble_eq_true rfl) xt_255 xt_256 xt_254 rfl (iX0_beliefWeight hq) rfl ?_
    refine x_istore_n (L1 := [(3, .int q1.1), (0, .ref a0), (1, .int i1), (2, .int i2)]) (pc := 6) B dX0_worthOf_6 rfl (by decide) rfl ?_
    refine x_aload_n (pc := 7) B 1 dX0_worthOf_7 rfl rfl ?_
    refine x_iload_n (pc := 8) B 2 dX0_worthOf_8 rfl rfl ?_
    refine x_iconst (pc := 9) B dX0_worthOf_9 xk_iconst_1 ?_
    obtain ⟨q2, hq, h⟩ := xbind h
    refine x_callV1 (st := []) (pc := 10) B dX0_worthOf_10 (eX0_beliefWeight hq) xt_257 xt_54 np_X0_beliefWeight hy_X0_beliefWeight (Nat.le_of_ble_eq_true rfl) (Nat.le_of_ble_eq_true rfl) (Nat.le_of_ble_eq_true rfl) xt_255 xt_256 xt_254 rfl (iX0_beliefWeight hq) rfl ?_
    refine x_istore (L1 := [(4, .int q2.1), (3, .int q1.1), (0, .ref a0), (1, .int i1), (2, .int i2)]) (pc := 13) B dX0_worthOf_13 (by decide) rfl ?_
    refine x_aload_n (pc := 15) B 2 dX0_worthOf_15 rfl rfl ?_
    refine x_iload_n (pc := 16) B 3 dX0_worthOf_16 rfl rfl ?_
    refine x_iconst (pc := 17) B dX0_worthOf_17 xk_iconst_2 ?_
    obtain ⟨q3, hq, h⟩ := xbind h
    refine x_callV1 (st := []) (pc := 18) B dX0_worthOf_18 (eX0_beliefWeight hq) xt_257 xt_54 np_X0_beliefWeight hy_X0_beliefWeight (Nat.le_of_ble_eq_true rfl) (Nat.le_of_ble_eq_true rfl) (Nat.le_of_ble_eq_true rfl) xt_255 xt_256 xt_254 rfl (iX0_beliefWeight hq) rfl ?_
    refine x_istore (L1 := [(5, .int q3.1), (4, .int q2.1), (3, .int q1.1), (0, .ref a0), (1, .int i1), (2, .int i2)]) (pc := 21) B dX0_worthOf_21 (by decide) rfl ?_
    refine x_aload_n (pc := 23) B 3 dX0_worthOf_23 rfl rfl ?_
    refine x_iload_n (pc := 24) B 4 dX0_worthOf_24 rfl rfl ?_
    refine x_iload_n (pc := 25) B 5 dX0_worthOf_25 rfl rfl ?_
    refine x_iload_n (pc := 26) B 2 dX0_worthOf_26 rfl rfl ?_
    refine x_iload (pc := 27) B 1 dX0_worthOf_27 rfl ?_
    refine x_iload (pc := 29) B 0 dX0_worthOf_29 rfl ?_
    obtain ⟨q4, hq, h⟩ := xbind h
    refine x_callV1 (st := []) (pc := 31) B dX0_worthOf_31 (eX0_worthBy hq) xt_273 xt_54 np_X0_worthBy hy_X0_worthBy (Nat.le_of_ble_eq_true rfl) (Nat.le_of_ble_eq_true rfl) (Nat.le_of_ble_eq_true rfl) xt_272 xt_7 xt_270 rfl (iX0_worthBy hq) rfl ?_
    exact x_iret (pc := 34) B hR dX0_worthOf_34 (xzI _) h
  · exact absurd h (by simp)
def fX0_lowestWrongMessage_2 : Nat → Nat → Int32 → XW → Option (Int32 × XW)
  | 0, _, _, _ => none
  | g + 1, a0, i1, w =>
    if (3 : Int32) ≤ i1 then
      some ((-6 : Int32), w)
    else
    (fX0_bestActions a0 i1 w).bind fun q1 =>
    (fX0_answerPlace i1 q1.2).bind fun q2 =>
    (fX0_cell a0 q2.1 q2.2).bind fun q3 =>
    (fX3_has q1.1 q3.1 q3.2).bind fun q4 =>
    if q4.1 = (0 : Int32) then
      some (i1, q4.2)
    else
    fX0_lowestWrongMessage_2 g a0 (i1 + (1 : Int32)) q4.2
set_option maxRecDepth 20000 in
theorem pX0_lowestWrongMessage_2 {K : KX} {cx : CX} {nn : Nat} {R9 : Int32 × XW} (B : XB K cx RX0 cX0_lowestWrongMessage 2 nn 4 100) (hR : XR K cx nn (some .int) (some (.int R9.1)) R9.2) : ∀ (g : Nat) (a0 : Nat) (i1 : Int32) (w : XW), fX0_lowestWrongMessage_2 g a0 i1 w = some R9 → Wx K cx 2 nn 2 [(0, .ref a0), (1, .int i1)] [] w := by
  intro g
  induction g with
  | zero =>
    intro a0 i1 w h
    exact absurd (show (none : Option (Int32 × XW)) = some R9 from h) (by simp)
  | succ g ih =>
    intro a0 i1 w h
    rw [fX0_lowestWrongMessage_2] at h
    refine x_iload_n (pc := 2) B 1 dX0_lowestWrongMessage_2 rfl rfl ?_
    refine x_iconst (pc := 3) B dX0_lowestWrongMessage_3 xk_iconst_3 ?_
    rcases xite h with ⟨hc, h⟩ | ⟨hc, h⟩
    · refine x_icmp_ge_t (tgt := 34) (pc := 4) B dX0_lowestWrongMessage_4 (by decide) hc ?_
      refine x_bipush (pc := 34) B dX0_lowestWrongMessage_34 xk_bipush_m6 ?_
      exact x_iret (pc := 36) B hR dX0_lowestWrongMessage_36 (xzI _) h
    · refine x_icmp_ge_f (pc := 4) B 34 dX0_lowestWrongMessage_4 (by decide) hc ?_
      refine x_aload_n (pc := 7) B 0 dX0_lowestWrongMessage_7 rfl rfl ?_
      refine x_iload_n (pc := 8) B 1 dX0_lowestWrongMessage_8 rfl rfl ?_
      obtain ⟨q1, hq, h⟩ := xbind h
      refine x_callV1 (st := []) (pc := 9) B dX0_lowestWrongMessage_9 (eX0_bestActions hq) xt_253 xt_54 np_X0_bestActions hy_X0_bestActions (Nat.le_of_ble_eq_true rfl) (Nat.le_of_ble_eq_true rfl) (Nat.le_of_ble_eq_true rfl) xt_251 xt_252 xt_396 rfl (iX0_bestActions hq) rfl ?_
      refine x_aload_n (pc := 12) B 0 dX0_lowestWrongMessage_12 rfl rfl ?_
      refine x_iload_n (pc := 13) B 1 dX0_lowestWrongMessage_13 rfl rfl ?_
      obtain ⟨q2, hq, h⟩ := xbind h
      refine x_callS1 (st := [.ref a0, .int q1.1]) (pc := 14) B dX0_lowestWrongMessage_14 (eX0_answerPlace hq) xt_216 xt_54 np_X0_answerPlace hy_X0_answerPlace (Nat.le_of_ble_eq_true rfl) (Nat.le_of_ble_eq_true rfl) (Nat.le_of_ble_eq_true rfl) xt_215 xt_288 rfl ?_
      obtain ⟨q3, hq, h⟩ := xbind h
      refine x_callV1 (st := [.int q1.1]) (pc := 17) B dX0_lowestWrongMessage_17 (eX0_cell hq) xt_153 xt_54 np_X0_cell hy_X0_cell (Nat.le_of_ble_eq_true rfl) (Nat.le_of_ble_eq_true rfl) (Nat.le_of_ble_eq_true rfl) xt_151 xt_152 xt_150 rfl (iX0_cell hq) rfl ?_
      obtain ⟨q4, hq, h⟩ := xbind h
      refine x_callSN1 (st := []) (pc := 20) B dX0_lowestWrongMessage_20 (eX3_has hq) xt_265 xt_53 np_X3_has hy_X3_has (Nat.le_of_ble_eq_true rfl) (Nat.le_of_ble_eq_true rfl) (Nat.le_of_ble_eq_true rfl) xt_264 (List.mem_of_getElem? (i := 1) rfl) rfl ?_
      rcases xite h with ⟨hc, h⟩ | ⟨hc, h⟩
      · refine x_if_ne_f (pc := 23) B 28 dX0_lowestWrongMessage_23 (by decide) hc ?_
        refine x_iload_n (pc := 26) B 1 dX0_lowestWrongMessage_26 rfl rfl ?_
        exact x_iret (pc := 27) B hR dX0_lowestWrongMessage_27 (xzI _) h
      · refine x_if_ne_t (tgt := 28) (pc := 23) B dX0_lowestWrongMessage_23 (by decide) hc ?_
        refine x_iinc (L1 := [(1, .int (i1 + (1 : Int32))), (0, .ref a0)]) (pc := 28) B 1 dX0_lowestWrongMessage_28 rfl (congrArg _ xk_iconst_1) (by decide) rfl ?_
        refine x_goto (tgt := 2) (pc := 31) B dX0_lowestWrongMessage_31 (by decide) ?_
        refine x_sub (L1 := [(0, .ref a0), (1, .int (i1 + (1 : Int32)))]) [1, 0] rfl ?_
        exact ih a0 (i1 + (1 : Int32)) q4.2 h
def fX0_lowestWrongMessage (a0 : Nat) (w : XW) : Option (Int32 × XW) := if xis w a0 0 = true then
  fX0_lowestWrongMessage_2 1000 a0 (0 : Int32) w
  else none
theorem iX0_lowestWrongMessage {a0 : Nat} {w : XW} {R9 : (Int32 × XW)} (h : fX0_lowestWrongMessage a0 w = some R9) : xis w a0 0 = true := by
  unfold fX0_lowestWrongMessage at h
  rcases xite h with ⟨hc, h⟩ | ⟨hc, h⟩
  · exact hc
  · exact absurd h (by simp)
theorem np_X0_lowestWrongMessage : (parseMethodDescriptor yX0_lowestWrongMessage.desc).map (fun d => d.parameters.length) = some 0 := by decide +kernel
theorem hy_X0_lowestWrongMessage : yX0_lowestWrongMessage.cls ≠ "java/lang/invoke/MethodHandle" ∧ yX0_lowestWrongMessage.cls ≠ "java/lang/invoke/VarHandle" := ⟨by decide +kernel, by decide +kernel⟩
set_option maxRecDepth 20000 in
theorem eX0_lowestWrongMessage {cx : CX} {a0 : Nat} {w : XW} {R9 : (Int32 × XW)} (h : fX0_lowestWrongMessage a0 w = some R9) : Ct yX0_lowestWrongMessage cX0_lowestWrongMessage 2 (some .int) 4 100 cx [.ref a0] w (some (.int R9.1)) R9.2 := by
  refine Ct_of (by decide +kernel) (Nat.le_of_ble_eq_true rfl) (fun K B hR => ?_)
  rw [fX0_lowestWrongMessage] at h
  show Wx K cx 2 w.length 0 [(0, .ref a0)] [] w
  rcases xite h with ⟨hc, h⟩ | ⟨hc, h⟩
  · skip
    refine x_iconst (pc := 0) B dX0_lowestWrongMessage_0 xk_iconst_0 ?_
    refine x_istore_n (L1 := [(1, .int (0 : Int32)), (0, .ref a0)]) (pc := 1) B dX0_lowestWrongMessage_1 rfl (by decide) rfl ?_
    refine x_sub (L1 := [(0, .ref a0), (1, .int (0 : Int32))]) [1, 0] rfl ?_
    exact pX0_lowestWrongMessage_2 B hR 1000 a0 (0 : Int32) w h
  · exact absurd h (by simp)
def fX0_isHolding (a0 : Nat) (w : XW) : Option (Int32 × XW) := if xis w a0 0 = true then
  (fX0_lowestBetterType a0 w).bind fun q1 =>
  if q1.1 = (-6 : Int32) then
    (fX0_lowestWrongMessage a0 q1.2).bind fun q2 =>
    if q2.1 = (-6 : Int32) then
      some ((1 : Int32), q2.2)
    else
    some ((0 : Int32), q2.2)
  else
  some ((0 : Int32), q1.2)
  else none
theorem iX0_isHolding {a0 : Nat} {w : XW} {R9 : (Int32 × XW)} (h : fX0_isHolding a0 w = some R9) : xis w a0 0 = true := by
  unfold fX0_isHolding at h
  rcases xite h with ⟨hc, h⟩ | ⟨hc, h⟩
  · exact hc
  · exact absurd h (by simp)
theorem np_X0_isHolding : (parseMethodDescriptor yX0_isHolding.desc).map (fun d => d.parameters.length) = some 0 := by decide +kernel
theorem hy_X0_isHolding : yX0_isHolding.cls ≠ "java/lang/invoke/MethodHandle" ∧ yX0_isHolding.cls ≠ "java/lang/invoke/VarHandle" := ⟨by decide +kernel, by decide +kernel⟩
set_option maxRecDepth 20000 in
theorem eX0_isHolding {cx : CX} {a0 : Nat} {w : XW} {R9 : (Int32 × XW)} (h : fX0_isHolding a0 w = some R9) : Ct yX0_isHolding cX0_isHolding 1 (some .boolean) 5 121 cx [.ref a0] w (some (.int R9.1)) R9.2 := by
  refine Ct_of (by decide +kernel) (Nat.le_of_ble_eq_true rfl) (fun K B hR => ?_)
  rw [fX0_isHolding] at h
  show Wx K cx 1 w.length 0 [(0, .ref a0)] [] w
  rcases xite h with ⟨hc, h⟩ | ⟨hc, h⟩
  · skip
    refine x_aload_n (pc := 0) B 0 dX0_isHolding_0 rfl rfl ?_
    obtain ⟨q1, hq, h⟩ := xbind h
    refine x_callV1 (st := []) (pc := 1) B dX0_isHolding_1 (eX0_lowestBetterType hq) xt_279 xt_54 np_X0_lowestBetterType hy_X0_lowestBetterType (Nat.le_of_ble_eq_true rfl) (Nat.le_of_ble_eq_true rfl) (Nat.le_of_ble_eq_true rfl) xt_277 xt_278 xt_405 rfl (iX0_lowestBetterType hq) rfl ?_
    refine x_bipush (pc := 4) B dX0_isHolding_4 xk_bipush_m6 ?_
    rcases xite h with ⟨hc, h⟩ | ⟨hc, h⟩
    · refine x_icmp_ne_f (pc := 6) B 22 dX0_isHolding_6 (by decide) hc ?_
      refine x_aload_n (pc := 9) B 0 dX0_isHolding_9 rfl rfl ?_
      obtain ⟨q2, hq, h⟩ := xbind h
      refine x_callV1 (st := []) (pc := 10) B dX0_isHolding_10 (eX0_lowestWrongMessage hq) xt_395 xt_54 np_X0_lowestWrongMessage hy_X0_lowestWrongMessage (Nat.le_of_ble_eq_true rfl) (Nat.le_of_ble_eq_true rfl) (Nat.le_of_ble_eq_true rfl) xt_393 xt_394 xt_406 rfl (iX0_lowestWrongMessage hq) rfl ?_
      refine x_bipush (pc := 13) B dX0_isHolding_13 xk_bipush_m6 ?_
      rcases xite h with ⟨hc, h⟩ | ⟨hc, h⟩
      · refine x_icmp_ne_f (pc := 15) B 22 dX0_isHolding_15 (by decide) hc ?_
        refine x_iconst (pc := 18) B dX0_isHolding_18 xk_iconst_1 ?_
        refine x_goto (tgt := 23) (pc := 19) B dX0_isHolding_19 (by decide) ?_
        exact x_iret (pc := 23) B hR dX0_isHolding_23 xz1 h
      · refine x_icmp_ne_t (tgt := 22) (pc := 15) B dX0_isHolding_15 (by decide) hc ?_
        refine x_iconst (pc := 22) B dX0_isHolding_22 xk_iconst_0 ?_
        exact x_iret (pc := 23) B hR dX0_isHolding_23 xz0 h
    · refine x_icmp_ne_t (tgt := 22) (pc := 6) B dX0_isHolding_6 (by decide) hc ?_
      refine x_iconst (pc := 22) B dX0_isHolding_22 xk_iconst_0 ?_
      exact x_iret (pc := 23) B hR dX0_isHolding_23 xz0 h
  · exact absurd h (by simp)
def fX0_code_5 : Nat → Nat → Int32 → Int32 → XW → Option (Int32 × XW)
  | 0, _, _, _, _ => none
  | g + 1, a0, i1, i2, w =>
    if (72 : Int32) ≤ i2 then
      some (i1, w)
    else
    (xgR w a0 0 0).bind fun v1 =>
    (xaI w v1 i2).bind fun v2 =>
    fX0_code_5 g a0 ((i1 * (3 : Int32)) + v2) (i2 + (1 : Int32)) w
set_option maxRecDepth 20000 in
theorem pX0_code_5 {K : KX} {cx : CX} {nn : Nat} {R9 : Int32 × XW} (B : XB K cx RX0 cX0_code 3 nn 0 0) (hR : XR K cx nn (some .int) (some (.int R9.1)) R9.2) : ∀ (g : Nat) (a0 : Nat) (i1 : Int32) (i2 : Int32) (w : XW), fX0_code_5 g a0 i1 i2 w = some R9 → Wx K cx 3 nn 5 [(0, .ref a0), (1, .int i1), (2, .int i2)] [] w := by
  intro g
  induction g with
  | zero =>
    intro a0 i1 i2 w h
    exact absurd (show (none : Option (Int32 × XW)) = some R9 from h) (by simp)
  | succ g ih =>
    intro a0 i1 i2 w h
    rw [fX0_code_5] at h
    refine x_iload_n (pc := 5) B 2 dX0_code_5 rfl rfl ?_
    refine x_bipush (pc := 6) B dX0_code_6 xk_bipush_72 ?_
    rcases xite h with ⟨hc, h⟩ | ⟨hc, h⟩
    · refine x_icmp_ge_t (tgt := 28) (pc := 8) B dX0_code_8 (by decide) hc ?_
      refine x_iload_n (pc := 28) B 1 dX0_code_28 rfl rfl ?_
      exact x_iret (pc := 29) B hR dX0_code_29 (xzI _) h
    · refine x_icmp_ge_f (pc := 8) B 28 dX0_code_8 (by decide) hc ?_
      refine x_iload_n (pc := 11) B 1 dX0_code_11 rfl rfl ?_
      refine x_iconst (pc := 12) B dX0_code_12 xk_iconst_3 ?_
      refine x_imul (pc := 13) B dX0_code_13 ?_
      refine x_aload_n (pc := 14) B 0 dX0_code_14 rfl rfl ?_
      obtain ⟨v1, hv, h⟩ := xbind h
      refine x_getR (k0 := 0) (pc := 15) B dX0_code_15 rfl xi_0 (by decide) ⟨rfl, rfl, rfl⟩ xt_86 hv ?_
      refine x_iload_n (pc := 18) B 2 dX0_code_18 rfl rfl ?_
      obtain ⟨v2, hv, h⟩ := xbind h
      refine x_iald (pc := 19) B dX0_code_19 hv ?_
      refine x_iadd (pc := 20) B dX0_code_20 ?_
      refine x_istore_n (L1 := [(1, .int ((i1 * (3 : Int32)) + v2)), (0, .ref a0), (2, .int i2)]) (pc := 21) B dX0_code_21 rfl (by decide) rfl ?_
      refine x_iinc (L1 := [(2, .int (i2 + (1 : Int32))), (1, .int ((i1 * (3 : Int32)) + v2)), (0, .ref a0)]) (pc := 22) B 2 dX0_code_22 rfl (congrArg _ xk_iconst_1) (by decide) rfl ?_
      refine x_goto (tgt := 5) (pc := 25) B dX0_code_25 (by decide) ?_
      refine x_sub (L1 := [(0, .ref a0), (1, .int ((i1 * (3 : Int32)) + v2)), (2, .int (i2 + (1 : Int32)))]) [2, 1, 0] rfl ?_
      exact ih a0 ((i1 * (3 : Int32)) + v2) (i2 + (1 : Int32)) w h
def fX0_code (a0 : Nat) (w : XW) : Option (Int32 × XW) := if xis w a0 0 = true then
  fX0_code_5 1000 a0 (0 : Int32) (66 : Int32) w
  else none
theorem iX0_code {a0 : Nat} {w : XW} {R9 : (Int32 × XW)} (h : fX0_code a0 w = some R9) : xis w a0 0 = true := by
  unfold fX0_code at h
  rcases xite h with ⟨hc, h⟩ | ⟨hc, h⟩
  · exact hc
  · exact absurd h (by simp)
theorem np_X0_code : (parseMethodDescriptor yX0_code.desc).map (fun d => d.parameters.length) = some 0 := by decide +kernel
theorem hy_X0_code : yX0_code.cls ≠ "java/lang/invoke/MethodHandle" ∧ yX0_code.cls ≠ "java/lang/invoke/VarHandle" := ⟨by decide +kernel, by decide +kernel⟩
set_option maxRecDepth 20000 in
theorem eX0_code {cx : CX} {a0 : Nat} {w : XW} {R9 : (Int32 × XW)} (h : fX0_code a0 w = some R9) : Ct yX0_code cX0_code 3 (some .int) 0 0 cx [.ref a0] w (some (.int R9.1)) R9.2 := by
  refine Ct_of (by decide +kernel) (Nat.le_of_ble_eq_true rfl) (fun K B hR => ?_)
  rw [fX0_code] at h
  show Wx K cx 3 w.length 0 [(0, .ref a0)] [] w
  rcases xite h with ⟨hc, h⟩ | ⟨hc, h⟩
  · skip
    refine x_iconst (pc := 0) B dX0_code_0 xk_iconst_0 ?_
    refine x_istore_n (L1 := [(1, .int (0 : Int32)), (0, .ref a0)]) (pc := 1) B dX0_code_1 rfl (by decide) rfl ?_
    refine x_bipush (pc := 2) B dX0_code_2 xk_bipush_66 ?_
    refine x_istore_n (L1 := [(2, .int (66 : Int32)), (1, .int (0 : Int32)), (0, .ref a0)]) (pc := 4) B dX0_code_4 rfl (by decide) rfl ?_
    refine x_sub (L1 := [(0, .ref a0), (1, .int (0 : Int32)), (2, .int (66 : Int32))]) [2, 1, 0] rfl ?_
    exact pX0_code_5 B hR 1000 a0 (0 : Int32) (66 : Int32) w h
  · exact absurd h (by simp)
def fX0_receiverSum_4 : Nat → Nat → Int32 → Int32 → XW → Option (Int32 × XW)
  | 0, _, _, _, _ => none
  | g + 1, a0, i1, i2, w =>
    if (3 : Int32) ≤ i2 then
      some (i1, w)
    else
    (fX0_messagePlace i2 w).bind fun q1 =>
    (fX0_cell a0 q1.1 q1.2).bind fun q2 =>
    (fX0_answerPlace q2.1 q2.2).bind fun q3 =>
    (fX0_cell a0 q3.1 q3.2).bind fun q4 =>
    (fX0_weightPlace i2 q4.2).bind fun q5 =>
    (fX0_cell a0 q5.1 q5.2).bind fun q6 =>
    (fX0_payPlace (1 : Int32) i2 q2.1 q4.1 q6.2).bind fun q7 =>
    (fX0_cell a0 q7.1 q7.2).bind fun q8 =>
    fX0_receiverSum_4 g a0 (i1 + (q6.1 * q8.1)) (i2 + (1 : Int32)) q8.2
set_option maxRecDepth 20000 in
theorem pX0_receiverSum_4 {K : KX} {cx : CX} {nn : Nat} {R9 : Int32 × XW} (B : XB K cx RX0 cX0_receiverSum 5 nn 1 23) (hR : XR K cx nn (some .int) (some (.int R9.1)) R9.2) : ∀ (g : Nat) (a0 : Nat) (i1 : Int32) (i2 : Int32) (w : XW), fX0_receiverSum_4 g a0 i1 i2 w = some R9 → Wx K cx 5 nn 4 [(0, .ref a0), (1, .int i1), (2, .int i2)] [] w := by
  intro g
  induction g with
  | zero =>
    intro a0 i1 i2 w h
    exact absurd (show (none : Option (Int32 × XW)) = some R9 from h) (by simp)
  | succ g ih =>
    intro a0 i1 i2 w h
    rw [fX0_receiverSum_4] at h
    refine x_iload_n (pc := 4) B 2 dX0_receiverSum_4 rfl rfl ?_
    refine x_iconst (pc := 5) B dX0_receiverSum_5 xk_iconst_3 ?_
    rcases xite h with ⟨hc, h⟩ | ⟨hc, h⟩
    · refine x_icmp_ge_t (tgt := 58) (pc := 6) B dX0_receiverSum_6 (by decide) hc ?_
      refine x_iload_n (pc := 58) B 1 dX0_receiverSum_58 rfl rfl ?_
      exact x_iret (pc := 59) B hR dX0_receiverSum_59 (xzI _) h
    · refine x_icmp_ge_f (pc := 6) B 58 dX0_receiverSum_6 (by decide) hc ?_
      refine x_aload_n (pc := 9) B 0 dX0_receiverSum_9 rfl rfl ?_
      refine x_iload_n (pc := 10) B 2 dX0_receiverSum_10 rfl rfl ?_
      obtain ⟨q1, hq, h⟩ := xbind h
      refine x_callS1 (st := [.ref a0]) (pc := 11) B dX0_receiverSum_11 (eX0_messagePlace hq) xt_209 xt_54 np_X0_messagePlace hy_X0_messagePlace (Nat.le_of_ble_eq_true rfl) (Nat.le_of_ble_eq_true rfl) (Nat.le_of_ble_eq_true rfl) xt_208 xt_262 rfl ?_
      obtain ⟨q2, hq, h⟩ := xbind h
      refine x_callV1 (st := []) (pc := 14) B dX0_receiverSum_14 (eX0_cell hq) xt_153 xt_54 np_X0_cell hy_X0_cell (Nat.le_of_ble_eq_true rfl) (Nat.le_of_ble_eq_true rfl) (Nat.le_of_ble_eq_true rfl) xt_151 xt_152 xt_150 rfl (iX0_cell hq) rfl ?_
      refine x_istore_n (L1 := [(3, .int q2.1), (0, .ref a0), (1, .int i1), (2, .int i2)]) (pc := 17) B dX0_receiverSum_17 rfl (by decide) rfl ?_
      refine x_aload_n (pc := 18) B 1 dX0_receiverSum_18 rfl rfl ?_
      refine x_iload_n (pc := 19) B 0 dX0_receiverSum_19 rfl rfl ?_
      obtain ⟨q3, hq, h⟩ := xbind h
      refine x_callS1 (st := [.ref a0]) (pc := 20) B dX0_receiverSum_20 (eX0_answerPlace hq) xt_216 xt_54 np_X0_answerPlace hy_X0_answerPlace (Nat.le_of_ble_eq_true rfl) (Nat.le_of_ble_eq_true rfl) (Nat.le_of_ble_eq_true rfl) xt_215 xt_288 rfl ?_
      obtain ⟨q4, hq, h⟩ := xbind h
      refine x_callV1 (st := []) (pc := 23) B dX0_receiverSum_23 (eX0_cell hq) xt_153 xt_54 np_X0_cell hy_X0_cell (Nat.le_of_ble_eq_true rfl) (Nat.le_of_ble_eq_true rfl) (Nat.le_of_ble_eq_true rfl) xt_151 xt_152 xt_150 rfl (iX0_cell hq) rfl ?_
      refine x_istore (L1 := [(4, .int q4.1), (3, .int q2.1), (0, .ref a0), (1, .int i1), (2, .int i2)]) (pc := 26) B dX0_receiverSum_26 (by decide) rfl ?_
      refine x_iload_n (pc := 28) B 3 dX0_receiverSum_28 rfl rfl ?_
      refine x_aload_n (pc := 29) B 2 dX0_receiverSum_29 rfl rfl ?_
      refine x_iload_n (pc := 30) B 4 dX0_receiverSum_30 rfl rfl ?_
      obtain ⟨q5, hq, h⟩ := xbind h
      refine x_callS1 (st := [.ref a0, .int i1]) (pc := 31) B dX0_receiverSum_31 (eX0_weightPlace hq) xt_149 xt_54 np_X0_weightPlace hy_X0_weightPlace (Nat.le_of_ble_eq_true rfl) (Nat.le_of_ble_eq_true rfl) (Nat.le_of_ble_eq_true rfl) xt_148 xt_147 rfl ?_
      obtain ⟨q6, hq, h⟩ := xbind h
      refine x_callV1 (st := [.int i1]) (pc := 34) B dX0_receiverSum_34 (eX0_cell hq) xt_153 xt_54 np_X0_cell hy_X0_cell (Nat.le_of_ble_eq_true rfl) (Nat.le_of_ble_eq_true rfl) (Nat.le_of_ble_eq_true rfl) xt_151 xt_152 xt_150 rfl (iX0_cell hq) rfl ?_
      refine x_aload_n (pc := 37) B 2 dX0_receiverSum_37 rfl rfl ?_
      refine x_iconst (pc := 38) B dX0_receiverSum_38 xk_iconst_1 ?_
      refine x_iload_n (pc := 39) B 4 dX0_receiverSum_39 rfl rfl ?_
      refine x_iload_n (pc := 40) B 1 dX0_receiverSum_40 rfl rfl ?_
      refine x_iload (pc := 41) B 0 dX0_receiverSum_41 rfl ?_
      obtain ⟨q7, hq, h⟩ := xbind h
      refine x_callS1 (st := [.ref a0, .int q6.1, .int i1]) (pc := 43) B dX0_receiverSum_43 (eX0_payPlace hq) xt_186 xt_54 np_X0_payPlace hy_X0_payPlace (Nat.le_of_ble_eq_true rfl) (Nat.le_of_ble_eq_true rfl) (Nat.le_of_ble_eq_true rfl) xt_185 xt_274 rfl ?_
      obtain ⟨q8, hq, h⟩ := xbind h
      refine x_callV1 (st := [.int q6.1, .int i1]) (pc := 46) B dX0_receiverSum_46 (eX0_cell hq) xt_153 xt_54 np_X0_cell hy_X0_cell (Nat.le_of_ble_eq_true rfl) (Nat.le_of_ble_eq_true rfl) (Nat.le_of_ble_eq_true rfl) xt_151 xt_152 xt_150 rfl (iX0_cell hq) rfl ?_
      refine x_imul (pc := 49) B dX0_receiverSum_49 ?_
      refine x_iadd (pc := 50) B dX0_receiverSum_50 ?_
      refine x_istore_n (L1 := [(1, .int (i1 + (q6.1 * q8.1))), (4, .int q4.1), (3, .int q2.1), (0, .ref a0), (2, .int i2)]) (pc := 51) B dX0_receiverSum_51 rfl (by decide) rfl ?_
      refine x_iinc (L1 := [(2, .int (i2 + (1 : Int32))), (1, .int (i1 + (q6.1 * q8.1))), (4, .int q4.1), (3, .int q2.1), (0, .ref a0)]) (pc := 52) B 4 dX0_receiverSum_52 rfl (congrArg _ xk_iconst_1) (by decide) rfl ?_
      refine x_goto (tgt := 4) (pc := 55) B dX0_receiverSum_55 (by decide) ?_
      refine x_sub (L1 := [(0, .ref a0), (1, .int (i1 + (q6.1 * q8.1))), (2, .int (i2 + (1 : Int32)))]) [4, 1, 0] rfl ?_
      exact ih a0 (i1 + (q6.1 * q8.1)) (i2 + (1 : Int32)) q8.2 h
def fX0_receiverSum (a0 : Nat) (w : XW) : Option (Int32 × XW) := if xis w a0 0 = true then
  fX0_receiverSum_4 1000 a0 (0 : Int32) (0 : Int32) w
  else none
theorem iX0_receiverSum {a0 : Nat} {w : XW} {R9 : (Int32 × XW)} (h : fX0_receiverSum a0 w = some R9) : xis w a0 0 = true := by
  unfold fX0_receiverSum at h
  rcases xite h with ⟨hc, h⟩ | ⟨hc, h⟩
  · exact hc
  · exact absurd h (by simp)
theorem np_X0_receiverSum : (parseMethodDescriptor yX0_receiverSum.desc).map (fun d => d.parameters.length) = some 0 := by decide +kernel
theorem hy_X0_receiverSum : yX0_receiverSum.cls ≠ "java/lang/invoke/MethodHandle" ∧ yX0_receiverSum.cls ≠ "java/lang/invoke/VarHandle" := ⟨by decide +kernel, by decide +kernel⟩
set_option maxRecDepth 20000 in
theorem eX0_receiverSum {cx : CX} {a0 : Nat} {w : XW} {R9 : (Int32 × XW)} (h : fX0_receiverSum a0 w = some R9) : Ct yX0_receiverSum cX0_receiverSum 5 (some .int) 1 23 cx [.ref a0] w (some (.int R9.1)) R9.2 := by
  refine Ct_of (by decide +kernel) (Nat.le_of_ble_eq_true rfl) (fun K B hR => ?_)
  rw [fX0_receiverSum] at h
  show Wx K cx 5 w.length 0 [(0, .ref a0)] [] w
  rcases xite h with ⟨hc, h⟩ | ⟨hc, h⟩
  · skip
    refine x_iconst (pc := 0) B dX0_receiverSum_0 xk_iconst_0 ?_
    refine x_istore_n (L1 := [(1, .int (0 : Int32)), (0, .ref a0)]) (pc := 1) B dX0_receiverSum_1 rfl (by decide) rfl ?_
    refine x_iconst (pc := 2) B dX0_receiverSum_2 xk_iconst_0 ?_
    refine x_istore_n (L1 := [(2, .int (0 : Int32)), (1, .int (0 : Int32)), (0, .ref a0)]) (pc := 3) B dX0_receiverSum_3 rfl (by decide) rfl ?_
    refine x_sub (L1 := [(0, .ref a0), (1, .int (0 : Int32)), (2, .int (0 : Int32))]) [2, 1, 0] rfl ?_
    exact pX0_receiverSum_4 B hR 1000 a0 (0 : Int32) (0 : Int32) w h
  · exact absurd h (by simp)
end
