section
-- ===== PART A: goes FIRST, ahead of the names: the tables' words, and 'selects' of the private methods out of them =====
/-- a private method of a class that the tables say can be made, by its rows of tables_1 -/
def lw_okq (q : MethodName × Nat) : Prop := (q.1.cls ≠ "java/lang/invoke/MethodHandle" ∧ q.1.cls ≠ "java/lang/invoke/VarHandle") ∧ Cond.instantiable q.1.cls q.2 ∈ tables_1 ∧ Cond.privateMethod q.1 ∈ tables_1 ∧ Cond.instanceMethod q.1 ∈ tables_1
theorem lw_p0 : lw_okq (⟨"EnoughGive$Coming", "seat", "(LEnoughGive$Sorts;II)V"⟩, 11) := ⟨⟨by decide +kernel, by decide +kernel⟩, List.mem_of_getElem? (i := 164) (by decide +kernel), List.mem_of_getElem? (i := 368) (by decide +kernel), List.mem_of_getElem? (i := 369) (by decide +kernel)⟩
theorem lw_p1 : lw_okq (⟨"EnoughGive$Reader", "readNumbers", "(LEnoughGive$Text;I)Z"⟩, 2) := ⟨⟨by decide +kernel, by decide +kernel⟩, List.mem_of_getElem? (i := 39) (by decide +kernel), List.mem_of_getElem? (i := 474) (by decide +kernel), List.mem_of_getElem? (i := 475) (by decide +kernel)⟩
theorem lw_p2 : lw_okq (⟨"EnoughGive$Reader", "readNumber", "(LEnoughGive$Text;)I"⟩, 2) := ⟨⟨by decide +kernel, by decide +kernel⟩, List.mem_of_getElem? (i := 39) (by decide +kernel), List.mem_of_getElem? (i := 478) (by decide +kernel), List.mem_of_getElem? (i := 479) (by decide +kernel)⟩
theorem lw_p3 : lw_okq (⟨"EnoughGive$Reader", "take", "(ILEnoughGive$Plan;)Z"⟩, 2) := ⟨⟨by decide +kernel, by decide +kernel⟩, List.mem_of_getElem? (i := 39) (by decide +kernel), List.mem_of_getElem? (i := 483) (by decide +kernel), List.mem_of_getElem? (i := 484) (by decide +kernel)⟩
theorem lw_p4 : lw_okq (⟨"EnoughGive$Reader", "upTo", "(II)Z"⟩, 2) := ⟨⟨by decide +kernel, by decide +kernel⟩, List.mem_of_getElem? (i := 39) (by decide +kernel), List.mem_of_getElem? (i := 487) (by decide +kernel), List.mem_of_getElem? (i := 488) (by decide +kernel)⟩
theorem lw_p5 : lw_okq (⟨"EnoughGive$Reader", "takeSort", "(ILEnoughGive$Sorts;)Z"⟩, 2) := ⟨⟨by decide +kernel, by decide +kernel⟩, List.mem_of_getElem? (i := 39) (by decide +kernel), List.mem_of_getElem? (i := 503) (by decide +kernel), List.mem_of_getElem? (i := 504) (by decide +kernel)⟩
theorem lw_p6 : lw_okq (⟨"EnoughGive", "forgetWays", "()V"⟩, 21) := ⟨⟨by decide +kernel, by decide +kernel⟩, List.mem_of_getElem? (i := 15) (by decide +kernel), List.mem_of_getElem? (i := 524) (by decide +kernel), List.mem_of_getElem? (i := 525) (by decide +kernel)⟩
theorem lw_p7 : lw_okq (⟨"EnoughGive", "isGiver", "(I)Z"⟩, 21) := ⟨⟨by decide +kernel, by decide +kernel⟩, List.mem_of_getElem? (i := 15) (by decide +kernel), List.mem_of_getElem? (i := 532) (by decide +kernel), List.mem_of_getElem? (i := 533) (by decide +kernel)⟩
theorem lw_p8 : lw_okq (⟨"EnoughGive", "waysAsTheyStand", "()LEnoughGive$Ways;"⟩, 21) := ⟨⟨by decide +kernel, by decide +kernel⟩, List.mem_of_getElem? (i := 15) (by decide +kernel), List.mem_of_getElem? (i := 550) (by decide +kernel), List.mem_of_getElem? (i := 551) (by decide +kernel)⟩
theorem lw_p9 : lw_okq (⟨"EnoughGive", "setGame", "()V"⟩, 21) := ⟨⟨by decide +kernel, by decide +kernel⟩, List.mem_of_getElem? (i := 15) (by decide +kernel), List.mem_of_getElem? (i := 554) (by decide +kernel), List.mem_of_getElem? (i := 555) (by decide +kernel)⟩
theorem lw_p10 : lw_okq (⟨"EnoughGive$Ways", "clear", "()V"⟩, 10) := ⟨⟨by decide +kernel, by decide +kernel⟩, List.mem_of_getElem? (i := 272) (by decide +kernel), List.mem_of_getElem? (i := 566) (by decide +kernel), List.mem_of_getElem? (i := 567) (by decide +kernel)⟩
theorem lw_p11 : lw_okq (⟨"EnoughGive$Game", "lackOf", "(II)I"⟩, 11) := ⟨⟨by decide +kernel, by decide +kernel⟩, List.mem_of_getElem? (i := 221) (by decide +kernel), List.mem_of_getElem? (i := 589) (by decide +kernel), List.mem_of_getElem? (i := 590) (by decide +kernel)⟩
theorem lw_p12 : lw_okq (⟨"EnoughGive$Game", "secondGiftAt", "(III)I"⟩, 11) := ⟨⟨by decide +kernel, by decide +kernel⟩, List.mem_of_getElem? (i := 221) (by decide +kernel), List.mem_of_getElem? (i := 597) (by decide +kernel), List.mem_of_getElem? (i := 598) (by decide +kernel)⟩
theorem lw_p13 : lw_okq (⟨"EnoughGive$Ways", "add", "(LEnoughGive$Game;I)V"⟩, 10) := ⟨⟨by decide +kernel, by decide +kernel⟩, List.mem_of_getElem? (i := 272) (by decide +kernel), List.mem_of_getElem? (i := 601) (by decide +kernel), List.mem_of_getElem? (i := 602) (by decide +kernel)⟩
theorem lw_p14 : lw_okq (⟨"EnoughGive$Ways", "addMeans", "(LEnoughGive$Game;LEnoughGive$Coming;)V"⟩, 10) := ⟨⟨by decide +kernel, by decide +kernel⟩, List.mem_of_getElem? (i := 272) (by decide +kernel), List.mem_of_getElem? (i := 617) (by decide +kernel), List.mem_of_getElem? (i := 618) (by decide +kernel)⟩
theorem lw_p15 : lw_okq (⟨"EnoughGive$Ways", "nextWay", "(LEnoughGive$Coming;)I"⟩, 10) := ⟨⟨by decide +kernel, by decide +kernel⟩, List.mem_of_getElem? (i := 272) (by decide +kernel), List.mem_of_getElem? (i := 626) (by decide +kernel), List.mem_of_getElem? (i := 627) (by decide +kernel)⟩
def lw_privs_1 : List (MethodName × Nat) := [(⟨"EnoughGive$Coming", "seat", "(LEnoughGive$Sorts;II)V"⟩, 11), (⟨"EnoughGive$Reader", "readNumbers", "(LEnoughGive$Text;I)Z"⟩, 2), (⟨"EnoughGive$Reader", "readNumber", "(LEnoughGive$Text;)I"⟩, 2), (⟨"EnoughGive$Reader", "take", "(ILEnoughGive$Plan;)Z"⟩, 2), (⟨"EnoughGive$Reader", "upTo", "(II)Z"⟩, 2), (⟨"EnoughGive$Reader", "takeSort", "(ILEnoughGive$Sorts;)Z"⟩, 2), (⟨"EnoughGive", "forgetWays", "()V"⟩, 21), (⟨"EnoughGive", "isGiver", "(I)Z"⟩, 21), (⟨"EnoughGive", "waysAsTheyStand", "()LEnoughGive$Ways;"⟩, 21), (⟨"EnoughGive", "setGame", "()V"⟩, 21), (⟨"EnoughGive$Ways", "clear", "()V"⟩, 10), (⟨"EnoughGive$Game", "lackOf", "(II)I"⟩, 11), (⟨"EnoughGive$Game", "secondGiftAt", "(III)I"⟩, 11), (⟨"EnoughGive$Ways", "add", "(LEnoughGive$Game;I)V"⟩, 10), (⟨"EnoughGive$Ways", "addMeans", "(LEnoughGive$Game;LEnoughGive$Coming;)V"⟩, 10), (⟨"EnoughGive$Ways", "nextWay", "(LEnoughGive$Coming;)I"⟩, 10)]
theorem lw_r1 : ∀ q ∈ lw_privs_1, lw_okq q := List.forall_mem_cons.mpr ⟨lw_p0, List.forall_mem_cons.mpr ⟨lw_p1, List.forall_mem_cons.mpr ⟨lw_p2, List.forall_mem_cons.mpr ⟨lw_p3, List.forall_mem_cons.mpr ⟨lw_p4, List.forall_mem_cons.mpr ⟨lw_p5, List.forall_mem_cons.mpr ⟨lw_p6, List.forall_mem_cons.mpr ⟨lw_p7, List.forall_mem_cons.mpr ⟨lw_p8, List.forall_mem_cons.mpr ⟨lw_p9, List.forall_mem_cons.mpr ⟨lw_p10, List.forall_mem_cons.mpr ⟨lw_p11, List.forall_mem_cons.mpr ⟨lw_p12, List.forall_mem_cons.mpr ⟨lw_p13, List.forall_mem_cons.mpr ⟨lw_p14, List.forall_mem_cons.mpr ⟨lw_p15, fun _ h => absurd h List.not_mem_nil⟩⟩⟩⟩⟩⟩⟩⟩⟩⟩⟩⟩⟩⟩⟩⟩
theorem lw_p16 : lw_okq (⟨"EnoughGive$Rest", "clearTable", "()V"⟩, 6) := ⟨⟨by decide +kernel, by decide +kernel⟩, List.mem_of_getElem? (i := 317) (by decide +kernel), List.mem_of_getElem? (i := 677) (by decide +kernel), List.mem_of_getElem? (i := 678) (by decide +kernel)⟩
theorem lw_p17 : lw_okq (⟨"EnoughGive$Rest", "join", "(IIZII)V"⟩, 6) := ⟨⟨by decide +kernel, by decide +kernel⟩, List.mem_of_getElem? (i := 317) (by decide +kernel), List.mem_of_getElem? (i := 682) (by decide +kernel), List.mem_of_getElem? (i := 683) (by decide +kernel)⟩
theorem lw_p18 : lw_okq (⟨"EnoughGive$Rest", "lowestGift", "(IIII)I"⟩, 6) := ⟨⟨by decide +kernel, by decide +kernel⟩, List.mem_of_getElem? (i := 317) (by decide +kernel), List.mem_of_getElem? (i := 691) (by decide +kernel), List.mem_of_getElem? (i := 692) (by decide +kernel)⟩
theorem lw_p19 : lw_okq (⟨"EnoughGive$Rest", "failingWays", "(II)J"⟩, 6) := ⟨⟨by decide +kernel, by decide +kernel⟩, List.mem_of_getElem? (i := 317) (by decide +kernel), List.mem_of_getElem? (i := 703) (by decide +kernel), List.mem_of_getElem? (i := 704) (by decide +kernel)⟩
theorem lw_p20 : lw_okq (⟨"EnoughGive$Rest", "lowestAtRest", "(III)I"⟩, 6) := ⟨⟨by decide +kernel, by decide +kernel⟩, List.mem_of_getElem? (i := 317) (by decide +kernel), List.mem_of_getElem? (i := 707) (by decide +kernel), List.mem_of_getElem? (i := 708) (by decide +kernel)⟩
theorem lw_p21 : lw_okq (⟨"EnoughGive$Rest", "isNoneAtRest", "(III)Z"⟩, 6) := ⟨⟨by decide +kernel, by decide +kernel⟩, List.mem_of_getElem? (i := 317) (by decide +kernel), List.mem_of_getElem? (i := 712) (by decide +kernel), List.mem_of_getElem? (i := 713) (by decide +kernel)⟩
theorem lw_p22 : lw_okq (⟨"EnoughGive", "findBestBar", "()V"⟩, 21) := ⟨⟨by decide +kernel, by decide +kernel⟩, List.mem_of_getElem? (i := 15) (by decide +kernel), List.mem_of_getElem? (i := 720) (by decide +kernel), List.mem_of_getElem? (i := 721) (by decide +kernel)⟩
theorem lw_p23 : lw_okq (⟨"EnoughGive", "richWays", "(II)J"⟩, 21) := ⟨⟨by decide +kernel, by decide +kernel⟩, List.mem_of_getElem? (i := 15) (by decide +kernel), List.mem_of_getElem? (i := 749) (by decide +kernel), List.mem_of_getElem? (i := 750) (by decide +kernel)⟩
theorem lw_p24 : lw_okq (⟨"EnoughGive", "playEvening", "(I)V"⟩, 21) := ⟨⟨by decide +kernel, by decide +kernel⟩, List.mem_of_getElem? (i := 15) (by decide +kernel), List.mem_of_getElem? (i := 766) (by decide +kernel), List.mem_of_getElem? (i := 767) (by decide +kernel)⟩
theorem lw_p25 : lw_okq (⟨"EnoughGive", "drawnWorth", "(II)I"⟩, 21) := ⟨⟨by decide +kernel, by decide +kernel⟩, List.mem_of_getElem? (i := 15) (by decide +kernel), List.mem_of_getElem? (i := 770) (by decide +kernel), List.mem_of_getElem? (i := 771) (by decide +kernel)⟩
theorem lw_p26 : lw_okq (⟨"EnoughGiveModel", "noBoard", "(I)V"⟩, 39) := ⟨⟨by decide +kernel, by decide +kernel⟩, List.mem_of_getElem? (i := 803) (by decide +kernel), List.mem_of_getElem? (i := 809) (by decide +kernel), List.mem_of_getElem? (i := 810) (by decide +kernel)⟩
theorem lw_p27 : lw_okq (⟨"EnoughGiveModel", "layGivers", "()V"⟩, 39) := ⟨⟨by decide +kernel, by decide +kernel⟩, List.mem_of_getElem? (i := 803) (by decide +kernel), List.mem_of_getElem? (i := 813) (by decide +kernel), List.mem_of_getElem? (i := 814) (by decide +kernel)⟩
theorem lw_p28 : lw_okq (⟨"EnoughGiveModel", "plain", "()V"⟩, 39) := ⟨⟨by decide +kernel, by decide +kernel⟩, List.mem_of_getElem? (i := 803) (by decide +kernel), List.mem_of_getElem? (i := 817) (by decide +kernel), List.mem_of_getElem? (i := 818) (by decide +kernel)⟩
theorem lw_p29 : lw_okq (⟨"EnoughGiveModel", "readAll", "()I"⟩, 39) := ⟨⟨by decide +kernel, by decide +kernel⟩, List.mem_of_getElem? (i := 803) (by decide +kernel), List.mem_of_getElem? (i := 956) (by decide +kernel), List.mem_of_getElem? (i := 957) (by decide +kernel)⟩
theorem lw_p30 : lw_okq (⟨"EnoughGiveModel", "item", "()Z"⟩, 39) := ⟨⟨by decide +kernel, by decide +kernel⟩, List.mem_of_getElem? (i := 803) (by decide +kernel), List.mem_of_getElem? (i := 960) (by decide +kernel), List.mem_of_getElem? (i := 961) (by decide +kernel)⟩
theorem lw_p31 : lw_okq (⟨"EnoughGiveModel", "byteAt", "(I)I"⟩, 39) := ⟨⟨by decide +kernel, by decide +kernel⟩, List.mem_of_getElem? (i := 803) (by decide +kernel), List.mem_of_getElem? (i := 964) (by decide +kernel), List.mem_of_getElem? (i := 965) (by decide +kernel)⟩
def lw_privs_2 : List (MethodName × Nat) := [(⟨"EnoughGive$Rest", "clearTable", "()V"⟩, 6), (⟨"EnoughGive$Rest", "join", "(IIZII)V"⟩, 6), (⟨"EnoughGive$Rest", "lowestGift", "(IIII)I"⟩, 6), (⟨"EnoughGive$Rest", "failingWays", "(II)J"⟩, 6), (⟨"EnoughGive$Rest", "lowestAtRest", "(III)I"⟩, 6), (⟨"EnoughGive$Rest", "isNoneAtRest", "(III)Z"⟩, 6), (⟨"EnoughGive", "findBestBar", "()V"⟩, 21), (⟨"EnoughGive", "richWays", "(II)J"⟩, 21), (⟨"EnoughGive", "playEvening", "(I)V"⟩, 21), (⟨"EnoughGive", "drawnWorth", "(II)I"⟩, 21), (⟨"EnoughGiveModel", "noBoard", "(I)V"⟩, 39), (⟨"EnoughGiveModel", "layGivers", "()V"⟩, 39), (⟨"EnoughGiveModel", "plain", "()V"⟩, 39), (⟨"EnoughGiveModel", "readAll", "()I"⟩, 39), (⟨"EnoughGiveModel", "item", "()Z"⟩, 39), (⟨"EnoughGiveModel", "byteAt", "(I)I"⟩, 39)]
theorem lw_r2 : ∀ q ∈ lw_privs_2, lw_okq q := List.forall_mem_cons.mpr ⟨lw_p16, List.forall_mem_cons.mpr ⟨lw_p17, List.forall_mem_cons.mpr ⟨lw_p18, List.forall_mem_cons.mpr ⟨lw_p19, List.forall_mem_cons.mpr ⟨lw_p20, List.forall_mem_cons.mpr ⟨lw_p21, List.forall_mem_cons.mpr ⟨lw_p22, List.forall_mem_cons.mpr ⟨lw_p23, List.forall_mem_cons.mpr ⟨lw_p24, List.forall_mem_cons.mpr ⟨lw_p25, List.forall_mem_cons.mpr ⟨lw_p26, List.forall_mem_cons.mpr ⟨lw_p27, List.forall_mem_cons.mpr ⟨lw_p28, List.forall_mem_cons.mpr ⟨lw_p29, List.forall_mem_cons.mpr ⟨lw_p30, List.forall_mem_cons.mpr ⟨lw_p31, fun _ h => absurd h List.not_mem_nil⟩⟩⟩⟩⟩⟩⟩⟩⟩⟩⟩⟩⟩⟩⟩⟩
theorem lw_p32 : lw_okq (⟨"EnoughGiveModel", "numberItem", "(IIIII)Z"⟩, 39) := ⟨⟨by decide +kernel, by decide +kernel⟩, List.mem_of_getElem? (i := 803) (by decide +kernel), List.mem_of_getElem? (i := 968) (by decide +kernel), List.mem_of_getElem? (i := 969) (by decide +kernel)⟩
theorem lw_p33 : lw_okq (⟨"EnoughGiveModel", "figures", "(I)Z"⟩, 39) := ⟨⟨by decide +kernel, by decide +kernel⟩, List.mem_of_getElem? (i := 803) (by decide +kernel), List.mem_of_getElem? (i := 972) (by decide +kernel), List.mem_of_getElem? (i := 973) (by decide +kernel)⟩
theorem lw_p34 : lw_okq (⟨"EnoughGiveModel", "sortItem", "()Z"⟩, 39) := ⟨⟨by decide +kernel, by decide +kernel⟩, List.mem_of_getElem? (i := 803) (by decide +kernel), List.mem_of_getElem? (i := 979) (by decide +kernel), List.mem_of_getElem? (i := 980) (by decide +kernel)⟩
theorem lw_p35 : lw_okq (⟨"EnoughGiveModel", "readGivers", "()I"⟩, 39) := ⟨⟨by decide +kernel, by decide +kernel⟩, List.mem_of_getElem? (i := 803) (by decide +kernel), List.mem_of_getElem? (i := 983) (by decide +kernel), List.mem_of_getElem? (i := 984) (by decide +kernel)⟩
theorem lw_p36 : lw_okq (⟨"EnoughGiveModel", "worthItem", "()Z"⟩, 39) := ⟨⟨by decide +kernel, by decide +kernel⟩, List.mem_of_getElem? (i := 803) (by decide +kernel), List.mem_of_getElem? (i := 987) (by decide +kernel), List.mem_of_getElem? (i := 988) (by decide +kernel)⟩
theorem lw_p37 : lw_okq (⟨"EnoughGiveModel", "areWhole", "()Z"⟩, 39) := ⟨⟨by decide +kernel, by decide +kernel⟩, List.mem_of_getElem? (i := 803) (by decide +kernel), List.mem_of_getElem? (i := 992) (by decide +kernel), List.mem_of_getElem? (i := 993) (by decide +kernel)⟩
theorem lw_p38 : lw_okq (⟨"EnoughGiveModel", "isGiver", "(I)Z"⟩, 39) := ⟨⟨by decide +kernel, by decide +kernel⟩, List.mem_of_getElem? (i := 803) (by decide +kernel), List.mem_of_getElem? (i := 1004) (by decide +kernel), List.mem_of_getElem? (i := 1005) (by decide +kernel)⟩
theorem lw_p39 : lw_okq (⟨"EnoughGiveModel", "layOrder", "()V"⟩, 39) := ⟨⟨by decide +kernel, by decide +kernel⟩, List.mem_of_getElem? (i := 803) (by decide +kernel), List.mem_of_getElem? (i := 1008) (by decide +kernel), List.mem_of_getElem? (i := 1009) (by decide +kernel)⟩
theorem lw_p40 : lw_okq (⟨"EnoughGiveModel", "dayOf", "(I)I"⟩, 39) := ⟨⟨by decide +kernel, by decide +kernel⟩, List.mem_of_getElem? (i := 803) (by decide +kernel), List.mem_of_getElem? (i := 1012) (by decide +kernel), List.mem_of_getElem? (i := 1013) (by decide +kernel)⟩
theorem lw_p41 : lw_okq (⟨"EnoughGiveModel", "placeOf", "(I)I"⟩, 39) := ⟨⟨by decide +kernel, by decide +kernel⟩, List.mem_of_getElem? (i := 803) (by decide +kernel), List.mem_of_getElem? (i := 1016) (by decide +kernel), List.mem_of_getElem? (i := 1017) (by decide +kernel)⟩
theorem lw_p42 : lw_okq (⟨"EnoughGiveModel", "waysOf", "(I)J"⟩, 39) := ⟨⟨by decide +kernel, by decide +kernel⟩, List.mem_of_getElem? (i := 803) (by decide +kernel), List.mem_of_getElem? (i := 1030) (by decide +kernel), List.mem_of_getElem? (i := 1031) (by decide +kernel)⟩
theorem lw_p43 : lw_okq (⟨"EnoughGiveModel", "beginWays", "()V"⟩, 39) := ⟨⟨by decide +kernel, by decide +kernel⟩, List.mem_of_getElem? (i := 803) (by decide +kernel), List.mem_of_getElem? (i := 1034) (by decide +kernel), List.mem_of_getElem? (i := 1035) (by decide +kernel)⟩
theorem lw_p44 : lw_okq (⟨"EnoughGiveModel", "takeWay", "()J"⟩, 39) := ⟨⟨by decide +kernel, by decide +kernel⟩, List.mem_of_getElem? (i := 803) (by decide +kernel), List.mem_of_getElem? (i := 1038) (by decide +kernel), List.mem_of_getElem? (i := 1039) (by decide +kernel)⟩
theorem lw_p45 : lw_okq (⟨"EnoughGiveModel", "goAll", "()V"⟩, 39) := ⟨⟨by decide +kernel, by decide +kernel⟩, List.mem_of_getElem? (i := 803) (by decide +kernel), List.mem_of_getElem? (i := 1042) (by decide +kernel), List.mem_of_getElem? (i := 1043) (by decide +kernel)⟩
theorem lw_p46 : lw_okq (⟨"EnoughGiveModel", "lackOf", "(II)I"⟩, 39) := ⟨⟨by decide +kernel, by decide +kernel⟩, List.mem_of_getElem? (i := 803) (by decide +kernel), List.mem_of_getElem? (i := 1049) (by decide +kernel), List.mem_of_getElem? (i := 1050) (by decide +kernel)⟩
theorem lw_p47 : lw_okq (⟨"EnoughGiveModel", "giftBy", "(IIIIII)I"⟩, 39) := ⟨⟨by decide +kernel, by decide +kernel⟩, List.mem_of_getElem? (i := 803) (by decide +kernel), List.mem_of_getElem? (i := 1053) (by decide +kernel), List.mem_of_getElem? (i := 1054) (by decide +kernel)⟩
def lw_privs_3 : List (MethodName × Nat) := [(⟨"EnoughGiveModel", "numberItem", "(IIIII)Z"⟩, 39), (⟨"EnoughGiveModel", "figures", "(I)Z"⟩, 39), (⟨"EnoughGiveModel", "sortItem", "()Z"⟩, 39), (⟨"EnoughGiveModel", "readGivers", "()I"⟩, 39), (⟨"EnoughGiveModel", "worthItem", "()Z"⟩, 39), (⟨"EnoughGiveModel", "areWhole", "()Z"⟩, 39), (⟨"EnoughGiveModel", "isGiver", "(I)Z"⟩, 39), (⟨"EnoughGiveModel", "layOrder", "()V"⟩, 39), (⟨"EnoughGiveModel", "dayOf", "(I)I"⟩, 39), (⟨"EnoughGiveModel", "placeOf", "(I)I"⟩, 39), (⟨"EnoughGiveModel", "waysOf", "(I)J"⟩, 39), (⟨"EnoughGiveModel", "beginWays", "()V"⟩, 39), (⟨"EnoughGiveModel", "takeWay", "()J"⟩, 39), (⟨"EnoughGiveModel", "goAll", "()V"⟩, 39), (⟨"EnoughGiveModel", "lackOf", "(II)I"⟩, 39), (⟨"EnoughGiveModel", "giftBy", "(IIIIII)I"⟩, 39)]
theorem lw_r3 : ∀ q ∈ lw_privs_3, lw_okq q := List.forall_mem_cons.mpr ⟨lw_p32, List.forall_mem_cons.mpr ⟨lw_p33, List.forall_mem_cons.mpr ⟨lw_p34, List.forall_mem_cons.mpr ⟨lw_p35, List.forall_mem_cons.mpr ⟨lw_p36, List.forall_mem_cons.mpr ⟨lw_p37, List.forall_mem_cons.mpr ⟨lw_p38, List.forall_mem_cons.mpr ⟨lw_p39, List.forall_mem_cons.mpr ⟨lw_p40, List.forall_mem_cons.mpr ⟨lw_p41, List.forall_mem_cons.mpr ⟨lw_p42, List.forall_mem_cons.mpr ⟨lw_p43, List.forall_mem_cons.mpr ⟨lw_p44, List.forall_mem_cons.mpr ⟨lw_p45, List.forall_mem_cons.mpr ⟨lw_p46, List.forall_mem_cons.mpr ⟨lw_p47, fun _ h => absurd h List.not_mem_nil⟩⟩⟩⟩⟩⟩⟩⟩⟩⟩⟩⟩⟩⟩⟩⟩
theorem lw_p48 : lw_okq (⟨"EnoughGiveModel", "isBuilt", "()Z"⟩, 39) := ⟨⟨by decide +kernel, by decide +kernel⟩, List.mem_of_getElem? (i := 803) (by decide +kernel), List.mem_of_getElem? (i := 1057) (by decide +kernel), List.mem_of_getElem? (i := 1058) (by decide +kernel)⟩
theorem lw_p49 : lw_okq (⟨"EnoughGiveModel", "isDue", "()Z"⟩, 39) := ⟨⟨by decide +kernel, by decide +kernel⟩, List.mem_of_getElem? (i := 803) (by decide +kernel), List.mem_of_getElem? (i := 1061) (by decide +kernel), List.mem_of_getElem? (i := 1062) (by decide +kernel)⟩
theorem lw_p50 : lw_okq (⟨"EnoughGiveModel", "nextWay", "()Z"⟩, 39) := ⟨⟨by decide +kernel, by decide +kernel⟩, List.mem_of_getElem? (i := 803) (by decide +kernel), List.mem_of_getElem? (i := 1065) (by decide +kernel), List.mem_of_getElem? (i := 1066) (by decide +kernel)⟩
theorem lw_p51 : lw_okq (⟨"EnoughGiveModel", "allWays", "()J"⟩, 39) := ⟨⟨by decide +kernel, by decide +kernel⟩, List.mem_of_getElem? (i := 803) (by decide +kernel), List.mem_of_getElem? (i := 1069) (by decide +kernel), List.mem_of_getElem? (i := 1070) (by decide +kernel)⟩
theorem lw_p52 : lw_okq (⟨"EnoughGiveModel", "hasOf", "(I)I"⟩, 39) := ⟨⟨by decide +kernel, by decide +kernel⟩, List.mem_of_getElem? (i := 803) (by decide +kernel), List.mem_of_getElem? (i := 1082) (by decide +kernel), List.mem_of_getElem? (i := 1083) (by decide +kernel)⟩
theorem lw_p53 : lw_okq (⟨"EnoughGiveModel", "most", "(I)I"⟩, 39) := ⟨⟨by decide +kernel, by decide +kernel⟩, List.mem_of_getElem? (i := 803) (by decide +kernel), List.mem_of_getElem? (i := 1099) (by decide +kernel), List.mem_of_getElem? (i := 1100) (by decide +kernel)⟩
theorem lw_p54 : lw_okq (⟨"EnoughGiveModel", "comes", "(I)Z"⟩, 39) := ⟨⟨by decide +kernel, by decide +kernel⟩, List.mem_of_getElem? (i := 803) (by decide +kernel), List.mem_of_getElem? (i := 1111) (by decide +kernel), List.mem_of_getElem? (i := 1112) (by decide +kernel)⟩
theorem lw_p55 : lw_okq (⟨"EnoughGiveModel", "layLays", "()V"⟩, 39) := ⟨⟨by decide +kernel, by decide +kernel⟩, List.mem_of_getElem? (i := 803) (by decide +kernel), List.mem_of_getElem? (i := 1115) (by decide +kernel), List.mem_of_getElem? (i := 1116) (by decide +kernel)⟩
theorem lw_p56 : lw_okq (⟨"EnoughGiveModel", "mostGift", "(I)I"⟩, 39) := ⟨⟨by decide +kernel, by decide +kernel⟩, List.mem_of_getElem? (i := 803) (by decide +kernel), List.mem_of_getElem? (i := 1119) (by decide +kernel), List.mem_of_getElem? (i := 1120) (by decide +kernel)⟩
theorem lw_p57 : lw_okq (⟨"EnoughGiveModel", "laysFrom", "(III)J"⟩, 39) := ⟨⟨by decide +kernel, by decide +kernel⟩, List.mem_of_getElem? (i := 803) (by decide +kernel), List.mem_of_getElem? (i := 1126) (by decide +kernel), List.mem_of_getElem? (i := 1127) (by decide +kernel)⟩
theorem lw_p58 : lw_okq (⟨"EnoughGiveModel", "restsOf", "(II)J"⟩, 39) := ⟨⟨by decide +kernel, by decide +kernel⟩, List.mem_of_getElem? (i := 803) (by decide +kernel), List.mem_of_getElem? (i := 1134) (by decide +kernel), List.mem_of_getElem? (i := 1135) (by decide +kernel)⟩
theorem lw_p59 : lw_okq (⟨"EnoughGiveModel", "isRest", "(IIII)Z"⟩, 39) := ⟨⟨by decide +kernel, by decide +kernel⟩, List.mem_of_getElem? (i := 803) (by decide +kernel), List.mem_of_getElem? (i := 1138) (by decide +kernel), List.mem_of_getElem? (i := 1139) (by decide +kernel)⟩
theorem lw_p60 : lw_okq (⟨"EnoughGiveModel", "richWays", "(II)J"⟩, 39) := ⟨⟨by decide +kernel, by decide +kernel⟩, List.mem_of_getElem? (i := 803) (by decide +kernel), List.mem_of_getElem? (i := 1163) (by decide +kernel), List.mem_of_getElem? (i := 1164) (by decide +kernel)⟩
theorem lw_p61 : lw_okq (⟨"EnoughGiveModel", "goEvening", "(I)V"⟩, 39) := ⟨⟨by decide +kernel, by decide +kernel⟩, List.mem_of_getElem? (i := 803) (by decide +kernel), List.mem_of_getElem? (i := 1181) (by decide +kernel), List.mem_of_getElem? (i := 1182) (by decide +kernel)⟩
def lw_privs_4 : List (MethodName × Nat) := [(⟨"EnoughGiveModel", "isBuilt", "()Z"⟩, 39), (⟨"EnoughGiveModel", "isDue", "()Z"⟩, 39), (⟨"EnoughGiveModel", "nextWay", "()Z"⟩, 39), (⟨"EnoughGiveModel", "allWays", "()J"⟩, 39), (⟨"EnoughGiveModel", "hasOf", "(I)I"⟩, 39), (⟨"EnoughGiveModel", "most", "(I)I"⟩, 39), (⟨"EnoughGiveModel", "comes", "(I)Z"⟩, 39), (⟨"EnoughGiveModel", "layLays", "()V"⟩, 39), (⟨"EnoughGiveModel", "mostGift", "(I)I"⟩, 39), (⟨"EnoughGiveModel", "laysFrom", "(III)J"⟩, 39), (⟨"EnoughGiveModel", "restsOf", "(II)J"⟩, 39), (⟨"EnoughGiveModel", "isRest", "(IIII)Z"⟩, 39), (⟨"EnoughGiveModel", "richWays", "(II)J"⟩, 39), (⟨"EnoughGiveModel", "goEvening", "(I)V"⟩, 39)]
theorem lw_r4 : ∀ q ∈ lw_privs_4, lw_okq q := List.forall_mem_cons.mpr ⟨lw_p48, List.forall_mem_cons.mpr ⟨lw_p49, List.forall_mem_cons.mpr ⟨lw_p50, List.forall_mem_cons.mpr ⟨lw_p51, List.forall_mem_cons.mpr ⟨lw_p52, List.forall_mem_cons.mpr ⟨lw_p53, List.forall_mem_cons.mpr ⟨lw_p54, List.forall_mem_cons.mpr ⟨lw_p55, List.forall_mem_cons.mpr ⟨lw_p56, List.forall_mem_cons.mpr ⟨lw_p57, List.forall_mem_cons.mpr ⟨lw_p58, List.forall_mem_cons.mpr ⟨lw_p59, List.forall_mem_cons.mpr ⟨lw_p60, List.forall_mem_cons.mpr ⟨lw_p61, fun _ h => absurd h List.not_mem_nil⟩⟩⟩⟩⟩⟩⟩⟩⟩⟩⟩⟩⟩⟩
def lw_privs : List (MethodName × Nat) := lw_privs_1 ++ (lw_privs_2 ++ (lw_privs_3 ++ (lw_privs_4)))
def lw_tbl : List Cond := k2_sels lw_privs ++ tables_1
theorem lw_privs_ok : ∀ q ∈ lw_privs, lw_okq q := by
  show ∀ q ∈ lw_privs_1 ++ (lw_privs_2 ++ (lw_privs_3 ++ (lw_privs_4))), lw_okq q
  exact List.forall_mem_append.mpr ⟨lw_r1, List.forall_mem_append.mpr ⟨lw_r2, List.forall_mem_append.mpr ⟨lw_r3, lw_r4⟩⟩⟩
end
section
def RX0 : String := "EnoughGive$Coming"
def TX0 : u_T := fun k => match k with
  | 0 => ("EnoughGive$Coming", "count", "I", false)
  | 1 => ("EnoughGive$Coming", "giver", "[I", true)
  | 2 => ("EnoughGive$Coming", "day", "[I", true)
  | 3 => ("EnoughGive$Coming", "kind", "[I", true)
  | 4 => ("EnoughGive$Coming", "purse", "[I", true)
  | 5 => ("EnoughGive$Coming", "told", "[I", true)
  | 6 => ("EnoughGive$Coming", "greatest", "[I", true)
  | 7 => ("EnoughGive$Coming", "worths", "[I", true)
  | 8 => ("EnoughGive$Coming", "worth", "[I", true)
  | 9 => ("EnoughGive$Coming", "tenths", "[I", true)
  | _ => ("EnoughGive$Coming", "comes", "[I", true)
def tyX0 : Nat → FieldType := fun k => match k with
  | 0 => .int
  | 1 => .array .int
  | 2 => .array .int
  | 3 => .array .int
  | 4 => .array .int
  | 5 => .array .int
  | 6 => .array .int
  | 7 => .array .int
  | 8 => .array .int
  | 9 => .array .int
  | _ => .array .int
theorem nmX0 : ∀ a, a < 11 → ∀ b, b < 11 → a ≠ b → (TX0 a).2.1 ≠ (TX0 b).2.1 := by decide +kernel
theorem tyX0_ok : ∀ k, k < 11 → parseFieldDescriptor (TX0 k).2.2.1 = some (tyX0 k) := by decide +kernel
abbrev cX0_init : ByteArray := prog_2_method_1_code
def yX0_init : MethodName := ⟨RX0, "<init>", "()V"⟩
abbrev cX0_arrange : ByteArray := prog_2_method_2_code
def yX0_arrange : MethodName := ⟨RX0, "arrange", "(LEnoughGive$Plan;I)Z"⟩
abbrev cX0_seat : ByteArray := prog_2_method_3_code
def yX0_seat : MethodName := ⟨RX0, "seat", "(LEnoughGive$Sorts;II)V"⟩
abbrev cX0_placeOf : ByteArray := prog_2_method_4_code
def yX0_placeOf : MethodName := ⟨RX0, "placeOf", "(I)I"⟩
abbrev cX0_comeBy : ByteArray := prog_2_method_5_code
def yX0_comeBy : MethodName := ⟨RX0, "comeBy", "(I)I"⟩
abbrev cX0_allWays : ByteArray := prog_2_method_6_code
def yX0_allWays : MethodName := ⟨RX0, "allWays", "()J"⟩
abbrev cX0_waysOfAbsent : ByteArray := prog_2_method_7_code
def yX0_waysOfAbsent : MethodName := ⟨RX0, "waysOfAbsent", "()J"⟩
abbrev cX0_power : ByteArray := prog_2_method_8_code
def yX0_power : MethodName := ⟨RX0, "power", "(I)J"⟩
abbrev cX0_worthBy : ByteArray := prog_2_method_9_code
def yX0_worthBy : MethodName := ⟨RX0, "worthBy", "(II)I"⟩
def RX1 : String := "EnoughGive$Game"
def TX1 : u_T := fun k => match k with
  | 0 => ("EnoughGive$Game", "plan", "LEnoughGive$Plan;", false)
  | 1 => ("EnoughGive$Game", "coming", "LEnoughGive$Coming;", false)
  | 2 => ("EnoughGive$Game", "shown", "I", false)
  | 3 => ("EnoughGive$Game", "bar", "I", false)
  | 4 => ("EnoughGive$Game", "extra", "I", false)
  | 5 => ("EnoughGive$Game", "richMost", "I", false)
  | 6 => ("EnoughGive$Game", "richBehind", "I", false)
  | 7 => ("EnoughGive$Game", "gift", "[I", true)
  | 8 => ("EnoughGive$Game", "given", "[I", true)
  | 9 => ("EnoughGive$Game", "who", "[I", true)
  | _ => ("EnoughGive$Game", "second", "[I", true)
def tyX1 : Nat → FieldType := fun k => match k with
  | 0 => .object "EnoughGive$Plan"
  | 1 => .object "EnoughGive$Coming"
  | 2 => .int
  | 3 => .int
  | 4 => .int
  | 5 => .int
  | 6 => .int
  | 7 => .array .int
  | 8 => .array .int
  | 9 => .array .int
  | _ => .array .int
theorem nmX1 : ∀ a, a < 11 → ∀ b, b < 11 → a ≠ b → (TX1 a).2.1 ≠ (TX1 b).2.1 := by decide +kernel
theorem tyX1_ok : ∀ k, k < 11 → parseFieldDescriptor (TX1 k).2.2.1 = some (tyX1 k) := by decide +kernel
abbrev cX1_init : ByteArray := prog_3_method_1_code
def yX1_init : MethodName := ⟨RX1, "<init>", "()V"⟩
abbrev cX1_set : ByteArray := prog_3_method_2_code
def yX1_set : MethodName := ⟨RX1, "set", "(LEnoughGive$Plan;LEnoughGive$Coming;I)V"⟩
abbrev cX1_whoCome : ByteArray := prog_3_method_3_code
def yX1_whoCome : MethodName := ⟨RX1, "whoCome", "()LEnoughGive$Coming;"⟩
abbrev cX1_cost : ByteArray := prog_3_method_4_code
def yX1_cost : MethodName := ⟨RX1, "cost", "()I"⟩
abbrev cX1_play : ByteArray := prog_3_method_5_code
def yX1_play : MethodName := ⟨RX1, "play", "(II)V"⟩
abbrev cX1_giftAt : ByteArray := prog_3_method_6_code
def yX1_giftAt : MethodName := ⟨RX1, "giftAt", "(III)I"⟩
abbrev cX1_secondGiftAt : ByteArray := prog_3_method_7_code
def yX1_secondGiftAt : MethodName := ⟨RX1, "secondGiftAt", "(III)I"⟩
abbrev cX1_lackOf : ByteArray := prog_3_method_8_code
def yX1_lackOf : MethodName := ⟨RX1, "lackOf", "(II)I"⟩
abbrev cX1_giftByKind : ByteArray := prog_3_method_9_code
def yX1_giftByKind : MethodName := ⟨RX1, "giftByKind", "(IIII)I"⟩
abbrev cX1_isBuilt : ByteArray := prog_3_method_10_code
def yX1_isBuilt : MethodName := ⟨RX1, "isBuilt", "()Z"⟩
abbrev cX1_isSecondBuilt : ByteArray := prog_3_method_11_code
def yX1_isSecondBuilt : MethodName := ⟨RX1, "isSecondBuilt", "()Z"⟩
abbrev cX1_hasAt : ByteArray := prog_3_method_12_code
def yX1_hasAt : MethodName := ⟨RX1, "hasAt", "(II)I"⟩
def RX2 : String := "EnoughGive$Plan"
def TX2 : u_T := fun k => match k with
  | 0 => ("EnoughGive$Plan", "bar", "I", false)
  | 1 => ("EnoughGive$Plan", "need", "I", false)
  | 2 => ("EnoughGive$Plan", "lastDay", "I", false)
  | 3 => ("EnoughGive$Plan", "cost", "I", false)
  | 4 => ("EnoughGive$Plan", "penny", "I", false)
  | 5 => ("EnoughGive$Plan", "extra", "I", false)
  | 6 => ("EnoughGive$Plan", "extraDay", "I", false)
  | 7 => ("EnoughGive$Plan", "secondBar", "I", false)
  | 8 => ("EnoughGive$Plan", "secondShare", "I", false)
  | 9 => ("EnoughGive$Plan", "parts", "Z", false)
  | _ => ("EnoughGive$Plan", "sorts", "LEnoughGive$Sorts;", true)
def tyX2 : Nat → FieldType := fun k => match k with
  | 0 => .int
  | 1 => .int
  | 2 => .int
  | 3 => .int
  | 4 => .int
  | 5 => .int
  | 6 => .int
  | 7 => .int
  | 8 => .int
  | 9 => .boolean
  | _ => .object "EnoughGive$Sorts"
theorem nmX2 : ∀ a, a < 11 → ∀ b, b < 11 → a ≠ b → (TX2 a).2.1 ≠ (TX2 b).2.1 := by decide +kernel
theorem tyX2_ok : ∀ k, k < 11 → parseFieldDescriptor (TX2 k).2.2.1 = some (tyX2 k) := by decide +kernel
abbrev cX2_init : ByteArray := prog_4_method_1_code
def yX2_init : MethodName := ⟨RX2, "<init>", "()V"⟩
abbrev cX2_clear : ByteArray := prog_4_method_2_code
def yX2_clear : MethodName := ⟨RX2, "clear", "()V"⟩
abbrev cX2_setBar : ByteArray := prog_4_method_3_code
def yX2_setBar : MethodName := ⟨RX2, "setBar", "(II)V"⟩
abbrev cX2_setExtra : ByteArray := prog_4_method_4_code
def yX2_setExtra : MethodName := ⟨RX2, "setExtra", "(II)V"⟩
abbrev cX2_setSecond : ByteArray := prog_4_method_5_code
def yX2_setSecond : MethodName := ⟨RX2, "setSecond", "(II)V"⟩
def RX3 : String := "EnoughGive$Reader"
def TX3 : u_T := fun k => match k with
  | 0 => ("EnoughGive$Reader", "numbers", "[I", true)
  | _ => ("EnoughGive$Reader", "at", "I", false)
def tyX3 : Nat → FieldType := fun k => match k with
  | 0 => .array .int
  | _ => .int
theorem nmX3 : ∀ a, a < 2 → ∀ b, b < 2 → a ≠ b → (TX3 a).2.1 ≠ (TX3 b).2.1 := by decide +kernel
theorem tyX3_ok : ∀ k, k < 2 → parseFieldDescriptor (TX3 k).2.2.1 = some (tyX3 k) := by decide +kernel
abbrev cX3_init : ByteArray := prog_5_method_1_code
def yX3_init : MethodName := ⟨RX3, "<init>", "()V"⟩
abbrev cX3_read : ByteArray := prog_5_method_2_code
def yX3_read : MethodName := ⟨RX3, "read", "(LEnoughGive$Text;LEnoughGive$Plan;)I"⟩
abbrev cX3_numbersOf : ByteArray := prog_5_method_3_code
def yX3_numbersOf : MethodName := ⟨RX3, "numbersOf", "(I)I"⟩
abbrev cX3_readNumbers : ByteArray := prog_5_method_4_code
def yX3_readNumbers : MethodName := ⟨RX3, "readNumbers", "(LEnoughGive$Text;I)Z"⟩
abbrev cX3_readNumber : ByteArray := prog_5_method_5_code
def yX3_readNumber : MethodName := ⟨RX3, "readNumber", "(LEnoughGive$Text;)I"⟩
abbrev cX3_upTo : ByteArray := prog_5_method_6_code
def yX3_upTo : MethodName := ⟨RX3, "upTo", "(II)Z"⟩
abbrev cX3_take : ByteArray := prog_5_method_7_code
def yX3_take : MethodName := ⟨RX3, "take", "(ILEnoughGive$Plan;)Z"⟩
abbrev cX3_takeSort : ByteArray := prog_5_method_8_code
def yX3_takeSort : MethodName := ⟨RX3, "takeSort", "(ILEnoughGive$Sorts;)Z"⟩
def RX4 : String := "EnoughGive$Rest"
def TX4 : u_T := fun k => match k with
  | 0 => ("EnoughGive$Rest", "coming", "LEnoughGive$Coming;", false)
  | 1 => ("EnoughGive$Rest", "bar", "I", false)
  | 2 => ("EnoughGive$Rest", "need", "I", false)
  | 3 => ("EnoughGive$Rest", "penny", "I", false)
  | 4 => ("EnoughGive$Rest", "most", "[I", true)
  | _ => ("EnoughGive$Rest", "table", "[J", true)
def tyX4 : Nat → FieldType := fun k => match k with
  | 0 => .object "EnoughGive$Coming"
  | 1 => .int
  | 2 => .int
  | 3 => .int
  | 4 => .array .int
  | _ => .array .long
theorem nmX4 : ∀ a, a < 6 → ∀ b, b < 6 → a ≠ b → (TX4 a).2.1 ≠ (TX4 b).2.1 := by decide +kernel
theorem tyX4_ok : ∀ k, k < 6 → parseFieldDescriptor (TX4 k).2.2.1 = some (tyX4 k) := by decide +kernel
abbrev cX4_init : ByteArray := prog_6_method_1_code
def yX4_init : MethodName := ⟨RX4, "<init>", "()V"⟩
abbrev cX4_take : ByteArray := prog_6_method_2_code
def yX4_take : MethodName := ⟨RX4, "take", "(LEnoughGive$Plan;LEnoughGive$Coming;)V"⟩
abbrev cX4_clearTable : ByteArray := prog_6_method_3_code
def yX4_clearTable : MethodName := ⟨RX4, "clearTable", "()V"⟩
abbrev cX4_join : ByteArray := prog_6_method_4_code
def yX4_join : MethodName := ⟨RX4, "join", "(IIZII)V"⟩
abbrev cX4_justWays : ByteArray := prog_6_method_5_code
def yX4_justWays : MethodName := ⟨RX4, "justWays", "()J"⟩
abbrev cX4_firstGift : ByteArray := prog_6_method_6_code
def yX4_firstGift : MethodName := ⟨RX4, "firstGift", "(I)I"⟩
abbrev cX4_lowestGift : ByteArray := prog_6_method_7_code
def yX4_lowestGift : MethodName := ⟨RX4, "lowestGift", "(IIII)I"⟩
abbrev cX4_failingWays : ByteArray := prog_6_method_8_code
def yX4_failingWays : MethodName := ⟨RX4, "failingWays", "()J"⟩
abbrev cX4_failingWays_ : ByteArray := prog_6_method_9_code
def yX4_failingWays_ : MethodName := ⟨RX4, "failingWays", "(II)J"⟩
abbrev cX4_lowestAtRest : ByteArray := prog_6_method_10_code
def yX4_lowestAtRest : MethodName := ⟨RX4, "lowestAtRest", "(III)I"⟩
abbrev cX4_isNoneAtRest : ByteArray := prog_6_method_11_code
def yX4_isNoneAtRest : MethodName := ⟨RX4, "isNoneAtRest", "(III)Z"⟩
def RX5 : String := "EnoughGive$Sorts"
def TX5 : u_T := fun k => match k with
  | 0 => ("EnoughGive$Sorts", "sorts", "I", false)
  | 1 => ("EnoughGive$Sorts", "givers", "I", false)
  | 2 => ("EnoughGive$Sorts", "kind", "[I", true)
  | 3 => ("EnoughGive$Sorts", "purse", "[I", true)
  | 4 => ("EnoughGive$Sorts", "told", "[I", true)
  | 5 => ("EnoughGive$Sorts", "worths", "[I", true)
  | 6 => ("EnoughGive$Sorts", "worth", "[I", true)
  | 7 => ("EnoughGive$Sorts", "tenths", "[I", true)
  | 8 => ("EnoughGive$Sorts", "sort", "[I", true)
  | _ => ("EnoughGive$Sorts", "wouldCome", "[I", true)
def tyX5 : Nat → FieldType := fun k => match k with
  | 0 => .int
  | 1 => .int
  | 2 => .array .int
  | 3 => .array .int
  | 4 => .array .int
  | 5 => .array .int
  | 6 => .array .int
  | 7 => .array .int
  | 8 => .array .int
  | _ => .array .int
theorem nmX5 : ∀ a, a < 10 → ∀ b, b < 10 → a ≠ b → (TX5 a).2.1 ≠ (TX5 b).2.1 := by decide +kernel
theorem tyX5_ok : ∀ k, k < 10 → parseFieldDescriptor (TX5 k).2.2.1 = some (tyX5 k) := by decide +kernel
abbrev cX5_init : ByteArray := prog_7_method_1_code
def yX5_init : MethodName := ⟨RX5, "<init>", "()V"⟩
abbrev cX5_clear : ByteArray := prog_7_method_2_code
def yX5_clear : MethodName := ⟨RX5, "clear", "()V"⟩
abbrev cX5_has : ByteArray := prog_7_method_3_code
def yX5_has : MethodName := ⟨RX5, "has", "(I)Z"⟩
abbrev cX5_add : ByteArray := prog_7_method_4_code
def yX5_add : MethodName := ⟨RX5, "add", "(IIIII)Z"⟩
abbrev cX5_addWorth : ByteArray := prog_7_method_5_code
def yX5_addWorth : MethodName := ⟨RX5, "addWorth", "(III)Z"⟩
abbrev cX5_tell : ByteArray := prog_7_method_6_code
def yX5_tell : MethodName := ⟨RX5, "tell", "(II)Z"⟩
abbrev cX5_areWhole : ByteArray := prog_7_method_7_code
def yX5_areWhole : MethodName := ⟨RX5, "areWhole", "()Z"⟩
abbrev cX5_sortOf : ByteArray := prog_7_method_8_code
def yX5_sortOf : MethodName := ⟨RX5, "sortOf", "(I)I"⟩
def RX6 : String := "EnoughGive$Text"
def TX6 : u_T := fun k => match k with
  | 0 => ("EnoughGive$Text", "bytes", "[I", true)
  | _ => ("EnoughGive$Text", "length", "I", false)
def tyX6 : Nat → FieldType := fun k => match k with
  | 0 => .array .int
  | _ => .int
theorem nmX6 : ∀ a, a < 2 → ∀ b, b < 2 → a ≠ b → (TX6 a).2.1 ≠ (TX6 b).2.1 := by decide +kernel
theorem tyX6_ok : ∀ k, k < 2 → parseFieldDescriptor (TX6 k).2.2.1 = some (tyX6 k) := by decide +kernel
abbrev cX6_init : ByteArray := prog_8_method_1_code
def yX6_init : MethodName := ⟨RX6, "<init>", "()V"⟩
abbrev cX6_put : ByteArray := prog_8_method_2_code
def yX6_put : MethodName := ⟨RX6, "put", "(IJ)Z"⟩
abbrev cX6_byteAt : ByteArray := prog_8_method_3_code
def yX6_byteAt : MethodName := ⟨RX6, "byteAt", "(I)I"⟩
def RX7 : String := "EnoughGive$Ways"
def TX7 : u_T := fun k => match k with
  | 0 => ("EnoughGive$Ways", "built", "J", false)
  | 1 => ("EnoughGive$Ways", "needless", "J", false)
  | 2 => ("EnoughGive$Ways", "missed", "J", false)
  | 3 => ("EnoughGive$Ways", "secondBuilt", "J", false)
  | 4 => ("EnoughGive$Ways", "bothBuilt", "J", false)
  | 5 => ("EnoughGive$Ways", "gives", "[J", true)
  | 6 => ("EnoughGive$Ways", "has", "[J", true)
  | 7 => ("EnoughGive$Ways", "pick", "[I", true)
  | 8 => ("EnoughGive$Ways", "weight", "[J", true)
  | _ => ("EnoughGive$Ways", "together", "[I", true)
def tyX7 : Nat → FieldType := fun k => match k with
  | 0 => .long
  | 1 => .long
  | 2 => .long
  | 3 => .long
  | 4 => .long
  | 5 => .array .long
  | 6 => .array .long
  | 7 => .array .int
  | 8 => .array .long
  | _ => .array .int
theorem nmX7 : ∀ a, a < 10 → ∀ b, b < 10 → a ≠ b → (TX7 a).2.1 ≠ (TX7 b).2.1 := by decide +kernel
theorem tyX7_ok : ∀ k, k < 10 → parseFieldDescriptor (TX7 k).2.2.1 = some (tyX7 k) := by decide +kernel
abbrev cX7_init : ByteArray := prog_9_method_1_code
def yX7_init : MethodName := ⟨RX7, "<init>", "()V"⟩
abbrev cX7_goThrough : ByteArray := prog_9_method_2_code
def yX7_goThrough : MethodName := ⟨RX7, "goThrough", "(LEnoughGive$Game;Z)V"⟩
abbrev cX7_clear : ByteArray := prog_9_method_3_code
def yX7_clear : MethodName := ⟨RX7, "clear", "()V"⟩
abbrev cX7_add : ByteArray := prog_9_method_4_code
def yX7_add : MethodName := ⟨RX7, "add", "(LEnoughGive$Game;I)V"⟩
abbrev cX7_addMeans : ByteArray := prog_9_method_5_code
def yX7_addMeans : MethodName := ⟨RX7, "addMeans", "(LEnoughGive$Game;LEnoughGive$Coming;)V"⟩
abbrev cX7_nextWay : ByteArray := prog_9_method_6_code
def yX7_nextWay : MethodName := ⟨RX7, "nextWay", "(LEnoughGive$Coming;)I"⟩
def RX8 : String := "EnoughGive"
def TX8 : u_T := fun k => match k with
  | 0 => ("EnoughGive", "text", "LEnoughGive$Text;", true)
  | 1 => ("EnoughGive", "reader", "LEnoughGive$Reader;", true)
  | 2 => ("EnoughGive", "plan", "LEnoughGive$Plan;", false)
  | 3 => ("EnoughGive", "draft", "LEnoughGive$Plan;", false)
  | 4 => ("EnoughGive", "coming", "LEnoughGive$Coming;", true)
  | 5 => ("EnoughGive", "otherComing", "LEnoughGive$Coming;", true)
  | 6 => ("EnoughGive", "game", "LEnoughGive$Game;", true)
  | 7 => ("EnoughGive", "standing", "LEnoughGive$Ways;", true)
  | 8 => ("EnoughGive", "trial", "LEnoughGive$Ways;", true)
  | 9 => ("EnoughGive", "rest", "LEnoughGive$Rest;", true)
  | 10 => ("EnoughGive", "told", "[I", true)
  | 11 => ("EnoughGive", "shown", "I", false)
  | 12 => ("EnoughGive", "keptTold", "[I", true)
  | 13 => ("EnoughGive", "keptShown", "[I", true)
  | 14 => ("EnoughGive", "kept", "I", false)
  | 15 => ("EnoughGive", "standingKnown", "Z", false)
  | 16 => ("EnoughGive", "barKnown", "Z", false)
  | 17 => ("EnoughGive", "failsKnown", "Z", false)
  | 18 => ("EnoughGive", "barFound", "I", false)
  | 19 => ("EnoughGive", "barWrong", "J", false)
  | _ => ("EnoughGive", "failsFound", "J", false)
def tyX8 : Nat → FieldType := fun k => match k with
  | 0 => .object "EnoughGive$Text"
  | 1 => .object "EnoughGive$Reader"
  | 2 => .object "EnoughGive$Plan"
  | 3 => .object "EnoughGive$Plan"
  | 4 => .object "EnoughGive$Coming"
  | 5 => .object "EnoughGive$Coming"
  | 6 => .object "EnoughGive$Game"
  | 7 => .object "EnoughGive$Ways"
  | 8 => .object "EnoughGive$Ways"
  | 9 => .object "EnoughGive$Rest"
  | 10 => .array .int
  | 11 => .int
  | 12 => .array .int
  | 13 => .array .int
  | 14 => .int
  | 15 => .boolean
  | 16 => .boolean
  | 17 => .boolean
  | 18 => .int
  | 19 => .long
  | _ => .long
theorem nmX8 : ∀ a, a < 21 → ∀ b, b < 21 → a ≠ b → (TX8 a).2.1 ≠ (TX8 b).2.1 := by decide +kernel
theorem tyX8_ok : ∀ k, k < 21 → parseFieldDescriptor (TX8 k).2.2.1 = some (tyX8 k) := by decide +kernel
abbrev cX8_init : ByteArray := prog_1_method_1_code
def yX8_init : MethodName := ⟨RX8, "<init>", "()V"⟩
abbrev cX8_write : ByteArray := prog_1_method_2_code
def yX8_write : MethodName := ⟨RX8, "write", "(IJ)I"⟩
abbrev cX8_wipe : ByteArray := prog_1_method_3_code
def yX8_wipe : MethodName := ⟨RX8, "wipe", "()I"⟩
abbrev cX8_fault : ByteArray := prog_1_method_4_code
def yX8_fault : MethodName := ⟨RX8, "fault", "()I"⟩
abbrev cX8_lay : ByteArray := prog_1_method_5_code
def yX8_lay : MethodName := ⟨RX8, "lay", "()I"⟩
abbrev cX8_giver : ByteArray := prog_1_method_6_code
def yX8_giver : MethodName := ⟨RX8, "giver", "(II)I"⟩
abbrev cX8_show : ByteArray := prog_1_method_7_code
def yX8_show : MethodName := ⟨RX8, "show", "(I)I"⟩
abbrev cX8_odds : ByteArray := prog_1_method_8_code
def yX8_odds : MethodName := ⟨RX8, "odds", "(I)J"⟩
abbrev cX8_mean : ByteArray := prog_1_method_9_code
def yX8_mean : MethodName := ⟨RX8, "mean", "(II)J"⟩
abbrev cX8_wrong : ByteArray := prog_1_method_10_code
def yX8_wrong : MethodName := ⟨RX8, "wrong", "(I)J"⟩
abbrev cX8_row : ByteArray := prog_1_method_11_code
def yX8_row : MethodName := ⟨RX8, "row", "(II)I"⟩
abbrev cX8_judge : ByteArray := prog_1_method_12_code
def yX8_judge : MethodName := ⟨RX8, "judge", "()I"⟩
abbrev cX8_made : ByteArray := prog_1_method_13_code
def yX8_made : MethodName := ⟨RX8, "made", "(I)I"⟩
abbrev cX8_just : ByteArray := prog_1_method_14_code
def yX8_just : MethodName := ⟨RX8, "just", "(I)J"⟩
abbrev cX8_fails : ByteArray := prog_1_method_15_code
def yX8_fails : MethodName := ⟨RX8, "fails", "()J"⟩
abbrev cX8_bestBar : ByteArray := prog_1_method_16_code
def yX8_bestBar : MethodName := ⟨RX8, "bestBar", "(I)J"⟩
abbrev cX8_bestDay : ByteArray := prog_1_method_17_code
def yX8_bestDay : MethodName := ⟨RX8, "bestDay", "()I"⟩
abbrev cX8_extra : ByteArray := prog_1_method_18_code
def yX8_extra : MethodName := ⟨RX8, "extra", "(I)I"⟩
abbrev cX8_bestShow : ByteArray := prog_1_method_19_code
def yX8_bestShow : MethodName := ⟨RX8, "bestShow", "()I"⟩
abbrev cX8_rich : ByteArray := prog_1_method_20_code
def yX8_rich : MethodName := ⟨RX8, "rich", "(II)J"⟩
abbrev cX8_richDay : ByteArray := prog_1_method_21_code
def yX8_richDay : MethodName := ⟨RX8, "richDay", "(I)I"⟩
abbrev cX8_two : ByteArray := prog_1_method_22_code
def yX8_two : MethodName := ⟨RX8, "two", "(I)J"⟩
abbrev cX8_evening : ByteArray := prog_1_method_23_code
def yX8_evening : MethodName := ⟨RX8, "evening", "(III)I"⟩
abbrev cX8_whole : ByteArray := prog_1_method_24_code
def yX8_whole : MethodName := ⟨RX8, "whole", "(II)I"⟩
abbrev cX8_keep : ByteArray := prog_1_method_25_code
def yX8_keep : MethodName := ⟨RX8, "keep", "()I"⟩
abbrev cX8_back : ByteArray := prog_1_method_26_code
def yX8_back : MethodName := ⟨RX8, "back", "()I"⟩
abbrev cX8_count : ByteArray := prog_1_method_27_code
def yX8_count : MethodName := ⟨RX8, "count", "(I)I"⟩
abbrev cX8_isWithin : ByteArray := prog_1_method_28_code
def yX8_isWithin : MethodName := ⟨RX8, "isWithin", "(III)Z"⟩
abbrev cX8_isGiver : ByteArray := prog_1_method_29_code
def yX8_isGiver : MethodName := ⟨RX8, "isGiver", "(I)Z"⟩
abbrev cX8_greatestPart : ByteArray := prog_1_method_30_code
def yX8_greatestPart : MethodName := ⟨RX8, "greatestPart", "(JJ)J"⟩
abbrev cX8_forgetWays : ByteArray := prog_1_method_31_code
def yX8_forgetWays : MethodName := ⟨RX8, "forgetWays", "()V"⟩
abbrev cX8_setGame : ByteArray := prog_1_method_32_code
def yX8_setGame : MethodName := ⟨RX8, "setGame", "()V"⟩
abbrev cX8_waysAsTheyStand : ByteArray := prog_1_method_33_code
def yX8_waysAsTheyStand : MethodName := ⟨RX8, "waysAsTheyStand", "()LEnoughGive$Ways;"⟩
abbrev cX8_findBestBar : ByteArray := prog_1_method_34_code
def yX8_findBestBar : MethodName := ⟨RX8, "findBestBar", "()V"⟩
abbrev cX8_richWays : ByteArray := prog_1_method_35_code
def yX8_richWays : MethodName := ⟨RX8, "richWays", "(II)J"⟩
abbrev cX8_playEvening : ByteArray := prog_1_method_36_code
def yX8_playEvening : MethodName := ⟨RX8, "playEvening", "(I)V"⟩
abbrev cX8_drawnWorth : ByteArray := prog_1_method_37_code
def yX8_drawnWorth : MethodName := ⟨RX8, "drawnWorth", "(II)I"⟩
def RX9 : String := "EnoughGiveModel"
def TX9 : u_T := fun k => match k with
  | 0 => ("EnoughGiveModel", "length", "I", false)
  | 1 => ("EnoughGiveModel", "text", "[I", true)
  | 2 => ("EnoughGiveModel", "numbers", "[I", true)
  | 3 => ("EnoughGiveModel", "sortMany", "[I", true)
  | 4 => ("EnoughGiveModel", "manys", "[I", true)
  | 5 => ("EnoughGiveModel", "kinds", "[I", true)
  | 6 => ("EnoughGiveModel", "purses", "[I", true)
  | 7 => ("EnoughGiveModel", "firsts", "[I", true)
  | 8 => ("EnoughGiveModel", "gaps", "[I", true)
  | 9 => ("EnoughGiveModel", "tolds", "[I", true)
  | 10 => ("EnoughGiveModel", "worthMany", "[I", true)
  | 11 => ("EnoughGiveModel", "worths", "[I", true)
  | 12 => ("EnoughGiveModel", "tenths", "[I", true)
  | 13 => ("EnoughGiveModel", "giverMany", "I", false)
  | 14 => ("EnoughGiveModel", "sorts", "[I", true)
  | 15 => ("EnoughGiveModel", "days", "[I", true)
  | 16 => ("EnoughGiveModel", "shows", "[I", true)
  | 17 => ("EnoughGiveModel", "rows", "[I", true)
  | 18 => ("EnoughGiveModel", "keptMany", "I", false)
  | 19 => ("EnoughGiveModel", "bar", "I", false)
  | 20 => ("EnoughGiveModel", "lastDay", "I", false)
  | 21 => ("EnoughGiveModel", "extra", "I", false)
  | 22 => ("EnoughGiveModel", "shown", "I", false)
  | 23 => ("EnoughGiveModel", "rich", "I", false)
  | 24 => ("EnoughGiveModel", "richDay", "I", false)
  | 25 => ("EnoughGiveModel", "place", "I", false)
  | 26 => ("EnoughGiveModel", "told", "[I", true)
  | 27 => ("EnoughGiveModel", "orderMany", "I", false)
  | 28 => ("EnoughGiveModel", "order", "[I", true)
  | 29 => ("EnoughGiveModel", "now", "[I", true)
  | 30 => ("EnoughGiveModel", "gifts", "[I", true)
  | 31 => ("EnoughGiveModel", "others", "[I", true)
  | 32 => ("EnoughGiveModel", "given", "I", false)
  | 33 => ("EnoughGiveModel", "givenOther", "I", false)
  | 34 => ("EnoughGiveModel", "gave", "I", false)
  | 35 => ("EnoughGiveModel", "option", "[I", true)
  | 36 => ("EnoughGiveModel", "lays", "[J", true)
  | 37 => ("EnoughGiveModel", "here", "[J", true)
  | _ => ("EnoughGiveModel", "next", "[J", true)
def tyX9 : Nat → FieldType := fun k => match k with
  | 0 => .int
  | 1 => .array .int
  | 2 => .array .int
  | 3 => .array .int
  | 4 => .array .int
  | 5 => .array .int
  | 6 => .array .int
  | 7 => .array .int
  | 8 => .array .int
  | 9 => .array .int
  | 10 => .array .int
  | 11 => .array .int
  | 12 => .array .int
  | 13 => .int
  | 14 => .array .int
  | 15 => .array .int
  | 16 => .array .int
  | 17 => .array .int
  | 18 => .int
  | 19 => .int
  | 20 => .int
  | 21 => .int
  | 22 => .int
  | 23 => .int
  | 24 => .int
  | 25 => .int
  | 26 => .array .int
  | 27 => .int
  | 28 => .array .int
  | 29 => .array .int
  | 30 => .array .int
  | 31 => .array .int
  | 32 => .int
  | 33 => .int
  | 34 => .int
  | 35 => .array .int
  | 36 => .array .long
  | 37 => .array .long
  | _ => .array .long
theorem nmX9 : ∀ a, a < 39 → ∀ b, b < 39 → a ≠ b → (TX9 a).2.1 ≠ (TX9 b).2.1 := by decide +kernel
theorem tyX9_ok : ∀ k, k < 39 → parseFieldDescriptor (TX9 k).2.2.1 = some (tyX9 k) := by decide +kernel
abbrev cX9_init : ByteArray := prog_11_method_1_code
def yX9_init : MethodName := ⟨RX9, "<init>", "()V"⟩
abbrev cX9_in : ByteArray := prog_11_method_2_code
def yX9_in : MethodName := ⟨RX9, "in", "(JJJ)Z"⟩
abbrev cX9_noBoard : ByteArray := prog_11_method_3_code
def yX9_noBoard : MethodName := ⟨RX9, "noBoard", "(I)V"⟩
abbrev cX9_write : ByteArray := prog_11_method_4_code
def yX9_write : MethodName := ⟨RX9, "write", "(IJ)I"⟩
abbrev cX9_wipe : ByteArray := prog_11_method_5_code
def yX9_wipe : MethodName := ⟨RX9, "wipe", "()I"⟩
abbrev cX9_byteAt : ByteArray := prog_11_method_6_code
def yX9_byteAt : MethodName := ⟨RX9, "byteAt", "(I)I"⟩
abbrev cX9_figures : ByteArray := prog_11_method_7_code
def yX9_figures : MethodName := ⟨RX9, "figures", "(I)Z"⟩
abbrev cX9_numberItem : ByteArray := prog_11_method_8_code
def yX9_numberItem : MethodName := ⟨RX9, "numberItem", "(IIIII)Z"⟩
abbrev cX9_readGivers : ByteArray := prog_11_method_9_code
def yX9_readGivers : MethodName := ⟨RX9, "readGivers", "()I"⟩
abbrev cX9_sortItem : ByteArray := prog_11_method_10_code
def yX9_sortItem : MethodName := ⟨RX9, "sortItem", "()Z"⟩
abbrev cX9_worthItem : ByteArray := prog_11_method_11_code
def yX9_worthItem : MethodName := ⟨RX9, "worthItem", "()Z"⟩
abbrev cX9_item : ByteArray := prog_11_method_12_code
def yX9_item : MethodName := ⟨RX9, "item", "()Z"⟩
abbrev cX9_areWhole : ByteArray := prog_11_method_13_code
def yX9_areWhole : MethodName := ⟨RX9, "areWhole", "()Z"⟩
abbrev cX9_readAll : ByteArray := prog_11_method_14_code
def yX9_readAll : MethodName := ⟨RX9, "readAll", "()I"⟩
abbrev cX9_fault : ByteArray := prog_11_method_15_code
def yX9_fault : MethodName := ⟨RX9, "fault", "()I"⟩
abbrev cX9_layGivers : ByteArray := prog_11_method_16_code
def yX9_layGivers : MethodName := ⟨RX9, "layGivers", "()V"⟩
abbrev cX9_plain : ByteArray := prog_11_method_17_code
def yX9_plain : MethodName := ⟨RX9, "plain", "()V"⟩
abbrev cX9_lay : ByteArray := prog_11_method_18_code
def yX9_lay : MethodName := ⟨RX9, "lay", "()I"⟩
abbrev cX9_isGiver : ByteArray := prog_11_method_19_code
def yX9_isGiver : MethodName := ⟨RX9, "isGiver", "(I)Z"⟩
abbrev cX9_dayOf : ByteArray := prog_11_method_20_code
def yX9_dayOf : MethodName := ⟨RX9, "dayOf", "(I)I"⟩
abbrev cX9_layOrder : ByteArray := prog_11_method_21_code
def yX9_layOrder : MethodName := ⟨RX9, "layOrder", "()V"⟩
abbrev cX9_placeOf : ByteArray := prog_11_method_22_code
def yX9_placeOf : MethodName := ⟨RX9, "placeOf", "(I)I"⟩
abbrev cX9_giver : ByteArray := prog_11_method_23_code
def yX9_giver : MethodName := ⟨RX9, "giver", "(II)I"⟩
abbrev cX9_show : ByteArray := prog_11_method_24_code
def yX9_show : MethodName := ⟨RX9, "show", "(I)I"⟩
abbrev cX9_lackOf : ByteArray := prog_11_method_25_code
def yX9_lackOf : MethodName := ⟨RX9, "lackOf", "(II)I"⟩
abbrev cX9_lesser : ByteArray := prog_11_method_26_code
def yX9_lesser : MethodName := ⟨RX9, "lesser", "(II)I"⟩
abbrev cX9_giftBy : ByteArray := prog_11_method_27_code
def yX9_giftBy : MethodName := ⟨RX9, "giftBy", "(IIIIII)I"⟩
abbrev cX9_goAll : ByteArray := prog_11_method_28_code
def yX9_goAll : MethodName := ⟨RX9, "goAll", "()V"⟩
abbrev cX9_isBuilt : ByteArray := prog_11_method_29_code
def yX9_isBuilt : MethodName := ⟨RX9, "isBuilt", "()Z"⟩
abbrev cX9_hasOf : ByteArray := prog_11_method_30_code
def yX9_hasOf : MethodName := ⟨RX9, "hasOf", "(I)I"⟩
abbrev cX9_beginWays : ByteArray := prog_11_method_31_code
def yX9_beginWays : MethodName := ⟨RX9, "beginWays", "()V"⟩
abbrev cX9_nextWay : ByteArray := prog_11_method_32_code
def yX9_nextWay : MethodName := ⟨RX9, "nextWay", "()Z"⟩
abbrev cX9_takeWay : ByteArray := prog_11_method_33_code
def yX9_takeWay : MethodName := ⟨RX9, "takeWay", "()J"⟩
abbrev cX9_allWays : ByteArray := prog_11_method_34_code
def yX9_allWays : MethodName := ⟨RX9, "allWays", "()J"⟩
abbrev cX9_isDue : ByteArray := prog_11_method_35_code
def yX9_isDue : MethodName := ⟨RX9, "isDue", "()Z"⟩
abbrev cX9_waysOf : ByteArray := prog_11_method_36_code
def yX9_waysOf : MethodName := ⟨RX9, "waysOf", "(I)J"⟩
abbrev cX9_common : ByteArray := prog_11_method_37_code
def yX9_common : MethodName := ⟨RX9, "common", "(JJ)J"⟩
abbrev cX9_odds : ByteArray := prog_11_method_38_code
def yX9_odds : MethodName := ⟨RX9, "odds", "(I)J"⟩
abbrev cX9_mean : ByteArray := prog_11_method_39_code
def yX9_mean : MethodName := ⟨RX9, "mean", "(II)J"⟩
abbrev cX9_wrong : ByteArray := prog_11_method_40_code
def yX9_wrong : MethodName := ⟨RX9, "wrong", "(I)J"⟩
abbrev cX9_row : ByteArray := prog_11_method_41_code
def yX9_row : MethodName := ⟨RX9, "row", "(II)I"⟩
abbrev cX9_most : ByteArray := prog_11_method_42_code
def yX9_most : MethodName := ⟨RX9, "most", "(I)I"⟩
abbrev cX9_judge : ByteArray := prog_11_method_43_code
def yX9_judge : MethodName := ⟨RX9, "judge", "()I"⟩
abbrev cX9_made : ByteArray := prog_11_method_44_code
def yX9_made : MethodName := ⟨RX9, "made", "(I)I"⟩
abbrev cX9_spot : ByteArray := prog_11_method_45_code
def yX9_spot : MethodName := ⟨RX9, "spot", "(III)I"⟩
abbrev cX9_comes : ByteArray := prog_11_method_46_code
def yX9_comes : MethodName := ⟨RX9, "comes", "(I)Z"⟩
abbrev cX9_mostGift : ByteArray := prog_11_method_47_code
def yX9_mostGift : MethodName := ⟨RX9, "mostGift", "(I)I"⟩
abbrev cX9_layLays : ByteArray := prog_11_method_48_code
def yX9_layLays : MethodName := ⟨RX9, "layLays", "()V"⟩
abbrev cX9_laysFrom : ByteArray := prog_11_method_49_code
def yX9_laysFrom : MethodName := ⟨RX9, "laysFrom", "(III)J"⟩
abbrev cX9_just : ByteArray := prog_11_method_50_code
def yX9_just : MethodName := ⟨RX9, "just", "(I)J"⟩
abbrev cX9_isRest : ByteArray := prog_11_method_51_code
def yX9_isRest : MethodName := ⟨RX9, "isRest", "(IIII)Z"⟩
abbrev cX9_restsOf : ByteArray := prog_11_method_52_code
def yX9_restsOf : MethodName := ⟨RX9, "restsOf", "(II)J"⟩
abbrev cX9_fails : ByteArray := prog_11_method_53_code
def yX9_fails : MethodName := ⟨RX9, "fails", "()J"⟩
abbrev cX9_bestBar : ByteArray := prog_11_method_54_code
def yX9_bestBar : MethodName := ⟨RX9, "bestBar", "(I)J"⟩
abbrev cX9_bestDay : ByteArray := prog_11_method_55_code
def yX9_bestDay : MethodName := ⟨RX9, "bestDay", "()I"⟩
abbrev cX9_extra : ByteArray := prog_11_method_56_code
def yX9_extra : MethodName := ⟨RX9, "extra", "(I)I"⟩
abbrev cX9_bestShow : ByteArray := prog_11_method_57_code
def yX9_bestShow : MethodName := ⟨RX9, "bestShow", "()I"⟩
abbrev cX9_richWays : ByteArray := prog_11_method_58_code
def yX9_richWays : MethodName := ⟨RX9, "richWays", "(II)J"⟩
abbrev cX9_rich : ByteArray := prog_11_method_59_code
def yX9_rich : MethodName := ⟨RX9, "rich", "(II)J"⟩
abbrev cX9_richDay : ByteArray := prog_11_method_60_code
def yX9_richDay : MethodName := ⟨RX9, "richDay", "(I)I"⟩
abbrev cX9_two : ByteArray := prog_11_method_61_code
def yX9_two : MethodName := ⟨RX9, "two", "(I)J"⟩
abbrev cX9_goEvening : ByteArray := prog_11_method_62_code
def yX9_goEvening : MethodName := ⟨RX9, "goEvening", "(I)V"⟩
abbrev cX9_evening : ByteArray := prog_11_method_63_code
def yX9_evening : MethodName := ⟨RX9, "evening", "(III)I"⟩
abbrev cX9_whole : ByteArray := prog_11_method_64_code
def yX9_whole : MethodName := ⟨RX9, "whole", "(II)I"⟩
abbrev cX9_keep : ByteArray := prog_11_method_65_code
def yX9_keep : MethodName := ⟨RX9, "keep", "()I"⟩
abbrev cX9_back : ByteArray := prog_11_method_66_code
def yX9_back : MethodName := ⟨RX9, "back", "()I"⟩
abbrev cX9_count : ByteArray := prog_11_method_67_code
def yX9_count : MethodName := ⟨RX9, "count", "(I)I"⟩
def RJ9 : String := "java/lang/Math"
abbrev cJ9_max_7cf53 : ByteArray := prog_12_method_65_code
def yJ9_max_7cf53 : MethodName := ⟨RJ9, "max", "(II)I"⟩
abbrev cJ9_min_7cf53 : ByteArray := prog_12_method_69_code
def yJ9_min_7cf53 : MethodName := ⟨RJ9, "min", "(II)I"⟩
def RJ10 : String := "java/lang/System"
def RJ7 : String := "java/util/Arrays"
abbrev cJ7_fill_d0a16 : ByteArray := prog_14_method_101_code
def yJ7_fill_d0a16 : MethodName := ⟨RJ7, "fill", "([JJ)V"⟩
abbrev cJ7_fill_53178 : ByteArray := prog_14_method_103_code
def yJ7_fill_53178 : MethodName := ⟨RJ7, "fill", "([II)V"⟩
def RL : String := "EnoughGiveLaw"
abbrev cL_law : ByteArray := code
def yL_law : MethodName := ⟨RL, "law", "([I)Z"⟩
abbrev vwCl : List vw_C := [(RX0, TX0, 11), (RX1, TX1, 11), (RX2, TX2, 11), (RX3, TX3, 2), (RX4, TX4, 6), (RX5, TX5, 10), (RX6, TX6, 2), (RX7, TX7, 10), (RX8, TX8, 21), (RX9, TX9, 39)]
end
section
theorem dJ7_fill_d0a16_0 : decode cJ7_fill_d0a16 0 = .ok (.iconst 0, 1) := by decide +kernel
theorem dJ7_fill_d0a16_1 : decode cJ7_fill_d0a16 1 = .ok (.istore_n 3, 1) := by decide +kernel
theorem dJ7_fill_d0a16_2 : decode cJ7_fill_d0a16 2 = .ok (.aload_n 0, 1) := by decide +kernel
theorem dJ7_fill_d0a16_3 : decode cJ7_fill_d0a16 3 = .ok (.arraylength, 1) := by decide +kernel
theorem dJ7_fill_d0a16_4 : decode cJ7_fill_d0a16 4 = .ok (.istore 4, 2) := by decide +kernel
theorem dJ7_fill_d0a16_6 : decode cJ7_fill_d0a16 6 = .ok (.iload_n 3, 1) := by decide +kernel
theorem dJ7_fill_d0a16_7 : decode cJ7_fill_d0a16 7 = .ok (.iload 4, 2) := by decide +kernel
theorem dJ7_fill_d0a16_9 : decode cJ7_fill_d0a16 9 = .ok (.if_icmp .ge 13, 3) := by decide +kernel
theorem dJ7_fill_d0a16_12 : decode cJ7_fill_d0a16 12 = .ok (.aload_n 0, 1) := by decide +kernel
theorem dJ7_fill_d0a16_13 : decode cJ7_fill_d0a16 13 = .ok (.iload_n 3, 1) := by decide +kernel
theorem dJ7_fill_d0a16_14 : decode cJ7_fill_d0a16 14 = .ok (.lload_n 1, 1) := by decide +kernel
theorem dJ7_fill_d0a16_15 : decode cJ7_fill_d0a16 15 = .ok (.lastore, 1) := by decide +kernel
theorem dJ7_fill_d0a16_16 : decode cJ7_fill_d0a16 16 = .ok (.iinc 3 1, 3) := by decide +kernel
theorem dJ7_fill_d0a16_19 : decode cJ7_fill_d0a16 19 = .ok (.goto (-13), 3) := by decide +kernel
theorem dJ7_fill_d0a16_22 : decode cJ7_fill_d0a16 22 = .ok (.return_, 1) := by decide +kernel
theorem dJ7_fill_53178_0 : decode cJ7_fill_53178 0 = .ok (.iconst 0, 1) := by decide +kernel
theorem dJ7_fill_53178_1 : decode cJ7_fill_53178 1 = .ok (.istore_n 2, 1) := by decide +kernel
theorem dJ7_fill_53178_2 : decode cJ7_fill_53178 2 = .ok (.aload_n 0, 1) := by decide +kernel
theorem dJ7_fill_53178_3 : decode cJ7_fill_53178 3 = .ok (.arraylength, 1) := by decide +kernel
theorem dJ7_fill_53178_4 : decode cJ7_fill_53178 4 = .ok (.istore_n 3, 1) := by decide +kernel
theorem dJ7_fill_53178_5 : decode cJ7_fill_53178 5 = .ok (.iload_n 2, 1) := by decide +kernel
theorem dJ7_fill_53178_6 : decode cJ7_fill_53178 6 = .ok (.iload_n 3, 1) := by decide +kernel
theorem dJ7_fill_53178_7 : decode cJ7_fill_53178 7 = .ok (.if_icmp .ge 13, 3) := by decide +kernel
theorem dJ7_fill_53178_10 : decode cJ7_fill_53178 10 = .ok (.aload_n 0, 1) := by decide +kernel
theorem dJ7_fill_53178_11 : decode cJ7_fill_53178 11 = .ok (.iload_n 2, 1) := by decide +kernel
theorem dJ7_fill_53178_12 : decode cJ7_fill_53178 12 = .ok (.iload_n 1, 1) := by decide +kernel
theorem dJ7_fill_53178_13 : decode cJ7_fill_53178 13 = .ok (.iastore, 1) := by decide +kernel
theorem dJ7_fill_53178_14 : decode cJ7_fill_53178 14 = .ok (.iinc 2 1, 3) := by decide +kernel
theorem dJ7_fill_53178_17 : decode cJ7_fill_53178 17 = .ok (.goto (-12), 3) := by decide +kernel
theorem dJ7_fill_53178_20 : decode cJ7_fill_53178 20 = .ok (.return_, 1) := by decide +kernel
theorem dJ9_max_7cf53_0 : decode cJ9_max_7cf53 0 = .ok (.iload_n 0, 1) := by decide +kernel
theorem dJ9_max_7cf53_1 : decode cJ9_max_7cf53 1 = .ok (.iload_n 1, 1) := by decide +kernel
theorem dJ9_max_7cf53_2 : decode cJ9_max_7cf53 2 = .ok (.if_icmp .lt 7, 3) := by decide +kernel
theorem dJ9_max_7cf53_5 : decode cJ9_max_7cf53 5 = .ok (.iload_n 0, 1) := by decide +kernel
theorem dJ9_max_7cf53_6 : decode cJ9_max_7cf53 6 = .ok (.goto 4, 3) := by decide +kernel
theorem dJ9_max_7cf53_9 : decode cJ9_max_7cf53 9 = .ok (.iload_n 1, 1) := by decide +kernel
theorem dJ9_max_7cf53_10 : decode cJ9_max_7cf53 10 = .ok (.ireturn, 1) := by decide +kernel
theorem dJ9_min_7cf53_0 : decode cJ9_min_7cf53 0 = .ok (.iload_n 0, 1) := by decide +kernel
theorem dJ9_min_7cf53_1 : decode cJ9_min_7cf53 1 = .ok (.iload_n 1, 1) := by decide +kernel
theorem dJ9_min_7cf53_2 : decode cJ9_min_7cf53 2 = .ok (.if_icmp .gt 7, 3) := by decide +kernel
theorem dJ9_min_7cf53_5 : decode cJ9_min_7cf53 5 = .ok (.iload_n 0, 1) := by decide +kernel
theorem dJ9_min_7cf53_6 : decode cJ9_min_7cf53 6 = .ok (.goto 4, 3) := by decide +kernel
theorem dJ9_min_7cf53_9 : decode cJ9_min_7cf53 9 = .ok (.iload_n 1, 1) := by decide +kernel
theorem dJ9_min_7cf53_10 : decode cJ9_min_7cf53 10 = .ok (.ireturn, 1) := by decide +kernel
theorem dX0_init_0 : decode cX0_init 0 = .ok (.aload_n 0, 1) := by decide +kernel
theorem dX0_init_1 : decode cX0_init 1 = .ok (.invokespecial 3, 3) := by decide +kernel
theorem dX0_init_4 : decode cX0_init 4 = .ok (.aload_n 0, 1) := by decide +kernel
theorem dX0_init_5 : decode cX0_init 5 = .ok (.bipush 8, 2) := by decide +kernel
theorem dX0_init_7 : decode cX0_init 7 = .ok (.newarray .int, 2) := by decide +kernel
theorem dX0_init_9 : decode cX0_init 9 = .ok (.putfield 11, 3) := by decide +kernel
theorem dX0_init_12 : decode cX0_init 12 = .ok (.aload_n 0, 1) := by decide +kernel
theorem dX0_init_13 : decode cX0_init 13 = .ok (.bipush 8, 2) := by decide +kernel
theorem dX0_init_15 : decode cX0_init 15 = .ok (.newarray .int, 2) := by decide +kernel
theorem dX0_init_17 : decode cX0_init 17 = .ok (.putfield 17, 3) := by decide +kernel
theorem dX0_init_20 : decode cX0_init 20 = .ok (.aload_n 0, 1) := by decide +kernel
theorem dX0_init_21 : decode cX0_init 21 = .ok (.bipush 8, 2) := by decide +kernel
theorem dX0_init_23 : decode cX0_init 23 = .ok (.newarray .int, 2) := by decide +kernel
theorem dX0_init_25 : decode cX0_init 25 = .ok (.putfield 20, 3) := by decide +kernel
theorem dX0_init_28 : decode cX0_init 28 = .ok (.aload_n 0, 1) := by decide +kernel
theorem dX0_init_29 : decode cX0_init 29 = .ok (.bipush 8, 2) := by decide +kernel
theorem dX0_init_31 : decode cX0_init 31 = .ok (.newarray .int, 2) := by decide +kernel
theorem dX0_init_33 : decode cX0_init 33 = .ok (.putfield 23, 3) := by decide +kernel
theorem dX0_init_36 : decode cX0_init 36 = .ok (.aload_n 0, 1) := by decide +kernel
theorem dX0_init_37 : decode cX0_init 37 = .ok (.bipush 8, 2) := by decide +kernel
theorem dX0_init_39 : decode cX0_init 39 = .ok (.newarray .int, 2) := by decide +kernel
theorem dX0_init_41 : decode cX0_init 41 = .ok (.putfield 26, 3) := by decide +kernel
theorem dX0_init_44 : decode cX0_init 44 = .ok (.aload_n 0, 1) := by decide +kernel
theorem dX0_init_45 : decode cX0_init 45 = .ok (.bipush 8, 2) := by decide +kernel
theorem dX0_init_47 : decode cX0_init 47 = .ok (.newarray .int, 2) := by decide +kernel
theorem dX0_init_49 : decode cX0_init 49 = .ok (.putfield 29, 3) := by decide +kernel
theorem dX0_init_52 : decode cX0_init 52 = .ok (.aload_n 0, 1) := by decide +kernel
theorem dX0_init_53 : decode cX0_init 53 = .ok (.bipush 8, 2) := by decide +kernel
theorem dX0_init_55 : decode cX0_init 55 = .ok (.newarray .int, 2) := by decide +kernel
theorem dX0_init_57 : decode cX0_init 57 = .ok (.putfield 32, 3) := by decide +kernel
theorem dX0_init_60 : decode cX0_init 60 = .ok (.aload_n 0, 1) := by decide +kernel
theorem dX0_init_61 : decode cX0_init 61 = .ok (.bipush 24, 2) := by decide +kernel
theorem dX0_init_63 : decode cX0_init 63 = .ok (.newarray .int, 2) := by decide +kernel
theorem dX0_init_65 : decode cX0_init 65 = .ok (.putfield 35, 3) := by decide +kernel
theorem dX0_init_68 : decode cX0_init 68 = .ok (.aload_n 0, 1) := by decide +kernel
theorem dX0_init_69 : decode cX0_init 69 = .ok (.bipush 24, 2) := by decide +kernel
theorem dX0_init_71 : decode cX0_init 71 = .ok (.newarray .int, 2) := by decide +kernel
theorem dX0_init_73 : decode cX0_init 73 = .ok (.putfield 38, 3) := by decide +kernel
theorem dX0_init_76 : decode cX0_init 76 = .ok (.aload_n 0, 1) := by decide +kernel
theorem dX0_init_77 : decode cX0_init 77 = .ok (.bipush 8, 2) := by decide +kernel
theorem dX0_init_79 : decode cX0_init 79 = .ok (.newarray .int, 2) := by decide +kernel
theorem dX0_init_81 : decode cX0_init 81 = .ok (.putfield 41, 3) := by decide +kernel
theorem dX0_init_84 : decode cX0_init 84 = .ok (.return_, 1) := by decide +kernel
theorem dX0_arrange_0 : decode cX0_arrange 0 = .ok (.aload_n 1, 1) := by decide +kernel
theorem dX0_arrange_1 : decode cX0_arrange 1 = .ok (.getfield 44, 3) := by decide +kernel
theorem dX0_arrange_4 : decode cX0_arrange 4 = .ok (.astore_n 3, 1) := by decide +kernel
theorem dX0_arrange_5 : decode cX0_arrange 5 = .ok (.iconst 0, 1) := by decide +kernel
theorem dX0_arrange_6 : decode cX0_arrange 6 = .ok (.istore 4, 2) := by decide +kernel
theorem dX0_arrange_8 : decode cX0_arrange 8 = .ok (.iload 4, 2) := by decide +kernel
theorem dX0_arrange_10 : decode cX0_arrange 10 = .ok (.aload_n 3, 1) := by decide +kernel
theorem dX0_arrange_11 : decode cX0_arrange 11 = .ok (.getfield 50, 3) := by decide +kernel
theorem dX0_arrange_14 : decode cX0_arrange 14 = .ok (.if_icmp .ge 78, 3) := by decide +kernel
theorem dX0_arrange_17 : decode cX0_arrange 17 = .ok (.aload_n 3, 1) := by decide +kernel
theorem dX0_arrange_18 : decode cX0_arrange 18 = .ok (.getfield 54, 3) := by decide +kernel
theorem dX0_arrange_21 : decode cX0_arrange 21 = .ok (.aload_n 3, 1) := by decide +kernel
theorem dX0_arrange_22 : decode cX0_arrange 22 = .ok (.getfield 55, 3) := by decide +kernel
theorem dX0_arrange_25 : decode cX0_arrange 25 = .ok (.iload 4, 2) := by decide +kernel
theorem dX0_arrange_27 : decode cX0_arrange 27 = .ok (.iaload, 1) := by decide +kernel
theorem dX0_arrange_28 : decode cX0_arrange 28 = .ok (.iaload, 1) := by decide +kernel
theorem dX0_arrange_29 : decode cX0_arrange 29 = .ok (.iconst 4, 1) := by decide +kernel
theorem dX0_arrange_30 : decode cX0_arrange 30 = .ok (.if_icmp .ne 7, 3) := by decide +kernel
theorem dX0_arrange_33 : decode cX0_arrange 33 = .ok (.iconst 1, 1) := by decide +kernel
theorem dX0_arrange_34 : decode cX0_arrange 34 = .ok (.goto 4, 3) := by decide +kernel
theorem dX0_arrange_37 : decode cX0_arrange 37 = .ok (.iconst 0, 1) := by decide +kernel
theorem dX0_arrange_38 : decode cX0_arrange 38 = .ok (.istore 5, 2) := by decide +kernel
theorem dX0_arrange_40 : decode cX0_arrange 40 = .ok (.iload 5, 2) := by decide +kernel
theorem dX0_arrange_42 : decode cX0_arrange 42 = .ok (.ifCond .eq 14, 3) := by decide +kernel
theorem dX0_arrange_45 : decode cX0_arrange 45 = .ok (.aload_n 0, 1) := by decide +kernel
theorem dX0_arrange_46 : decode cX0_arrange 46 = .ok (.getfield 41, 3) := by decide +kernel
theorem dX0_arrange_49 : decode cX0_arrange 49 = .ok (.iload 4, 2) := by decide +kernel
theorem dX0_arrange_51 : decode cX0_arrange 51 = .ok (.iload_n 2, 1) := by decide +kernel
theorem dX0_arrange_52 : decode cX0_arrange 52 = .ok (.iastore, 1) := by decide +kernel
theorem dX0_arrange_53 : decode cX0_arrange 53 = .ok (.goto 33, 3) := by decide +kernel
theorem dX0_arrange_56 : decode cX0_arrange 56 = .ok (.aload_n 0, 1) := by decide +kernel
theorem dX0_arrange_57 : decode cX0_arrange 57 = .ok (.getfield 41, 3) := by decide +kernel
theorem dX0_arrange_60 : decode cX0_arrange 60 = .ok (.iload 4, 2) := by decide +kernel
theorem dX0_arrange_62 : decode cX0_arrange 62 = .ok (.aload_n 3, 1) := by decide +kernel
theorem dX0_arrange_63 : decode cX0_arrange 63 = .ok (.getfield 58, 3) := by decide +kernel
theorem dX0_arrange_66 : decode cX0_arrange 66 = .ok (.iload 4, 2) := by decide +kernel
theorem dX0_arrange_68 : decode cX0_arrange 68 = .ok (.iaload, 1) := by decide +kernel
theorem dX0_arrange_69 : decode cX0_arrange 69 = .ok (.iload_n 2, 1) := by decide +kernel
theorem dX0_arrange_70 : decode cX0_arrange 70 = .ok (.if_icmp .gt 13, 3) := by decide +kernel
theorem dX0_arrange_73 : decode cX0_arrange 73 = .ok (.aload_n 3, 1) := by decide +kernel
theorem dX0_arrange_74 : decode cX0_arrange 74 = .ok (.getfield 58, 3) := by decide +kernel
theorem dX0_arrange_77 : decode cX0_arrange 77 = .ok (.iload 4, 2) := by decide +kernel
theorem dX0_arrange_79 : decode cX0_arrange 79 = .ok (.iaload, 1) := by decide +kernel
theorem dX0_arrange_80 : decode cX0_arrange 80 = .ok (.goto 5, 3) := by decide +kernel
theorem dX0_arrange_83 : decode cX0_arrange 83 = .ok (.bipush (-4), 2) := by decide +kernel
theorem dX0_arrange_85 : decode cX0_arrange 85 = .ok (.iastore, 1) := by decide +kernel
theorem dX0_arrange_86 : decode cX0_arrange 86 = .ok (.iinc 4 1, 3) := by decide +kernel
theorem dX0_arrange_89 : decode cX0_arrange 89 = .ok (.goto (-81), 3) := by decide +kernel
theorem dX0_arrange_92 : decode cX0_arrange 92 = .ok (.aload_n 0, 1) := by decide +kernel
theorem dX0_arrange_93 : decode cX0_arrange 93 = .ok (.getfield 61, 3) := by decide +kernel
theorem dX0_arrange_96 : decode cX0_arrange 96 = .ok (.istore 4, 2) := by decide +kernel
theorem dX0_arrange_98 : decode cX0_arrange 98 = .ok (.aload_n 0, 1) := by decide +kernel
theorem dX0_arrange_99 : decode cX0_arrange 99 = .ok (.iconst 0, 1) := by decide +kernel
theorem dX0_arrange_100 : decode cX0_arrange 100 = .ok (.putfield 61, 3) := by decide +kernel
theorem dX0_arrange_103 : decode cX0_arrange 103 = .ok (.iconst 0, 1) := by decide +kernel
theorem dX0_arrange_104 : decode cX0_arrange 104 = .ok (.istore 5, 2) := by decide +kernel
theorem dX0_arrange_106 : decode cX0_arrange 106 = .ok (.iconst 0, 1) := by decide +kernel
theorem dX0_arrange_107 : decode cX0_arrange 107 = .ok (.istore 6, 2) := by decide +kernel
theorem dX0_arrange_109 : decode cX0_arrange 109 = .ok (.iload 6, 2) := by decide +kernel
theorem dX0_arrange_111 : decode cX0_arrange 111 = .ok (.iload_n 2, 1) := by decide +kernel
theorem dX0_arrange_112 : decode cX0_arrange 112 = .ok (.if_icmp .gt 86, 3) := by decide +kernel
theorem dX0_arrange_115 : decode cX0_arrange 115 = .ok (.iconst 0, 1) := by decide +kernel
theorem dX0_arrange_116 : decode cX0_arrange 116 = .ok (.istore 7, 2) := by decide +kernel
theorem dX0_arrange_118 : decode cX0_arrange 118 = .ok (.iload 7, 2) := by decide +kernel
theorem dX0_arrange_120 : decode cX0_arrange 120 = .ok (.aload_n 3, 1) := by decide +kernel
theorem dX0_arrange_121 : decode cX0_arrange 121 = .ok (.getfield 50, 3) := by decide +kernel
theorem dX0_arrange_124 : decode cX0_arrange 124 = .ok (.if_icmp .ge 68, 3) := by decide +kernel
theorem dX0_arrange_127 : decode cX0_arrange 127 = .ok (.aload_n 0, 1) := by decide +kernel
theorem dX0_arrange_128 : decode cX0_arrange 128 = .ok (.getfield 41, 3) := by decide +kernel
theorem dX0_arrange_131 : decode cX0_arrange 131 = .ok (.iload 7, 2) := by decide +kernel
theorem dX0_arrange_133 : decode cX0_arrange 133 = .ok (.iaload, 1) := by decide +kernel
theorem dX0_arrange_134 : decode cX0_arrange 134 = .ok (.iload 6, 2) := by decide +kernel
theorem dX0_arrange_136 : decode cX0_arrange 136 = .ok (.if_icmp .ne 50, 3) := by decide +kernel
theorem dX0_arrange_139 : decode cX0_arrange 139 = .ok (.aload_n 0, 1) := by decide +kernel
theorem dX0_arrange_140 : decode cX0_arrange 140 = .ok (.getfield 61, 3) := by decide +kernel
theorem dX0_arrange_143 : decode cX0_arrange 143 = .ok (.bipush 8, 2) := by decide +kernel
theorem dX0_arrange_145 : decode cX0_arrange 145 = .ok (.if_icmp .lt 6, 3) := by decide +kernel
theorem dX0_arrange_148 : decode cX0_arrange 148 = .ok (.goto 38, 3) := by decide +kernel
theorem dX0_arrange_151 : decode cX0_arrange 151 = .ok (.aload_n 0, 1) := by decide +kernel
theorem dX0_arrange_152 : decode cX0_arrange 152 = .ok (.getfield 61, 3) := by decide +kernel
theorem dX0_arrange_155 : decode cX0_arrange 155 = .ok (.iload 4, 2) := by decide +kernel
theorem dX0_arrange_157 : decode cX0_arrange 157 = .ok (.if_icmp .ge 17, 3) := by decide +kernel
theorem dX0_arrange_160 : decode cX0_arrange 160 = .ok (.aload_n 0, 1) := by decide +kernel
theorem dX0_arrange_161 : decode cX0_arrange 161 = .ok (.getfield 11, 3) := by decide +kernel
theorem dX0_arrange_164 : decode cX0_arrange 164 = .ok (.aload_n 0, 1) := by decide +kernel
theorem dX0_arrange_165 : decode cX0_arrange 165 = .ok (.getfield 61, 3) := by decide +kernel
theorem dX0_arrange_168 : decode cX0_arrange 168 = .ok (.iaload, 1) := by decide +kernel
theorem dX0_arrange_169 : decode cX0_arrange 169 = .ok (.iload 7, 2) := by decide +kernel
theorem dX0_arrange_171 : decode cX0_arrange 171 = .ok (.if_icmp .eq 6, 3) := by decide +kernel
theorem dX0_arrange_174 : decode cX0_arrange 174 = .ok (.iconst 1, 1) := by decide +kernel
theorem dX0_arrange_175 : decode cX0_arrange 175 = .ok (.istore 5, 2) := by decide +kernel
theorem dX0_arrange_177 : decode cX0_arrange 177 = .ok (.aload_n 0, 1) := by decide +kernel
theorem dX0_arrange_178 : decode cX0_arrange 178 = .ok (.aload_n 3, 1) := by decide +kernel
theorem dX0_arrange_179 : decode cX0_arrange 179 = .ok (.iload 7, 2) := by decide +kernel
theorem dX0_arrange_181 : decode cX0_arrange 181 = .ok (.iload 6, 2) := by decide +kernel
theorem dX0_arrange_183 : decode cX0_arrange 183 = .ok (.invokevirtual 64, 3) := by decide +kernel
theorem dX0_arrange_186 : decode cX0_arrange 186 = .ok (.iinc 7 1, 3) := by decide +kernel
theorem dX0_arrange_189 : decode cX0_arrange 189 = .ok (.goto (-71), 3) := by decide +kernel
theorem dX0_arrange_192 : decode cX0_arrange 192 = .ok (.iinc 6 1, 3) := by decide +kernel
theorem dX0_arrange_195 : decode cX0_arrange 195 = .ok (.goto (-86), 3) := by decide +kernel
theorem dX0_arrange_198 : decode cX0_arrange 198 = .ok (.iload 5, 2) := by decide +kernel
theorem dX0_arrange_200 : decode cX0_arrange 200 = .ok (.ifCond .ne 12, 3) := by decide +kernel
theorem dX0_arrange_203 : decode cX0_arrange 203 = .ok (.aload_n 0, 1) := by decide +kernel
theorem dX0_arrange_204 : decode cX0_arrange 204 = .ok (.getfield 61, 3) := by decide +kernel
theorem dX0_arrange_207 : decode cX0_arrange 207 = .ok (.iload 4, 2) := by decide +kernel
theorem dX0_arrange_209 : decode cX0_arrange 209 = .ok (.if_icmp .eq 7, 3) := by decide +kernel
theorem dX0_arrange_212 : decode cX0_arrange 212 = .ok (.iconst 1, 1) := by decide +kernel
theorem dX0_arrange_213 : decode cX0_arrange 213 = .ok (.goto 4, 3) := by decide +kernel
theorem dX0_arrange_216 : decode cX0_arrange 216 = .ok (.iconst 0, 1) := by decide +kernel
theorem dX0_arrange_217 : decode cX0_arrange 217 = .ok (.ireturn, 1) := by decide +kernel
theorem dX0_seat_0 : decode cX0_seat 0 = .ok (.aload_n 1, 1) := by decide +kernel
theorem dX0_seat_1 : decode cX0_seat 1 = .ok (.iload_n 2, 1) := by decide +kernel
theorem dX0_seat_2 : decode cX0_seat 2 = .ok (.invokevirtual 68, 3) := by decide +kernel
theorem dX0_seat_5 : decode cX0_seat 5 = .ok (.istore 4, 2) := by decide +kernel
theorem dX0_seat_7 : decode cX0_seat 7 = .ok (.aload_n 0, 1) := by decide +kernel
theorem dX0_seat_8 : decode cX0_seat 8 = .ok (.getfield 11, 3) := by decide +kernel
theorem dX0_seat_11 : decode cX0_seat 11 = .ok (.aload_n 0, 1) := by decide +kernel
theorem dX0_seat_12 : decode cX0_seat 12 = .ok (.getfield 61, 3) := by decide +kernel
theorem dX0_seat_15 : decode cX0_seat 15 = .ok (.iload_n 2, 1) := by decide +kernel
theorem dX0_seat_16 : decode cX0_seat 16 = .ok (.iastore, 1) := by decide +kernel
theorem dX0_seat_17 : decode cX0_seat 17 = .ok (.aload_n 0, 1) := by decide +kernel
theorem dX0_seat_18 : decode cX0_seat 18 = .ok (.getfield 17, 3) := by decide +kernel
theorem dX0_seat_21 : decode cX0_seat 21 = .ok (.aload_n 0, 1) := by decide +kernel
theorem dX0_seat_22 : decode cX0_seat 22 = .ok (.getfield 61, 3) := by decide +kernel
theorem dX0_seat_25 : decode cX0_seat 25 = .ok (.iload_n 3, 1) := by decide +kernel
theorem dX0_seat_26 : decode cX0_seat 26 = .ok (.iastore, 1) := by decide +kernel
theorem dX0_seat_27 : decode cX0_seat 27 = .ok (.aload_n 0, 1) := by decide +kernel
theorem dX0_seat_28 : decode cX0_seat 28 = .ok (.getfield 20, 3) := by decide +kernel
theorem dX0_seat_31 : decode cX0_seat 31 = .ok (.aload_n 0, 1) := by decide +kernel
theorem dX0_seat_32 : decode cX0_seat 32 = .ok (.getfield 61, 3) := by decide +kernel
theorem dX0_seat_35 : decode cX0_seat 35 = .ok (.aload_n 1, 1) := by decide +kernel
theorem dX0_seat_36 : decode cX0_seat 36 = .ok (.getfield 54, 3) := by decide +kernel
theorem dX0_seat_39 : decode cX0_seat 39 = .ok (.iload 4, 2) := by decide +kernel
theorem dX0_seat_41 : decode cX0_seat 41 = .ok (.iaload, 1) := by decide +kernel
theorem dX0_seat_42 : decode cX0_seat 42 = .ok (.iastore, 1) := by decide +kernel
theorem dX0_seat_43 : decode cX0_seat 43 = .ok (.aload_n 0, 1) := by decide +kernel
theorem dX0_seat_44 : decode cX0_seat 44 = .ok (.getfield 23, 3) := by decide +kernel
theorem dX0_seat_47 : decode cX0_seat 47 = .ok (.aload_n 0, 1) := by decide +kernel
theorem dX0_seat_48 : decode cX0_seat 48 = .ok (.getfield 61, 3) := by decide +kernel
theorem dX0_seat_51 : decode cX0_seat 51 = .ok (.aload_n 1, 1) := by decide +kernel
theorem dX0_seat_52 : decode cX0_seat 52 = .ok (.getfield 72, 3) := by decide +kernel
theorem dX0_seat_55 : decode cX0_seat 55 = .ok (.iload 4, 2) := by decide +kernel
theorem dX0_seat_57 : decode cX0_seat 57 = .ok (.iaload, 1) := by decide +kernel
theorem dX0_seat_58 : decode cX0_seat 58 = .ok (.iastore, 1) := by decide +kernel
theorem dX0_seat_59 : decode cX0_seat 59 = .ok (.aload_n 0, 1) := by decide +kernel
theorem dX0_seat_60 : decode cX0_seat 60 = .ok (.getfield 26, 3) := by decide +kernel
theorem dX0_seat_63 : decode cX0_seat 63 = .ok (.aload_n 0, 1) := by decide +kernel
theorem dX0_seat_64 : decode cX0_seat 64 = .ok (.getfield 61, 3) := by decide +kernel
theorem dX0_seat_67 : decode cX0_seat 67 = .ok (.aload_n 1, 1) := by decide +kernel
theorem dX0_seat_68 : decode cX0_seat 68 = .ok (.getfield 73, 3) := by decide +kernel
theorem dX0_seat_71 : decode cX0_seat 71 = .ok (.iload 4, 2) := by decide +kernel
theorem dX0_seat_73 : decode cX0_seat 73 = .ok (.iaload, 1) := by decide +kernel
theorem dX0_seat_74 : decode cX0_seat 74 = .ok (.iastore, 1) := by decide +kernel
theorem dX0_seat_75 : decode cX0_seat 75 = .ok (.aload_n 0, 1) := by decide +kernel
theorem dX0_seat_76 : decode cX0_seat 76 = .ok (.getfield 32, 3) := by decide +kernel
theorem dX0_seat_79 : decode cX0_seat 79 = .ok (.aload_n 0, 1) := by decide +kernel
theorem dX0_seat_80 : decode cX0_seat 80 = .ok (.getfield 61, 3) := by decide +kernel
theorem dX0_seat_83 : decode cX0_seat 83 = .ok (.aload_n 1, 1) := by decide +kernel
theorem dX0_seat_84 : decode cX0_seat 84 = .ok (.getfield 74, 3) := by decide +kernel
theorem dX0_seat_87 : decode cX0_seat 87 = .ok (.iload 4, 2) := by decide +kernel
theorem dX0_seat_89 : decode cX0_seat 89 = .ok (.iaload, 1) := by decide +kernel
theorem dX0_seat_90 : decode cX0_seat 90 = .ok (.iastore, 1) := by decide +kernel
theorem dX0_seat_91 : decode cX0_seat 91 = .ok (.aload_n 0, 1) := by decide +kernel
theorem dX0_seat_92 : decode cX0_seat 92 = .ok (.getfield 29, 3) := by decide +kernel
theorem dX0_seat_95 : decode cX0_seat 95 = .ok (.aload_n 0, 1) := by decide +kernel
theorem dX0_seat_96 : decode cX0_seat 96 = .ok (.getfield 61, 3) := by decide +kernel
theorem dX0_seat_99 : decode cX0_seat 99 = .ok (.iconst 0, 1) := by decide +kernel
theorem dX0_seat_100 : decode cX0_seat 100 = .ok (.iastore, 1) := by decide +kernel
theorem dX0_seat_101 : decode cX0_seat 101 = .ok (.iconst 0, 1) := by decide +kernel
theorem dX0_seat_102 : decode cX0_seat 102 = .ok (.istore 5, 2) := by decide +kernel
theorem dX0_seat_104 : decode cX0_seat 104 = .ok (.iload 5, 2) := by decide +kernel
theorem dX0_seat_106 : decode cX0_seat 106 = .ok (.aload_n 1, 1) := by decide +kernel
theorem dX0_seat_107 : decode cX0_seat 107 = .ok (.getfield 74, 3) := by decide +kernel
theorem dX0_seat_110 : decode cX0_seat 110 = .ok (.iload 4, 2) := by decide +kernel
theorem dX0_seat_112 : decode cX0_seat 112 = .ok (.iaload, 1) := by decide +kernel
theorem dX0_seat_113 : decode cX0_seat 113 = .ok (.if_icmp .ge 88, 3) := by decide +kernel
theorem dX0_seat_116 : decode cX0_seat 116 = .ok (.aload_n 1, 1) := by decide +kernel
theorem dX0_seat_117 : decode cX0_seat 117 = .ok (.getfield 75, 3) := by decide +kernel
theorem dX0_seat_120 : decode cX0_seat 120 = .ok (.iload 4, 2) := by decide +kernel
theorem dX0_seat_122 : decode cX0_seat 122 = .ok (.iconst 3, 1) := by decide +kernel
theorem dX0_seat_123 : decode cX0_seat 123 = .ok (.imul, 1) := by decide +kernel
theorem dX0_seat_124 : decode cX0_seat 124 = .ok (.iload 5, 2) := by decide +kernel
theorem dX0_seat_126 : decode cX0_seat 126 = .ok (.iadd, 1) := by decide +kernel
theorem dX0_seat_127 : decode cX0_seat 127 = .ok (.iaload, 1) := by decide +kernel
theorem dX0_seat_128 : decode cX0_seat 128 = .ok (.istore 6, 2) := by decide +kernel
theorem dX0_seat_130 : decode cX0_seat 130 = .ok (.aload_n 0, 1) := by decide +kernel
theorem dX0_seat_131 : decode cX0_seat 131 = .ok (.getfield 35, 3) := by decide +kernel
theorem dX0_seat_134 : decode cX0_seat 134 = .ok (.aload_n 0, 1) := by decide +kernel
theorem dX0_seat_135 : decode cX0_seat 135 = .ok (.getfield 61, 3) := by decide +kernel
theorem dX0_seat_138 : decode cX0_seat 138 = .ok (.iconst 3, 1) := by decide +kernel
theorem dX0_seat_139 : decode cX0_seat 139 = .ok (.imul, 1) := by decide +kernel
theorem dX0_seat_140 : decode cX0_seat 140 = .ok (.iload 5, 2) := by decide +kernel
theorem dX0_seat_142 : decode cX0_seat 142 = .ok (.iadd, 1) := by decide +kernel
theorem dX0_seat_143 : decode cX0_seat 143 = .ok (.iload 6, 2) := by decide +kernel
theorem dX0_seat_145 : decode cX0_seat 145 = .ok (.iastore, 1) := by decide +kernel
theorem dX0_seat_146 : decode cX0_seat 146 = .ok (.aload_n 0, 1) := by decide +kernel
theorem dX0_seat_147 : decode cX0_seat 147 = .ok (.getfield 38, 3) := by decide +kernel
theorem dX0_seat_150 : decode cX0_seat 150 = .ok (.aload_n 0, 1) := by decide +kernel
theorem dX0_seat_151 : decode cX0_seat 151 = .ok (.getfield 61, 3) := by decide +kernel
theorem dX0_seat_154 : decode cX0_seat 154 = .ok (.iconst 3, 1) := by decide +kernel
theorem dX0_seat_155 : decode cX0_seat 155 = .ok (.imul, 1) := by decide +kernel
theorem dX0_seat_156 : decode cX0_seat 156 = .ok (.iload 5, 2) := by decide +kernel
theorem dX0_seat_158 : decode cX0_seat 158 = .ok (.iadd, 1) := by decide +kernel
theorem dX0_seat_159 : decode cX0_seat 159 = .ok (.aload_n 1, 1) := by decide +kernel
theorem dX0_seat_160 : decode cX0_seat 160 = .ok (.getfield 76, 3) := by decide +kernel
theorem dX0_seat_163 : decode cX0_seat 163 = .ok (.iload 4, 2) := by decide +kernel
theorem dX0_seat_165 : decode cX0_seat 165 = .ok (.iconst 3, 1) := by decide +kernel
theorem dX0_seat_166 : decode cX0_seat 166 = .ok (.imul, 1) := by decide +kernel
theorem dX0_seat_167 : decode cX0_seat 167 = .ok (.iload 5, 2) := by decide +kernel
theorem dX0_seat_169 : decode cX0_seat 169 = .ok (.iadd, 1) := by decide +kernel
theorem dX0_seat_170 : decode cX0_seat 170 = .ok (.iaload, 1) := by decide +kernel
theorem dX0_seat_171 : decode cX0_seat 171 = .ok (.iastore, 1) := by decide +kernel
theorem dX0_seat_172 : decode cX0_seat 172 = .ok (.aload_n 0, 1) := by decide +kernel
theorem dX0_seat_173 : decode cX0_seat 173 = .ok (.getfield 29, 3) := by decide +kernel
theorem dX0_seat_176 : decode cX0_seat 176 = .ok (.aload_n 0, 1) := by decide +kernel
theorem dX0_seat_177 : decode cX0_seat 177 = .ok (.getfield 61, 3) := by decide +kernel
theorem dX0_seat_180 : decode cX0_seat 180 = .ok (.aload_n 0, 1) := by decide +kernel
theorem dX0_seat_181 : decode cX0_seat 181 = .ok (.getfield 29, 3) := by decide +kernel
theorem dX0_seat_184 : decode cX0_seat 184 = .ok (.aload_n 0, 1) := by decide +kernel
theorem dX0_seat_185 : decode cX0_seat 185 = .ok (.getfield 61, 3) := by decide +kernel
theorem dX0_seat_188 : decode cX0_seat 188 = .ok (.iaload, 1) := by decide +kernel
theorem dX0_seat_189 : decode cX0_seat 189 = .ok (.iload 6, 2) := by decide +kernel
theorem dX0_seat_191 : decode cX0_seat 191 = .ok (.invokestatic 77, 3) := by decide +kernel
theorem dX0_seat_194 : decode cX0_seat 194 = .ok (.iastore, 1) := by decide +kernel
theorem dX0_seat_195 : decode cX0_seat 195 = .ok (.iinc 5 1, 3) := by decide +kernel
theorem dX0_seat_198 : decode cX0_seat 198 = .ok (.goto (-94), 3) := by decide +kernel
theorem dX0_seat_201 : decode cX0_seat 201 = .ok (.aload_n 0, 1) := by decide +kernel
theorem dX0_seat_202 : decode cX0_seat 202 = .ok (.dup, 1) := by decide +kernel
theorem dX0_seat_203 : decode cX0_seat 203 = .ok (.getfield 61, 3) := by decide +kernel
theorem dX0_seat_206 : decode cX0_seat 206 = .ok (.iconst 1, 1) := by decide +kernel
theorem dX0_seat_207 : decode cX0_seat 207 = .ok (.iadd, 1) := by decide +kernel
theorem dX0_seat_208 : decode cX0_seat 208 = .ok (.putfield 61, 3) := by decide +kernel
theorem dX0_seat_211 : decode cX0_seat 211 = .ok (.return_, 1) := by decide +kernel
theorem dX0_placeOf_0 : decode cX0_placeOf 0 = .ok (.iconst 0, 1) := by decide +kernel
theorem dX0_placeOf_1 : decode cX0_placeOf 1 = .ok (.istore_n 2, 1) := by decide +kernel
theorem dX0_placeOf_2 : decode cX0_placeOf 2 = .ok (.iload_n 2, 1) := by decide +kernel
theorem dX0_placeOf_3 : decode cX0_placeOf 3 = .ok (.aload_n 0, 1) := by decide +kernel
theorem dX0_placeOf_4 : decode cX0_placeOf 4 = .ok (.getfield 61, 3) := by decide +kernel
theorem dX0_placeOf_7 : decode cX0_placeOf 7 = .ok (.if_icmp .ge 21, 3) := by decide +kernel
theorem dX0_placeOf_10 : decode cX0_placeOf 10 = .ok (.aload_n 0, 1) := by decide +kernel
theorem dX0_placeOf_11 : decode cX0_placeOf 11 = .ok (.getfield 11, 3) := by decide +kernel
theorem dX0_placeOf_14 : decode cX0_placeOf 14 = .ok (.iload_n 2, 1) := by decide +kernel
theorem dX0_placeOf_15 : decode cX0_placeOf 15 = .ok (.iaload, 1) := by decide +kernel
theorem dX0_placeOf_16 : decode cX0_placeOf 16 = .ok (.iload_n 1, 1) := by decide +kernel
theorem dX0_placeOf_17 : decode cX0_placeOf 17 = .ok (.if_icmp .ne 5, 3) := by decide +kernel
theorem dX0_placeOf_20 : decode cX0_placeOf 20 = .ok (.iload_n 2, 1) := by decide +kernel
theorem dX0_placeOf_21 : decode cX0_placeOf 21 = .ok (.ireturn, 1) := by decide +kernel
theorem dX0_placeOf_22 : decode cX0_placeOf 22 = .ok (.iinc 2 1, 3) := by decide +kernel
theorem dX0_placeOf_25 : decode cX0_placeOf 25 = .ok (.goto (-23), 3) := by decide +kernel
theorem dX0_placeOf_28 : decode cX0_placeOf 28 = .ok (.bipush (-4), 2) := by decide +kernel
theorem dX0_placeOf_30 : decode cX0_placeOf 30 = .ok (.ireturn, 1) := by decide +kernel
theorem dX0_comeBy_0 : decode cX0_comeBy 0 = .ok (.iconst 0, 1) := by decide +kernel
theorem dX0_comeBy_1 : decode cX0_comeBy 1 = .ok (.istore_n 2, 1) := by decide +kernel
theorem dX0_comeBy_2 : decode cX0_comeBy 2 = .ok (.iconst 0, 1) := by decide +kernel
theorem dX0_comeBy_3 : decode cX0_comeBy 3 = .ok (.istore_n 3, 1) := by decide +kernel
theorem dX0_comeBy_4 : decode cX0_comeBy 4 = .ok (.iload_n 3, 1) := by decide +kernel
theorem dX0_comeBy_5 : decode cX0_comeBy 5 = .ok (.aload_n 0, 1) := by decide +kernel
theorem dX0_comeBy_6 : decode cX0_comeBy 6 = .ok (.getfield 61, 3) := by decide +kernel
theorem dX0_comeBy_9 : decode cX0_comeBy 9 = .ok (.if_icmp .ge 22, 3) := by decide +kernel
theorem dX0_comeBy_12 : decode cX0_comeBy 12 = .ok (.aload_n 0, 1) := by decide +kernel
theorem dX0_comeBy_13 : decode cX0_comeBy 13 = .ok (.getfield 17, 3) := by decide +kernel
theorem dX0_comeBy_16 : decode cX0_comeBy 16 = .ok (.iload_n 3, 1) := by decide +kernel
theorem dX0_comeBy_17 : decode cX0_comeBy 17 = .ok (.iaload, 1) := by decide +kernel
theorem dX0_comeBy_18 : decode cX0_comeBy 18 = .ok (.iload_n 1, 1) := by decide +kernel
theorem dX0_comeBy_19 : decode cX0_comeBy 19 = .ok (.if_icmp .gt 6, 3) := by decide +kernel
theorem dX0_comeBy_22 : decode cX0_comeBy 22 = .ok (.iinc 2 1, 3) := by decide +kernel
theorem dX0_comeBy_25 : decode cX0_comeBy 25 = .ok (.iinc 3 1, 3) := by decide +kernel
theorem dX0_comeBy_28 : decode cX0_comeBy 28 = .ok (.goto (-24), 3) := by decide +kernel
theorem dX0_comeBy_31 : decode cX0_comeBy 31 = .ok (.iload_n 2, 1) := by decide +kernel
theorem dX0_comeBy_32 : decode cX0_comeBy 32 = .ok (.ireturn, 1) := by decide +kernel
theorem dX0_allWays_0 : decode cX0_allWays 0 = .ok (.aload_n 0, 1) := by decide +kernel
theorem dX0_allWays_1 : decode cX0_allWays 1 = .ok (.getfield 61, 3) := by decide +kernel
theorem dX0_allWays_4 : decode cX0_allWays 4 = .ok (.invokestatic 83, 3) := by decide +kernel
theorem dX0_allWays_7 : decode cX0_allWays 7 = .ok (.lreturn, 1) := by decide +kernel
theorem dX0_waysOfAbsent_0 : decode cX0_waysOfAbsent 0 = .ok (.bipush 8, 2) := by decide +kernel
theorem dX0_waysOfAbsent_2 : decode cX0_waysOfAbsent 2 = .ok (.aload_n 0, 1) := by decide +kernel
theorem dX0_waysOfAbsent_3 : decode cX0_waysOfAbsent 3 = .ok (.getfield 61, 3) := by decide +kernel
theorem dX0_waysOfAbsent_6 : decode cX0_waysOfAbsent 6 = .ok (.isub, 1) := by decide +kernel
theorem dX0_waysOfAbsent_7 : decode cX0_waysOfAbsent 7 = .ok (.invokestatic 83, 3) := by decide +kernel
theorem dX0_waysOfAbsent_10 : decode cX0_waysOfAbsent 10 = .ok (.lreturn, 1) := by decide +kernel
theorem dX0_power_0 : decode cX0_power 0 = .ok (.lconst 1, 1) := by decide +kernel
theorem dX0_power_1 : decode cX0_power 1 = .ok (.lstore_n 1, 1) := by decide +kernel
theorem dX0_power_2 : decode cX0_power 2 = .ok (.iconst 0, 1) := by decide +kernel
theorem dX0_power_3 : decode cX0_power 3 = .ok (.istore_n 3, 1) := by decide +kernel
theorem dX0_power_4 : decode cX0_power 4 = .ok (.iload_n 3, 1) := by decide +kernel
theorem dX0_power_5 : decode cX0_power 5 = .ok (.iload_n 0, 1) := by decide +kernel
theorem dX0_power_6 : decode cX0_power 6 = .ok (.if_icmp .ge 15, 3) := by decide +kernel
theorem dX0_power_9 : decode cX0_power 9 = .ok (.lload_n 1, 1) := by decide +kernel
theorem dX0_power_10 : decode cX0_power 10 = .ok (.ldc2_w 87, 3) := by decide +kernel
theorem dX0_power_13 : decode cX0_power 13 = .ok (.lmul, 1) := by decide +kernel
theorem dX0_power_14 : decode cX0_power 14 = .ok (.lstore_n 1, 1) := by decide +kernel
theorem dX0_power_15 : decode cX0_power 15 = .ok (.iinc 3 1, 3) := by decide +kernel
theorem dX0_power_18 : decode cX0_power 18 = .ok (.goto (-14), 3) := by decide +kernel
theorem dX0_power_21 : decode cX0_power 21 = .ok (.lload_n 1, 1) := by decide +kernel
theorem dX0_power_22 : decode cX0_power 22 = .ok (.lreturn, 1) := by decide +kernel
theorem dX0_worthBy_0 : decode cX0_worthBy 0 = .ok (.iload_n 1, 1) := by decide +kernel
theorem dX0_worthBy_1 : decode cX0_worthBy 1 = .ok (.ifCond .lt 11, 3) := by decide +kernel
theorem dX0_worthBy_4 : decode cX0_worthBy 4 = .ok (.iload_n 1, 1) := by decide +kernel
theorem dX0_worthBy_5 : decode cX0_worthBy 5 = .ok (.aload_n 0, 1) := by decide +kernel
theorem dX0_worthBy_6 : decode cX0_worthBy 6 = .ok (.getfield 61, 3) := by decide +kernel
theorem dX0_worthBy_9 : decode cX0_worthBy 9 = .ok (.if_icmp .lt 5, 3) := by decide +kernel
theorem dX0_worthBy_12 : decode cX0_worthBy 12 = .ok (.iconst 0, 1) := by decide +kernel
theorem dX0_worthBy_13 : decode cX0_worthBy 13 = .ok (.ireturn, 1) := by decide +kernel
theorem dX0_worthBy_14 : decode cX0_worthBy 14 = .ok (.iconst 0, 1) := by decide +kernel
theorem dX0_worthBy_15 : decode cX0_worthBy 15 = .ok (.istore_n 3, 1) := by decide +kernel
theorem dX0_worthBy_16 : decode cX0_worthBy 16 = .ok (.iconst 0, 1) := by decide +kernel
theorem dX0_worthBy_17 : decode cX0_worthBy 17 = .ok (.istore 4, 2) := by decide +kernel
theorem dX0_worthBy_19 : decode cX0_worthBy 19 = .ok (.iload 4, 2) := by decide +kernel
theorem dX0_worthBy_21 : decode cX0_worthBy 21 = .ok (.aload_n 0, 1) := by decide +kernel
theorem dX0_worthBy_22 : decode cX0_worthBy 22 = .ok (.getfield 32, 3) := by decide +kernel
theorem dX0_worthBy_25 : decode cX0_worthBy 25 = .ok (.iload_n 1, 1) := by decide +kernel
theorem dX0_worthBy_26 : decode cX0_worthBy 26 = .ok (.iaload, 1) := by decide +kernel
theorem dX0_worthBy_27 : decode cX0_worthBy 27 = .ok (.if_icmp .ge 40, 3) := by decide +kernel
theorem dX0_worthBy_30 : decode cX0_worthBy 30 = .ok (.iload_n 3, 1) := by decide +kernel
theorem dX0_worthBy_31 : decode cX0_worthBy 31 = .ok (.aload_n 0, 1) := by decide +kernel
theorem dX0_worthBy_32 : decode cX0_worthBy 32 = .ok (.getfield 38, 3) := by decide +kernel
theorem dX0_worthBy_35 : decode cX0_worthBy 35 = .ok (.iload_n 1, 1) := by decide +kernel
theorem dX0_worthBy_36 : decode cX0_worthBy 36 = .ok (.iconst 3, 1) := by decide +kernel
theorem dX0_worthBy_37 : decode cX0_worthBy 37 = .ok (.imul, 1) := by decide +kernel
theorem dX0_worthBy_38 : decode cX0_worthBy 38 = .ok (.iload 4, 2) := by decide +kernel
theorem dX0_worthBy_40 : decode cX0_worthBy 40 = .ok (.iadd, 1) := by decide +kernel
theorem dX0_worthBy_41 : decode cX0_worthBy 41 = .ok (.iaload, 1) := by decide +kernel
theorem dX0_worthBy_42 : decode cX0_worthBy 42 = .ok (.iadd, 1) := by decide +kernel
theorem dX0_worthBy_43 : decode cX0_worthBy 43 = .ok (.istore_n 3, 1) := by decide +kernel
theorem dX0_worthBy_44 : decode cX0_worthBy 44 = .ok (.iload_n 2, 1) := by decide +kernel
theorem dX0_worthBy_45 : decode cX0_worthBy 45 = .ok (.iload_n 3, 1) := by decide +kernel
theorem dX0_worthBy_46 : decode cX0_worthBy 46 = .ok (.if_icmp .ge 15, 3) := by decide +kernel
theorem dX0_worthBy_49 : decode cX0_worthBy 49 = .ok (.aload_n 0, 1) := by decide +kernel
theorem dX0_worthBy_50 : decode cX0_worthBy 50 = .ok (.getfield 35, 3) := by decide +kernel
theorem dX0_worthBy_53 : decode cX0_worthBy 53 = .ok (.iload_n 1, 1) := by decide +kernel
theorem dX0_worthBy_54 : decode cX0_worthBy 54 = .ok (.iconst 3, 1) := by decide +kernel
theorem dX0_worthBy_55 : decode cX0_worthBy 55 = .ok (.imul, 1) := by decide +kernel
theorem dX0_worthBy_56 : decode cX0_worthBy 56 = .ok (.iload 4, 2) := by decide +kernel
theorem dX0_worthBy_58 : decode cX0_worthBy 58 = .ok (.iadd, 1) := by decide +kernel
theorem dX0_worthBy_59 : decode cX0_worthBy 59 = .ok (.iaload, 1) := by decide +kernel
theorem dX0_worthBy_60 : decode cX0_worthBy 60 = .ok (.ireturn, 1) := by decide +kernel
theorem dX0_worthBy_61 : decode cX0_worthBy 61 = .ok (.iinc 4 1, 3) := by decide +kernel
theorem dX0_worthBy_64 : decode cX0_worthBy 64 = .ok (.goto (-45), 3) := by decide +kernel
theorem dX0_worthBy_67 : decode cX0_worthBy 67 = .ok (.iconst 0, 1) := by decide +kernel
theorem dX0_worthBy_68 : decode cX0_worthBy 68 = .ok (.ireturn, 1) := by decide +kernel
theorem dX1_init_0 : decode cX1_init 0 = .ok (.aload_n 0, 1) := by decide +kernel
theorem dX1_init_1 : decode cX1_init 1 = .ok (.invokespecial 1, 3) := by decide +kernel
theorem dX1_init_4 : decode cX1_init 4 = .ok (.aload_n 0, 1) := by decide +kernel
theorem dX1_init_5 : decode cX1_init 5 = .ok (.new 7, 3) := by decide +kernel
theorem dX1_init_8 : decode cX1_init 8 = .ok (.dup, 1) := by decide +kernel
theorem dX1_init_9 : decode cX1_init 9 = .ok (.invokespecial 9, 3) := by decide +kernel
theorem dX1_init_12 : decode cX1_init 12 = .ok (.putfield 10, 3) := by decide +kernel
theorem dX1_init_15 : decode cX1_init 15 = .ok (.aload_n 0, 1) := by decide +kernel
theorem dX1_init_16 : decode cX1_init 16 = .ok (.new 16, 3) := by decide +kernel
theorem dX1_init_19 : decode cX1_init 19 = .ok (.dup, 1) := by decide +kernel
theorem dX1_init_20 : decode cX1_init 20 = .ok (.invokespecial 18, 3) := by decide +kernel
theorem dX1_init_23 : decode cX1_init 23 = .ok (.putfield 19, 3) := by decide +kernel
theorem dX1_init_26 : decode cX1_init 26 = .ok (.aload_n 0, 1) := by decide +kernel
theorem dX1_init_27 : decode cX1_init 27 = .ok (.bipush 8, 2) := by decide +kernel
theorem dX1_init_29 : decode cX1_init 29 = .ok (.newarray .int, 2) := by decide +kernel
theorem dX1_init_31 : decode cX1_init 31 = .ok (.putfield 25, 3) := by decide +kernel
theorem dX1_init_34 : decode cX1_init 34 = .ok (.aload_n 0, 1) := by decide +kernel
theorem dX1_init_35 : decode cX1_init 35 = .ok (.bipush 9, 2) := by decide +kernel
theorem dX1_init_37 : decode cX1_init 37 = .ok (.newarray .int, 2) := by decide +kernel
theorem dX1_init_39 : decode cX1_init 39 = .ok (.putfield 29, 3) := by decide +kernel
theorem dX1_init_42 : decode cX1_init 42 = .ok (.aload_n 0, 1) := by decide +kernel
theorem dX1_init_43 : decode cX1_init 43 = .ok (.bipush 9, 2) := by decide +kernel
theorem dX1_init_45 : decode cX1_init 45 = .ok (.newarray .int, 2) := by decide +kernel
theorem dX1_init_47 : decode cX1_init 47 = .ok (.putfield 32, 3) := by decide +kernel
theorem dX1_init_50 : decode cX1_init 50 = .ok (.aload_n 0, 1) := by decide +kernel
theorem dX1_init_51 : decode cX1_init 51 = .ok (.bipush 9, 2) := by decide +kernel
theorem dX1_init_53 : decode cX1_init 53 = .ok (.newarray .int, 2) := by decide +kernel
theorem dX1_init_55 : decode cX1_init 55 = .ok (.putfield 35, 3) := by decide +kernel
theorem dX1_init_58 : decode cX1_init 58 = .ok (.return_, 1) := by decide +kernel
theorem dX1_set_0 : decode cX1_set 0 = .ok (.aload_n 0, 1) := by decide +kernel
theorem dX1_set_1 : decode cX1_set 1 = .ok (.aload_n 1, 1) := by decide +kernel
theorem dX1_set_2 : decode cX1_set 2 = .ok (.putfield 10, 3) := by decide +kernel
theorem dX1_set_5 : decode cX1_set 5 = .ok (.aload_n 0, 1) := by decide +kernel
theorem dX1_set_6 : decode cX1_set 6 = .ok (.aload_n 2, 1) := by decide +kernel
theorem dX1_set_7 : decode cX1_set 7 = .ok (.putfield 19, 3) := by decide +kernel
theorem dX1_set_10 : decode cX1_set 10 = .ok (.aload_n 0, 1) := by decide +kernel
theorem dX1_set_11 : decode cX1_set 11 = .ok (.iload_n 3, 1) := by decide +kernel
theorem dX1_set_12 : decode cX1_set 12 = .ok (.putfield 38, 3) := by decide +kernel
theorem dX1_set_15 : decode cX1_set 15 = .ok (.aload_n 0, 1) := by decide +kernel
theorem dX1_set_16 : decode cX1_set 16 = .ok (.aload_n 0, 1) := by decide +kernel
theorem dX1_set_17 : decode cX1_set 17 = .ok (.getfield 10, 3) := by decide +kernel
theorem dX1_set_20 : decode cX1_set 20 = .ok (.getfield 42, 3) := by decide +kernel
theorem dX1_set_23 : decode cX1_set 23 = .ok (.putfield 45, 3) := by decide +kernel
theorem dX1_set_26 : decode cX1_set 26 = .ok (.aload_n 0, 1) := by decide +kernel
theorem dX1_set_27 : decode cX1_set 27 = .ok (.aload_n 0, 1) := by decide +kernel
theorem dX1_set_28 : decode cX1_set 28 = .ok (.getfield 10, 3) := by decide +kernel
theorem dX1_set_31 : decode cX1_set 31 = .ok (.getfield 46, 3) := by decide +kernel
theorem dX1_set_34 : decode cX1_set 34 = .ok (.putfield 49, 3) := by decide +kernel
theorem dX1_set_37 : decode cX1_set 37 = .ok (.aload_n 0, 1) := by decide +kernel
theorem dX1_set_38 : decode cX1_set 38 = .ok (.iconst 0, 1) := by decide +kernel
theorem dX1_set_39 : decode cX1_set 39 = .ok (.putfield 50, 3) := by decide +kernel
theorem dX1_set_42 : decode cX1_set 42 = .ok (.aload_n 0, 1) := by decide +kernel
theorem dX1_set_43 : decode cX1_set 43 = .ok (.iconst (-1), 1) := by decide +kernel
theorem dX1_set_44 : decode cX1_set 44 = .ok (.putfield 53, 3) := by decide +kernel
theorem dX1_set_47 : decode cX1_set 47 = .ok (.return_, 1) := by decide +kernel
theorem dX1_whoCome_0 : decode cX1_whoCome 0 = .ok (.aload_n 0, 1) := by decide +kernel
theorem dX1_whoCome_1 : decode cX1_whoCome 1 = .ok (.getfield 19, 3) := by decide +kernel
theorem dX1_whoCome_4 : decode cX1_whoCome 4 = .ok (.areturn, 1) := by decide +kernel
theorem dX1_cost_0 : decode cX1_cost 0 = .ok (.aload_n 0, 1) := by decide +kernel
theorem dX1_cost_1 : decode cX1_cost 1 = .ok (.getfield 10, 3) := by decide +kernel
theorem dX1_cost_4 : decode cX1_cost 4 = .ok (.getfield 56, 3) := by decide +kernel
theorem dX1_cost_7 : decode cX1_cost 7 = .ok (.ireturn, 1) := by decide +kernel
theorem dX1_play_0 : decode cX1_play 0 = .ok (.iload_n 1, 1) := by decide +kernel
theorem dX1_play_1 : decode cX1_play 1 = .ok (.ifCond .lt 14, 3) := by decide +kernel
theorem dX1_play_4 : decode cX1_play 4 = .ok (.iload_n 1, 1) := by decide +kernel
theorem dX1_play_5 : decode cX1_play 5 = .ok (.aload_n 0, 1) := by decide +kernel
theorem dX1_play_6 : decode cX1_play 6 = .ok (.getfield 19, 3) := by decide +kernel
theorem dX1_play_9 : decode cX1_play 9 = .ok (.getfield 59, 3) := by decide +kernel
theorem dX1_play_12 : decode cX1_play 12 = .ok (.if_icmp .lt 4, 3) := by decide +kernel
theorem dX1_play_15 : decode cX1_play 15 = .ok (.return_, 1) := by decide +kernel
theorem dX1_play_16 : decode cX1_play 16 = .ok (.aload_n 0, 1) := by decide +kernel
theorem dX1_play_17 : decode cX1_play 17 = .ok (.iload_n 1, 1) := by decide +kernel
theorem dX1_play_18 : decode cX1_play 18 = .ok (.iload_n 2, 1) := by decide +kernel
theorem dX1_play_19 : decode cX1_play 19 = .ok (.aload_n 0, 1) := by decide +kernel
theorem dX1_play_20 : decode cX1_play 20 = .ok (.getfield 29, 3) := by decide +kernel
theorem dX1_play_23 : decode cX1_play 23 = .ok (.iload_n 1, 1) := by decide +kernel
theorem dX1_play_24 : decode cX1_play 24 = .ok (.iaload, 1) := by decide +kernel
theorem dX1_play_25 : decode cX1_play 25 = .ok (.invokevirtual 62, 3) := by decide +kernel
theorem dX1_play_28 : decode cX1_play 28 = .ok (.istore_n 3, 1) := by decide +kernel
theorem dX1_play_29 : decode cX1_play 29 = .ok (.aload_n 0, 1) := by decide +kernel
theorem dX1_play_30 : decode cX1_play 30 = .ok (.getfield 25, 3) := by decide +kernel
theorem dX1_play_33 : decode cX1_play 33 = .ok (.iload_n 1, 1) := by decide +kernel
theorem dX1_play_34 : decode cX1_play 34 = .ok (.iload_n 3, 1) := by decide +kernel
theorem dX1_play_35 : decode cX1_play 35 = .ok (.iastore, 1) := by decide +kernel
theorem dX1_play_36 : decode cX1_play 36 = .ok (.aload_n 0, 1) := by decide +kernel
theorem dX1_play_37 : decode cX1_play 37 = .ok (.getfield 29, 3) := by decide +kernel
theorem dX1_play_40 : decode cX1_play 40 = .ok (.iload_n 1, 1) := by decide +kernel
theorem dX1_play_41 : decode cX1_play 41 = .ok (.iconst 1, 1) := by decide +kernel
theorem dX1_play_42 : decode cX1_play 42 = .ok (.iadd, 1) := by decide +kernel
theorem dX1_play_43 : decode cX1_play 43 = .ok (.aload_n 0, 1) := by decide +kernel
theorem dX1_play_44 : decode cX1_play 44 = .ok (.getfield 29, 3) := by decide +kernel
theorem dX1_play_47 : decode cX1_play 47 = .ok (.iload_n 1, 1) := by decide +kernel
theorem dX1_play_48 : decode cX1_play 48 = .ok (.iaload, 1) := by decide +kernel
theorem dX1_play_49 : decode cX1_play 49 = .ok (.iload_n 3, 1) := by decide +kernel
theorem dX1_play_50 : decode cX1_play 50 = .ok (.iadd, 1) := by decide +kernel
theorem dX1_play_51 : decode cX1_play 51 = .ok (.iastore, 1) := by decide +kernel
theorem dX1_play_52 : decode cX1_play 52 = .ok (.iload_n 1, 1) := by decide +kernel
theorem dX1_play_53 : decode cX1_play 53 = .ok (.aload_n 0, 1) := by decide +kernel
theorem dX1_play_54 : decode cX1_play 54 = .ok (.getfield 53, 3) := by decide +kernel
theorem dX1_play_57 : decode cX1_play 57 = .ok (.if_icmp .ne 29, 3) := by decide +kernel
theorem dX1_play_60 : decode cX1_play 60 = .ok (.aload_n 0, 1) := by decide +kernel
theorem dX1_play_61 : decode cX1_play 61 = .ok (.getfield 29, 3) := by decide +kernel
theorem dX1_play_64 : decode cX1_play 64 = .ok (.iload_n 1, 1) := by decide +kernel
theorem dX1_play_65 : decode cX1_play 65 = .ok (.iconst 1, 1) := by decide +kernel
theorem dX1_play_66 : decode cX1_play 66 = .ok (.iadd, 1) := by decide +kernel
theorem dX1_play_67 : decode cX1_play 67 = .ok (.dup2, 1) := by decide +kernel
theorem dX1_play_68 : decode cX1_play 68 = .ok (.iaload, 1) := by decide +kernel
theorem dX1_play_69 : decode cX1_play 69 = .ok (.aload_n 0, 1) := by decide +kernel
theorem dX1_play_70 : decode cX1_play 70 = .ok (.getfield 29, 3) := by decide +kernel
theorem dX1_play_73 : decode cX1_play 73 = .ok (.iload_n 1, 1) := by decide +kernel
theorem dX1_play_74 : decode cX1_play 74 = .ok (.iconst 1, 1) := by decide +kernel
theorem dX1_play_75 : decode cX1_play 75 = .ok (.iadd, 1) := by decide +kernel
theorem dX1_play_76 : decode cX1_play 76 = .ok (.iaload, 1) := by decide +kernel
theorem dX1_play_77 : decode cX1_play 77 = .ok (.aload_n 0, 1) := by decide +kernel
theorem dX1_play_78 : decode cX1_play 78 = .ok (.getfield 50, 3) := by decide +kernel
theorem dX1_play_81 : decode cX1_play 81 = .ok (.invokestatic 66, 3) := by decide +kernel
theorem dX1_play_84 : decode cX1_play 84 = .ok (.iadd, 1) := by decide +kernel
theorem dX1_play_85 : decode cX1_play 85 = .ok (.iastore, 1) := by decide +kernel
theorem dX1_play_86 : decode cX1_play 86 = .ok (.aload_n 0, 1) := by decide +kernel
theorem dX1_play_87 : decode cX1_play 87 = .ok (.getfield 32, 3) := by decide +kernel
theorem dX1_play_90 : decode cX1_play 90 = .ok (.iload_n 1, 1) := by decide +kernel
theorem dX1_play_91 : decode cX1_play 91 = .ok (.iconst 1, 1) := by decide +kernel
theorem dX1_play_92 : decode cX1_play 92 = .ok (.iadd, 1) := by decide +kernel
theorem dX1_play_93 : decode cX1_play 93 = .ok (.aload_n 0, 1) := by decide +kernel
theorem dX1_play_94 : decode cX1_play 94 = .ok (.getfield 32, 3) := by decide +kernel
theorem dX1_play_97 : decode cX1_play 97 = .ok (.iload_n 1, 1) := by decide +kernel
theorem dX1_play_98 : decode cX1_play 98 = .ok (.iaload, 1) := by decide +kernel
theorem dX1_play_99 : decode cX1_play 99 = .ok (.iload_n 3, 1) := by decide +kernel
theorem dX1_play_100 : decode cX1_play 100 = .ok (.ifCond .le 7, 3) := by decide +kernel
theorem dX1_play_103 : decode cX1_play 103 = .ok (.iconst 1, 1) := by decide +kernel
theorem dX1_play_104 : decode cX1_play 104 = .ok (.goto 4, 3) := by decide +kernel
theorem dX1_play_107 : decode cX1_play 107 = .ok (.iconst 0, 1) := by decide +kernel
theorem dX1_play_108 : decode cX1_play 108 = .ok (.iadd, 1) := by decide +kernel
theorem dX1_play_109 : decode cX1_play 109 = .ok (.iastore, 1) := by decide +kernel
theorem dX1_play_110 : decode cX1_play 110 = .ok (.aload_n 0, 1) := by decide +kernel
theorem dX1_play_111 : decode cX1_play 111 = .ok (.getfield 10, 3) := by decide +kernel
theorem dX1_play_114 : decode cX1_play 114 = .ok (.getfield 72, 3) := by decide +kernel
theorem dX1_play_117 : decode cX1_play 117 = .ok (.ifCond .le 30, 3) := by decide +kernel
theorem dX1_play_120 : decode cX1_play 120 = .ok (.aload_n 0, 1) := by decide +kernel
theorem dX1_play_121 : decode cX1_play 121 = .ok (.getfield 35, 3) := by decide +kernel
theorem dX1_play_124 : decode cX1_play 124 = .ok (.iload_n 1, 1) := by decide +kernel
theorem dX1_play_125 : decode cX1_play 125 = .ok (.iconst 1, 1) := by decide +kernel
theorem dX1_play_126 : decode cX1_play 126 = .ok (.iadd, 1) := by decide +kernel
theorem dX1_play_127 : decode cX1_play 127 = .ok (.aload_n 0, 1) := by decide +kernel
theorem dX1_play_128 : decode cX1_play 128 = .ok (.getfield 35, 3) := by decide +kernel
theorem dX1_play_131 : decode cX1_play 131 = .ok (.iload_n 1, 1) := by decide +kernel
theorem dX1_play_132 : decode cX1_play 132 = .ok (.iaload, 1) := by decide +kernel
theorem dX1_play_133 : decode cX1_play 133 = .ok (.aload_n 0, 1) := by decide +kernel
theorem dX1_play_134 : decode cX1_play 134 = .ok (.iload_n 1, 1) := by decide +kernel
theorem dX1_play_135 : decode cX1_play 135 = .ok (.iload_n 2, 1) := by decide +kernel
theorem dX1_play_136 : decode cX1_play 136 = .ok (.aload_n 0, 1) := by decide +kernel
theorem dX1_play_137 : decode cX1_play 137 = .ok (.getfield 35, 3) := by decide +kernel
theorem dX1_play_140 : decode cX1_play 140 = .ok (.iload_n 1, 1) := by decide +kernel
theorem dX1_play_141 : decode cX1_play 141 = .ok (.iaload, 1) := by decide +kernel
theorem dX1_play_142 : decode cX1_play 142 = .ok (.invokevirtual 75, 3) := by decide +kernel
theorem dX1_play_145 : decode cX1_play 145 = .ok (.iadd, 1) := by decide +kernel
theorem dX1_play_146 : decode cX1_play 146 = .ok (.iastore, 1) := by decide +kernel
theorem dX1_play_147 : decode cX1_play 147 = .ok (.return_, 1) := by decide +kernel
theorem dX1_giftAt_0 : decode cX1_giftAt 0 = .ok (.iload_n 1, 1) := by decide +kernel
theorem dX1_giftAt_1 : decode cX1_giftAt 1 = .ok (.ifCond .lt 14, 3) := by decide +kernel
theorem dX1_giftAt_4 : decode cX1_giftAt 4 = .ok (.iload_n 1, 1) := by decide +kernel
theorem dX1_giftAt_5 : decode cX1_giftAt 5 = .ok (.aload_n 0, 1) := by decide +kernel
theorem dX1_giftAt_6 : decode cX1_giftAt 6 = .ok (.getfield 19, 3) := by decide +kernel
theorem dX1_giftAt_9 : decode cX1_giftAt 9 = .ok (.getfield 59, 3) := by decide +kernel
theorem dX1_giftAt_12 : decode cX1_giftAt 12 = .ok (.if_icmp .lt 5, 3) := by decide +kernel
theorem dX1_giftAt_15 : decode cX1_giftAt 15 = .ok (.iconst 0, 1) := by decide +kernel
theorem dX1_giftAt_16 : decode cX1_giftAt 16 = .ok (.ireturn, 1) := by decide +kernel
theorem dX1_giftAt_17 : decode cX1_giftAt 17 = .ok (.aload_n 0, 1) := by decide +kernel
theorem dX1_giftAt_18 : decode cX1_giftAt 18 = .ok (.getfield 19, 3) := by decide +kernel
theorem dX1_giftAt_21 : decode cX1_giftAt 21 = .ok (.getfield 78, 3) := by decide +kernel
theorem dX1_giftAt_24 : decode cX1_giftAt 24 = .ok (.iload_n 1, 1) := by decide +kernel
theorem dX1_giftAt_25 : decode cX1_giftAt 25 = .ok (.iaload, 1) := by decide +kernel
theorem dX1_giftAt_26 : decode cX1_giftAt 26 = .ok (.istore 4, 2) := by decide +kernel
theorem dX1_giftAt_28 : decode cX1_giftAt 28 = .ok (.iload_n 2, 1) := by decide +kernel
theorem dX1_giftAt_29 : decode cX1_giftAt 29 = .ok (.iload 4, 2) := by decide +kernel
theorem dX1_giftAt_31 : decode cX1_giftAt 31 = .ok (.invokestatic 66, 3) := by decide +kernel
theorem dX1_giftAt_34 : decode cX1_giftAt 34 = .ok (.istore 5, 2) := by decide +kernel
theorem dX1_giftAt_36 : decode cX1_giftAt 36 = .ok (.aload_n 0, 1) := by decide +kernel
theorem dX1_giftAt_37 : decode cX1_giftAt 37 = .ok (.aload_n 0, 1) := by decide +kernel
theorem dX1_giftAt_38 : decode cX1_giftAt 38 = .ok (.getfield 45, 3) := by decide +kernel
theorem dX1_giftAt_41 : decode cX1_giftAt 41 = .ok (.iload_n 3, 1) := by decide +kernel
theorem dX1_giftAt_42 : decode cX1_giftAt 42 = .ok (.invokevirtual 81, 3) := by decide +kernel
theorem dX1_giftAt_45 : decode cX1_giftAt 45 = .ok (.istore 6, 2) := by decide +kernel
theorem dX1_giftAt_47 : decode cX1_giftAt 47 = .ok (.aload_n 0, 1) := by decide +kernel
theorem dX1_giftAt_48 : decode cX1_giftAt 48 = .ok (.getfield 19, 3) := by decide +kernel
theorem dX1_giftAt_51 : decode cX1_giftAt 51 = .ok (.getfield 84, 3) := by decide +kernel
theorem dX1_giftAt_54 : decode cX1_giftAt 54 = .ok (.iload_n 1, 1) := by decide +kernel
theorem dX1_giftAt_55 : decode cX1_giftAt 55 = .ok (.iaload, 1) := by decide +kernel
theorem dX1_giftAt_56 : decode cX1_giftAt 56 = .ok (.istore 7, 2) := by decide +kernel
theorem dX1_giftAt_58 : decode cX1_giftAt 58 = .ok (.iload 7, 2) := by decide +kernel
theorem dX1_giftAt_60 : decode cX1_giftAt 60 = .ok (.iconst 5, 1) := by decide +kernel
theorem dX1_giftAt_61 : decode cX1_giftAt 61 = .ok (.if_icmp .ne 18, 3) := by decide +kernel
theorem dX1_giftAt_64 : decode cX1_giftAt 64 = .ok (.aload_n 0, 1) := by decide +kernel
theorem dX1_giftAt_65 : decode cX1_giftAt 65 = .ok (.getfield 19, 3) := by decide +kernel
theorem dX1_giftAt_68 : decode cX1_giftAt 68 = .ok (.getfield 87, 3) := by decide +kernel
theorem dX1_giftAt_71 : decode cX1_giftAt 71 = .ok (.iload_n 1, 1) := by decide +kernel
theorem dX1_giftAt_72 : decode cX1_giftAt 72 = .ok (.iaload, 1) := by decide +kernel
theorem dX1_giftAt_73 : decode cX1_giftAt 73 = .ok (.iload 4, 2) := by decide +kernel
theorem dX1_giftAt_75 : decode cX1_giftAt 75 = .ok (.invokestatic 66, 3) := by decide +kernel
theorem dX1_giftAt_78 : decode cX1_giftAt 78 = .ok (.ireturn, 1) := by decide +kernel
theorem dX1_giftAt_79 : decode cX1_giftAt 79 = .ok (.iload 7, 2) := by decide +kernel
theorem dX1_giftAt_81 : decode cX1_giftAt 81 = .ok (.iconst 3, 1) := by decide +kernel
theorem dX1_giftAt_82 : decode cX1_giftAt 82 = .ok (.if_icmp .ne 40, 3) := by decide +kernel
theorem dX1_giftAt_85 : decode cX1_giftAt 85 = .ok (.aload_n 0, 1) := by decide +kernel
theorem dX1_giftAt_86 : decode cX1_giftAt 86 = .ok (.getfield 19, 3) := by decide +kernel
theorem dX1_giftAt_89 : decode cX1_giftAt 89 = .ok (.getfield 90, 3) := by decide +kernel
theorem dX1_giftAt_92 : decode cX1_giftAt 92 = .ok (.iload_n 1, 1) := by decide +kernel
theorem dX1_giftAt_93 : decode cX1_giftAt 93 = .ok (.iaload, 1) := by decide +kernel
theorem dX1_giftAt_94 : decode cX1_giftAt 94 = .ok (.aload_n 0, 1) := by decide +kernel
theorem dX1_giftAt_95 : decode cX1_giftAt 95 = .ok (.getfield 10, 3) := by decide +kernel
theorem dX1_giftAt_98 : decode cX1_giftAt 98 = .ok (.getfield 93, 3) := by decide +kernel
theorem dX1_giftAt_101 : decode cX1_giftAt 101 = .ok (.if_icmp .gt 21, 3) := by decide +kernel
theorem dX1_giftAt_104 : decode cX1_giftAt 104 = .ok (.iload 6, 2) := by decide +kernel
theorem dX1_giftAt_106 : decode cX1_giftAt 106 = .ok (.iload 5, 2) := by decide +kernel
theorem dX1_giftAt_108 : decode cX1_giftAt 108 = .ok (.aload_n 0, 1) := by decide +kernel
theorem dX1_giftAt_109 : decode cX1_giftAt 109 = .ok (.getfield 49, 3) := by decide +kernel
theorem dX1_giftAt_112 : decode cX1_giftAt 112 = .ok (.iadd, 1) := by decide +kernel
theorem dX1_giftAt_113 : decode cX1_giftAt 113 = .ok (.iload 4, 2) := by decide +kernel
theorem dX1_giftAt_115 : decode cX1_giftAt 115 = .ok (.invokestatic 66, 3) := by decide +kernel
theorem dX1_giftAt_118 : decode cX1_giftAt 118 = .ok (.invokestatic 66, 3) := by decide +kernel
theorem dX1_giftAt_121 : decode cX1_giftAt 121 = .ok (.ireturn, 1) := by decide +kernel
theorem dX1_giftAt_122 : decode cX1_giftAt 122 = .ok (.iload 7, 2) := by decide +kernel
theorem dX1_giftAt_124 : decode cX1_giftAt 124 = .ok (.iload 5, 2) := by decide +kernel
theorem dX1_giftAt_126 : decode cX1_giftAt 126 = .ok (.iload 6, 2) := by decide +kernel
theorem dX1_giftAt_128 : decode cX1_giftAt 128 = .ok (.aload_n 0, 1) := by decide +kernel
theorem dX1_giftAt_129 : decode cX1_giftAt 129 = .ok (.getfield 19, 3) := by decide +kernel
theorem dX1_giftAt_132 : decode cX1_giftAt 132 = .ok (.getfield 59, 3) := by decide +kernel
theorem dX1_giftAt_135 : decode cX1_giftAt 135 = .ok (.iload_n 1, 1) := by decide +kernel
theorem dX1_giftAt_136 : decode cX1_giftAt 136 = .ok (.isub, 1) := by decide +kernel
theorem dX1_giftAt_137 : decode cX1_giftAt 137 = .ok (.invokestatic 96, 3) := by decide +kernel
theorem dX1_giftAt_140 : decode cX1_giftAt 140 = .ok (.ireturn, 1) := by decide +kernel
theorem dX1_secondGiftAt_0 : decode cX1_secondGiftAt 0 = .ok (.iload_n 2, 1) := by decide +kernel
theorem dX1_secondGiftAt_1 : decode cX1_secondGiftAt 1 = .ok (.aload_n 0, 1) := by decide +kernel
theorem dX1_secondGiftAt_2 : decode cX1_secondGiftAt 2 = .ok (.getfield 10, 3) := by decide +kernel
theorem dX1_secondGiftAt_5 : decode cX1_secondGiftAt 5 = .ok (.getfield 100, 3) := by decide +kernel
theorem dX1_secondGiftAt_8 : decode cX1_secondGiftAt 8 = .ok (.imul, 1) := by decide +kernel
theorem dX1_secondGiftAt_9 : decode cX1_secondGiftAt 9 = .ok (.bipush 100, 2) := by decide +kernel
theorem dX1_secondGiftAt_11 : decode cX1_secondGiftAt 11 = .ok (.idiv, 1) := by decide +kernel
theorem dX1_secondGiftAt_12 : decode cX1_secondGiftAt 12 = .ok (.aload_n 0, 1) := by decide +kernel
theorem dX1_secondGiftAt_13 : decode cX1_secondGiftAt 13 = .ok (.getfield 19, 3) := by decide +kernel
theorem dX1_secondGiftAt_16 : decode cX1_secondGiftAt 16 = .ok (.getfield 78, 3) := by decide +kernel
theorem dX1_secondGiftAt_19 : decode cX1_secondGiftAt 19 = .ok (.iload_n 1, 1) := by decide +kernel
theorem dX1_secondGiftAt_20 : decode cX1_secondGiftAt 20 = .ok (.iaload, 1) := by decide +kernel
theorem dX1_secondGiftAt_21 : decode cX1_secondGiftAt 21 = .ok (.aload_n 0, 1) := by decide +kernel
theorem dX1_secondGiftAt_22 : decode cX1_secondGiftAt 22 = .ok (.getfield 25, 3) := by decide +kernel
theorem dX1_secondGiftAt_25 : decode cX1_secondGiftAt 25 = .ok (.iload_n 1, 1) := by decide +kernel
theorem dX1_secondGiftAt_26 : decode cX1_secondGiftAt 26 = .ok (.iaload, 1) := by decide +kernel
theorem dX1_secondGiftAt_27 : decode cX1_secondGiftAt 27 = .ok (.isub, 1) := by decide +kernel
theorem dX1_secondGiftAt_28 : decode cX1_secondGiftAt 28 = .ok (.invokestatic 66, 3) := by decide +kernel
theorem dX1_secondGiftAt_31 : decode cX1_secondGiftAt 31 = .ok (.istore 4, 2) := by decide +kernel
theorem dX1_secondGiftAt_33 : decode cX1_secondGiftAt 33 = .ok (.aload_n 0, 1) := by decide +kernel
theorem dX1_secondGiftAt_34 : decode cX1_secondGiftAt 34 = .ok (.getfield 19, 3) := by decide +kernel
theorem dX1_secondGiftAt_37 : decode cX1_secondGiftAt 37 = .ok (.getfield 84, 3) := by decide +kernel
theorem dX1_secondGiftAt_40 : decode cX1_secondGiftAt 40 = .ok (.iload_n 1, 1) := by decide +kernel
theorem dX1_secondGiftAt_41 : decode cX1_secondGiftAt 41 = .ok (.iaload, 1) := by decide +kernel
theorem dX1_secondGiftAt_42 : decode cX1_secondGiftAt 42 = .ok (.iload 4, 2) := by decide +kernel
theorem dX1_secondGiftAt_44 : decode cX1_secondGiftAt 44 = .ok (.aload_n 0, 1) := by decide +kernel
theorem dX1_secondGiftAt_45 : decode cX1_secondGiftAt 45 = .ok (.aload_n 0, 1) := by decide +kernel
theorem dX1_secondGiftAt_46 : decode cX1_secondGiftAt 46 = .ok (.getfield 10, 3) := by decide +kernel
theorem dX1_secondGiftAt_49 : decode cX1_secondGiftAt 49 = .ok (.getfield 72, 3) := by decide +kernel
theorem dX1_secondGiftAt_52 : decode cX1_secondGiftAt 52 = .ok (.iload_n 3, 1) := by decide +kernel
theorem dX1_secondGiftAt_53 : decode cX1_secondGiftAt 53 = .ok (.invokevirtual 81, 3) := by decide +kernel
theorem dX1_secondGiftAt_56 : decode cX1_secondGiftAt 56 = .ok (.aload_n 0, 1) := by decide +kernel
theorem dX1_secondGiftAt_57 : decode cX1_secondGiftAt 57 = .ok (.getfield 19, 3) := by decide +kernel
theorem dX1_secondGiftAt_60 : decode cX1_secondGiftAt 60 = .ok (.getfield 59, 3) := by decide +kernel
theorem dX1_secondGiftAt_63 : decode cX1_secondGiftAt 63 = .ok (.iload_n 1, 1) := by decide +kernel
theorem dX1_secondGiftAt_64 : decode cX1_secondGiftAt 64 = .ok (.isub, 1) := by decide +kernel
theorem dX1_secondGiftAt_65 : decode cX1_secondGiftAt 65 = .ok (.invokestatic 96, 3) := by decide +kernel
theorem dX1_secondGiftAt_68 : decode cX1_secondGiftAt 68 = .ok (.ireturn, 1) := by decide +kernel
theorem dX1_lackOf_0 : decode cX1_lackOf 0 = .ok (.iload_n 2, 1) := by decide +kernel
theorem dX1_lackOf_1 : decode cX1_lackOf 1 = .ok (.istore_n 3, 1) := by decide +kernel
theorem dX1_lackOf_2 : decode cX1_lackOf 2 = .ok (.aload_n 0, 1) := by decide +kernel
theorem dX1_lackOf_3 : decode cX1_lackOf 3 = .ok (.getfield 38, 3) := by decide +kernel
theorem dX1_lackOf_6 : decode cX1_lackOf 6 = .ok (.iconst 1, 1) := by decide +kernel
theorem dX1_lackOf_7 : decode cX1_lackOf 7 = .ok (.if_icmp .ne 5, 3) := by decide +kernel
theorem dX1_lackOf_10 : decode cX1_lackOf 10 = .ok (.iconst 0, 1) := by decide +kernel
theorem dX1_lackOf_11 : decode cX1_lackOf 11 = .ok (.istore_n 3, 1) := by decide +kernel
theorem dX1_lackOf_12 : decode cX1_lackOf 12 = .ok (.aload_n 0, 1) := by decide +kernel
theorem dX1_lackOf_13 : decode cX1_lackOf 13 = .ok (.getfield 38, 3) := by decide +kernel
theorem dX1_lackOf_16 : decode cX1_lackOf 16 = .ok (.iconst 2, 1) := by decide +kernel
theorem dX1_lackOf_17 : decode cX1_lackOf 17 = .ok (.if_icmp .ne 11, 3) := by decide +kernel
theorem dX1_lackOf_20 : decode cX1_lackOf 20 = .ok (.iload_n 2, 1) := by decide +kernel
theorem dX1_lackOf_21 : decode cX1_lackOf 21 = .ok (.bipush 10, 2) := by decide +kernel
theorem dX1_lackOf_23 : decode cX1_lackOf 23 = .ok (.idiv, 1) := by decide +kernel
theorem dX1_lackOf_24 : decode cX1_lackOf 24 = .ok (.bipush 10, 2) := by decide +kernel
theorem dX1_lackOf_26 : decode cX1_lackOf 26 = .ok (.imul, 1) := by decide +kernel
theorem dX1_lackOf_27 : decode cX1_lackOf 27 = .ok (.istore_n 3, 1) := by decide +kernel
theorem dX1_lackOf_28 : decode cX1_lackOf 28 = .ok (.iconst 0, 1) := by decide +kernel
theorem dX1_lackOf_29 : decode cX1_lackOf 29 = .ok (.iload_n 1, 1) := by decide +kernel
theorem dX1_lackOf_30 : decode cX1_lackOf 30 = .ok (.iload_n 3, 1) := by decide +kernel
theorem dX1_lackOf_31 : decode cX1_lackOf 31 = .ok (.isub, 1) := by decide +kernel
theorem dX1_lackOf_32 : decode cX1_lackOf 32 = .ok (.invokestatic 103, 3) := by decide +kernel
theorem dX1_lackOf_35 : decode cX1_lackOf 35 = .ok (.ireturn, 1) := by decide +kernel
theorem dX1_giftByKind_0 : decode cX1_giftByKind 0 = .ok (.iload_n 0, 1) := by decide +kernel
theorem dX1_giftByKind_1 : decode cX1_giftByKind 1 = .ok (.tableswitch 68 0 4 #[35, 68, 51, 68, 57], 35) := by decide +kernel
theorem dX1_giftByKind_36 : decode cX1_giftByKind 36 = .ok (.iload_n 3, 1) := by decide +kernel
theorem dX1_giftByKind_37 : decode cX1_giftByKind 37 = .ok (.iconst 1, 1) := by decide +kernel
theorem dX1_giftByKind_38 : decode cX1_giftByKind 38 = .ok (.if_icmp .ne 12, 3) := by decide +kernel
theorem dX1_giftByKind_41 : decode cX1_giftByKind 41 = .ok (.iload_n 2, 1) := by decide +kernel
theorem dX1_giftByKind_42 : decode cX1_giftByKind 42 = .ok (.iload_n 1, 1) := by decide +kernel
theorem dX1_giftByKind_43 : decode cX1_giftByKind 43 = .ok (.if_icmp .gt 7, 3) := by decide +kernel
theorem dX1_giftByKind_46 : decode cX1_giftByKind 46 = .ok (.iload_n 2, 1) := by decide +kernel
theorem dX1_giftByKind_47 : decode cX1_giftByKind 47 = .ok (.goto 4, 3) := by decide +kernel
theorem dX1_giftByKind_50 : decode cX1_giftByKind 50 = .ok (.iconst 0, 1) := by decide +kernel
theorem dX1_giftByKind_51 : decode cX1_giftByKind 51 = .ok (.ireturn, 1) := by decide +kernel
theorem dX1_giftByKind_52 : decode cX1_giftByKind 52 = .ok (.iload_n 1, 1) := by decide +kernel
theorem dX1_giftByKind_53 : decode cX1_giftByKind 53 = .ok (.iconst 1, 1) := by decide +kernel
theorem dX1_giftByKind_54 : decode cX1_giftByKind 54 = .ok (.iadd, 1) := by decide +kernel
theorem dX1_giftByKind_55 : decode cX1_giftByKind 55 = .ok (.iconst 2, 1) := by decide +kernel
theorem dX1_giftByKind_56 : decode cX1_giftByKind 56 = .ok (.idiv, 1) := by decide +kernel
theorem dX1_giftByKind_57 : decode cX1_giftByKind 57 = .ok (.ireturn, 1) := by decide +kernel
theorem dX1_giftByKind_58 : decode cX1_giftByKind 58 = .ok (.iload_n 2, 1) := by decide +kernel
theorem dX1_giftByKind_59 : decode cX1_giftByKind 59 = .ok (.iload_n 1, 1) := by decide +kernel
theorem dX1_giftByKind_60 : decode cX1_giftByKind 60 = .ok (.if_icmp .gt 7, 3) := by decide +kernel
theorem dX1_giftByKind_63 : decode cX1_giftByKind 63 = .ok (.iload_n 2, 1) := by decide +kernel
theorem dX1_giftByKind_64 : decode cX1_giftByKind 64 = .ok (.goto 4, 3) := by decide +kernel
theorem dX1_giftByKind_67 : decode cX1_giftByKind 67 = .ok (.iconst 0, 1) := by decide +kernel
theorem dX1_giftByKind_68 : decode cX1_giftByKind 68 = .ok (.ireturn, 1) := by decide +kernel
theorem dX1_giftByKind_69 : decode cX1_giftByKind 69 = .ok (.iload_n 3, 1) := by decide +kernel
theorem dX1_giftByKind_70 : decode cX1_giftByKind 70 = .ok (.iconst 1, 1) := by decide +kernel
theorem dX1_giftByKind_71 : decode cX1_giftByKind 71 = .ok (.if_icmp .ge 7, 3) := by decide +kernel
theorem dX1_giftByKind_74 : decode cX1_giftByKind 74 = .ok (.iconst 0, 1) := by decide +kernel
theorem dX1_giftByKind_75 : decode cX1_giftByKind 75 = .ok (.goto 14, 3) := by decide +kernel
theorem dX1_giftByKind_78 : decode cX1_giftByKind 78 = .ok (.iload_n 2, 1) := by decide +kernel
theorem dX1_giftByKind_79 : decode cX1_giftByKind 79 = .ok (.iload_n 3, 1) := by decide +kernel
theorem dX1_giftByKind_80 : decode cX1_giftByKind 80 = .ok (.iadd, 1) := by decide +kernel
theorem dX1_giftByKind_81 : decode cX1_giftByKind 81 = .ok (.iconst 1, 1) := by decide +kernel
theorem dX1_giftByKind_82 : decode cX1_giftByKind 82 = .ok (.isub, 1) := by decide +kernel
theorem dX1_giftByKind_83 : decode cX1_giftByKind 83 = .ok (.iload_n 3, 1) := by decide +kernel
theorem dX1_giftByKind_84 : decode cX1_giftByKind 84 = .ok (.idiv, 1) := by decide +kernel
theorem dX1_giftByKind_85 : decode cX1_giftByKind 85 = .ok (.iload_n 1, 1) := by decide +kernel
theorem dX1_giftByKind_86 : decode cX1_giftByKind 86 = .ok (.invokestatic 66, 3) := by decide +kernel
theorem dX1_giftByKind_89 : decode cX1_giftByKind 89 = .ok (.ireturn, 1) := by decide +kernel
theorem dX1_isBuilt_0 : decode cX1_isBuilt 0 = .ok (.aload_n 0, 1) := by decide +kernel
theorem dX1_isBuilt_1 : decode cX1_isBuilt 1 = .ok (.getfield 29, 3) := by decide +kernel
theorem dX1_isBuilt_4 : decode cX1_isBuilt 4 = .ok (.aload_n 0, 1) := by decide +kernel
theorem dX1_isBuilt_5 : decode cX1_isBuilt 5 = .ok (.getfield 19, 3) := by decide +kernel
theorem dX1_isBuilt_8 : decode cX1_isBuilt 8 = .ok (.getfield 59, 3) := by decide +kernel
theorem dX1_isBuilt_11 : decode cX1_isBuilt 11 = .ok (.iaload, 1) := by decide +kernel
theorem dX1_isBuilt_12 : decode cX1_isBuilt 12 = .ok (.aload_n 0, 1) := by decide +kernel
theorem dX1_isBuilt_13 : decode cX1_isBuilt 13 = .ok (.getfield 45, 3) := by decide +kernel
theorem dX1_isBuilt_16 : decode cX1_isBuilt 16 = .ok (.if_icmp .lt 29, 3) := by decide +kernel
theorem dX1_isBuilt_19 : decode cX1_isBuilt 19 = .ok (.aload_n 0, 1) := by decide +kernel
theorem dX1_isBuilt_20 : decode cX1_isBuilt 20 = .ok (.getfield 32, 3) := by decide +kernel
theorem dX1_isBuilt_23 : decode cX1_isBuilt 23 = .ok (.aload_n 0, 1) := by decide +kernel
theorem dX1_isBuilt_24 : decode cX1_isBuilt 24 = .ok (.getfield 19, 3) := by decide +kernel
theorem dX1_isBuilt_27 : decode cX1_isBuilt 27 = .ok (.getfield 59, 3) := by decide +kernel
theorem dX1_isBuilt_30 : decode cX1_isBuilt 30 = .ok (.iaload, 1) := by decide +kernel
theorem dX1_isBuilt_31 : decode cX1_isBuilt 31 = .ok (.aload_n 0, 1) := by decide +kernel
theorem dX1_isBuilt_32 : decode cX1_isBuilt 32 = .ok (.getfield 10, 3) := by decide +kernel
theorem dX1_isBuilt_35 : decode cX1_isBuilt 35 = .ok (.getfield 106, 3) := by decide +kernel
theorem dX1_isBuilt_38 : decode cX1_isBuilt 38 = .ok (.if_icmp .lt 7, 3) := by decide +kernel
theorem dX1_isBuilt_41 : decode cX1_isBuilt 41 = .ok (.iconst 1, 1) := by decide +kernel
theorem dX1_isBuilt_42 : decode cX1_isBuilt 42 = .ok (.goto 4, 3) := by decide +kernel
theorem dX1_isBuilt_45 : decode cX1_isBuilt 45 = .ok (.iconst 0, 1) := by decide +kernel
theorem dX1_isBuilt_46 : decode cX1_isBuilt 46 = .ok (.ireturn, 1) := by decide +kernel
theorem dX1_isSecondBuilt_0 : decode cX1_isSecondBuilt 0 = .ok (.aload_n 0, 1) := by decide +kernel
theorem dX1_isSecondBuilt_1 : decode cX1_isSecondBuilt 1 = .ok (.getfield 10, 3) := by decide +kernel
theorem dX1_isSecondBuilt_4 : decode cX1_isSecondBuilt 4 = .ok (.getfield 72, 3) := by decide +kernel
theorem dX1_isSecondBuilt_7 : decode cX1_isSecondBuilt 7 = .ok (.ifCond .le 29, 3) := by decide +kernel
theorem dX1_isSecondBuilt_10 : decode cX1_isSecondBuilt 10 = .ok (.aload_n 0, 1) := by decide +kernel
theorem dX1_isSecondBuilt_11 : decode cX1_isSecondBuilt 11 = .ok (.getfield 35, 3) := by decide +kernel
theorem dX1_isSecondBuilt_14 : decode cX1_isSecondBuilt 14 = .ok (.aload_n 0, 1) := by decide +kernel
theorem dX1_isSecondBuilt_15 : decode cX1_isSecondBuilt 15 = .ok (.getfield 19, 3) := by decide +kernel
theorem dX1_isSecondBuilt_18 : decode cX1_isSecondBuilt 18 = .ok (.getfield 59, 3) := by decide +kernel
theorem dX1_isSecondBuilt_21 : decode cX1_isSecondBuilt 21 = .ok (.iaload, 1) := by decide +kernel
theorem dX1_isSecondBuilt_22 : decode cX1_isSecondBuilt 22 = .ok (.aload_n 0, 1) := by decide +kernel
theorem dX1_isSecondBuilt_23 : decode cX1_isSecondBuilt 23 = .ok (.getfield 10, 3) := by decide +kernel
theorem dX1_isSecondBuilt_26 : decode cX1_isSecondBuilt 26 = .ok (.getfield 72, 3) := by decide +kernel
theorem dX1_isSecondBuilt_29 : decode cX1_isSecondBuilt 29 = .ok (.if_icmp .lt 7, 3) := by decide +kernel
theorem dX1_isSecondBuilt_32 : decode cX1_isSecondBuilt 32 = .ok (.iconst 1, 1) := by decide +kernel
theorem dX1_isSecondBuilt_33 : decode cX1_isSecondBuilt 33 = .ok (.goto 4, 3) := by decide +kernel
theorem dX1_isSecondBuilt_36 : decode cX1_isSecondBuilt 36 = .ok (.iconst 0, 1) := by decide +kernel
theorem dX1_isSecondBuilt_37 : decode cX1_isSecondBuilt 37 = .ok (.ireturn, 1) := by decide +kernel
theorem dX1_hasAt_0 : decode cX1_hasAt 0 = .ok (.iload_n 1, 1) := by decide +kernel
theorem dX1_hasAt_1 : decode cX1_hasAt 1 = .ok (.ifCond .lt 14, 3) := by decide +kernel
theorem dX1_hasAt_4 : decode cX1_hasAt 4 = .ok (.iload_n 1, 1) := by decide +kernel
theorem dX1_hasAt_5 : decode cX1_hasAt 5 = .ok (.aload_n 0, 1) := by decide +kernel
theorem dX1_hasAt_6 : decode cX1_hasAt 6 = .ok (.getfield 19, 3) := by decide +kernel
theorem dX1_hasAt_9 : decode cX1_hasAt 9 = .ok (.getfield 59, 3) := by decide +kernel
theorem dX1_hasAt_12 : decode cX1_hasAt 12 = .ok (.if_icmp .lt 5, 3) := by decide +kernel
theorem dX1_hasAt_15 : decode cX1_hasAt 15 = .ok (.iconst 0, 1) := by decide +kernel
theorem dX1_hasAt_16 : decode cX1_hasAt 16 = .ok (.ireturn, 1) := by decide +kernel
theorem dX1_hasAt_17 : decode cX1_hasAt 17 = .ok (.aload_n 0, 1) := by decide +kernel
theorem dX1_hasAt_18 : decode cX1_hasAt 18 = .ok (.getfield 25, 3) := by decide +kernel
theorem dX1_hasAt_21 : decode cX1_hasAt 21 = .ok (.iload_n 1, 1) := by decide +kernel
theorem dX1_hasAt_22 : decode cX1_hasAt 22 = .ok (.iaload, 1) := by decide +kernel
theorem dX1_hasAt_23 : decode cX1_hasAt 23 = .ok (.istore_n 3, 1) := by decide +kernel
theorem dX1_hasAt_24 : decode cX1_hasAt 24 = .ok (.aload_n 0, 1) := by decide +kernel
theorem dX1_hasAt_25 : decode cX1_hasAt 25 = .ok (.invokevirtual 109, 3) := by decide +kernel
theorem dX1_hasAt_28 : decode cX1_hasAt 28 = .ok (.ifCond .ne 19, 3) := by decide +kernel
theorem dX1_hasAt_31 : decode cX1_hasAt 31 = .ok (.iload_n 3, 1) := by decide +kernel
theorem dX1_hasAt_32 : decode cX1_hasAt 32 = .ok (.ifCond .le 13, 3) := by decide +kernel
theorem dX1_hasAt_35 : decode cX1_hasAt 35 = .ok (.aload_n 0, 1) := by decide +kernel
theorem dX1_hasAt_36 : decode cX1_hasAt 36 = .ok (.getfield 10, 3) := by decide +kernel
theorem dX1_hasAt_39 : decode cX1_hasAt 39 = .ok (.getfield 113, 3) := by decide +kernel
theorem dX1_hasAt_42 : decode cX1_hasAt 42 = .ok (.goto 4, 3) := by decide +kernel
theorem dX1_hasAt_45 : decode cX1_hasAt 45 = .ok (.iconst 0, 1) := by decide +kernel
theorem dX1_hasAt_46 : decode cX1_hasAt 46 = .ok (.ireturn, 1) := by decide +kernel
theorem dX1_hasAt_47 : decode cX1_hasAt 47 = .ok (.iload_n 2, 1) := by decide +kernel
theorem dX1_hasAt_48 : decode cX1_hasAt 48 = .ok (.iload_n 3, 1) := by decide +kernel
theorem dX1_hasAt_49 : decode cX1_hasAt 49 = .ok (.isub, 1) := by decide +kernel
theorem dX1_hasAt_50 : decode cX1_hasAt 50 = .ok (.istore 4, 2) := by decide +kernel
theorem dX1_hasAt_52 : decode cX1_hasAt 52 = .ok (.iload_n 3, 1) := by decide +kernel
theorem dX1_hasAt_53 : decode cX1_hasAt 53 = .ok (.ifCond .le 31, 3) := by decide +kernel
theorem dX1_hasAt_56 : decode cX1_hasAt 56 = .ok (.aload_n 0, 1) := by decide +kernel
theorem dX1_hasAt_57 : decode cX1_hasAt 57 = .ok (.getfield 19, 3) := by decide +kernel
theorem dX1_hasAt_60 : decode cX1_hasAt 60 = .ok (.getfield 90, 3) := by decide +kernel
theorem dX1_hasAt_63 : decode cX1_hasAt 63 = .ok (.iload_n 1, 1) := by decide +kernel
theorem dX1_hasAt_64 : decode cX1_hasAt 64 = .ok (.iaload, 1) := by decide +kernel
theorem dX1_hasAt_65 : decode cX1_hasAt 65 = .ok (.aload_n 0, 1) := by decide +kernel
theorem dX1_hasAt_66 : decode cX1_hasAt 66 = .ok (.getfield 10, 3) := by decide +kernel
theorem dX1_hasAt_69 : decode cX1_hasAt 69 = .ok (.getfield 93, 3) := by decide +kernel
theorem dX1_hasAt_72 : decode cX1_hasAt 72 = .ok (.if_icmp .gt 12, 3) := by decide +kernel
theorem dX1_hasAt_75 : decode cX1_hasAt 75 = .ok (.iload 4, 2) := by decide +kernel
theorem dX1_hasAt_77 : decode cX1_hasAt 77 = .ok (.aload_n 0, 1) := by decide +kernel
theorem dX1_hasAt_78 : decode cX1_hasAt 78 = .ok (.getfield 49, 3) := by decide +kernel
theorem dX1_hasAt_81 : decode cX1_hasAt 81 = .ok (.iadd, 1) := by decide +kernel
theorem dX1_hasAt_82 : decode cX1_hasAt 82 = .ok (.istore 4, 2) := by decide +kernel
theorem dX1_hasAt_84 : decode cX1_hasAt 84 = .ok (.aload_n 0, 1) := by decide +kernel
theorem dX1_hasAt_85 : decode cX1_hasAt 85 = .ok (.getfield 29, 3) := by decide +kernel
theorem dX1_hasAt_88 : decode cX1_hasAt 88 = .ok (.aload_n 0, 1) := by decide +kernel
theorem dX1_hasAt_89 : decode cX1_hasAt 89 = .ok (.getfield 19, 3) := by decide +kernel
theorem dX1_hasAt_92 : decode cX1_hasAt 92 = .ok (.getfield 59, 3) := by decide +kernel
theorem dX1_hasAt_95 : decode cX1_hasAt 95 = .ok (.iaload, 1) := by decide +kernel
theorem dX1_hasAt_96 : decode cX1_hasAt 96 = .ok (.istore 5, 2) := by decide +kernel
theorem dX1_hasAt_98 : decode cX1_hasAt 98 = .ok (.aload_n 0, 1) := by decide +kernel
theorem dX1_hasAt_99 : decode cX1_hasAt 99 = .ok (.getfield 10, 3) := by decide +kernel
theorem dX1_hasAt_102 : decode cX1_hasAt 102 = .ok (.getfield 116, 3) := by decide +kernel
theorem dX1_hasAt_105 : decode cX1_hasAt 105 = .ok (.ifCond .eq 25, 3) := by decide +kernel
theorem dX1_hasAt_108 : decode cX1_hasAt 108 = .ok (.iload 5, 2) := by decide +kernel
theorem dX1_hasAt_110 : decode cX1_hasAt 110 = .ok (.ifCond .le 20, 3) := by decide +kernel
theorem dX1_hasAt_113 : decode cX1_hasAt 113 = .ok (.iload 4, 2) := by decide +kernel
theorem dX1_hasAt_115 : decode cX1_hasAt 115 = .ok (.iload_n 3, 1) := by decide +kernel
theorem dX1_hasAt_116 : decode cX1_hasAt 116 = .ok (.iload 5, 2) := by decide +kernel
theorem dX1_hasAt_118 : decode cX1_hasAt 118 = .ok (.aload_n 0, 1) := by decide +kernel
theorem dX1_hasAt_119 : decode cX1_hasAt 119 = .ok (.getfield 45, 3) := by decide +kernel
theorem dX1_hasAt_122 : decode cX1_hasAt 122 = .ok (.isub, 1) := by decide +kernel
theorem dX1_hasAt_123 : decode cX1_hasAt 123 = .ok (.imul, 1) := by decide +kernel
theorem dX1_hasAt_124 : decode cX1_hasAt 124 = .ok (.iload 5, 2) := by decide +kernel
theorem dX1_hasAt_126 : decode cX1_hasAt 126 = .ok (.idiv, 1) := by decide +kernel
theorem dX1_hasAt_127 : decode cX1_hasAt 127 = .ok (.iadd, 1) := by decide +kernel
theorem dX1_hasAt_128 : decode cX1_hasAt 128 = .ok (.istore 4, 2) := by decide +kernel
theorem dX1_hasAt_130 : decode cX1_hasAt 130 = .ok (.iload 4, 2) := by decide +kernel
theorem dX1_hasAt_132 : decode cX1_hasAt 132 = .ok (.ireturn, 1) := by decide +kernel
theorem dX2_init_0 : decode cX2_init 0 = .ok (.aload_n 0, 1) := by decide +kernel
theorem dX2_init_1 : decode cX2_init 1 = .ok (.invokespecial 1, 3) := by decide +kernel
theorem dX2_init_4 : decode cX2_init 4 = .ok (.aload_n 0, 1) := by decide +kernel
theorem dX2_init_5 : decode cX2_init 5 = .ok (.new 7, 3) := by decide +kernel
theorem dX2_init_8 : decode cX2_init 8 = .ok (.dup, 1) := by decide +kernel
theorem dX2_init_9 : decode cX2_init 9 = .ok (.invokespecial 9, 3) := by decide +kernel
theorem dX2_init_12 : decode cX2_init 12 = .ok (.putfield 10, 3) := by decide +kernel
theorem dX2_init_15 : decode cX2_init 15 = .ok (.return_, 1) := by decide +kernel
theorem dX2_clear_0 : decode cX2_clear 0 = .ok (.aload_n 0, 1) := by decide +kernel
theorem dX2_clear_1 : decode cX2_clear 1 = .ok (.bipush 20, 2) := by decide +kernel
theorem dX2_clear_3 : decode cX2_clear 3 = .ok (.putfield 16, 3) := by decide +kernel
theorem dX2_clear_6 : decode cX2_clear 6 = .ok (.aload_n 0, 1) := by decide +kernel
theorem dX2_clear_7 : decode cX2_clear 7 = .ok (.iconst 0, 1) := by decide +kernel
theorem dX2_clear_8 : decode cX2_clear 8 = .ok (.putfield 20, 3) := by decide +kernel
theorem dX2_clear_11 : decode cX2_clear 11 = .ok (.aload_n 0, 1) := by decide +kernel
theorem dX2_clear_12 : decode cX2_clear 12 = .ok (.bipush 9, 2) := by decide +kernel
theorem dX2_clear_14 : decode cX2_clear 14 = .ok (.putfield 23, 3) := by decide +kernel
theorem dX2_clear_17 : decode cX2_clear 17 = .ok (.aload_n 0, 1) := by decide +kernel
theorem dX2_clear_18 : decode cX2_clear 18 = .ok (.bipush 20, 2) := by decide +kernel
theorem dX2_clear_20 : decode cX2_clear 20 = .ok (.putfield 26, 3) := by decide +kernel
theorem dX2_clear_23 : decode cX2_clear 23 = .ok (.aload_n 0, 1) := by decide +kernel
theorem dX2_clear_24 : decode cX2_clear 24 = .ok (.iconst 0, 1) := by decide +kernel
theorem dX2_clear_25 : decode cX2_clear 25 = .ok (.putfield 29, 3) := by decide +kernel
theorem dX2_clear_28 : decode cX2_clear 28 = .ok (.aload_n 0, 1) := by decide +kernel
theorem dX2_clear_29 : decode cX2_clear 29 = .ok (.iconst 0, 1) := by decide +kernel
theorem dX2_clear_30 : decode cX2_clear 30 = .ok (.putfield 32, 3) := by decide +kernel
theorem dX2_clear_33 : decode cX2_clear 33 = .ok (.aload_n 0, 1) := by decide +kernel
theorem dX2_clear_34 : decode cX2_clear 34 = .ok (.iconst 0, 1) := by decide +kernel
theorem dX2_clear_35 : decode cX2_clear 35 = .ok (.putfield 35, 3) := by decide +kernel
theorem dX2_clear_38 : decode cX2_clear 38 = .ok (.aload_n 0, 1) := by decide +kernel
theorem dX2_clear_39 : decode cX2_clear 39 = .ok (.iconst 0, 1) := by decide +kernel
theorem dX2_clear_40 : decode cX2_clear 40 = .ok (.putfield 38, 3) := by decide +kernel
theorem dX2_clear_43 : decode cX2_clear 43 = .ok (.aload_n 0, 1) := by decide +kernel
theorem dX2_clear_44 : decode cX2_clear 44 = .ok (.iconst 0, 1) := by decide +kernel
theorem dX2_clear_45 : decode cX2_clear 45 = .ok (.putfield 42, 3) := by decide +kernel
theorem dX2_clear_48 : decode cX2_clear 48 = .ok (.aload_n 0, 1) := by decide +kernel
theorem dX2_clear_49 : decode cX2_clear 49 = .ok (.iconst 0, 1) := by decide +kernel
theorem dX2_clear_50 : decode cX2_clear 50 = .ok (.putfield 45, 3) := by decide +kernel
theorem dX2_clear_53 : decode cX2_clear 53 = .ok (.aload_n 0, 1) := by decide +kernel
theorem dX2_clear_54 : decode cX2_clear 54 = .ok (.getfield 10, 3) := by decide +kernel
theorem dX2_clear_57 : decode cX2_clear 57 = .ok (.invokevirtual 48, 3) := by decide +kernel
theorem dX2_clear_60 : decode cX2_clear 60 = .ok (.return_, 1) := by decide +kernel
theorem dX2_setBar_0 : decode cX2_setBar 0 = .ok (.aload_n 0, 1) := by decide +kernel
theorem dX2_setBar_1 : decode cX2_setBar 1 = .ok (.iload_n 1, 1) := by decide +kernel
theorem dX2_setBar_2 : decode cX2_setBar 2 = .ok (.putfield 16, 3) := by decide +kernel
theorem dX2_setBar_5 : decode cX2_setBar 5 = .ok (.aload_n 0, 1) := by decide +kernel
theorem dX2_setBar_6 : decode cX2_setBar 6 = .ok (.iload_n 2, 1) := by decide +kernel
theorem dX2_setBar_7 : decode cX2_setBar 7 = .ok (.putfield 20, 3) := by decide +kernel
theorem dX2_setBar_10 : decode cX2_setBar 10 = .ok (.return_, 1) := by decide +kernel
theorem dX2_setExtra_0 : decode cX2_setExtra 0 = .ok (.aload_n 0, 1) := by decide +kernel
theorem dX2_setExtra_1 : decode cX2_setExtra 1 = .ok (.iload_n 1, 1) := by decide +kernel
theorem dX2_setExtra_2 : decode cX2_setExtra 2 = .ok (.putfield 32, 3) := by decide +kernel
theorem dX2_setExtra_5 : decode cX2_setExtra 5 = .ok (.aload_n 0, 1) := by decide +kernel
theorem dX2_setExtra_6 : decode cX2_setExtra 6 = .ok (.iload_n 2, 1) := by decide +kernel
theorem dX2_setExtra_7 : decode cX2_setExtra 7 = .ok (.putfield 35, 3) := by decide +kernel
theorem dX2_setExtra_10 : decode cX2_setExtra 10 = .ok (.return_, 1) := by decide +kernel
theorem dX2_setSecond_0 : decode cX2_setSecond 0 = .ok (.aload_n 0, 1) := by decide +kernel
theorem dX2_setSecond_1 : decode cX2_setSecond 1 = .ok (.iload_n 1, 1) := by decide +kernel
theorem dX2_setSecond_2 : decode cX2_setSecond 2 = .ok (.putfield 42, 3) := by decide +kernel
theorem dX2_setSecond_5 : decode cX2_setSecond 5 = .ok (.aload_n 0, 1) := by decide +kernel
theorem dX2_setSecond_6 : decode cX2_setSecond 6 = .ok (.iload_n 2, 1) := by decide +kernel
theorem dX2_setSecond_7 : decode cX2_setSecond 7 = .ok (.putfield 45, 3) := by decide +kernel
theorem dX2_setSecond_10 : decode cX2_setSecond 10 = .ok (.return_, 1) := by decide +kernel
theorem dX3_init_0 : decode cX3_init 0 = .ok (.aload_n 0, 1) := by decide +kernel
theorem dX3_init_1 : decode cX3_init 1 = .ok (.invokespecial 3, 3) := by decide +kernel
theorem dX3_init_4 : decode cX3_init 4 = .ok (.aload_n 0, 1) := by decide +kernel
theorem dX3_init_5 : decode cX3_init 5 = .ok (.iconst 5, 1) := by decide +kernel
theorem dX3_init_6 : decode cX3_init 6 = .ok (.newarray .int, 2) := by decide +kernel
theorem dX3_init_8 : decode cX3_init 8 = .ok (.putfield 11, 3) := by decide +kernel
theorem dX3_init_11 : decode cX3_init 11 = .ok (.return_, 1) := by decide +kernel
theorem dX3_read_0 : decode cX3_read 0 = .ok (.aload_n 2, 1) := by decide +kernel
theorem dX3_read_1 : decode cX3_read 1 = .ok (.invokevirtual 15, 3) := by decide +kernel
theorem dX3_read_4 : decode cX3_read 4 = .ok (.aload_n 0, 1) := by decide +kernel
theorem dX3_read_5 : decode cX3_read 5 = .ok (.iconst 0, 1) := by decide +kernel
theorem dX3_read_6 : decode cX3_read 6 = .ok (.putfield 20, 3) := by decide +kernel
theorem dX3_read_9 : decode cX3_read 9 = .ok (.iconst 0, 1) := by decide +kernel
theorem dX3_read_10 : decode cX3_read 10 = .ok (.istore_n 3, 1) := by decide +kernel
theorem dX3_read_11 : decode cX3_read 11 = .ok (.iload_n 3, 1) := by decide +kernel
theorem dX3_read_12 : decode cX3_read 12 = .ok (.sipush 300, 3) := by decide +kernel
theorem dX3_read_15 : decode cX3_read 15 = .ok (.if_icmp .ge 70, 3) := by decide +kernel
theorem dX3_read_18 : decode cX3_read 18 = .ok (.aload_n 0, 1) := by decide +kernel
theorem dX3_read_19 : decode cX3_read 19 = .ok (.getfield 20, 3) := by decide +kernel
theorem dX3_read_22 : decode cX3_read 22 = .ok (.aload_n 1, 1) := by decide +kernel
theorem dX3_read_23 : decode cX3_read 23 = .ok (.getfield 26, 3) := by decide +kernel
theorem dX3_read_26 : decode cX3_read 26 = .ok (.if_icmp .ge 59, 3) := by decide +kernel
theorem dX3_read_29 : decode cX3_read 29 = .ok (.aload_n 0, 1) := by decide +kernel
theorem dX3_read_30 : decode cX3_read 30 = .ok (.getfield 20, 3) := by decide +kernel
theorem dX3_read_33 : decode cX3_read 33 = .ok (.istore 4, 2) := by decide +kernel
theorem dX3_read_35 : decode cX3_read 35 = .ok (.aload_n 1, 1) := by decide +kernel
theorem dX3_read_36 : decode cX3_read 36 = .ok (.iload 4, 2) := by decide +kernel
theorem dX3_read_38 : decode cX3_read 38 = .ok (.invokevirtual 29, 3) := by decide +kernel
theorem dX3_read_41 : decode cX3_read 41 = .ok (.istore 5, 2) := by decide +kernel
theorem dX3_read_43 : decode cX3_read 43 = .ok (.aload_n 0, 1) := by decide +kernel
theorem dX3_read_44 : decode cX3_read 44 = .ok (.dup, 1) := by decide +kernel
theorem dX3_read_45 : decode cX3_read 45 = .ok (.getfield 20, 3) := by decide +kernel
theorem dX3_read_48 : decode cX3_read 48 = .ok (.iconst 1, 1) := by decide +kernel
theorem dX3_read_49 : decode cX3_read 49 = .ok (.iadd, 1) := by decide +kernel
theorem dX3_read_50 : decode cX3_read 50 = .ok (.putfield 20, 3) := by decide +kernel
theorem dX3_read_53 : decode cX3_read 53 = .ok (.aload_n 0, 1) := by decide +kernel
theorem dX3_read_54 : decode cX3_read 54 = .ok (.aload_n 1, 1) := by decide +kernel
theorem dX3_read_55 : decode cX3_read 55 = .ok (.iload 5, 2) := by decide +kernel
theorem dX3_read_57 : decode cX3_read 57 = .ok (.invokestatic 33, 3) := by decide +kernel
theorem dX3_read_60 : decode cX3_read 60 = .ok (.invokevirtual 36, 3) := by decide +kernel
theorem dX3_read_63 : decode cX3_read 63 = .ok (.ifCond .eq 13, 3) := by decide +kernel
theorem dX3_read_66 : decode cX3_read 66 = .ok (.aload_n 0, 1) := by decide +kernel
theorem dX3_read_67 : decode cX3_read 67 = .ok (.iload 5, 2) := by decide +kernel
theorem dX3_read_69 : decode cX3_read 69 = .ok (.aload_n 2, 1) := by decide +kernel
theorem dX3_read_70 : decode cX3_read 70 = .ok (.invokevirtual 40, 3) := by decide +kernel
theorem dX3_read_73 : decode cX3_read 73 = .ok (.ifCond .ne 6, 3) := by decide +kernel
theorem dX3_read_76 : decode cX3_read 76 = .ok (.iload 4, 2) := by decide +kernel
theorem dX3_read_78 : decode cX3_read 78 = .ok (.ireturn, 1) := by decide +kernel
theorem dX3_read_79 : decode cX3_read 79 = .ok (.iinc 3 1, 3) := by decide +kernel
theorem dX3_read_82 : decode cX3_read 82 = .ok (.goto (-71), 3) := by decide +kernel
theorem dX3_read_85 : decode cX3_read 85 = .ok (.aload_n 2, 1) := by decide +kernel
theorem dX3_read_86 : decode cX3_read 86 = .ok (.getfield 44, 3) := by decide +kernel
theorem dX3_read_89 : decode cX3_read 89 = .ok (.invokevirtual 48, 3) := by decide +kernel
theorem dX3_read_92 : decode cX3_read 92 = .ok (.ifCond .eq 8, 3) := by decide +kernel
theorem dX3_read_95 : decode cX3_read 95 = .ok (.bipush (-4), 2) := by decide +kernel
theorem dX3_read_97 : decode cX3_read 97 = .ok (.goto 7, 3) := by decide +kernel
theorem dX3_read_100 : decode cX3_read 100 = .ok (.aload_n 1, 1) := by decide +kernel
theorem dX3_read_101 : decode cX3_read 101 = .ok (.getfield 26, 3) := by decide +kernel
theorem dX3_read_104 : decode cX3_read 104 = .ok (.ireturn, 1) := by decide +kernel
theorem dX3_numbersOf_0 : decode cX3_numbersOf 0 = .ok (.iload_n 0, 1) := by decide +kernel
theorem dX3_numbersOf_1 : decode cX3_numbersOf 1 = .ok (.tableswitch 111 98 119 #[105, 103, 103, 105, 111, 109, 111, 111, 111, 111, 111, 111, 111, 103, 103, 111, 111, 105, 105, 111, 111, 107], 103) := by decide +kernel
theorem dX3_numbersOf_104 : decode cX3_numbersOf 104 = .ok (.iconst 1, 1) := by decide +kernel
theorem dX3_numbersOf_105 : decode cX3_numbersOf 105 = .ok (.ireturn, 1) := by decide +kernel
theorem dX3_numbersOf_106 : decode cX3_numbersOf 106 = .ok (.iconst 2, 1) := by decide +kernel
theorem dX3_numbersOf_107 : decode cX3_numbersOf 107 = .ok (.ireturn, 1) := by decide +kernel
theorem dX3_numbersOf_108 : decode cX3_numbersOf 108 = .ok (.iconst 3, 1) := by decide +kernel
theorem dX3_numbersOf_109 : decode cX3_numbersOf 109 = .ok (.ireturn, 1) := by decide +kernel
theorem dX3_numbersOf_110 : decode cX3_numbersOf 110 = .ok (.iconst 5, 1) := by decide +kernel
theorem dX3_numbersOf_111 : decode cX3_numbersOf 111 = .ok (.ireturn, 1) := by decide +kernel
theorem dX3_numbersOf_112 : decode cX3_numbersOf 112 = .ok (.iconst 0, 1) := by decide +kernel
theorem dX3_numbersOf_113 : decode cX3_numbersOf 113 = .ok (.ireturn, 1) := by decide +kernel
theorem dX3_readNumbers_0 : decode cX3_readNumbers 0 = .ok (.iload_n 2, 1) := by decide +kernel
theorem dX3_readNumbers_1 : decode cX3_readNumbers 1 = .ok (.iconst 1, 1) := by decide +kernel
theorem dX3_readNumbers_2 : decode cX3_readNumbers 2 = .ok (.if_icmp .lt 8, 3) := by decide +kernel
theorem dX3_readNumbers_5 : decode cX3_readNumbers 5 = .ok (.iload_n 2, 1) := by decide +kernel
theorem dX3_readNumbers_6 : decode cX3_readNumbers 6 = .ok (.iconst 5, 1) := by decide +kernel
theorem dX3_readNumbers_7 : decode cX3_readNumbers 7 = .ok (.if_icmp .le 5, 3) := by decide +kernel
theorem dX3_readNumbers_10 : decode cX3_readNumbers 10 = .ok (.iconst 0, 1) := by decide +kernel
theorem dX3_readNumbers_11 : decode cX3_readNumbers 11 = .ok (.ireturn, 1) := by decide +kernel
theorem dX3_readNumbers_12 : decode cX3_readNumbers 12 = .ok (.iconst 0, 1) := by decide +kernel
theorem dX3_readNumbers_13 : decode cX3_readNumbers 13 = .ok (.istore_n 3, 1) := by decide +kernel
theorem dX3_readNumbers_14 : decode cX3_readNumbers 14 = .ok (.iload_n 3, 1) := by decide +kernel
theorem dX3_readNumbers_15 : decode cX3_readNumbers 15 = .ok (.iload_n 2, 1) := by decide +kernel
theorem dX3_readNumbers_16 : decode cX3_readNumbers 16 = .ok (.if_icmp .ge 66, 3) := by decide +kernel
theorem dX3_readNumbers_19 : decode cX3_readNumbers 19 = .ok (.aload_n 0, 1) := by decide +kernel
theorem dX3_readNumbers_20 : decode cX3_readNumbers 20 = .ok (.getfield 11, 3) := by decide +kernel
theorem dX3_readNumbers_23 : decode cX3_readNumbers 23 = .ok (.iload_n 3, 1) := by decide +kernel
theorem dX3_readNumbers_24 : decode cX3_readNumbers 24 = .ok (.aload_n 0, 1) := by decide +kernel
theorem dX3_readNumbers_25 : decode cX3_readNumbers 25 = .ok (.aload_n 1, 1) := by decide +kernel
theorem dX3_readNumbers_26 : decode cX3_readNumbers 26 = .ok (.invokevirtual 54, 3) := by decide +kernel
theorem dX3_readNumbers_29 : decode cX3_readNumbers 29 = .ok (.iastore, 1) := by decide +kernel
theorem dX3_readNumbers_30 : decode cX3_readNumbers 30 = .ok (.aload_n 0, 1) := by decide +kernel
theorem dX3_readNumbers_31 : decode cX3_readNumbers 31 = .ok (.getfield 11, 3) := by decide +kernel
theorem dX3_readNumbers_34 : decode cX3_readNumbers 34 = .ok (.iload_n 3, 1) := by decide +kernel
theorem dX3_readNumbers_35 : decode cX3_readNumbers 35 = .ok (.iaload, 1) := by decide +kernel
theorem dX3_readNumbers_36 : decode cX3_readNumbers 36 = .ok (.ifCond .lt 28, 3) := by decide +kernel
theorem dX3_readNumbers_39 : decode cX3_readNumbers 39 = .ok (.aload_n 1, 1) := by decide +kernel
theorem dX3_readNumbers_40 : decode cX3_readNumbers 40 = .ok (.aload_n 0, 1) := by decide +kernel
theorem dX3_readNumbers_41 : decode cX3_readNumbers 41 = .ok (.getfield 20, 3) := by decide +kernel
theorem dX3_readNumbers_44 : decode cX3_readNumbers 44 = .ok (.invokevirtual 29, 3) := by decide +kernel
theorem dX3_readNumbers_47 : decode cX3_readNumbers 47 = .ok (.iload_n 3, 1) := by decide +kernel
theorem dX3_readNumbers_48 : decode cX3_readNumbers 48 = .ok (.iload_n 2, 1) := by decide +kernel
theorem dX3_readNumbers_49 : decode cX3_readNumbers 49 = .ok (.iconst 1, 1) := by decide +kernel
theorem dX3_readNumbers_50 : decode cX3_readNumbers 50 = .ok (.isub, 1) := by decide +kernel
theorem dX3_readNumbers_51 : decode cX3_readNumbers 51 = .ok (.if_icmp .ge 8, 3) := by decide +kernel
theorem dX3_readNumbers_54 : decode cX3_readNumbers 54 = .ok (.bipush 44, 2) := by decide +kernel
theorem dX3_readNumbers_56 : decode cX3_readNumbers 56 = .ok (.goto 5, 3) := by decide +kernel
theorem dX3_readNumbers_59 : decode cX3_readNumbers 59 = .ok (.bipush 59, 2) := by decide +kernel
theorem dX3_readNumbers_61 : decode cX3_readNumbers 61 = .ok (.if_icmp .eq 5, 3) := by decide +kernel
theorem dX3_readNumbers_64 : decode cX3_readNumbers 64 = .ok (.iconst 0, 1) := by decide +kernel
theorem dX3_readNumbers_65 : decode cX3_readNumbers 65 = .ok (.ireturn, 1) := by decide +kernel
theorem dX3_readNumbers_66 : decode cX3_readNumbers 66 = .ok (.aload_n 0, 1) := by decide +kernel
theorem dX3_readNumbers_67 : decode cX3_readNumbers 67 = .ok (.dup, 1) := by decide +kernel
theorem dX3_readNumbers_68 : decode cX3_readNumbers 68 = .ok (.getfield 20, 3) := by decide +kernel
theorem dX3_readNumbers_71 : decode cX3_readNumbers 71 = .ok (.iconst 1, 1) := by decide +kernel
theorem dX3_readNumbers_72 : decode cX3_readNumbers 72 = .ok (.iadd, 1) := by decide +kernel
theorem dX3_readNumbers_73 : decode cX3_readNumbers 73 = .ok (.putfield 20, 3) := by decide +kernel
theorem dX3_readNumbers_76 : decode cX3_readNumbers 76 = .ok (.iinc 3 1, 3) := by decide +kernel
theorem dX3_readNumbers_79 : decode cX3_readNumbers 79 = .ok (.goto (-65), 3) := by decide +kernel
theorem dX3_readNumbers_82 : decode cX3_readNumbers 82 = .ok (.iconst 1, 1) := by decide +kernel
theorem dX3_readNumbers_83 : decode cX3_readNumbers 83 = .ok (.ireturn, 1) := by decide +kernel
theorem dX3_readNumber_0 : decode cX3_readNumber 0 = .ok (.iconst 0, 1) := by decide +kernel
theorem dX3_readNumber_1 : decode cX3_readNumber 1 = .ok (.istore_n 2, 1) := by decide +kernel
theorem dX3_readNumber_2 : decode cX3_readNumber 2 = .ok (.iconst 0, 1) := by decide +kernel
theorem dX3_readNumber_3 : decode cX3_readNumber 3 = .ok (.istore_n 3, 1) := by decide +kernel
theorem dX3_readNumber_4 : decode cX3_readNumber 4 = .ok (.iload_n 3, 1) := by decide +kernel
theorem dX3_readNumber_5 : decode cX3_readNumber 5 = .ok (.iconst 3, 1) := by decide +kernel
theorem dX3_readNumber_6 : decode cX3_readNumber 6 = .ok (.if_icmp .gt 54, 3) := by decide +kernel
theorem dX3_readNumber_9 : decode cX3_readNumber 9 = .ok (.aload_n 1, 1) := by decide +kernel
theorem dX3_readNumber_10 : decode cX3_readNumber 10 = .ok (.aload_n 0, 1) := by decide +kernel
theorem dX3_readNumber_11 : decode cX3_readNumber 11 = .ok (.getfield 20, 3) := by decide +kernel
theorem dX3_readNumber_14 : decode cX3_readNumber 14 = .ok (.invokevirtual 29, 3) := by decide +kernel
theorem dX3_readNumber_17 : decode cX3_readNumber 17 = .ok (.bipush 48, 2) := by decide +kernel
theorem dX3_readNumber_19 : decode cX3_readNumber 19 = .ok (.bipush 57, 2) := by decide +kernel
theorem dX3_readNumber_21 : decode cX3_readNumber 21 = .ok (.invokestatic 58, 3) := by decide +kernel
theorem dX3_readNumber_24 : decode cX3_readNumber 24 = .ok (.ifCond .eq 36, 3) := by decide +kernel
theorem dX3_readNumber_27 : decode cX3_readNumber 27 = .ok (.iload_n 2, 1) := by decide +kernel
theorem dX3_readNumber_28 : decode cX3_readNumber 28 = .ok (.bipush 10, 2) := by decide +kernel
theorem dX3_readNumber_30 : decode cX3_readNumber 30 = .ok (.imul, 1) := by decide +kernel
theorem dX3_readNumber_31 : decode cX3_readNumber 31 = .ok (.aload_n 1, 1) := by decide +kernel
theorem dX3_readNumber_32 : decode cX3_readNumber 32 = .ok (.aload_n 0, 1) := by decide +kernel
theorem dX3_readNumber_33 : decode cX3_readNumber 33 = .ok (.getfield 20, 3) := by decide +kernel
theorem dX3_readNumber_36 : decode cX3_readNumber 36 = .ok (.invokevirtual 29, 3) := by decide +kernel
theorem dX3_readNumber_39 : decode cX3_readNumber 39 = .ok (.iadd, 1) := by decide +kernel
theorem dX3_readNumber_40 : decode cX3_readNumber 40 = .ok (.bipush 48, 2) := by decide +kernel
theorem dX3_readNumber_42 : decode cX3_readNumber 42 = .ok (.isub, 1) := by decide +kernel
theorem dX3_readNumber_43 : decode cX3_readNumber 43 = .ok (.istore_n 2, 1) := by decide +kernel
theorem dX3_readNumber_44 : decode cX3_readNumber 44 = .ok (.iinc 3 1, 3) := by decide +kernel
theorem dX3_readNumber_47 : decode cX3_readNumber 47 = .ok (.aload_n 0, 1) := by decide +kernel
theorem dX3_readNumber_48 : decode cX3_readNumber 48 = .ok (.dup, 1) := by decide +kernel
theorem dX3_readNumber_49 : decode cX3_readNumber 49 = .ok (.getfield 20, 3) := by decide +kernel
theorem dX3_readNumber_52 : decode cX3_readNumber 52 = .ok (.iconst 1, 1) := by decide +kernel
theorem dX3_readNumber_53 : decode cX3_readNumber 53 = .ok (.iadd, 1) := by decide +kernel
theorem dX3_readNumber_54 : decode cX3_readNumber 54 = .ok (.putfield 20, 3) := by decide +kernel
theorem dX3_readNumber_57 : decode cX3_readNumber 57 = .ok (.goto (-53), 3) := by decide +kernel
theorem dX3_readNumber_60 : decode cX3_readNumber 60 = .ok (.iload_n 3, 1) := by decide +kernel
theorem dX3_readNumber_61 : decode cX3_readNumber 61 = .ok (.iconst 1, 1) := by decide +kernel
theorem dX3_readNumber_62 : decode cX3_readNumber 62 = .ok (.if_icmp .lt 12, 3) := by decide +kernel
theorem dX3_readNumber_65 : decode cX3_readNumber 65 = .ok (.iload_n 3, 1) := by decide +kernel
theorem dX3_readNumber_66 : decode cX3_readNumber 66 = .ok (.iconst 3, 1) := by decide +kernel
theorem dX3_readNumber_67 : decode cX3_readNumber 67 = .ok (.if_icmp .gt 7, 3) := by decide +kernel
theorem dX3_readNumber_70 : decode cX3_readNumber 70 = .ok (.iload_n 2, 1) := by decide +kernel
theorem dX3_readNumber_71 : decode cX3_readNumber 71 = .ok (.goto 4, 3) := by decide +kernel
theorem dX3_readNumber_74 : decode cX3_readNumber 74 = .ok (.iconst (-1), 1) := by decide +kernel
theorem dX3_readNumber_75 : decode cX3_readNumber 75 = .ok (.ireturn, 1) := by decide +kernel
theorem dX3_upTo_0 : decode cX3_upTo 0 = .ok (.iload_n 1, 1) := by decide +kernel
theorem dX3_upTo_1 : decode cX3_upTo 1 = .ok (.ifCond .lt 22, 3) := by decide +kernel
theorem dX3_upTo_4 : decode cX3_upTo 4 = .ok (.iload_n 1, 1) := by decide +kernel
theorem dX3_upTo_5 : decode cX3_upTo 5 = .ok (.iconst 5, 1) := by decide +kernel
theorem dX3_upTo_6 : decode cX3_upTo 6 = .ok (.if_icmp .ge 17, 3) := by decide +kernel
theorem dX3_upTo_9 : decode cX3_upTo 9 = .ok (.aload_n 0, 1) := by decide +kernel
theorem dX3_upTo_10 : decode cX3_upTo 10 = .ok (.getfield 11, 3) := by decide +kernel
theorem dX3_upTo_13 : decode cX3_upTo 13 = .ok (.iload_n 1, 1) := by decide +kernel
theorem dX3_upTo_14 : decode cX3_upTo 14 = .ok (.iaload, 1) := by decide +kernel
theorem dX3_upTo_15 : decode cX3_upTo 15 = .ok (.iload_n 2, 1) := by decide +kernel
theorem dX3_upTo_16 : decode cX3_upTo 16 = .ok (.if_icmp .gt 7, 3) := by decide +kernel
theorem dX3_upTo_19 : decode cX3_upTo 19 = .ok (.iconst 1, 1) := by decide +kernel
theorem dX3_upTo_20 : decode cX3_upTo 20 = .ok (.goto 4, 3) := by decide +kernel
theorem dX3_upTo_23 : decode cX3_upTo 23 = .ok (.iconst 0, 1) := by decide +kernel
theorem dX3_upTo_24 : decode cX3_upTo 24 = .ok (.ireturn, 1) := by decide +kernel
theorem dX3_take_0 : decode cX3_take 0 = .ok (.iload_n 1, 1) := by decide +kernel
theorem dX3_take_1 : decode cX3_take 1 = .ok (.tableswitch 312 98 115 #[87, 155, 137, 192, 312, 312, 312, 312, 312, 312, 312, 312, 312, 234, 174, 312, 312, 260], 87) := by decide +kernel
theorem dX3_take_88 : decode cX3_take 88 = .ok (.aload_n 0, 1) := by decide +kernel
theorem dX3_take_89 : decode cX3_take 89 = .ok (.getfield 11, 3) := by decide +kernel
theorem dX3_take_92 : decode cX3_take 92 = .ok (.iconst 0, 1) := by decide +kernel
theorem dX3_take_93 : decode cX3_take 93 = .ok (.iaload, 1) := by decide +kernel
theorem dX3_take_94 : decode cX3_take 94 = .ok (.iconst 1, 1) := by decide +kernel
theorem dX3_take_95 : decode cX3_take 95 = .ok (.if_icmp .lt 23, 3) := by decide +kernel
theorem dX3_take_98 : decode cX3_take 98 = .ok (.aload_n 0, 1) := by decide +kernel
theorem dX3_take_99 : decode cX3_take 99 = .ok (.iconst 0, 1) := by decide +kernel
theorem dX3_take_100 : decode cX3_take 100 = .ok (.bipush 60, 2) := by decide +kernel
theorem dX3_take_102 : decode cX3_take 102 = .ok (.invokevirtual 62, 3) := by decide +kernel
theorem dX3_take_105 : decode cX3_take 105 = .ok (.ifCond .eq 13, 3) := by decide +kernel
theorem dX3_take_108 : decode cX3_take 108 = .ok (.aload_n 0, 1) := by decide +kernel
theorem dX3_take_109 : decode cX3_take 109 = .ok (.iconst 1, 1) := by decide +kernel
theorem dX3_take_110 : decode cX3_take 110 = .ok (.bipush 8, 2) := by decide +kernel
theorem dX3_take_112 : decode cX3_take 112 = .ok (.invokevirtual 62, 3) := by decide +kernel
theorem dX3_take_115 : decode cX3_take 115 = .ok (.ifCond .ne 5, 3) := by decide +kernel
theorem dX3_take_118 : decode cX3_take 118 = .ok (.iconst 0, 1) := by decide +kernel
theorem dX3_take_119 : decode cX3_take 119 = .ok (.ireturn, 1) := by decide +kernel
theorem dX3_take_120 : decode cX3_take 120 = .ok (.aload_n 2, 1) := by decide +kernel
theorem dX3_take_121 : decode cX3_take 121 = .ok (.aload_n 0, 1) := by decide +kernel
theorem dX3_take_122 : decode cX3_take 122 = .ok (.getfield 11, 3) := by decide +kernel
theorem dX3_take_125 : decode cX3_take 125 = .ok (.iconst 0, 1) := by decide +kernel
theorem dX3_take_126 : decode cX3_take 126 = .ok (.iaload, 1) := by decide +kernel
theorem dX3_take_127 : decode cX3_take 127 = .ok (.aload_n 0, 1) := by decide +kernel
theorem dX3_take_128 : decode cX3_take 128 = .ok (.getfield 11, 3) := by decide +kernel
theorem dX3_take_131 : decode cX3_take 131 = .ok (.iconst 1, 1) := by decide +kernel
theorem dX3_take_132 : decode cX3_take 132 = .ok (.iaload, 1) := by decide +kernel
theorem dX3_take_133 : decode cX3_take 133 = .ok (.invokevirtual 66, 3) := by decide +kernel
theorem dX3_take_136 : decode cX3_take 136 = .ok (.iconst 1, 1) := by decide +kernel
theorem dX3_take_137 : decode cX3_take 137 = .ok (.ireturn, 1) := by decide +kernel
theorem dX3_take_138 : decode cX3_take 138 = .ok (.aload_n 2, 1) := by decide +kernel
theorem dX3_take_139 : decode cX3_take 139 = .ok (.aload_n 0, 1) := by decide +kernel
theorem dX3_take_140 : decode cX3_take 140 = .ok (.getfield 11, 3) := by decide +kernel
theorem dX3_take_143 : decode cX3_take 143 = .ok (.iconst 0, 1) := by decide +kernel
theorem dX3_take_144 : decode cX3_take 144 = .ok (.iaload, 1) := by decide +kernel
theorem dX3_take_145 : decode cX3_take 145 = .ok (.putfield 70, 3) := by decide +kernel
theorem dX3_take_148 : decode cX3_take 148 = .ok (.aload_n 0, 1) := by decide +kernel
theorem dX3_take_149 : decode cX3_take 149 = .ok (.iconst 0, 1) := by decide +kernel
theorem dX3_take_150 : decode cX3_take 150 = .ok (.bipush 30, 2) := by decide +kernel
theorem dX3_take_152 : decode cX3_take 152 = .ok (.invokevirtual 62, 3) := by decide +kernel
theorem dX3_take_155 : decode cX3_take 155 = .ok (.ireturn, 1) := by decide +kernel
theorem dX3_take_156 : decode cX3_take 156 = .ok (.aload_n 2, 1) := by decide +kernel
theorem dX3_take_157 : decode cX3_take 157 = .ok (.aload_n 0, 1) := by decide +kernel
theorem dX3_take_158 : decode cX3_take 158 = .ok (.getfield 11, 3) := by decide +kernel
theorem dX3_take_161 : decode cX3_take 161 = .ok (.iconst 0, 1) := by decide +kernel
theorem dX3_take_162 : decode cX3_take 162 = .ok (.iaload, 1) := by decide +kernel
theorem dX3_take_163 : decode cX3_take 163 = .ok (.putfield 73, 3) := by decide +kernel
theorem dX3_take_166 : decode cX3_take 166 = .ok (.aload_n 0, 1) := by decide +kernel
theorem dX3_take_167 : decode cX3_take 167 = .ok (.iconst 0, 1) := by decide +kernel
theorem dX3_take_168 : decode cX3_take 168 = .ok (.sipush 199, 3) := by decide +kernel
theorem dX3_take_171 : decode cX3_take 171 = .ok (.invokevirtual 62, 3) := by decide +kernel
theorem dX3_take_174 : decode cX3_take 174 = .ok (.ireturn, 1) := by decide +kernel
theorem dX3_take_175 : decode cX3_take 175 = .ok (.aload_n 2, 1) := by decide +kernel
theorem dX3_take_176 : decode cX3_take 176 = .ok (.aload_n 0, 1) := by decide +kernel
theorem dX3_take_177 : decode cX3_take 177 = .ok (.getfield 11, 3) := by decide +kernel
theorem dX3_take_180 : decode cX3_take 180 = .ok (.iconst 0, 1) := by decide +kernel
theorem dX3_take_181 : decode cX3_take 181 = .ok (.iaload, 1) := by decide +kernel
theorem dX3_take_182 : decode cX3_take 182 = .ok (.putfield 76, 3) := by decide +kernel
theorem dX3_take_185 : decode cX3_take 185 = .ok (.aload_n 0, 1) := by decide +kernel
theorem dX3_take_186 : decode cX3_take 186 = .ok (.iconst 0, 1) := by decide +kernel
theorem dX3_take_187 : decode cX3_take 187 = .ok (.bipush 9, 2) := by decide +kernel
theorem dX3_take_189 : decode cX3_take 189 = .ok (.invokevirtual 62, 3) := by decide +kernel
theorem dX3_take_192 : decode cX3_take 192 = .ok (.ireturn, 1) := by decide +kernel
theorem dX3_take_193 : decode cX3_take 193 = .ok (.aload_n 2, 1) := by decide +kernel
theorem dX3_take_194 : decode cX3_take 194 = .ok (.aload_n 0, 1) := by decide +kernel
theorem dX3_take_195 : decode cX3_take 195 = .ok (.getfield 11, 3) := by decide +kernel
theorem dX3_take_198 : decode cX3_take 198 = .ok (.iconst 0, 1) := by decide +kernel
theorem dX3_take_199 : decode cX3_take 199 = .ok (.iaload, 1) := by decide +kernel
theorem dX3_take_200 : decode cX3_take 200 = .ok (.aload_n 0, 1) := by decide +kernel
theorem dX3_take_201 : decode cX3_take 201 = .ok (.getfield 11, 3) := by decide +kernel
theorem dX3_take_204 : decode cX3_take 204 = .ok (.iconst 1, 1) := by decide +kernel
theorem dX3_take_205 : decode cX3_take 205 = .ok (.iaload, 1) := by decide +kernel
theorem dX3_take_206 : decode cX3_take 206 = .ok (.invokevirtual 79, 3) := by decide +kernel
theorem dX3_take_209 : decode cX3_take 209 = .ok (.aload_n 0, 1) := by decide +kernel
theorem dX3_take_210 : decode cX3_take 210 = .ok (.iconst 0, 1) := by decide +kernel
theorem dX3_take_211 : decode cX3_take 211 = .ok (.bipush 9, 2) := by decide +kernel
theorem dX3_take_213 : decode cX3_take 213 = .ok (.invokevirtual 62, 3) := by decide +kernel
theorem dX3_take_216 : decode cX3_take 216 = .ok (.ifCond .eq 17, 3) := by decide +kernel
theorem dX3_take_219 : decode cX3_take 219 = .ok (.aload_n 0, 1) := by decide +kernel
theorem dX3_take_220 : decode cX3_take 220 = .ok (.iconst 1, 1) := by decide +kernel
theorem dX3_take_221 : decode cX3_take 221 = .ok (.bipush 30, 2) := by decide +kernel
theorem dX3_take_223 : decode cX3_take 223 = .ok (.invokevirtual 62, 3) := by decide +kernel
theorem dX3_take_226 : decode cX3_take 226 = .ok (.ifCond .eq 7, 3) := by decide +kernel
theorem dX3_take_229 : decode cX3_take 229 = .ok (.iconst 1, 1) := by decide +kernel
theorem dX3_take_230 : decode cX3_take 230 = .ok (.goto 4, 3) := by decide +kernel
theorem dX3_take_233 : decode cX3_take 233 = .ok (.iconst 0, 1) := by decide +kernel
theorem dX3_take_234 : decode cX3_take 234 = .ok (.ireturn, 1) := by decide +kernel
theorem dX3_take_235 : decode cX3_take 235 = .ok (.aload_n 2, 1) := by decide +kernel
theorem dX3_take_236 : decode cX3_take 236 = .ok (.aload_n 0, 1) := by decide +kernel
theorem dX3_take_237 : decode cX3_take 237 = .ok (.getfield 11, 3) := by decide +kernel
theorem dX3_take_240 : decode cX3_take 240 = .ok (.iconst 0, 1) := by decide +kernel
theorem dX3_take_241 : decode cX3_take 241 = .ok (.iaload, 1) := by decide +kernel
theorem dX3_take_242 : decode cX3_take 242 = .ok (.iconst 1, 1) := by decide +kernel
theorem dX3_take_243 : decode cX3_take 243 = .ok (.if_icmp .ne 7, 3) := by decide +kernel
theorem dX3_take_246 : decode cX3_take 246 = .ok (.iconst 1, 1) := by decide +kernel
theorem dX3_take_247 : decode cX3_take 247 = .ok (.goto 4, 3) := by decide +kernel
theorem dX3_take_250 : decode cX3_take 250 = .ok (.iconst 0, 1) := by decide +kernel
theorem dX3_take_251 : decode cX3_take 251 = .ok (.putfield 82, 3) := by decide +kernel
theorem dX3_take_254 : decode cX3_take 254 = .ok (.aload_n 0, 1) := by decide +kernel
theorem dX3_take_255 : decode cX3_take 255 = .ok (.iconst 0, 1) := by decide +kernel
theorem dX3_take_256 : decode cX3_take 256 = .ok (.iconst 1, 1) := by decide +kernel
theorem dX3_take_257 : decode cX3_take 257 = .ok (.invokevirtual 62, 3) := by decide +kernel
theorem dX3_take_260 : decode cX3_take 260 = .ok (.ireturn, 1) := by decide +kernel
theorem dX3_take_261 : decode cX3_take 261 = .ok (.aload_n 2, 1) := by decide +kernel
theorem dX3_take_262 : decode cX3_take 262 = .ok (.aload_n 0, 1) := by decide +kernel
theorem dX3_take_263 : decode cX3_take 263 = .ok (.getfield 11, 3) := by decide +kernel
theorem dX3_take_266 : decode cX3_take 266 = .ok (.iconst 0, 1) := by decide +kernel
theorem dX3_take_267 : decode cX3_take 267 = .ok (.iaload, 1) := by decide +kernel
theorem dX3_take_268 : decode cX3_take 268 = .ok (.aload_n 0, 1) := by decide +kernel
theorem dX3_take_269 : decode cX3_take 269 = .ok (.getfield 11, 3) := by decide +kernel
theorem dX3_take_272 : decode cX3_take 272 = .ok (.iconst 1, 1) := by decide +kernel
theorem dX3_take_273 : decode cX3_take 273 = .ok (.iaload, 1) := by decide +kernel
theorem dX3_take_274 : decode cX3_take 274 = .ok (.invokevirtual 86, 3) := by decide +kernel
theorem dX3_take_277 : decode cX3_take 277 = .ok (.aload_n 0, 1) := by decide +kernel
theorem dX3_take_278 : decode cX3_take 278 = .ok (.getfield 11, 3) := by decide +kernel
theorem dX3_take_281 : decode cX3_take 281 = .ok (.iconst 0, 1) := by decide +kernel
theorem dX3_take_282 : decode cX3_take 282 = .ok (.iaload, 1) := by decide +kernel
theorem dX3_take_283 : decode cX3_take 283 = .ok (.iconst 1, 1) := by decide +kernel
theorem dX3_take_284 : decode cX3_take 284 = .ok (.if_icmp .lt 27, 3) := by decide +kernel
theorem dX3_take_287 : decode cX3_take 287 = .ok (.aload_n 0, 1) := by decide +kernel
theorem dX3_take_288 : decode cX3_take 288 = .ok (.iconst 0, 1) := by decide +kernel
theorem dX3_take_289 : decode cX3_take 289 = .ok (.bipush 60, 2) := by decide +kernel
theorem dX3_take_291 : decode cX3_take 291 = .ok (.invokevirtual 62, 3) := by decide +kernel
theorem dX3_take_294 : decode cX3_take 294 = .ok (.ifCond .eq 17, 3) := by decide +kernel
theorem dX3_take_297 : decode cX3_take 297 = .ok (.aload_n 0, 1) := by decide +kernel
theorem dX3_take_298 : decode cX3_take 298 = .ok (.iconst 1, 1) := by decide +kernel
theorem dX3_take_299 : decode cX3_take 299 = .ok (.bipush 99, 2) := by decide +kernel
theorem dX3_take_301 : decode cX3_take 301 = .ok (.invokevirtual 62, 3) := by decide +kernel
theorem dX3_take_304 : decode cX3_take 304 = .ok (.ifCond .eq 7, 3) := by decide +kernel
theorem dX3_take_307 : decode cX3_take 307 = .ok (.iconst 1, 1) := by decide +kernel
theorem dX3_take_308 : decode cX3_take 308 = .ok (.goto 4, 3) := by decide +kernel
theorem dX3_take_311 : decode cX3_take 311 = .ok (.iconst 0, 1) := by decide +kernel
theorem dX3_take_312 : decode cX3_take 312 = .ok (.ireturn, 1) := by decide +kernel
theorem dX3_take_313 : decode cX3_take 313 = .ok (.aload_n 0, 1) := by decide +kernel
theorem dX3_take_314 : decode cX3_take 314 = .ok (.iload_n 1, 1) := by decide +kernel
theorem dX3_take_315 : decode cX3_take 315 = .ok (.aload_n 2, 1) := by decide +kernel
theorem dX3_take_316 : decode cX3_take 316 = .ok (.getfield 44, 3) := by decide +kernel
theorem dX3_take_319 : decode cX3_take 319 = .ok (.invokevirtual 89, 3) := by decide +kernel
theorem dX3_take_322 : decode cX3_take 322 = .ok (.ireturn, 1) := by decide +kernel
theorem dX3_takeSort_0 : decode cX3_takeSort 0 = .ok (.iload_n 1, 1) := by decide +kernel
theorem dX3_takeSort_1 : decode cX3_takeSort 1 = .ok (.lookupswitch 213 #[(103, 35), (116, 178), (119, 117)], 35) := by decide +kernel
theorem dX3_takeSort_36 : decode cX3_takeSort 36 = .ok (.aload_n 0, 1) := by decide +kernel
theorem dX3_takeSort_37 : decode cX3_takeSort 37 = .ok (.iconst 1, 1) := by decide +kernel
theorem dX3_takeSort_38 : decode cX3_takeSort 38 = .ok (.iconst 5, 1) := by decide +kernel
theorem dX3_takeSort_39 : decode cX3_takeSort 39 = .ok (.invokevirtual 62, 3) := by decide +kernel
theorem dX3_takeSort_42 : decode cX3_takeSort 42 = .ok (.ifCond .eq 74, 3) := by decide +kernel
theorem dX3_takeSort_45 : decode cX3_takeSort 45 = .ok (.aload_n 0, 1) := by decide +kernel
theorem dX3_takeSort_46 : decode cX3_takeSort 46 = .ok (.iconst 2, 1) := by decide +kernel
theorem dX3_takeSort_47 : decode cX3_takeSort 47 = .ok (.bipush 30, 2) := by decide +kernel
theorem dX3_takeSort_49 : decode cX3_takeSort 49 = .ok (.invokevirtual 62, 3) := by decide +kernel
theorem dX3_takeSort_52 : decode cX3_takeSort 52 = .ok (.ifCond .eq 64, 3) := by decide +kernel
theorem dX3_takeSort_55 : decode cX3_takeSort 55 = .ok (.aload_n 0, 1) := by decide +kernel
theorem dX3_takeSort_56 : decode cX3_takeSort 56 = .ok (.iconst 3, 1) := by decide +kernel
theorem dX3_takeSort_57 : decode cX3_takeSort 57 = .ok (.bipush 30, 2) := by decide +kernel
theorem dX3_takeSort_59 : decode cX3_takeSort 59 = .ok (.invokevirtual 62, 3) := by decide +kernel
theorem dX3_takeSort_62 : decode cX3_takeSort 62 = .ok (.ifCond .eq 54, 3) := by decide +kernel
theorem dX3_takeSort_65 : decode cX3_takeSort 65 = .ok (.aload_n 0, 1) := by decide +kernel
theorem dX3_takeSort_66 : decode cX3_takeSort 66 = .ok (.iconst 4, 1) := by decide +kernel
theorem dX3_takeSort_67 : decode cX3_takeSort 67 = .ok (.bipush 9, 2) := by decide +kernel
theorem dX3_takeSort_69 : decode cX3_takeSort 69 = .ok (.invokevirtual 62, 3) := by decide +kernel
theorem dX3_takeSort_72 : decode cX3_takeSort 72 = .ok (.ifCond .eq 44, 3) := by decide +kernel
theorem dX3_takeSort_75 : decode cX3_takeSort 75 = .ok (.aload_n 2, 1) := by decide +kernel
theorem dX3_takeSort_76 : decode cX3_takeSort 76 = .ok (.aload_n 0, 1) := by decide +kernel
theorem dX3_takeSort_77 : decode cX3_takeSort 77 = .ok (.getfield 11, 3) := by decide +kernel
theorem dX3_takeSort_80 : decode cX3_takeSort 80 = .ok (.iconst 0, 1) := by decide +kernel
theorem dX3_takeSort_81 : decode cX3_takeSort 81 = .ok (.iaload, 1) := by decide +kernel
theorem dX3_takeSort_82 : decode cX3_takeSort 82 = .ok (.aload_n 0, 1) := by decide +kernel
theorem dX3_takeSort_83 : decode cX3_takeSort 83 = .ok (.getfield 11, 3) := by decide +kernel
theorem dX3_takeSort_86 : decode cX3_takeSort 86 = .ok (.iconst 1, 1) := by decide +kernel
theorem dX3_takeSort_87 : decode cX3_takeSort 87 = .ok (.iaload, 1) := by decide +kernel
theorem dX3_takeSort_88 : decode cX3_takeSort 88 = .ok (.aload_n 0, 1) := by decide +kernel
theorem dX3_takeSort_89 : decode cX3_takeSort 89 = .ok (.getfield 11, 3) := by decide +kernel
theorem dX3_takeSort_92 : decode cX3_takeSort 92 = .ok (.iconst 2, 1) := by decide +kernel
theorem dX3_takeSort_93 : decode cX3_takeSort 93 = .ok (.iaload, 1) := by decide +kernel
theorem dX3_takeSort_94 : decode cX3_takeSort 94 = .ok (.aload_n 0, 1) := by decide +kernel
theorem dX3_takeSort_95 : decode cX3_takeSort 95 = .ok (.getfield 11, 3) := by decide +kernel
theorem dX3_takeSort_98 : decode cX3_takeSort 98 = .ok (.iconst 3, 1) := by decide +kernel
theorem dX3_takeSort_99 : decode cX3_takeSort 99 = .ok (.iaload, 1) := by decide +kernel
theorem dX3_takeSort_100 : decode cX3_takeSort 100 = .ok (.aload_n 0, 1) := by decide +kernel
theorem dX3_takeSort_101 : decode cX3_takeSort 101 = .ok (.getfield 11, 3) := by decide +kernel
theorem dX3_takeSort_104 : decode cX3_takeSort 104 = .ok (.iconst 4, 1) := by decide +kernel
theorem dX3_takeSort_105 : decode cX3_takeSort 105 = .ok (.iaload, 1) := by decide +kernel
theorem dX3_takeSort_106 : decode cX3_takeSort 106 = .ok (.invokevirtual 93, 3) := by decide +kernel
theorem dX3_takeSort_109 : decode cX3_takeSort 109 = .ok (.ifCond .eq 7, 3) := by decide +kernel
theorem dX3_takeSort_112 : decode cX3_takeSort 112 = .ok (.iconst 1, 1) := by decide +kernel
theorem dX3_takeSort_113 : decode cX3_takeSort 113 = .ok (.goto 4, 3) := by decide +kernel
theorem dX3_takeSort_116 : decode cX3_takeSort 116 = .ok (.iconst 0, 1) := by decide +kernel
theorem dX3_takeSort_117 : decode cX3_takeSort 117 = .ok (.ireturn, 1) := by decide +kernel
theorem dX3_takeSort_118 : decode cX3_takeSort 118 = .ok (.aload_n 0, 1) := by decide +kernel
theorem dX3_takeSort_119 : decode cX3_takeSort 119 = .ok (.iconst 1, 1) := by decide +kernel
theorem dX3_takeSort_120 : decode cX3_takeSort 120 = .ok (.bipush 30, 2) := by decide +kernel
theorem dX3_takeSort_122 : decode cX3_takeSort 122 = .ok (.invokevirtual 62, 3) := by decide +kernel
theorem dX3_takeSort_125 : decode cX3_takeSort 125 = .ok (.ifCond .eq 52, 3) := by decide +kernel
theorem dX3_takeSort_128 : decode cX3_takeSort 128 = .ok (.aload_n 0, 1) := by decide +kernel
theorem dX3_takeSort_129 : decode cX3_takeSort 129 = .ok (.getfield 11, 3) := by decide +kernel
theorem dX3_takeSort_132 : decode cX3_takeSort 132 = .ok (.iconst 2, 1) := by decide +kernel
theorem dX3_takeSort_133 : decode cX3_takeSort 133 = .ok (.iaload, 1) := by decide +kernel
theorem dX3_takeSort_134 : decode cX3_takeSort 134 = .ok (.iconst 1, 1) := by decide +kernel
theorem dX3_takeSort_135 : decode cX3_takeSort 135 = .ok (.if_icmp .lt 42, 3) := by decide +kernel
theorem dX3_takeSort_138 : decode cX3_takeSort 138 = .ok (.aload_n 0, 1) := by decide +kernel
theorem dX3_takeSort_139 : decode cX3_takeSort 139 = .ok (.iconst 2, 1) := by decide +kernel
theorem dX3_takeSort_140 : decode cX3_takeSort 140 = .ok (.bipush 10, 2) := by decide +kernel
theorem dX3_takeSort_142 : decode cX3_takeSort 142 = .ok (.invokevirtual 62, 3) := by decide +kernel
theorem dX3_takeSort_145 : decode cX3_takeSort 145 = .ok (.ifCond .eq 32, 3) := by decide +kernel
theorem dX3_takeSort_148 : decode cX3_takeSort 148 = .ok (.aload_n 2, 1) := by decide +kernel
theorem dX3_takeSort_149 : decode cX3_takeSort 149 = .ok (.aload_n 0, 1) := by decide +kernel
theorem dX3_takeSort_150 : decode cX3_takeSort 150 = .ok (.getfield 11, 3) := by decide +kernel
theorem dX3_takeSort_153 : decode cX3_takeSort 153 = .ok (.iconst 0, 1) := by decide +kernel
theorem dX3_takeSort_154 : decode cX3_takeSort 154 = .ok (.iaload, 1) := by decide +kernel
theorem dX3_takeSort_155 : decode cX3_takeSort 155 = .ok (.aload_n 0, 1) := by decide +kernel
theorem dX3_takeSort_156 : decode cX3_takeSort 156 = .ok (.getfield 11, 3) := by decide +kernel
theorem dX3_takeSort_159 : decode cX3_takeSort 159 = .ok (.iconst 1, 1) := by decide +kernel
theorem dX3_takeSort_160 : decode cX3_takeSort 160 = .ok (.iaload, 1) := by decide +kernel
theorem dX3_takeSort_161 : decode cX3_takeSort 161 = .ok (.aload_n 0, 1) := by decide +kernel
theorem dX3_takeSort_162 : decode cX3_takeSort 162 = .ok (.getfield 11, 3) := by decide +kernel
theorem dX3_takeSort_165 : decode cX3_takeSort 165 = .ok (.iconst 2, 1) := by decide +kernel
theorem dX3_takeSort_166 : decode cX3_takeSort 166 = .ok (.iaload, 1) := by decide +kernel
theorem dX3_takeSort_167 : decode cX3_takeSort 167 = .ok (.invokevirtual 97, 3) := by decide +kernel
theorem dX3_takeSort_170 : decode cX3_takeSort 170 = .ok (.ifCond .eq 7, 3) := by decide +kernel
theorem dX3_takeSort_173 : decode cX3_takeSort 173 = .ok (.iconst 1, 1) := by decide +kernel
theorem dX3_takeSort_174 : decode cX3_takeSort 174 = .ok (.goto 4, 3) := by decide +kernel
theorem dX3_takeSort_177 : decode cX3_takeSort 177 = .ok (.iconst 0, 1) := by decide +kernel
theorem dX3_takeSort_178 : decode cX3_takeSort 178 = .ok (.ireturn, 1) := by decide +kernel
theorem dX3_takeSort_179 : decode cX3_takeSort 179 = .ok (.aload_n 0, 1) := by decide +kernel
theorem dX3_takeSort_180 : decode cX3_takeSort 180 = .ok (.iconst 1, 1) := by decide +kernel
theorem dX3_takeSort_181 : decode cX3_takeSort 181 = .ok (.bipush 30, 2) := by decide +kernel
theorem dX3_takeSort_183 : decode cX3_takeSort 183 = .ok (.invokevirtual 62, 3) := by decide +kernel
theorem dX3_takeSort_186 : decode cX3_takeSort 186 = .ok (.ifCond .eq 26, 3) := by decide +kernel
theorem dX3_takeSort_189 : decode cX3_takeSort 189 = .ok (.aload_n 2, 1) := by decide +kernel
theorem dX3_takeSort_190 : decode cX3_takeSort 190 = .ok (.aload_n 0, 1) := by decide +kernel
theorem dX3_takeSort_191 : decode cX3_takeSort 191 = .ok (.getfield 11, 3) := by decide +kernel
theorem dX3_takeSort_194 : decode cX3_takeSort 194 = .ok (.iconst 0, 1) := by decide +kernel
theorem dX3_takeSort_195 : decode cX3_takeSort 195 = .ok (.iaload, 1) := by decide +kernel
theorem dX3_takeSort_196 : decode cX3_takeSort 196 = .ok (.aload_n 0, 1) := by decide +kernel
theorem dX3_takeSort_197 : decode cX3_takeSort 197 = .ok (.getfield 11, 3) := by decide +kernel
theorem dX3_takeSort_200 : decode cX3_takeSort 200 = .ok (.iconst 1, 1) := by decide +kernel
theorem dX3_takeSort_201 : decode cX3_takeSort 201 = .ok (.iaload, 1) := by decide +kernel
theorem dX3_takeSort_202 : decode cX3_takeSort 202 = .ok (.invokevirtual 100, 3) := by decide +kernel
theorem dX3_takeSort_205 : decode cX3_takeSort 205 = .ok (.ifCond .eq 7, 3) := by decide +kernel
theorem dX3_takeSort_208 : decode cX3_takeSort 208 = .ok (.iconst 1, 1) := by decide +kernel
theorem dX3_takeSort_209 : decode cX3_takeSort 209 = .ok (.goto 4, 3) := by decide +kernel
theorem dX3_takeSort_212 : decode cX3_takeSort 212 = .ok (.iconst 0, 1) := by decide +kernel
theorem dX3_takeSort_213 : decode cX3_takeSort 213 = .ok (.ireturn, 1) := by decide +kernel
theorem dX3_takeSort_214 : decode cX3_takeSort 214 = .ok (.iconst 0, 1) := by decide +kernel
theorem dX3_takeSort_215 : decode cX3_takeSort 215 = .ok (.ireturn, 1) := by decide +kernel
theorem dX4_init_0 : decode cX4_init 0 = .ok (.aload_n 0, 1) := by decide +kernel
theorem dX4_init_1 : decode cX4_init 1 = .ok (.invokespecial 3, 3) := by decide +kernel
theorem dX4_init_4 : decode cX4_init 4 = .ok (.aload_n 0, 1) := by decide +kernel
theorem dX4_init_5 : decode cX4_init 5 = .ok (.new 9, 3) := by decide +kernel
theorem dX4_init_8 : decode cX4_init 8 = .ok (.dup, 1) := by decide +kernel
theorem dX4_init_9 : decode cX4_init 9 = .ok (.invokespecial 11, 3) := by decide +kernel
theorem dX4_init_12 : decode cX4_init 12 = .ok (.putfield 12, 3) := by decide +kernel
theorem dX4_init_15 : decode cX4_init 15 = .ok (.aload_n 0, 1) := by decide +kernel
theorem dX4_init_16 : decode cX4_init 16 = .ok (.bipush 8, 2) := by decide +kernel
theorem dX4_init_18 : decode cX4_init 18 = .ok (.newarray .int, 2) := by decide +kernel
theorem dX4_init_20 : decode cX4_init 20 = .ok (.putfield 20, 3) := by decide +kernel
theorem dX4_init_23 : decode cX4_init 23 = .ok (.aload_n 0, 1) := by decide +kernel
theorem dX4_init_24 : decode cX4_init 24 = .ok (.sipush 549, 3) := by decide +kernel
theorem dX4_init_27 : decode cX4_init 27 = .ok (.newarray .long, 2) := by decide +kernel
theorem dX4_init_29 : decode cX4_init 29 = .ok (.putfield 24, 3) := by decide +kernel
theorem dX4_init_32 : decode cX4_init 32 = .ok (.return_, 1) := by decide +kernel
theorem dX4_take_0 : decode cX4_take 0 = .ok (.aload_n 0, 1) := by decide +kernel
theorem dX4_take_1 : decode cX4_take 1 = .ok (.aload_n 2, 1) := by decide +kernel
theorem dX4_take_2 : decode cX4_take 2 = .ok (.putfield 12, 3) := by decide +kernel
theorem dX4_take_5 : decode cX4_take 5 = .ok (.aload_n 0, 1) := by decide +kernel
theorem dX4_take_6 : decode cX4_take 6 = .ok (.aload_n 1, 1) := by decide +kernel
theorem dX4_take_7 : decode cX4_take 7 = .ok (.getfield 28, 3) := by decide +kernel
theorem dX4_take_10 : decode cX4_take 10 = .ok (.putfield 34, 3) := by decide +kernel
theorem dX4_take_13 : decode cX4_take 13 = .ok (.aload_n 0, 1) := by decide +kernel
theorem dX4_take_14 : decode cX4_take 14 = .ok (.aload_n 1, 1) := by decide +kernel
theorem dX4_take_15 : decode cX4_take 15 = .ok (.getfield 35, 3) := by decide +kernel
theorem dX4_take_18 : decode cX4_take 18 = .ok (.putfield 38, 3) := by decide +kernel
theorem dX4_take_21 : decode cX4_take 21 = .ok (.aload_n 0, 1) := by decide +kernel
theorem dX4_take_22 : decode cX4_take 22 = .ok (.aload_n 1, 1) := by decide +kernel
theorem dX4_take_23 : decode cX4_take 23 = .ok (.getfield 39, 3) := by decide +kernel
theorem dX4_take_26 : decode cX4_take 26 = .ok (.putfield 42, 3) := by decide +kernel
theorem dX4_take_29 : decode cX4_take 29 = .ok (.iconst 0, 1) := by decide +kernel
theorem dX4_take_30 : decode cX4_take 30 = .ok (.istore_n 3, 1) := by decide +kernel
theorem dX4_take_31 : decode cX4_take 31 = .ok (.iload_n 3, 1) := by decide +kernel
theorem dX4_take_32 : decode cX4_take 32 = .ok (.aload_n 0, 1) := by decide +kernel
theorem dX4_take_33 : decode cX4_take 33 = .ok (.getfield 12, 3) := by decide +kernel
theorem dX4_take_36 : decode cX4_take 36 = .ok (.getfield 43, 3) := by decide +kernel
theorem dX4_take_39 : decode cX4_take 39 = .ok (.if_icmp .ge 36, 3) := by decide +kernel
theorem dX4_take_42 : decode cX4_take 42 = .ok (.aload_n 0, 1) := by decide +kernel
theorem dX4_take_43 : decode cX4_take 43 = .ok (.getfield 20, 3) := by decide +kernel
theorem dX4_take_46 : decode cX4_take 46 = .ok (.iload_n 3, 1) := by decide +kernel
theorem dX4_take_47 : decode cX4_take 47 = .ok (.aload_n 0, 1) := by decide +kernel
theorem dX4_take_48 : decode cX4_take 48 = .ok (.getfield 12, 3) := by decide +kernel
theorem dX4_take_51 : decode cX4_take 51 = .ok (.getfield 46, 3) := by decide +kernel
theorem dX4_take_54 : decode cX4_take 54 = .ok (.iload_n 3, 1) := by decide +kernel
theorem dX4_take_55 : decode cX4_take 55 = .ok (.iaload, 1) := by decide +kernel
theorem dX4_take_56 : decode cX4_take 56 = .ok (.aload_n 0, 1) := by decide +kernel
theorem dX4_take_57 : decode cX4_take 57 = .ok (.getfield 12, 3) := by decide +kernel
theorem dX4_take_60 : decode cX4_take 60 = .ok (.getfield 49, 3) := by decide +kernel
theorem dX4_take_63 : decode cX4_take 63 = .ok (.iload_n 3, 1) := by decide +kernel
theorem dX4_take_64 : decode cX4_take 64 = .ok (.iaload, 1) := by decide +kernel
theorem dX4_take_65 : decode cX4_take 65 = .ok (.invokestatic 52, 3) := by decide +kernel
theorem dX4_take_68 : decode cX4_take 68 = .ok (.iastore, 1) := by decide +kernel
theorem dX4_take_69 : decode cX4_take 69 = .ok (.iinc 3 1, 3) := by decide +kernel
theorem dX4_take_72 : decode cX4_take 72 = .ok (.goto (-41), 3) := by decide +kernel
theorem dX4_take_75 : decode cX4_take 75 = .ok (.return_, 1) := by decide +kernel
theorem dX4_clearTable_0 : decode cX4_clearTable 0 = .ok (.aload_n 0, 1) := by decide +kernel
theorem dX4_clearTable_1 : decode cX4_clearTable 1 = .ok (.getfield 24, 3) := by decide +kernel
theorem dX4_clearTable_4 : decode cX4_clearTable 4 = .ok (.lconst 0, 1) := by decide +kernel
theorem dX4_clearTable_5 : decode cX4_clearTable 5 = .ok (.invokestatic 58, 3) := by decide +kernel
theorem dX4_clearTable_8 : decode cX4_clearTable 8 = .ok (.aload_n 0, 1) := by decide +kernel
theorem dX4_clearTable_9 : decode cX4_clearTable 9 = .ok (.getfield 24, 3) := by decide +kernel
theorem dX4_clearTable_12 : decode cX4_clearTable 12 = .ok (.iconst 0, 1) := by decide +kernel
theorem dX4_clearTable_13 : decode cX4_clearTable 13 = .ok (.lconst 1, 1) := by decide +kernel
theorem dX4_clearTable_14 : decode cX4_clearTable 14 = .ok (.lastore, 1) := by decide +kernel
theorem dX4_clearTable_15 : decode cX4_clearTable 15 = .ok (.return_, 1) := by decide +kernel
theorem dX4_join_0 : decode cX4_join 0 = .ok (.iload_n 1, 1) := by decide +kernel
theorem dX4_join_1 : decode cX4_join 1 = .ok (.iconst 1, 1) := by decide +kernel
theorem dX4_join_2 : decode cX4_join 2 = .ok (.if_icmp .lt 24, 3) := by decide +kernel
theorem dX4_join_5 : decode cX4_join 5 = .ok (.iload_n 2, 1) := by decide +kernel
theorem dX4_join_6 : decode cX4_join 6 = .ok (.iload_n 1, 1) := by decide +kernel
theorem dX4_join_7 : decode cX4_join 7 = .ok (.iconst 1, 1) := by decide +kernel
theorem dX4_join_8 : decode cX4_join 8 = .ok (.isub, 1) := by decide +kernel
theorem dX4_join_9 : decode cX4_join 9 = .ok (.if_icmp .lt 17, 3) := by decide +kernel
theorem dX4_join_12 : decode cX4_join 12 = .ok (.iload 4, 2) := by decide +kernel
theorem dX4_join_14 : decode cX4_join 14 = .ok (.bipush 61, 2) := by decide +kernel
theorem dX4_join_16 : decode cX4_join 16 = .ok (.if_icmp .ge 10, 3) := by decide +kernel
theorem dX4_join_19 : decode cX4_join 19 = .ok (.iload 5, 2) := by decide +kernel
theorem dX4_join_21 : decode cX4_join 21 = .ok (.bipush 8, 2) := by decide +kernel
theorem dX4_join_23 : decode cX4_join 23 = .ok (.if_icmp .le 4, 3) := by decide +kernel
theorem dX4_join_26 : decode cX4_join 26 = .ok (.return_, 1) := by decide +kernel
theorem dX4_join_27 : decode cX4_join 27 = .ok (.iload 5, 2) := by decide +kernel
theorem dX4_join_29 : decode cX4_join 29 = .ok (.istore 6, 2) := by decide +kernel
theorem dX4_join_31 : decode cX4_join 31 = .ok (.iload 6, 2) := by decide +kernel
theorem dX4_join_33 : decode cX4_join 33 = .ok (.ifCond .lt 130, 3) := by decide +kernel
theorem dX4_join_36 : decode cX4_join 36 = .ok (.iload 6, 2) := by decide +kernel
theorem dX4_join_38 : decode cX4_join 38 = .ok (.bipush 61, 2) := by decide +kernel
theorem dX4_join_40 : decode cX4_join 40 = .ok (.imul, 1) := by decide +kernel
theorem dX4_join_41 : decode cX4_join 41 = .ok (.istore 7, 2) := by decide +kernel
theorem dX4_join_43 : decode cX4_join 43 = .ok (.lconst 0, 1) := by decide +kernel
theorem dX4_join_44 : decode cX4_join 44 = .ok (.lstore 8, 2) := by decide +kernel
theorem dX4_join_46 : decode cX4_join 46 = .ok (.iconst 0, 1) := by decide +kernel
theorem dX4_join_47 : decode cX4_join 47 = .ok (.istore 10, 2) := by decide +kernel
theorem dX4_join_49 : decode cX4_join 49 = .ok (.iload 10, 2) := by decide +kernel
theorem dX4_join_51 : decode cX4_join 51 = .ok (.iload 4, 2) := by decide +kernel
theorem dX4_join_53 : decode cX4_join 53 = .ok (.if_icmp .gt 104, 3) := by decide +kernel
theorem dX4_join_56 : decode cX4_join 56 = .ok (.iload 6, 2) := by decide +kernel
theorem dX4_join_58 : decode cX4_join 58 = .ok (.ifCond .le 29, 3) := by decide +kernel
theorem dX4_join_61 : decode cX4_join 61 = .ok (.iload 10, 2) := by decide +kernel
theorem dX4_join_63 : decode cX4_join 63 = .ok (.iload_n 1, 1) := by decide +kernel
theorem dX4_join_64 : decode cX4_join 64 = .ok (.if_icmp .lt 23, 3) := by decide +kernel
theorem dX4_join_67 : decode cX4_join 67 = .ok (.lload 8, 2) := by decide +kernel
theorem dX4_join_69 : decode cX4_join 69 = .ok (.aload_n 0, 1) := by decide +kernel
theorem dX4_join_70 : decode cX4_join 70 = .ok (.getfield 24, 3) := by decide +kernel
theorem dX4_join_73 : decode cX4_join 73 = .ok (.iload 7, 2) := by decide +kernel
theorem dX4_join_75 : decode cX4_join 75 = .ok (.bipush 61, 2) := by decide +kernel
theorem dX4_join_77 : decode cX4_join 77 = .ok (.isub, 1) := by decide +kernel
theorem dX4_join_78 : decode cX4_join 78 = .ok (.iload 10, 2) := by decide +kernel
theorem dX4_join_80 : decode cX4_join 80 = .ok (.iadd, 1) := by decide +kernel
theorem dX4_join_81 : decode cX4_join 81 = .ok (.iload_n 1, 1) := by decide +kernel
theorem dX4_join_82 : decode cX4_join 82 = .ok (.isub, 1) := by decide +kernel
theorem dX4_join_83 : decode cX4_join 83 = .ok (.laload, 1) := by decide +kernel
theorem dX4_join_84 : decode cX4_join 84 = .ok (.ladd, 1) := by decide +kernel
theorem dX4_join_85 : decode cX4_join 85 = .ok (.lstore 8, 2) := by decide +kernel
theorem dX4_join_87 : decode cX4_join 87 = .ok (.iload 6, 2) := by decide +kernel
theorem dX4_join_89 : decode cX4_join 89 = .ok (.ifCond .le 31, 3) := by decide +kernel
theorem dX4_join_92 : decode cX4_join 92 = .ok (.iload 10, 2) := by decide +kernel
theorem dX4_join_94 : decode cX4_join 94 = .ok (.iload_n 2, 1) := by decide +kernel
theorem dX4_join_95 : decode cX4_join 95 = .ok (.if_icmp .le 25, 3) := by decide +kernel
theorem dX4_join_98 : decode cX4_join 98 = .ok (.lload 8, 2) := by decide +kernel
theorem dX4_join_100 : decode cX4_join 100 = .ok (.aload_n 0, 1) := by decide +kernel
theorem dX4_join_101 : decode cX4_join 101 = .ok (.getfield 24, 3) := by decide +kernel
theorem dX4_join_104 : decode cX4_join 104 = .ok (.iload 7, 2) := by decide +kernel
theorem dX4_join_106 : decode cX4_join 106 = .ok (.bipush 61, 2) := by decide +kernel
theorem dX4_join_108 : decode cX4_join 108 = .ok (.isub, 1) := by decide +kernel
theorem dX4_join_109 : decode cX4_join 109 = .ok (.iload 10, 2) := by decide +kernel
theorem dX4_join_111 : decode cX4_join 111 = .ok (.iadd, 1) := by decide +kernel
theorem dX4_join_112 : decode cX4_join 112 = .ok (.iload_n 2, 1) := by decide +kernel
theorem dX4_join_113 : decode cX4_join 113 = .ok (.isub, 1) := by decide +kernel
theorem dX4_join_114 : decode cX4_join 114 = .ok (.iconst 1, 1) := by decide +kernel
theorem dX4_join_115 : decode cX4_join 115 = .ok (.isub, 1) := by decide +kernel
theorem dX4_join_116 : decode cX4_join 116 = .ok (.laload, 1) := by decide +kernel
theorem dX4_join_117 : decode cX4_join 117 = .ok (.lsub, 1) := by decide +kernel
theorem dX4_join_118 : decode cX4_join 118 = .ok (.lstore 8, 2) := by decide +kernel
theorem dX4_join_120 : decode cX4_join 120 = .ok (.aload_n 0, 1) := by decide +kernel
theorem dX4_join_121 : decode cX4_join 121 = .ok (.getfield 24, 3) := by decide +kernel
theorem dX4_join_124 : decode cX4_join 124 = .ok (.iload 7, 2) := by decide +kernel
theorem dX4_join_126 : decode cX4_join 126 = .ok (.iload 10, 2) := by decide +kernel
theorem dX4_join_128 : decode cX4_join 128 = .ok (.iadd, 1) := by decide +kernel
theorem dX4_join_129 : decode cX4_join 129 = .ok (.lload 8, 2) := by decide +kernel
theorem dX4_join_131 : decode cX4_join 131 = .ok (.iload_n 3, 1) := by decide +kernel
theorem dX4_join_132 : decode cX4_join 132 = .ok (.ifCond .eq 16, 3) := by decide +kernel
theorem dX4_join_135 : decode cX4_join 135 = .ok (.aload_n 0, 1) := by decide +kernel
theorem dX4_join_136 : decode cX4_join 136 = .ok (.getfield 24, 3) := by decide +kernel
theorem dX4_join_139 : decode cX4_join 139 = .ok (.iload 7, 2) := by decide +kernel
theorem dX4_join_141 : decode cX4_join 141 = .ok (.iload 10, 2) := by decide +kernel
theorem dX4_join_143 : decode cX4_join 143 = .ok (.iadd, 1) := by decide +kernel
theorem dX4_join_144 : decode cX4_join 144 = .ok (.laload, 1) := by decide +kernel
theorem dX4_join_145 : decode cX4_join 145 = .ok (.goto 4, 3) := by decide +kernel
theorem dX4_join_148 : decode cX4_join 148 = .ok (.lconst 0, 1) := by decide +kernel
theorem dX4_join_149 : decode cX4_join 149 = .ok (.ladd, 1) := by decide +kernel
theorem dX4_join_150 : decode cX4_join 150 = .ok (.lastore, 1) := by decide +kernel
theorem dX4_join_151 : decode cX4_join 151 = .ok (.iinc 10 1, 3) := by decide +kernel
theorem dX4_join_154 : decode cX4_join 154 = .ok (.goto (-105), 3) := by decide +kernel
theorem dX4_join_157 : decode cX4_join 157 = .ok (.iinc 6 (-1), 3) := by decide +kernel
theorem dX4_join_160 : decode cX4_join 160 = .ok (.goto (-129), 3) := by decide +kernel
theorem dX4_join_163 : decode cX4_join 163 = .ok (.return_, 1) := by decide +kernel
theorem dX4_justWays_0 : decode cX4_justWays 0 = .ok (.aload_n 0, 1) := by decide +kernel
theorem dX4_justWays_1 : decode cX4_justWays 1 = .ok (.invokevirtual 64, 3) := by decide +kernel
theorem dX4_justWays_4 : decode cX4_justWays 4 = .ok (.iconst 0, 1) := by decide +kernel
theorem dX4_justWays_5 : decode cX4_justWays 5 = .ok (.istore_n 1, 1) := by decide +kernel
theorem dX4_justWays_6 : decode cX4_justWays 6 = .ok (.iload_n 1, 1) := by decide +kernel
theorem dX4_justWays_7 : decode cX4_justWays 7 = .ok (.aload_n 0, 1) := by decide +kernel
theorem dX4_justWays_8 : decode cX4_justWays 8 = .ok (.getfield 12, 3) := by decide +kernel
theorem dX4_justWays_11 : decode cX4_justWays 11 = .ok (.getfield 43, 3) := by decide +kernel
theorem dX4_justWays_14 : decode cX4_justWays 14 = .ok (.if_icmp .ge 32, 3) := by decide +kernel
theorem dX4_justWays_17 : decode cX4_justWays 17 = .ok (.aload_n 0, 1) := by decide +kernel
theorem dX4_justWays_18 : decode cX4_justWays 18 = .ok (.iconst 1, 1) := by decide +kernel
theorem dX4_justWays_19 : decode cX4_justWays 19 = .ok (.aload_n 0, 1) := by decide +kernel
theorem dX4_justWays_20 : decode cX4_justWays 20 = .ok (.getfield 20, 3) := by decide +kernel
theorem dX4_justWays_23 : decode cX4_justWays 23 = .ok (.iload_n 1, 1) := by decide +kernel
theorem dX4_justWays_24 : decode cX4_justWays 24 = .ok (.iaload, 1) := by decide +kernel
theorem dX4_justWays_25 : decode cX4_justWays 25 = .ok (.iconst 1, 1) := by decide +kernel
theorem dX4_justWays_26 : decode cX4_justWays 26 = .ok (.aload_n 0, 1) := by decide +kernel
theorem dX4_justWays_27 : decode cX4_justWays 27 = .ok (.getfield 34, 3) := by decide +kernel
theorem dX4_justWays_30 : decode cX4_justWays 30 = .ok (.aload_n 0, 1) := by decide +kernel
theorem dX4_justWays_31 : decode cX4_justWays 31 = .ok (.getfield 12, 3) := by decide +kernel
theorem dX4_justWays_34 : decode cX4_justWays 34 = .ok (.getfield 43, 3) := by decide +kernel
theorem dX4_justWays_37 : decode cX4_justWays 37 = .ok (.invokevirtual 67, 3) := by decide +kernel
theorem dX4_justWays_40 : decode cX4_justWays 40 = .ok (.iinc 1 1, 3) := by decide +kernel
theorem dX4_justWays_43 : decode cX4_justWays 43 = .ok (.goto (-37), 3) := by decide +kernel
theorem dX4_justWays_46 : decode cX4_justWays 46 = .ok (.lconst 0, 1) := by decide +kernel
theorem dX4_justWays_47 : decode cX4_justWays 47 = .ok (.lstore_n 1, 1) := by decide +kernel
theorem dX4_justWays_48 : decode cX4_justWays 48 = .ok (.aload_n 0, 1) := by decide +kernel
theorem dX4_justWays_49 : decode cX4_justWays 49 = .ok (.getfield 38, 3) := by decide +kernel
theorem dX4_justWays_52 : decode cX4_justWays 52 = .ok (.istore_n 3, 1) := by decide +kernel
theorem dX4_justWays_53 : decode cX4_justWays 53 = .ok (.iload_n 3, 1) := by decide +kernel
theorem dX4_justWays_54 : decode cX4_justWays 54 = .ok (.aload_n 0, 1) := by decide +kernel
theorem dX4_justWays_55 : decode cX4_justWays 55 = .ok (.getfield 12, 3) := by decide +kernel
theorem dX4_justWays_58 : decode cX4_justWays 58 = .ok (.getfield 43, 3) := by decide +kernel
theorem dX4_justWays_61 : decode cX4_justWays 61 = .ok (.if_icmp .gt 26, 3) := by decide +kernel
theorem dX4_justWays_64 : decode cX4_justWays 64 = .ok (.lload_n 1, 1) := by decide +kernel
theorem dX4_justWays_65 : decode cX4_justWays 65 = .ok (.aload_n 0, 1) := by decide +kernel
theorem dX4_justWays_66 : decode cX4_justWays 66 = .ok (.getfield 24, 3) := by decide +kernel
theorem dX4_justWays_69 : decode cX4_justWays 69 = .ok (.iload_n 3, 1) := by decide +kernel
theorem dX4_justWays_70 : decode cX4_justWays 70 = .ok (.bipush 61, 2) := by decide +kernel
theorem dX4_justWays_72 : decode cX4_justWays 72 = .ok (.imul, 1) := by decide +kernel
theorem dX4_justWays_73 : decode cX4_justWays 73 = .ok (.aload_n 0, 1) := by decide +kernel
theorem dX4_justWays_74 : decode cX4_justWays 74 = .ok (.getfield 34, 3) := by decide +kernel
theorem dX4_justWays_77 : decode cX4_justWays 77 = .ok (.iadd, 1) := by decide +kernel
theorem dX4_justWays_78 : decode cX4_justWays 78 = .ok (.laload, 1) := by decide +kernel
theorem dX4_justWays_79 : decode cX4_justWays 79 = .ok (.ladd, 1) := by decide +kernel
theorem dX4_justWays_80 : decode cX4_justWays 80 = .ok (.lstore_n 1, 1) := by decide +kernel
theorem dX4_justWays_81 : decode cX4_justWays 81 = .ok (.iinc 3 1, 3) := by decide +kernel
theorem dX4_justWays_84 : decode cX4_justWays 84 = .ok (.goto (-31), 3) := by decide +kernel
theorem dX4_justWays_87 : decode cX4_justWays 87 = .ok (.lload_n 1, 1) := by decide +kernel
theorem dX4_justWays_88 : decode cX4_justWays 88 = .ok (.lreturn, 1) := by decide +kernel
theorem dX4_firstGift_0 : decode cX4_firstGift 0 = .ok (.aload_n 0, 1) := by decide +kernel
theorem dX4_firstGift_1 : decode cX4_firstGift 1 = .ok (.getfield 34, 3) := by decide +kernel
theorem dX4_firstGift_4 : decode cX4_firstGift 4 = .ok (.istore_n 2, 1) := by decide +kernel
theorem dX4_firstGift_5 : decode cX4_firstGift 5 = .ok (.aload_n 0, 1) := by decide +kernel
theorem dX4_firstGift_6 : decode cX4_firstGift 6 = .ok (.getfield 38, 3) := by decide +kernel
theorem dX4_firstGift_9 : decode cX4_firstGift 9 = .ok (.istore_n 3, 1) := by decide +kernel
theorem dX4_firstGift_10 : decode cX4_firstGift 10 = .ok (.iconst 0, 1) := by decide +kernel
theorem dX4_firstGift_11 : decode cX4_firstGift 11 = .ok (.istore 4, 2) := by decide +kernel
theorem dX4_firstGift_13 : decode cX4_firstGift 13 = .ok (.iload 4, 2) := by decide +kernel
theorem dX4_firstGift_15 : decode cX4_firstGift 15 = .ok (.iload_n 1, 1) := by decide +kernel
theorem dX4_firstGift_16 : decode cX4_firstGift 16 = .ok (.if_icmp .gt 76, 3) := by decide +kernel
theorem dX4_firstGift_19 : decode cX4_firstGift 19 = .ok (.iload 4, 2) := by decide +kernel
theorem dX4_firstGift_21 : decode cX4_firstGift 21 = .ok (.bipush 8, 2) := by decide +kernel
theorem dX4_firstGift_23 : decode cX4_firstGift 23 = .ok (.if_icmp .ge 69, 3) := by decide +kernel
theorem dX4_firstGift_26 : decode cX4_firstGift 26 = .ok (.aload_n 0, 1) := by decide +kernel
theorem dX4_firstGift_27 : decode cX4_firstGift 27 = .ok (.getfield 12, 3) := by decide +kernel
theorem dX4_firstGift_30 : decode cX4_firstGift 30 = .ok (.iload 4, 2) := by decide +kernel
theorem dX4_firstGift_32 : decode cX4_firstGift 32 = .ok (.invokevirtual 71, 3) := by decide +kernel
theorem dX4_firstGift_35 : decode cX4_firstGift 35 = .ok (.istore 5, 2) := by decide +kernel
theorem dX4_firstGift_37 : decode cX4_firstGift 37 = .ok (.iload 5, 2) := by decide +kernel
theorem dX4_firstGift_39 : decode cX4_firstGift 39 = .ok (.bipush (-4), 2) := by decide +kernel
theorem dX4_firstGift_41 : decode cX4_firstGift 41 = .ok (.if_icmp .ne 6, 3) := by decide +kernel
theorem dX4_firstGift_44 : decode cX4_firstGift 44 = .ok (.goto 42, 3) := by decide +kernel
theorem dX4_firstGift_47 : decode cX4_firstGift 47 = .ok (.aload_n 0, 1) := by decide +kernel
theorem dX4_firstGift_48 : decode cX4_firstGift 48 = .ok (.iload 4, 2) := by decide +kernel
theorem dX4_firstGift_50 : decode cX4_firstGift 50 = .ok (.aload_n 0, 1) := by decide +kernel
theorem dX4_firstGift_51 : decode cX4_firstGift 51 = .ok (.getfield 20, 3) := by decide +kernel
theorem dX4_firstGift_54 : decode cX4_firstGift 54 = .ok (.iload 5, 2) := by decide +kernel
theorem dX4_firstGift_56 : decode cX4_firstGift 56 = .ok (.iaload, 1) := by decide +kernel
theorem dX4_firstGift_57 : decode cX4_firstGift 57 = .ok (.iload_n 2, 1) := by decide +kernel
theorem dX4_firstGift_58 : decode cX4_firstGift 58 = .ok (.iload_n 3, 1) := by decide +kernel
theorem dX4_firstGift_59 : decode cX4_firstGift 59 = .ok (.invokevirtual 75, 3) := by decide +kernel
theorem dX4_firstGift_62 : decode cX4_firstGift 62 = .ok (.istore 6, 2) := by decide +kernel
theorem dX4_firstGift_64 : decode cX4_firstGift 64 = .ok (.iload 4, 2) := by decide +kernel
theorem dX4_firstGift_66 : decode cX4_firstGift 66 = .ok (.iload_n 1, 1) := by decide +kernel
theorem dX4_firstGift_67 : decode cX4_firstGift 67 = .ok (.if_icmp .ne 6, 3) := by decide +kernel
theorem dX4_firstGift_70 : decode cX4_firstGift 70 = .ok (.iload 6, 2) := by decide +kernel
theorem dX4_firstGift_72 : decode cX4_firstGift 72 = .ok (.ireturn, 1) := by decide +kernel
theorem dX4_firstGift_73 : decode cX4_firstGift 73 = .ok (.iload_n 2, 1) := by decide +kernel
theorem dX4_firstGift_74 : decode cX4_firstGift 74 = .ok (.iload 6, 2) := by decide +kernel
theorem dX4_firstGift_76 : decode cX4_firstGift 76 = .ok (.isub, 1) := by decide +kernel
theorem dX4_firstGift_77 : decode cX4_firstGift 77 = .ok (.istore_n 2, 1) := by decide +kernel
theorem dX4_firstGift_78 : decode cX4_firstGift 78 = .ok (.iload 6, 2) := by decide +kernel
theorem dX4_firstGift_80 : decode cX4_firstGift 80 = .ok (.ifCond .le 6, 3) := by decide +kernel
theorem dX4_firstGift_83 : decode cX4_firstGift 83 = .ok (.iinc 3 (-1), 3) := by decide +kernel
theorem dX4_firstGift_86 : decode cX4_firstGift 86 = .ok (.iinc 4 1, 3) := by decide +kernel
theorem dX4_firstGift_89 : decode cX4_firstGift 89 = .ok (.goto (-76), 3) := by decide +kernel
theorem dX4_firstGift_92 : decode cX4_firstGift 92 = .ok (.iconst 0, 1) := by decide +kernel
theorem dX4_firstGift_93 : decode cX4_firstGift 93 = .ok (.ireturn, 1) := by decide +kernel
theorem dX4_lowestGift_0 : decode cX4_lowestGift 0 = .ok (.iconst 0, 1) := by decide +kernel
theorem dX4_lowestGift_1 : decode cX4_lowestGift 1 = .ok (.istore 5, 2) := by decide +kernel
theorem dX4_lowestGift_3 : decode cX4_lowestGift 3 = .ok (.iconst 0, 1) := by decide +kernel
theorem dX4_lowestGift_4 : decode cX4_lowestGift 4 = .ok (.istore 6, 2) := by decide +kernel
theorem dX4_lowestGift_6 : decode cX4_lowestGift 6 = .ok (.iconst 0, 1) := by decide +kernel
theorem dX4_lowestGift_7 : decode cX4_lowestGift 7 = .ok (.istore 7, 2) := by decide +kernel
theorem dX4_lowestGift_9 : decode cX4_lowestGift 9 = .ok (.iload 7, 2) := by decide +kernel
theorem dX4_lowestGift_11 : decode cX4_lowestGift 11 = .ok (.aload_n 0, 1) := by decide +kernel
theorem dX4_lowestGift_12 : decode cX4_lowestGift 12 = .ok (.getfield 12, 3) := by decide +kernel
theorem dX4_lowestGift_15 : decode cX4_lowestGift 15 = .ok (.getfield 43, 3) := by decide +kernel
theorem dX4_lowestGift_18 : decode cX4_lowestGift 18 = .ok (.if_icmp .ge 51, 3) := by decide +kernel
theorem dX4_lowestGift_21 : decode cX4_lowestGift 21 = .ok (.aload_n 0, 1) := by decide +kernel
theorem dX4_lowestGift_22 : decode cX4_lowestGift 22 = .ok (.getfield 12, 3) := by decide +kernel
theorem dX4_lowestGift_25 : decode cX4_lowestGift 25 = .ok (.getfield 79, 3) := by decide +kernel
theorem dX4_lowestGift_28 : decode cX4_lowestGift 28 = .ok (.iload 7, 2) := by decide +kernel
theorem dX4_lowestGift_30 : decode cX4_lowestGift 30 = .ok (.iaload, 1) := by decide +kernel
theorem dX4_lowestGift_31 : decode cX4_lowestGift 31 = .ok (.iload_n 1, 1) := by decide +kernel
theorem dX4_lowestGift_32 : decode cX4_lowestGift 32 = .ok (.if_icmp .gt 6, 3) := by decide +kernel
theorem dX4_lowestGift_35 : decode cX4_lowestGift 35 = .ok (.goto 28, 3) := by decide +kernel
theorem dX4_lowestGift_38 : decode cX4_lowestGift 38 = .ok (.iload 5, 2) := by decide +kernel
theorem dX4_lowestGift_40 : decode cX4_lowestGift 40 = .ok (.aload_n 0, 1) := by decide +kernel
theorem dX4_lowestGift_41 : decode cX4_lowestGift 41 = .ok (.getfield 20, 3) := by decide +kernel
theorem dX4_lowestGift_44 : decode cX4_lowestGift 44 = .ok (.iload 7, 2) := by decide +kernel
theorem dX4_lowestGift_46 : decode cX4_lowestGift 46 = .ok (.iaload, 1) := by decide +kernel
theorem dX4_lowestGift_47 : decode cX4_lowestGift 47 = .ok (.iadd, 1) := by decide +kernel
theorem dX4_lowestGift_48 : decode cX4_lowestGift 48 = .ok (.istore 5, 2) := by decide +kernel
theorem dX4_lowestGift_50 : decode cX4_lowestGift 50 = .ok (.aload_n 0, 1) := by decide +kernel
theorem dX4_lowestGift_51 : decode cX4_lowestGift 51 = .ok (.getfield 20, 3) := by decide +kernel
theorem dX4_lowestGift_54 : decode cX4_lowestGift 54 = .ok (.iload 7, 2) := by decide +kernel
theorem dX4_lowestGift_56 : decode cX4_lowestGift 56 = .ok (.iaload, 1) := by decide +kernel
theorem dX4_lowestGift_57 : decode cX4_lowestGift 57 = .ok (.ifCond .le 6, 3) := by decide +kernel
theorem dX4_lowestGift_60 : decode cX4_lowestGift 60 = .ok (.iinc 6 1, 3) := by decide +kernel
theorem dX4_lowestGift_63 : decode cX4_lowestGift 63 = .ok (.iinc 7 1, 3) := by decide +kernel
theorem dX4_lowestGift_66 : decode cX4_lowestGift 66 = .ok (.goto (-57), 3) := by decide +kernel
theorem dX4_lowestGift_69 : decode cX4_lowestGift 69 = .ok (.iconst 0, 1) := by decide +kernel
theorem dX4_lowestGift_70 : decode cX4_lowestGift 70 = .ok (.istore 7, 2) := by decide +kernel
theorem dX4_lowestGift_72 : decode cX4_lowestGift 72 = .ok (.iload 7, 2) := by decide +kernel
theorem dX4_lowestGift_74 : decode cX4_lowestGift 74 = .ok (.iload_n 2, 1) := by decide +kernel
theorem dX4_lowestGift_75 : decode cX4_lowestGift 75 = .ok (.if_icmp .ge 52, 3) := by decide +kernel
theorem dX4_lowestGift_78 : decode cX4_lowestGift 78 = .ok (.iload_n 3, 1) := by decide +kernel
theorem dX4_lowestGift_79 : decode cX4_lowestGift 79 = .ok (.iload 7, 2) := by decide +kernel
theorem dX4_lowestGift_81 : decode cX4_lowestGift 81 = .ok (.isub, 1) := by decide +kernel
theorem dX4_lowestGift_82 : decode cX4_lowestGift 82 = .ok (.istore 8, 2) := by decide +kernel
theorem dX4_lowestGift_84 : decode cX4_lowestGift 84 = .ok (.iload 4, 2) := by decide +kernel
theorem dX4_lowestGift_86 : decode cX4_lowestGift 86 = .ok (.iload 7, 2) := by decide +kernel
theorem dX4_lowestGift_88 : decode cX4_lowestGift 88 = .ok (.ifCond .le 7, 3) := by decide +kernel
theorem dX4_lowestGift_91 : decode cX4_lowestGift 91 = .ok (.iconst 1, 1) := by decide +kernel
theorem dX4_lowestGift_92 : decode cX4_lowestGift 92 = .ok (.goto 4, 3) := by decide +kernel
theorem dX4_lowestGift_95 : decode cX4_lowestGift 95 = .ok (.iconst 0, 1) := by decide +kernel
theorem dX4_lowestGift_96 : decode cX4_lowestGift 96 = .ok (.isub, 1) := by decide +kernel
theorem dX4_lowestGift_97 : decode cX4_lowestGift 97 = .ok (.istore 9, 2) := by decide +kernel
theorem dX4_lowestGift_99 : decode cX4_lowestGift 99 = .ok (.iload 8, 2) := by decide +kernel
theorem dX4_lowestGift_101 : decode cX4_lowestGift 101 = .ok (.iload 5, 2) := by decide +kernel
theorem dX4_lowestGift_103 : decode cX4_lowestGift 103 = .ok (.if_icmp .gt 18, 3) := by decide +kernel
theorem dX4_lowestGift_106 : decode cX4_lowestGift 106 = .ok (.iload 6, 2) := by decide +kernel
theorem dX4_lowestGift_108 : decode cX4_lowestGift 108 = .ok (.iload 8, 2) := by decide +kernel
theorem dX4_lowestGift_110 : decode cX4_lowestGift 110 = .ok (.invokestatic 52, 3) := by decide +kernel
theorem dX4_lowestGift_113 : decode cX4_lowestGift 113 = .ok (.iload 9, 2) := by decide +kernel
theorem dX4_lowestGift_115 : decode cX4_lowestGift 115 = .ok (.if_icmp .lt 6, 3) := by decide +kernel
theorem dX4_lowestGift_118 : decode cX4_lowestGift 118 = .ok (.iload 7, 2) := by decide +kernel
theorem dX4_lowestGift_120 : decode cX4_lowestGift 120 = .ok (.ireturn, 1) := by decide +kernel
theorem dX4_lowestGift_121 : decode cX4_lowestGift 121 = .ok (.iinc 7 1, 3) := by decide +kernel
theorem dX4_lowestGift_124 : decode cX4_lowestGift 124 = .ok (.goto (-52), 3) := by decide +kernel
theorem dX4_lowestGift_127 : decode cX4_lowestGift 127 = .ok (.iload_n 2, 1) := by decide +kernel
theorem dX4_lowestGift_128 : decode cX4_lowestGift 128 = .ok (.ireturn, 1) := by decide +kernel
theorem dX4_failingWays_0 : decode cX4_failingWays 0 = .ok (.lconst 0, 1) := by decide +kernel
theorem dX4_failingWays_1 : decode cX4_failingWays 1 = .ok (.lstore_n 1, 1) := by decide +kernel
theorem dX4_failingWays_2 : decode cX4_failingWays 2 = .ok (.iconst 0, 1) := by decide +kernel
theorem dX4_failingWays_3 : decode cX4_failingWays 3 = .ok (.istore_n 3, 1) := by decide +kernel
theorem dX4_failingWays_4 : decode cX4_failingWays 4 = .ok (.iload_n 3, 1) := by decide +kernel
theorem dX4_failingWays_5 : decode cX4_failingWays 5 = .ok (.aload_n 0, 1) := by decide +kernel
theorem dX4_failingWays_6 : decode cX4_failingWays 6 = .ok (.getfield 34, 3) := by decide +kernel
theorem dX4_failingWays_9 : decode cX4_failingWays 9 = .ok (.if_icmp .ge 46, 3) := by decide +kernel
theorem dX4_failingWays_12 : decode cX4_failingWays 12 = .ok (.iconst 0, 1) := by decide +kernel
theorem dX4_failingWays_13 : decode cX4_failingWays 13 = .ok (.istore 4, 2) := by decide +kernel
theorem dX4_failingWays_15 : decode cX4_failingWays 15 = .ok (.iload 4, 2) := by decide +kernel
theorem dX4_failingWays_17 : decode cX4_failingWays 17 = .ok (.aload_n 0, 1) := by decide +kernel
theorem dX4_failingWays_18 : decode cX4_failingWays 18 = .ok (.getfield 12, 3) := by decide +kernel
theorem dX4_failingWays_21 : decode cX4_failingWays 21 = .ok (.getfield 43, 3) := by decide +kernel
theorem dX4_failingWays_24 : decode cX4_failingWays 24 = .ok (.if_icmp .gt 25, 3) := by decide +kernel
theorem dX4_failingWays_27 : decode cX4_failingWays 27 = .ok (.iload 4, 2) := by decide +kernel
theorem dX4_failingWays_29 : decode cX4_failingWays 29 = .ok (.iload_n 3, 1) := by decide +kernel
theorem dX4_failingWays_30 : decode cX4_failingWays 30 = .ok (.if_icmp .gt 19, 3) := by decide +kernel
theorem dX4_failingWays_33 : decode cX4_failingWays 33 = .ok (.lload_n 1, 1) := by decide +kernel
theorem dX4_failingWays_34 : decode cX4_failingWays 34 = .ok (.aload_n 0, 1) := by decide +kernel
theorem dX4_failingWays_35 : decode cX4_failingWays 35 = .ok (.iload_n 3, 1) := by decide +kernel
theorem dX4_failingWays_36 : decode cX4_failingWays 36 = .ok (.iload 4, 2) := by decide +kernel
theorem dX4_failingWays_38 : decode cX4_failingWays 38 = .ok (.invokevirtual 82, 3) := by decide +kernel
theorem dX4_failingWays_41 : decode cX4_failingWays 41 = .ok (.ladd, 1) := by decide +kernel
theorem dX4_failingWays_42 : decode cX4_failingWays 42 = .ok (.lstore_n 1, 1) := by decide +kernel
theorem dX4_failingWays_43 : decode cX4_failingWays 43 = .ok (.iinc 4 1, 3) := by decide +kernel
theorem dX4_failingWays_46 : decode cX4_failingWays 46 = .ok (.goto (-31), 3) := by decide +kernel
theorem dX4_failingWays_49 : decode cX4_failingWays 49 = .ok (.iinc 3 1, 3) := by decide +kernel
theorem dX4_failingWays_52 : decode cX4_failingWays 52 = .ok (.goto (-48), 3) := by decide +kernel
theorem dX4_failingWays_55 : decode cX4_failingWays 55 = .ok (.lload_n 1, 1) := by decide +kernel
theorem dX4_failingWays_56 : decode cX4_failingWays 56 = .ok (.lreturn, 1) := by decide +kernel
theorem dX4_failingWays__0 : decode cX4_failingWays_ 0 = .ok (.aload_n 0, 1) := by decide +kernel
theorem dX4_failingWays__1 : decode cX4_failingWays_ 1 = .ok (.invokevirtual 64, 3) := by decide +kernel
theorem dX4_failingWays__4 : decode cX4_failingWays_ 4 = .ok (.iconst 0, 1) := by decide +kernel
theorem dX4_failingWays__5 : decode cX4_failingWays_ 5 = .ok (.istore_n 3, 1) := by decide +kernel
theorem dX4_failingWays__6 : decode cX4_failingWays_ 6 = .ok (.iload_n 3, 1) := by decide +kernel
theorem dX4_failingWays__7 : decode cX4_failingWays_ 7 = .ok (.aload_n 0, 1) := by decide +kernel
theorem dX4_failingWays__8 : decode cX4_failingWays_ 8 = .ok (.getfield 12, 3) := by decide +kernel
theorem dX4_failingWays__11 : decode cX4_failingWays_ 11 = .ok (.getfield 43, 3) := by decide +kernel
theorem dX4_failingWays__14 : decode cX4_failingWays_ 14 = .ok (.if_icmp .ge 35, 3) := by decide +kernel
theorem dX4_failingWays__17 : decode cX4_failingWays_ 17 = .ok (.aload_n 0, 1) := by decide +kernel
theorem dX4_failingWays__18 : decode cX4_failingWays_ 18 = .ok (.aload_n 0, 1) := by decide +kernel
theorem dX4_failingWays__19 : decode cX4_failingWays_ 19 = .ok (.iload_n 3, 1) := by decide +kernel
theorem dX4_failingWays__20 : decode cX4_failingWays_ 20 = .ok (.iload_n 1, 1) := by decide +kernel
theorem dX4_failingWays__21 : decode cX4_failingWays_ 21 = .ok (.iload_n 2, 1) := by decide +kernel
theorem dX4_failingWays__22 : decode cX4_failingWays_ 22 = .ok (.invokevirtual 86, 3) := by decide +kernel
theorem dX4_failingWays__25 : decode cX4_failingWays_ 25 = .ok (.aload_n 0, 1) := by decide +kernel
theorem dX4_failingWays__26 : decode cX4_failingWays_ 26 = .ok (.getfield 20, 3) := by decide +kernel
theorem dX4_failingWays__29 : decode cX4_failingWays_ 29 = .ok (.iload_n 3, 1) := by decide +kernel
theorem dX4_failingWays__30 : decode cX4_failingWays_ 30 = .ok (.iaload, 1) := by decide +kernel
theorem dX4_failingWays__31 : decode cX4_failingWays_ 31 = .ok (.aload_n 0, 1) := by decide +kernel
theorem dX4_failingWays__32 : decode cX4_failingWays_ 32 = .ok (.iload_n 3, 1) := by decide +kernel
theorem dX4_failingWays__33 : decode cX4_failingWays_ 33 = .ok (.iload_n 1, 1) := by decide +kernel
theorem dX4_failingWays__34 : decode cX4_failingWays_ 34 = .ok (.iload_n 2, 1) := by decide +kernel
theorem dX4_failingWays__35 : decode cX4_failingWays_ 35 = .ok (.invokevirtual 90, 3) := by decide +kernel
theorem dX4_failingWays__38 : decode cX4_failingWays_ 38 = .ok (.iload_n 1, 1) := by decide +kernel
theorem dX4_failingWays__39 : decode cX4_failingWays_ 39 = .ok (.iload_n 2, 1) := by decide +kernel
theorem dX4_failingWays__40 : decode cX4_failingWays_ 40 = .ok (.invokevirtual 67, 3) := by decide +kernel
theorem dX4_failingWays__43 : decode cX4_failingWays_ 43 = .ok (.iinc 3 1, 3) := by decide +kernel
theorem dX4_failingWays__46 : decode cX4_failingWays_ 46 = .ok (.goto (-40), 3) := by decide +kernel
theorem dX4_failingWays__49 : decode cX4_failingWays_ 49 = .ok (.aload_n 0, 1) := by decide +kernel
theorem dX4_failingWays__50 : decode cX4_failingWays_ 50 = .ok (.getfield 24, 3) := by decide +kernel
theorem dX4_failingWays__53 : decode cX4_failingWays_ 53 = .ok (.iload_n 2, 1) := by decide +kernel
theorem dX4_failingWays__54 : decode cX4_failingWays_ 54 = .ok (.bipush 61, 2) := by decide +kernel
theorem dX4_failingWays__56 : decode cX4_failingWays_ 56 = .ok (.imul, 1) := by decide +kernel
theorem dX4_failingWays__57 : decode cX4_failingWays_ 57 = .ok (.iload_n 1, 1) := by decide +kernel
theorem dX4_failingWays__58 : decode cX4_failingWays_ 58 = .ok (.iadd, 1) := by decide +kernel
theorem dX4_failingWays__59 : decode cX4_failingWays_ 59 = .ok (.laload, 1) := by decide +kernel
theorem dX4_failingWays__60 : decode cX4_failingWays_ 60 = .ok (.lreturn, 1) := by decide +kernel
theorem dX4_lowestAtRest_0 : decode cX4_lowestAtRest 0 = .ok (.iload_n 3, 1) := by decide +kernel
theorem dX4_lowestAtRest_1 : decode cX4_lowestAtRest 1 = .ok (.aload_n 0, 1) := by decide +kernel
theorem dX4_lowestAtRest_2 : decode cX4_lowestAtRest 2 = .ok (.getfield 38, 3) := by decide +kernel
theorem dX4_lowestAtRest_5 : decode cX4_lowestAtRest 5 = .ok (.if_icmp .ge 5, 3) := by decide +kernel
theorem dX4_lowestAtRest_8 : decode cX4_lowestAtRest 8 = .ok (.iconst 1, 1) := by decide +kernel
theorem dX4_lowestAtRest_9 : decode cX4_lowestAtRest 9 = .ok (.ireturn, 1) := by decide +kernel
theorem dX4_lowestAtRest_10 : decode cX4_lowestAtRest 10 = .ok (.aload_n 0, 1) := by decide +kernel
theorem dX4_lowestAtRest_11 : decode cX4_lowestAtRest 11 = .ok (.getfield 34, 3) := by decide +kernel
theorem dX4_lowestAtRest_14 : decode cX4_lowestAtRest 14 = .ok (.iload_n 2, 1) := by decide +kernel
theorem dX4_lowestAtRest_15 : decode cX4_lowestAtRest 15 = .ok (.isub, 1) := by decide +kernel
theorem dX4_lowestAtRest_16 : decode cX4_lowestAtRest 16 = .ok (.istore 4, 2) := by decide +kernel
theorem dX4_lowestAtRest_18 : decode cX4_lowestAtRest 18 = .ok (.aload_n 0, 1) := by decide +kernel
theorem dX4_lowestAtRest_19 : decode cX4_lowestAtRest 19 = .ok (.getfield 20, 3) := by decide +kernel
theorem dX4_lowestAtRest_22 : decode cX4_lowestAtRest 22 = .ok (.iload_n 1, 1) := by decide +kernel
theorem dX4_lowestAtRest_23 : decode cX4_lowestAtRest 23 = .ok (.iaload, 1) := by decide +kernel
theorem dX4_lowestAtRest_24 : decode cX4_lowestAtRest 24 = .ok (.iload 4, 2) := by decide +kernel
theorem dX4_lowestAtRest_26 : decode cX4_lowestAtRest 26 = .ok (.isub, 1) := by decide +kernel
theorem dX4_lowestAtRest_27 : decode cX4_lowestAtRest 27 = .ok (.iconst 1, 1) := by decide +kernel
theorem dX4_lowestAtRest_28 : decode cX4_lowestAtRest 28 = .ok (.iadd, 1) := by decide +kernel
theorem dX4_lowestAtRest_29 : decode cX4_lowestAtRest 29 = .ok (.istore 5, 2) := by decide +kernel
theorem dX4_lowestAtRest_31 : decode cX4_lowestAtRest 31 = .ok (.aload_n 0, 1) := by decide +kernel
theorem dX4_lowestAtRest_32 : decode cX4_lowestAtRest 32 = .ok (.getfield 12, 3) := by decide +kernel
theorem dX4_lowestAtRest_35 : decode cX4_lowestAtRest 35 = .ok (.getfield 46, 3) := by decide +kernel
theorem dX4_lowestAtRest_38 : decode cX4_lowestAtRest 38 = .ok (.iload_n 1, 1) := by decide +kernel
theorem dX4_lowestAtRest_39 : decode cX4_lowestAtRest 39 = .ok (.iaload, 1) := by decide +kernel
theorem dX4_lowestAtRest_40 : decode cX4_lowestAtRest 40 = .ok (.iload 4, 2) := by decide +kernel
theorem dX4_lowestAtRest_42 : decode cX4_lowestAtRest 42 = .ok (.isub, 1) := by decide +kernel
theorem dX4_lowestAtRest_43 : decode cX4_lowestAtRest 43 = .ok (.aload_n 0, 1) := by decide +kernel
theorem dX4_lowestAtRest_44 : decode cX4_lowestAtRest 44 = .ok (.getfield 42, 3) := by decide +kernel
theorem dX4_lowestAtRest_47 : decode cX4_lowestAtRest 47 = .ok (.isub, 1) := by decide +kernel
theorem dX4_lowestAtRest_48 : decode cX4_lowestAtRest 48 = .ok (.istore 6, 2) := by decide +kernel
theorem dX4_lowestAtRest_50 : decode cX4_lowestAtRest 50 = .ok (.iconst 1, 1) := by decide +kernel
theorem dX4_lowestAtRest_51 : decode cX4_lowestAtRest 51 = .ok (.iload 5, 2) := by decide +kernel
theorem dX4_lowestAtRest_53 : decode cX4_lowestAtRest 53 = .ok (.iload 6, 2) := by decide +kernel
theorem dX4_lowestAtRest_55 : decode cX4_lowestAtRest 55 = .ok (.invokestatic 52, 3) := by decide +kernel
theorem dX4_lowestAtRest_58 : decode cX4_lowestAtRest 58 = .ok (.invokestatic 94, 3) := by decide +kernel
theorem dX4_lowestAtRest_61 : decode cX4_lowestAtRest 61 = .ok (.ireturn, 1) := by decide +kernel
theorem dX4_isNoneAtRest_0 : decode cX4_isNoneAtRest 0 = .ok (.aload_n 0, 1) := by decide +kernel
theorem dX4_isNoneAtRest_1 : decode cX4_isNoneAtRest 1 = .ok (.getfield 34, 3) := by decide +kernel
theorem dX4_isNoneAtRest_4 : decode cX4_isNoneAtRest 4 = .ok (.iload_n 2, 1) := by decide +kernel
theorem dX4_isNoneAtRest_5 : decode cX4_isNoneAtRest 5 = .ok (.isub, 1) := by decide +kernel
theorem dX4_isNoneAtRest_6 : decode cX4_isNoneAtRest 6 = .ok (.istore 4, 2) := by decide +kernel
theorem dX4_isNoneAtRest_8 : decode cX4_isNoneAtRest 8 = .ok (.iload_n 3, 1) := by decide +kernel
theorem dX4_isNoneAtRest_9 : decode cX4_isNoneAtRest 9 = .ok (.iconst 1, 1) := by decide +kernel
theorem dX4_isNoneAtRest_10 : decode cX4_isNoneAtRest 10 = .ok (.iadd, 1) := by decide +kernel
theorem dX4_isNoneAtRest_11 : decode cX4_isNoneAtRest 11 = .ok (.aload_n 0, 1) := by decide +kernel
theorem dX4_isNoneAtRest_12 : decode cX4_isNoneAtRest 12 = .ok (.getfield 38, 3) := by decide +kernel
theorem dX4_isNoneAtRest_15 : decode cX4_isNoneAtRest 15 = .ok (.if_icmp .lt 7, 3) := by decide +kernel
theorem dX4_isNoneAtRest_18 : decode cX4_isNoneAtRest 18 = .ok (.iconst 1, 1) := by decide +kernel
theorem dX4_isNoneAtRest_19 : decode cX4_isNoneAtRest 19 = .ok (.goto 4, 3) := by decide +kernel
theorem dX4_isNoneAtRest_22 : decode cX4_isNoneAtRest 22 = .ok (.iconst 0, 1) := by decide +kernel
theorem dX4_isNoneAtRest_23 : decode cX4_isNoneAtRest 23 = .ok (.istore 5, 2) := by decide +kernel
theorem dX4_isNoneAtRest_25 : decode cX4_isNoneAtRest 25 = .ok (.iload 5, 2) := by decide +kernel
theorem dX4_isNoneAtRest_27 : decode cX4_isNoneAtRest 27 = .ok (.ifCond .eq 18, 3) := by decide +kernel
theorem dX4_isNoneAtRest_30 : decode cX4_isNoneAtRest 30 = .ok (.iload 4, 2) := by decide +kernel
theorem dX4_isNoneAtRest_32 : decode cX4_isNoneAtRest 32 = .ok (.aload_n 0, 1) := by decide +kernel
theorem dX4_isNoneAtRest_33 : decode cX4_isNoneAtRest 33 = .ok (.getfield 20, 3) := by decide +kernel
theorem dX4_isNoneAtRest_36 : decode cX4_isNoneAtRest 36 = .ok (.iload_n 1, 1) := by decide +kernel
theorem dX4_isNoneAtRest_37 : decode cX4_isNoneAtRest 37 = .ok (.iaload, 1) := by decide +kernel
theorem dX4_isNoneAtRest_38 : decode cX4_isNoneAtRest 38 = .ok (.if_icmp .gt 7, 3) := by decide +kernel
theorem dX4_isNoneAtRest_41 : decode cX4_isNoneAtRest 41 = .ok (.iconst 1, 1) := by decide +kernel
theorem dX4_isNoneAtRest_42 : decode cX4_isNoneAtRest 42 = .ok (.goto 4, 3) := by decide +kernel
theorem dX4_isNoneAtRest_45 : decode cX4_isNoneAtRest 45 = .ok (.iconst 0, 1) := by decide +kernel
theorem dX4_isNoneAtRest_46 : decode cX4_isNoneAtRest 46 = .ok (.istore 6, 2) := by decide +kernel
theorem dX4_isNoneAtRest_48 : decode cX4_isNoneAtRest 48 = .ok (.iload 6, 2) := by decide +kernel
theorem dX4_isNoneAtRest_50 : decode cX4_isNoneAtRest 50 = .ok (.ifCond .eq 19, 3) := by decide +kernel
theorem dX4_isNoneAtRest_53 : decode cX4_isNoneAtRest 53 = .ok (.aload_n 0, 1) := by decide +kernel
theorem dX4_isNoneAtRest_54 : decode cX4_isNoneAtRest 54 = .ok (.getfield 12, 3) := by decide +kernel
theorem dX4_isNoneAtRest_57 : decode cX4_isNoneAtRest 57 = .ok (.getfield 46, 3) := by decide +kernel
theorem dX4_isNoneAtRest_60 : decode cX4_isNoneAtRest 60 = .ok (.iload_n 1, 1) := by decide +kernel
theorem dX4_isNoneAtRest_61 : decode cX4_isNoneAtRest 61 = .ok (.iaload, 1) := by decide +kernel
theorem dX4_isNoneAtRest_62 : decode cX4_isNoneAtRest 62 = .ok (.iload 4, 2) := by decide +kernel
theorem dX4_isNoneAtRest_64 : decode cX4_isNoneAtRest 64 = .ok (.if_icmp .le 5, 3) := by decide +kernel
theorem dX4_isNoneAtRest_67 : decode cX4_isNoneAtRest 67 = .ok (.iconst 0, 1) := by decide +kernel
theorem dX4_isNoneAtRest_68 : decode cX4_isNoneAtRest 68 = .ok (.ireturn, 1) := by decide +kernel
theorem dX4_isNoneAtRest_69 : decode cX4_isNoneAtRest 69 = .ok (.iload 5, 2) := by decide +kernel
theorem dX4_isNoneAtRest_71 : decode cX4_isNoneAtRest 71 = .ok (.ifCond .eq 19, 3) := by decide +kernel
theorem dX4_isNoneAtRest_74 : decode cX4_isNoneAtRest 74 = .ok (.aload_n 0, 1) := by decide +kernel
theorem dX4_isNoneAtRest_75 : decode cX4_isNoneAtRest 75 = .ok (.getfield 20, 3) := by decide +kernel
theorem dX4_isNoneAtRest_78 : decode cX4_isNoneAtRest 78 = .ok (.iload_n 1, 1) := by decide +kernel
theorem dX4_isNoneAtRest_79 : decode cX4_isNoneAtRest 79 = .ok (.iaload, 1) := by decide +kernel
theorem dX4_isNoneAtRest_80 : decode cX4_isNoneAtRest 80 = .ok (.iload 4, 2) := by decide +kernel
theorem dX4_isNoneAtRest_82 : decode cX4_isNoneAtRest 82 = .ok (.iconst 1, 1) := by decide +kernel
theorem dX4_isNoneAtRest_83 : decode cX4_isNoneAtRest 83 = .ok (.isub, 1) := by decide +kernel
theorem dX4_isNoneAtRest_84 : decode cX4_isNoneAtRest 84 = .ok (.invokestatic 52, 3) := by decide +kernel
theorem dX4_isNoneAtRest_87 : decode cX4_isNoneAtRest 87 = .ok (.goto 9, 3) := by decide +kernel
theorem dX4_isNoneAtRest_90 : decode cX4_isNoneAtRest 90 = .ok (.aload_n 0, 1) := by decide +kernel
theorem dX4_isNoneAtRest_91 : decode cX4_isNoneAtRest 91 = .ok (.getfield 20, 3) := by decide +kernel
theorem dX4_isNoneAtRest_94 : decode cX4_isNoneAtRest 94 = .ok (.iload_n 1, 1) := by decide +kernel
theorem dX4_isNoneAtRest_95 : decode cX4_isNoneAtRest 95 = .ok (.iaload, 1) := by decide +kernel
theorem dX4_isNoneAtRest_96 : decode cX4_isNoneAtRest 96 = .ok (.istore 7, 2) := by decide +kernel
theorem dX4_isNoneAtRest_98 : decode cX4_isNoneAtRest 98 = .ok (.aload_n 0, 1) := by decide +kernel
theorem dX4_isNoneAtRest_99 : decode cX4_isNoneAtRest 99 = .ok (.getfield 42, 3) := by decide +kernel
theorem dX4_isNoneAtRest_102 : decode cX4_isNoneAtRest 102 = .ok (.ifCond .eq 9, 3) := by decide +kernel
theorem dX4_isNoneAtRest_105 : decode cX4_isNoneAtRest 105 = .ok (.iload 7, 2) := by decide +kernel
theorem dX4_isNoneAtRest_107 : decode cX4_isNoneAtRest 107 = .ok (.iconst 1, 1) := by decide +kernel
theorem dX4_isNoneAtRest_108 : decode cX4_isNoneAtRest 108 = .ok (.if_icmp .ge 7, 3) := by decide +kernel
theorem dX4_isNoneAtRest_111 : decode cX4_isNoneAtRest 111 = .ok (.iconst 1, 1) := by decide +kernel
theorem dX4_isNoneAtRest_112 : decode cX4_isNoneAtRest 112 = .ok (.goto 4, 3) := by decide +kernel
theorem dX4_isNoneAtRest_115 : decode cX4_isNoneAtRest 115 = .ok (.iconst 0, 1) := by decide +kernel
theorem dX4_isNoneAtRest_116 : decode cX4_isNoneAtRest 116 = .ok (.ireturn, 1) := by decide +kernel
theorem dX5_init_0 : decode cX5_init 0 = .ok (.aload_n 0, 1) := by decide +kernel
theorem dX5_init_1 : decode cX5_init 1 = .ok (.invokespecial 1, 3) := by decide +kernel
theorem dX5_init_4 : decode cX5_init 4 = .ok (.aload_n 0, 1) := by decide +kernel
theorem dX5_init_5 : decode cX5_init 5 = .ok (.bipush 6, 2) := by decide +kernel
theorem dX5_init_7 : decode cX5_init 7 = .ok (.newarray .int, 2) := by decide +kernel
theorem dX5_init_9 : decode cX5_init 9 = .ok (.putfield 9, 3) := by decide +kernel
theorem dX5_init_12 : decode cX5_init 12 = .ok (.aload_n 0, 1) := by decide +kernel
theorem dX5_init_13 : decode cX5_init 13 = .ok (.bipush 6, 2) := by decide +kernel
theorem dX5_init_15 : decode cX5_init 15 = .ok (.newarray .int, 2) := by decide +kernel
theorem dX5_init_17 : decode cX5_init 17 = .ok (.putfield 13, 3) := by decide +kernel
theorem dX5_init_20 : decode cX5_init 20 = .ok (.aload_n 0, 1) := by decide +kernel
theorem dX5_init_21 : decode cX5_init 21 = .ok (.bipush 6, 2) := by decide +kernel
theorem dX5_init_23 : decode cX5_init 23 = .ok (.newarray .int, 2) := by decide +kernel
theorem dX5_init_25 : decode cX5_init 25 = .ok (.putfield 16, 3) := by decide +kernel
theorem dX5_init_28 : decode cX5_init 28 = .ok (.aload_n 0, 1) := by decide +kernel
theorem dX5_init_29 : decode cX5_init 29 = .ok (.bipush 6, 2) := by decide +kernel
theorem dX5_init_31 : decode cX5_init 31 = .ok (.newarray .int, 2) := by decide +kernel
theorem dX5_init_33 : decode cX5_init 33 = .ok (.putfield 19, 3) := by decide +kernel
theorem dX5_init_36 : decode cX5_init 36 = .ok (.aload_n 0, 1) := by decide +kernel
theorem dX5_init_37 : decode cX5_init 37 = .ok (.bipush 18, 2) := by decide +kernel
theorem dX5_init_39 : decode cX5_init 39 = .ok (.newarray .int, 2) := by decide +kernel
theorem dX5_init_41 : decode cX5_init 41 = .ok (.putfield 22, 3) := by decide +kernel
theorem dX5_init_44 : decode cX5_init 44 = .ok (.aload_n 0, 1) := by decide +kernel
theorem dX5_init_45 : decode cX5_init 45 = .ok (.bipush 18, 2) := by decide +kernel
theorem dX5_init_47 : decode cX5_init 47 = .ok (.newarray .int, 2) := by decide +kernel
theorem dX5_init_49 : decode cX5_init 49 = .ok (.putfield 25, 3) := by decide +kernel
theorem dX5_init_52 : decode cX5_init 52 = .ok (.aload_n 0, 1) := by decide +kernel
theorem dX5_init_53 : decode cX5_init 53 = .ok (.bipush 8, 2) := by decide +kernel
theorem dX5_init_55 : decode cX5_init 55 = .ok (.newarray .int, 2) := by decide +kernel
theorem dX5_init_57 : decode cX5_init 57 = .ok (.putfield 28, 3) := by decide +kernel
theorem dX5_init_60 : decode cX5_init 60 = .ok (.aload_n 0, 1) := by decide +kernel
theorem dX5_init_61 : decode cX5_init 61 = .ok (.bipush 8, 2) := by decide +kernel
theorem dX5_init_63 : decode cX5_init 63 = .ok (.newarray .int, 2) := by decide +kernel
theorem dX5_init_65 : decode cX5_init 65 = .ok (.putfield 31, 3) := by decide +kernel
theorem dX5_init_68 : decode cX5_init 68 = .ok (.return_, 1) := by decide +kernel
theorem dX5_clear_0 : decode cX5_clear 0 = .ok (.aload_n 0, 1) := by decide +kernel
theorem dX5_clear_1 : decode cX5_clear 1 = .ok (.iconst 0, 1) := by decide +kernel
theorem dX5_clear_2 : decode cX5_clear 2 = .ok (.putfield 34, 3) := by decide +kernel
theorem dX5_clear_5 : decode cX5_clear 5 = .ok (.aload_n 0, 1) := by decide +kernel
theorem dX5_clear_6 : decode cX5_clear 6 = .ok (.iconst 0, 1) := by decide +kernel
theorem dX5_clear_7 : decode cX5_clear 7 = .ok (.putfield 38, 3) := by decide +kernel
theorem dX5_clear_10 : decode cX5_clear 10 = .ok (.return_, 1) := by decide +kernel
theorem dX5_has_0 : decode cX5_has 0 = .ok (.iload_n 1, 1) := by decide +kernel
theorem dX5_has_1 : decode cX5_has 1 = .ok (.ifCond .lt 15, 3) := by decide +kernel
theorem dX5_has_4 : decode cX5_has 4 = .ok (.iload_n 1, 1) := by decide +kernel
theorem dX5_has_5 : decode cX5_has 5 = .ok (.aload_n 0, 1) := by decide +kernel
theorem dX5_has_6 : decode cX5_has 6 = .ok (.getfield 34, 3) := by decide +kernel
theorem dX5_has_9 : decode cX5_has 9 = .ok (.if_icmp .ge 7, 3) := by decide +kernel
theorem dX5_has_12 : decode cX5_has 12 = .ok (.iconst 1, 1) := by decide +kernel
theorem dX5_has_13 : decode cX5_has 13 = .ok (.goto 4, 3) := by decide +kernel
theorem dX5_has_16 : decode cX5_has 16 = .ok (.iconst 0, 1) := by decide +kernel
theorem dX5_has_17 : decode cX5_has 17 = .ok (.ireturn, 1) := by decide +kernel
theorem dX5_add_0 : decode cX5_add 0 = .ok (.aload_n 0, 1) := by decide +kernel
theorem dX5_add_1 : decode cX5_add 1 = .ok (.getfield 34, 3) := by decide +kernel
theorem dX5_add_4 : decode cX5_add 4 = .ok (.bipush 6, 2) := by decide +kernel
theorem dX5_add_6 : decode cX5_add 6 = .ok (.if_icmp .ge 19, 3) := by decide +kernel
theorem dX5_add_9 : decode cX5_add 9 = .ok (.iload_n 1, 1) := by decide +kernel
theorem dX5_add_10 : decode cX5_add 10 = .ok (.iconst 1, 1) := by decide +kernel
theorem dX5_add_11 : decode cX5_add 11 = .ok (.if_icmp .lt 14, 3) := by decide +kernel
theorem dX5_add_14 : decode cX5_add 14 = .ok (.aload_n 0, 1) := by decide +kernel
theorem dX5_add_15 : decode cX5_add 15 = .ok (.getfield 38, 3) := by decide +kernel
theorem dX5_add_18 : decode cX5_add 18 = .ok (.iload_n 1, 1) := by decide +kernel
theorem dX5_add_19 : decode cX5_add 19 = .ok (.iadd, 1) := by decide +kernel
theorem dX5_add_20 : decode cX5_add 20 = .ok (.bipush 8, 2) := by decide +kernel
theorem dX5_add_22 : decode cX5_add 22 = .ok (.if_icmp .le 5, 3) := by decide +kernel
theorem dX5_add_25 : decode cX5_add 25 = .ok (.iconst 0, 1) := by decide +kernel
theorem dX5_add_26 : decode cX5_add 26 = .ok (.ireturn, 1) := by decide +kernel
theorem dX5_add_27 : decode cX5_add 27 = .ok (.aload_n 0, 1) := by decide +kernel
theorem dX5_add_28 : decode cX5_add 28 = .ok (.getfield 9, 3) := by decide +kernel
theorem dX5_add_31 : decode cX5_add 31 = .ok (.aload_n 0, 1) := by decide +kernel
theorem dX5_add_32 : decode cX5_add 32 = .ok (.getfield 34, 3) := by decide +kernel
theorem dX5_add_35 : decode cX5_add 35 = .ok (.iload_n 2, 1) := by decide +kernel
theorem dX5_add_36 : decode cX5_add 36 = .ok (.iastore, 1) := by decide +kernel
theorem dX5_add_37 : decode cX5_add 37 = .ok (.aload_n 0, 1) := by decide +kernel
theorem dX5_add_38 : decode cX5_add 38 = .ok (.getfield 13, 3) := by decide +kernel
theorem dX5_add_41 : decode cX5_add 41 = .ok (.aload_n 0, 1) := by decide +kernel
theorem dX5_add_42 : decode cX5_add 42 = .ok (.getfield 34, 3) := by decide +kernel
theorem dX5_add_45 : decode cX5_add 45 = .ok (.iload_n 3, 1) := by decide +kernel
theorem dX5_add_46 : decode cX5_add 46 = .ok (.iastore, 1) := by decide +kernel
theorem dX5_add_47 : decode cX5_add 47 = .ok (.aload_n 0, 1) := by decide +kernel
theorem dX5_add_48 : decode cX5_add 48 = .ok (.getfield 16, 3) := by decide +kernel
theorem dX5_add_51 : decode cX5_add 51 = .ok (.aload_n 0, 1) := by decide +kernel
theorem dX5_add_52 : decode cX5_add 52 = .ok (.getfield 34, 3) := by decide +kernel
theorem dX5_add_55 : decode cX5_add 55 = .ok (.iconst 0, 1) := by decide +kernel
theorem dX5_add_56 : decode cX5_add 56 = .ok (.iastore, 1) := by decide +kernel
theorem dX5_add_57 : decode cX5_add 57 = .ok (.aload_n 0, 1) := by decide +kernel
theorem dX5_add_58 : decode cX5_add 58 = .ok (.getfield 19, 3) := by decide +kernel
theorem dX5_add_61 : decode cX5_add 61 = .ok (.aload_n 0, 1) := by decide +kernel
theorem dX5_add_62 : decode cX5_add 62 = .ok (.getfield 34, 3) := by decide +kernel
theorem dX5_add_65 : decode cX5_add 65 = .ok (.iconst 0, 1) := by decide +kernel
theorem dX5_add_66 : decode cX5_add 66 = .ok (.iastore, 1) := by decide +kernel
theorem dX5_add_67 : decode cX5_add 67 = .ok (.iconst 0, 1) := by decide +kernel
theorem dX5_add_68 : decode cX5_add 68 = .ok (.istore 6, 2) := by decide +kernel
theorem dX5_add_70 : decode cX5_add 70 = .ok (.iload 6, 2) := by decide +kernel
theorem dX5_add_72 : decode cX5_add 72 = .ok (.iload_n 1, 1) := by decide +kernel
theorem dX5_add_73 : decode cX5_add 73 = .ok (.if_icmp .ge 49, 3) := by decide +kernel
theorem dX5_add_76 : decode cX5_add 76 = .ok (.aload_n 0, 1) := by decide +kernel
theorem dX5_add_77 : decode cX5_add 77 = .ok (.getfield 28, 3) := by decide +kernel
theorem dX5_add_80 : decode cX5_add 80 = .ok (.aload_n 0, 1) := by decide +kernel
theorem dX5_add_81 : decode cX5_add 81 = .ok (.getfield 38, 3) := by decide +kernel
theorem dX5_add_84 : decode cX5_add 84 = .ok (.aload_n 0, 1) := by decide +kernel
theorem dX5_add_85 : decode cX5_add 85 = .ok (.getfield 34, 3) := by decide +kernel
theorem dX5_add_88 : decode cX5_add 88 = .ok (.iastore, 1) := by decide +kernel
theorem dX5_add_89 : decode cX5_add 89 = .ok (.aload_n 0, 1) := by decide +kernel
theorem dX5_add_90 : decode cX5_add 90 = .ok (.getfield 31, 3) := by decide +kernel
theorem dX5_add_93 : decode cX5_add 93 = .ok (.aload_n 0, 1) := by decide +kernel
theorem dX5_add_94 : decode cX5_add 94 = .ok (.getfield 38, 3) := by decide +kernel
theorem dX5_add_97 : decode cX5_add 97 = .ok (.iload 4, 2) := by decide +kernel
theorem dX5_add_99 : decode cX5_add 99 = .ok (.iload 6, 2) := by decide +kernel
theorem dX5_add_101 : decode cX5_add 101 = .ok (.iload 5, 2) := by decide +kernel
theorem dX5_add_103 : decode cX5_add 103 = .ok (.imul, 1) := by decide +kernel
theorem dX5_add_104 : decode cX5_add 104 = .ok (.iadd, 1) := by decide +kernel
theorem dX5_add_105 : decode cX5_add 105 = .ok (.iastore, 1) := by decide +kernel
theorem dX5_add_106 : decode cX5_add 106 = .ok (.aload_n 0, 1) := by decide +kernel
theorem dX5_add_107 : decode cX5_add 107 = .ok (.dup, 1) := by decide +kernel
theorem dX5_add_108 : decode cX5_add 108 = .ok (.getfield 38, 3) := by decide +kernel
theorem dX5_add_111 : decode cX5_add 111 = .ok (.iconst 1, 1) := by decide +kernel
theorem dX5_add_112 : decode cX5_add 112 = .ok (.iadd, 1) := by decide +kernel
theorem dX5_add_113 : decode cX5_add 113 = .ok (.putfield 38, 3) := by decide +kernel
theorem dX5_add_116 : decode cX5_add 116 = .ok (.iinc 6 1, 3) := by decide +kernel
theorem dX5_add_119 : decode cX5_add 119 = .ok (.goto (-49), 3) := by decide +kernel
theorem dX5_add_122 : decode cX5_add 122 = .ok (.aload_n 0, 1) := by decide +kernel
theorem dX5_add_123 : decode cX5_add 123 = .ok (.dup, 1) := by decide +kernel
theorem dX5_add_124 : decode cX5_add 124 = .ok (.getfield 34, 3) := by decide +kernel
theorem dX5_add_127 : decode cX5_add 127 = .ok (.iconst 1, 1) := by decide +kernel
theorem dX5_add_128 : decode cX5_add 128 = .ok (.iadd, 1) := by decide +kernel
theorem dX5_add_129 : decode cX5_add 129 = .ok (.putfield 34, 3) := by decide +kernel
theorem dX5_add_132 : decode cX5_add 132 = .ok (.iconst 1, 1) := by decide +kernel
theorem dX5_add_133 : decode cX5_add 133 = .ok (.ireturn, 1) := by decide +kernel
theorem dX5_addWorth_0 : decode cX5_addWorth 0 = .ok (.aload_n 0, 1) := by decide +kernel
theorem dX5_addWorth_1 : decode cX5_addWorth 1 = .ok (.iload_n 1, 1) := by decide +kernel
theorem dX5_addWorth_2 : decode cX5_addWorth 2 = .ok (.invokevirtual 41, 3) := by decide +kernel
theorem dX5_addWorth_5 : decode cX5_addWorth 5 = .ok (.ifCond .eq 13, 3) := by decide +kernel
theorem dX5_addWorth_8 : decode cX5_addWorth 8 = .ok (.aload_n 0, 1) := by decide +kernel
theorem dX5_addWorth_9 : decode cX5_addWorth 9 = .ok (.getfield 19, 3) := by decide +kernel
theorem dX5_addWorth_12 : decode cX5_addWorth 12 = .ok (.iload_n 1, 1) := by decide +kernel
theorem dX5_addWorth_13 : decode cX5_addWorth 13 = .ok (.iaload, 1) := by decide +kernel
theorem dX5_addWorth_14 : decode cX5_addWorth 14 = .ok (.iconst 3, 1) := by decide +kernel
theorem dX5_addWorth_15 : decode cX5_addWorth 15 = .ok (.if_icmp .lt 5, 3) := by decide +kernel
theorem dX5_addWorth_18 : decode cX5_addWorth 18 = .ok (.iconst 0, 1) := by decide +kernel
theorem dX5_addWorth_19 : decode cX5_addWorth 19 = .ok (.ireturn, 1) := by decide +kernel
theorem dX5_addWorth_20 : decode cX5_addWorth 20 = .ok (.aload_n 0, 1) := by decide +kernel
theorem dX5_addWorth_21 : decode cX5_addWorth 21 = .ok (.getfield 22, 3) := by decide +kernel
theorem dX5_addWorth_24 : decode cX5_addWorth 24 = .ok (.iload_n 1, 1) := by decide +kernel
theorem dX5_addWorth_25 : decode cX5_addWorth 25 = .ok (.iconst 3, 1) := by decide +kernel
theorem dX5_addWorth_26 : decode cX5_addWorth 26 = .ok (.imul, 1) := by decide +kernel
theorem dX5_addWorth_27 : decode cX5_addWorth 27 = .ok (.aload_n 0, 1) := by decide +kernel
theorem dX5_addWorth_28 : decode cX5_addWorth 28 = .ok (.getfield 19, 3) := by decide +kernel
theorem dX5_addWorth_31 : decode cX5_addWorth 31 = .ok (.iload_n 1, 1) := by decide +kernel
theorem dX5_addWorth_32 : decode cX5_addWorth 32 = .ok (.iaload, 1) := by decide +kernel
theorem dX5_addWorth_33 : decode cX5_addWorth 33 = .ok (.iadd, 1) := by decide +kernel
theorem dX5_addWorth_34 : decode cX5_addWorth 34 = .ok (.iload_n 2, 1) := by decide +kernel
theorem dX5_addWorth_35 : decode cX5_addWorth 35 = .ok (.iastore, 1) := by decide +kernel
theorem dX5_addWorth_36 : decode cX5_addWorth 36 = .ok (.aload_n 0, 1) := by decide +kernel
theorem dX5_addWorth_37 : decode cX5_addWorth 37 = .ok (.getfield 25, 3) := by decide +kernel
theorem dX5_addWorth_40 : decode cX5_addWorth 40 = .ok (.iload_n 1, 1) := by decide +kernel
theorem dX5_addWorth_41 : decode cX5_addWorth 41 = .ok (.iconst 3, 1) := by decide +kernel
theorem dX5_addWorth_42 : decode cX5_addWorth 42 = .ok (.imul, 1) := by decide +kernel
theorem dX5_addWorth_43 : decode cX5_addWorth 43 = .ok (.aload_n 0, 1) := by decide +kernel
theorem dX5_addWorth_44 : decode cX5_addWorth 44 = .ok (.getfield 19, 3) := by decide +kernel
theorem dX5_addWorth_47 : decode cX5_addWorth 47 = .ok (.iload_n 1, 1) := by decide +kernel
theorem dX5_addWorth_48 : decode cX5_addWorth 48 = .ok (.iaload, 1) := by decide +kernel
theorem dX5_addWorth_49 : decode cX5_addWorth 49 = .ok (.iadd, 1) := by decide +kernel
theorem dX5_addWorth_50 : decode cX5_addWorth 50 = .ok (.iload_n 3, 1) := by decide +kernel
theorem dX5_addWorth_51 : decode cX5_addWorth 51 = .ok (.iastore, 1) := by decide +kernel
theorem dX5_addWorth_52 : decode cX5_addWorth 52 = .ok (.aload_n 0, 1) := by decide +kernel
theorem dX5_addWorth_53 : decode cX5_addWorth 53 = .ok (.getfield 19, 3) := by decide +kernel
theorem dX5_addWorth_56 : decode cX5_addWorth 56 = .ok (.iload_n 1, 1) := by decide +kernel
theorem dX5_addWorth_57 : decode cX5_addWorth 57 = .ok (.dup2, 1) := by decide +kernel
theorem dX5_addWorth_58 : decode cX5_addWorth 58 = .ok (.iaload, 1) := by decide +kernel
theorem dX5_addWorth_59 : decode cX5_addWorth 59 = .ok (.iconst 1, 1) := by decide +kernel
theorem dX5_addWorth_60 : decode cX5_addWorth 60 = .ok (.iadd, 1) := by decide +kernel
theorem dX5_addWorth_61 : decode cX5_addWorth 61 = .ok (.iastore, 1) := by decide +kernel
theorem dX5_addWorth_62 : decode cX5_addWorth 62 = .ok (.iconst 1, 1) := by decide +kernel
theorem dX5_addWorth_63 : decode cX5_addWorth 63 = .ok (.ireturn, 1) := by decide +kernel
theorem dX5_tell_0 : decode cX5_tell 0 = .ok (.aload_n 0, 1) := by decide +kernel
theorem dX5_tell_1 : decode cX5_tell 1 = .ok (.iload_n 1, 1) := by decide +kernel
theorem dX5_tell_2 : decode cX5_tell 2 = .ok (.invokevirtual 41, 3) := by decide +kernel
theorem dX5_tell_5 : decode cX5_tell 5 = .ok (.ifCond .ne 5, 3) := by decide +kernel
theorem dX5_tell_8 : decode cX5_tell 8 = .ok (.iconst 0, 1) := by decide +kernel
theorem dX5_tell_9 : decode cX5_tell 9 = .ok (.ireturn, 1) := by decide +kernel
theorem dX5_tell_10 : decode cX5_tell 10 = .ok (.aload_n 0, 1) := by decide +kernel
theorem dX5_tell_11 : decode cX5_tell 11 = .ok (.getfield 16, 3) := by decide +kernel
theorem dX5_tell_14 : decode cX5_tell 14 = .ok (.iload_n 1, 1) := by decide +kernel
theorem dX5_tell_15 : decode cX5_tell 15 = .ok (.iload_n 2, 1) := by decide +kernel
theorem dX5_tell_16 : decode cX5_tell 16 = .ok (.iastore, 1) := by decide +kernel
theorem dX5_tell_17 : decode cX5_tell 17 = .ok (.iconst 1, 1) := by decide +kernel
theorem dX5_tell_18 : decode cX5_tell 18 = .ok (.ireturn, 1) := by decide +kernel
theorem dX5_areWhole_0 : decode cX5_areWhole 0 = .ok (.iconst 0, 1) := by decide +kernel
theorem dX5_areWhole_1 : decode cX5_areWhole 1 = .ok (.istore_n 1, 1) := by decide +kernel
theorem dX5_areWhole_2 : decode cX5_areWhole 2 = .ok (.iload_n 1, 1) := by decide +kernel
theorem dX5_areWhole_3 : decode cX5_areWhole 3 = .ok (.aload_n 0, 1) := by decide +kernel
theorem dX5_areWhole_4 : decode cX5_areWhole 4 = .ok (.getfield 34, 3) := by decide +kernel
theorem dX5_areWhole_7 : decode cX5_areWhole 7 = .ok (.if_icmp .ge 50, 3) := by decide +kernel
theorem dX5_areWhole_10 : decode cX5_areWhole 10 = .ok (.iconst 0, 1) := by decide +kernel
theorem dX5_areWhole_11 : decode cX5_areWhole 11 = .ok (.istore_n 2, 1) := by decide +kernel
theorem dX5_areWhole_12 : decode cX5_areWhole 12 = .ok (.iconst 0, 1) := by decide +kernel
theorem dX5_areWhole_13 : decode cX5_areWhole 13 = .ok (.istore_n 3, 1) := by decide +kernel
theorem dX5_areWhole_14 : decode cX5_areWhole 14 = .ok (.iload_n 3, 1) := by decide +kernel
theorem dX5_areWhole_15 : decode cX5_areWhole 15 = .ok (.aload_n 0, 1) := by decide +kernel
theorem dX5_areWhole_16 : decode cX5_areWhole 16 = .ok (.getfield 19, 3) := by decide +kernel
theorem dX5_areWhole_19 : decode cX5_areWhole 19 = .ok (.iload_n 1, 1) := by decide +kernel
theorem dX5_areWhole_20 : decode cX5_areWhole 20 = .ok (.iaload, 1) := by decide +kernel
theorem dX5_areWhole_21 : decode cX5_areWhole 21 = .ok (.if_icmp .ge 22, 3) := by decide +kernel
theorem dX5_areWhole_24 : decode cX5_areWhole 24 = .ok (.iload_n 2, 1) := by decide +kernel
theorem dX5_areWhole_25 : decode cX5_areWhole 25 = .ok (.aload_n 0, 1) := by decide +kernel
theorem dX5_areWhole_26 : decode cX5_areWhole 26 = .ok (.getfield 25, 3) := by decide +kernel
theorem dX5_areWhole_29 : decode cX5_areWhole 29 = .ok (.iload_n 1, 1) := by decide +kernel
theorem dX5_areWhole_30 : decode cX5_areWhole 30 = .ok (.iconst 3, 1) := by decide +kernel
theorem dX5_areWhole_31 : decode cX5_areWhole 31 = .ok (.imul, 1) := by decide +kernel
theorem dX5_areWhole_32 : decode cX5_areWhole 32 = .ok (.iload_n 3, 1) := by decide +kernel
theorem dX5_areWhole_33 : decode cX5_areWhole 33 = .ok (.iadd, 1) := by decide +kernel
theorem dX5_areWhole_34 : decode cX5_areWhole 34 = .ok (.iaload, 1) := by decide +kernel
theorem dX5_areWhole_35 : decode cX5_areWhole 35 = .ok (.iadd, 1) := by decide +kernel
theorem dX5_areWhole_36 : decode cX5_areWhole 36 = .ok (.istore_n 2, 1) := by decide +kernel
theorem dX5_areWhole_37 : decode cX5_areWhole 37 = .ok (.iinc 3 1, 3) := by decide +kernel
theorem dX5_areWhole_40 : decode cX5_areWhole 40 = .ok (.goto (-26), 3) := by decide +kernel
theorem dX5_areWhole_43 : decode cX5_areWhole 43 = .ok (.iload_n 2, 1) := by decide +kernel
theorem dX5_areWhole_44 : decode cX5_areWhole 44 = .ok (.bipush 10, 2) := by decide +kernel
theorem dX5_areWhole_46 : decode cX5_areWhole 46 = .ok (.if_icmp .eq 5, 3) := by decide +kernel
theorem dX5_areWhole_49 : decode cX5_areWhole 49 = .ok (.iconst 0, 1) := by decide +kernel
theorem dX5_areWhole_50 : decode cX5_areWhole 50 = .ok (.ireturn, 1) := by decide +kernel
theorem dX5_areWhole_51 : decode cX5_areWhole 51 = .ok (.iinc 1 1, 3) := by decide +kernel
theorem dX5_areWhole_54 : decode cX5_areWhole 54 = .ok (.goto (-52), 3) := by decide +kernel
theorem dX5_areWhole_57 : decode cX5_areWhole 57 = .ok (.iconst 1, 1) := by decide +kernel
theorem dX5_areWhole_58 : decode cX5_areWhole 58 = .ok (.ireturn, 1) := by decide +kernel
theorem dX5_sortOf_0 : decode cX5_sortOf 0 = .ok (.iload_n 1, 1) := by decide +kernel
theorem dX5_sortOf_1 : decode cX5_sortOf 1 = .ok (.ifCond .lt 20, 3) := by decide +kernel
theorem dX5_sortOf_4 : decode cX5_sortOf 4 = .ok (.iload_n 1, 1) := by decide +kernel
theorem dX5_sortOf_5 : decode cX5_sortOf 5 = .ok (.aload_n 0, 1) := by decide +kernel
theorem dX5_sortOf_6 : decode cX5_sortOf 6 = .ok (.getfield 38, 3) := by decide +kernel
theorem dX5_sortOf_9 : decode cX5_sortOf 9 = .ok (.if_icmp .ge 12, 3) := by decide +kernel
theorem dX5_sortOf_12 : decode cX5_sortOf 12 = .ok (.aload_n 0, 1) := by decide +kernel
theorem dX5_sortOf_13 : decode cX5_sortOf 13 = .ok (.getfield 28, 3) := by decide +kernel
theorem dX5_sortOf_16 : decode cX5_sortOf 16 = .ok (.iload_n 1, 1) := by decide +kernel
theorem dX5_sortOf_17 : decode cX5_sortOf 17 = .ok (.iaload, 1) := by decide +kernel
theorem dX5_sortOf_18 : decode cX5_sortOf 18 = .ok (.goto 4, 3) := by decide +kernel
theorem dX5_sortOf_21 : decode cX5_sortOf 21 = .ok (.iconst 0, 1) := by decide +kernel
theorem dX5_sortOf_22 : decode cX5_sortOf 22 = .ok (.ireturn, 1) := by decide +kernel
theorem dX6_init_0 : decode cX6_init 0 = .ok (.aload_n 0, 1) := by decide +kernel
theorem dX6_init_1 : decode cX6_init 1 = .ok (.invokespecial 1, 3) := by decide +kernel
theorem dX6_init_4 : decode cX6_init 4 = .ok (.aload_n 0, 1) := by decide +kernel
theorem dX6_init_5 : decode cX6_init 5 = .ok (.sipush 300, 3) := by decide +kernel
theorem dX6_init_8 : decode cX6_init 8 = .ok (.newarray .int, 2) := by decide +kernel
theorem dX6_init_10 : decode cX6_init 10 = .ok (.putfield 9, 3) := by decide +kernel
theorem dX6_init_13 : decode cX6_init 13 = .ok (.return_, 1) := by decide +kernel
theorem dX6_put_0 : decode cX6_put 0 = .ok (.aload_n 0, 1) := by decide +kernel
theorem dX6_put_1 : decode cX6_put 1 = .ok (.getfield 13, 3) := by decide +kernel
theorem dX6_put_4 : decode cX6_put 4 = .ok (.iload_n 1, 1) := by decide +kernel
theorem dX6_put_5 : decode cX6_put 5 = .ok (.iadd, 1) := by decide +kernel
theorem dX6_put_6 : decode cX6_put 6 = .ok (.sipush 300, 3) := by decide +kernel
theorem dX6_put_9 : decode cX6_put 9 = .ok (.if_icmp .le 5, 3) := by decide +kernel
theorem dX6_put_12 : decode cX6_put 12 = .ok (.iconst 0, 1) := by decide +kernel
theorem dX6_put_13 : decode cX6_put 13 = .ok (.ireturn, 1) := by decide +kernel
theorem dX6_put_14 : decode cX6_put 14 = .ok (.iload_n 1, 1) := by decide +kernel
theorem dX6_put_15 : decode cX6_put 15 = .ok (.iconst 1, 1) := by decide +kernel
theorem dX6_put_16 : decode cX6_put 16 = .ok (.isub, 1) := by decide +kernel
theorem dX6_put_17 : decode cX6_put 17 = .ok (.istore 4, 2) := by decide +kernel
theorem dX6_put_19 : decode cX6_put 19 = .ok (.iload 4, 2) := by decide +kernel
theorem dX6_put_21 : decode cX6_put 21 = .ok (.ifCond .lt 40, 3) := by decide +kernel
theorem dX6_put_24 : decode cX6_put 24 = .ok (.aload_n 0, 1) := by decide +kernel
theorem dX6_put_25 : decode cX6_put 25 = .ok (.getfield 9, 3) := by decide +kernel
theorem dX6_put_28 : decode cX6_put 28 = .ok (.aload_n 0, 1) := by decide +kernel
theorem dX6_put_29 : decode cX6_put 29 = .ok (.getfield 13, 3) := by decide +kernel
theorem dX6_put_32 : decode cX6_put 32 = .ok (.lload_n 2, 1) := by decide +kernel
theorem dX6_put_33 : decode cX6_put 33 = .ok (.bipush 8, 2) := by decide +kernel
theorem dX6_put_35 : decode cX6_put 35 = .ok (.iload 4, 2) := by decide +kernel
theorem dX6_put_37 : decode cX6_put 37 = .ok (.imul, 1) := by decide +kernel
theorem dX6_put_38 : decode cX6_put 38 = .ok (.lushr, 1) := by decide +kernel
theorem dX6_put_39 : decode cX6_put 39 = .ok (.l2i, 1) := by decide +kernel
theorem dX6_put_40 : decode cX6_put 40 = .ok (.sipush 255, 3) := by decide +kernel
theorem dX6_put_43 : decode cX6_put 43 = .ok (.iand, 1) := by decide +kernel
theorem dX6_put_44 : decode cX6_put 44 = .ok (.iastore, 1) := by decide +kernel
theorem dX6_put_45 : decode cX6_put 45 = .ok (.aload_n 0, 1) := by decide +kernel
theorem dX6_put_46 : decode cX6_put 46 = .ok (.dup, 1) := by decide +kernel
theorem dX6_put_47 : decode cX6_put 47 = .ok (.getfield 13, 3) := by decide +kernel
theorem dX6_put_50 : decode cX6_put 50 = .ok (.iconst 1, 1) := by decide +kernel
theorem dX6_put_51 : decode cX6_put 51 = .ok (.iadd, 1) := by decide +kernel
theorem dX6_put_52 : decode cX6_put 52 = .ok (.putfield 13, 3) := by decide +kernel
theorem dX6_put_55 : decode cX6_put 55 = .ok (.iinc 4 (-1), 3) := by decide +kernel
theorem dX6_put_58 : decode cX6_put 58 = .ok (.goto (-39), 3) := by decide +kernel
theorem dX6_put_61 : decode cX6_put 61 = .ok (.iconst 1, 1) := by decide +kernel
theorem dX6_put_62 : decode cX6_put 62 = .ok (.ireturn, 1) := by decide +kernel
theorem dX6_byteAt_0 : decode cX6_byteAt 0 = .ok (.iload_n 1, 1) := by decide +kernel
theorem dX6_byteAt_1 : decode cX6_byteAt 1 = .ok (.ifCond .lt 20, 3) := by decide +kernel
theorem dX6_byteAt_4 : decode cX6_byteAt 4 = .ok (.iload_n 1, 1) := by decide +kernel
theorem dX6_byteAt_5 : decode cX6_byteAt 5 = .ok (.aload_n 0, 1) := by decide +kernel
theorem dX6_byteAt_6 : decode cX6_byteAt 6 = .ok (.getfield 13, 3) := by decide +kernel
theorem dX6_byteAt_9 : decode cX6_byteAt 9 = .ok (.if_icmp .ge 12, 3) := by decide +kernel
theorem dX6_byteAt_12 : decode cX6_byteAt 12 = .ok (.aload_n 0, 1) := by decide +kernel
theorem dX6_byteAt_13 : decode cX6_byteAt 13 = .ok (.getfield 9, 3) := by decide +kernel
theorem dX6_byteAt_16 : decode cX6_byteAt 16 = .ok (.iload_n 1, 1) := by decide +kernel
theorem dX6_byteAt_17 : decode cX6_byteAt 17 = .ok (.iaload, 1) := by decide +kernel
theorem dX6_byteAt_18 : decode cX6_byteAt 18 = .ok (.goto 4, 3) := by decide +kernel
theorem dX6_byteAt_21 : decode cX6_byteAt 21 = .ok (.iconst (-1), 1) := by decide +kernel
theorem dX6_byteAt_22 : decode cX6_byteAt 22 = .ok (.ireturn, 1) := by decide +kernel
theorem dX7_init_0 : decode cX7_init 0 = .ok (.aload_n 0, 1) := by decide +kernel
theorem dX7_init_1 : decode cX7_init 1 = .ok (.invokespecial 1, 3) := by decide +kernel
theorem dX7_init_4 : decode cX7_init 4 = .ok (.aload_n 0, 1) := by decide +kernel
theorem dX7_init_5 : decode cX7_init 5 = .ok (.bipush 8, 2) := by decide +kernel
theorem dX7_init_7 : decode cX7_init 7 = .ok (.newarray .long, 2) := by decide +kernel
theorem dX7_init_9 : decode cX7_init 9 = .ok (.putfield 9, 3) := by decide +kernel
theorem dX7_init_12 : decode cX7_init 12 = .ok (.aload_n 0, 1) := by decide +kernel
theorem dX7_init_13 : decode cX7_init 13 = .ok (.bipush 8, 2) := by decide +kernel
theorem dX7_init_15 : decode cX7_init 15 = .ok (.newarray .long, 2) := by decide +kernel
theorem dX7_init_17 : decode cX7_init 17 = .ok (.putfield 15, 3) := by decide +kernel
theorem dX7_init_20 : decode cX7_init 20 = .ok (.aload_n 0, 1) := by decide +kernel
theorem dX7_init_21 : decode cX7_init 21 = .ok (.bipush 8, 2) := by decide +kernel
theorem dX7_init_23 : decode cX7_init 23 = .ok (.newarray .int, 2) := by decide +kernel
theorem dX7_init_25 : decode cX7_init 25 = .ok (.putfield 18, 3) := by decide +kernel
theorem dX7_init_28 : decode cX7_init 28 = .ok (.aload_n 0, 1) := by decide +kernel
theorem dX7_init_29 : decode cX7_init 29 = .ok (.bipush 9, 2) := by decide +kernel
theorem dX7_init_31 : decode cX7_init 31 = .ok (.newarray .long, 2) := by decide +kernel
theorem dX7_init_33 : decode cX7_init 33 = .ok (.putfield 22, 3) := by decide +kernel
theorem dX7_init_36 : decode cX7_init 36 = .ok (.aload_n 0, 1) := by decide +kernel
theorem dX7_init_37 : decode cX7_init 37 = .ok (.bipush 9, 2) := by decide +kernel
theorem dX7_init_39 : decode cX7_init 39 = .ok (.newarray .int, 2) := by decide +kernel
theorem dX7_init_41 : decode cX7_init 41 = .ok (.putfield 25, 3) := by decide +kernel
theorem dX7_init_44 : decode cX7_init 44 = .ok (.return_, 1) := by decide +kernel
theorem dX7_goThrough_0 : decode cX7_goThrough 0 = .ok (.aload_n 0, 1) := by decide +kernel
theorem dX7_goThrough_1 : decode cX7_goThrough 1 = .ok (.invokevirtual 28, 3) := by decide +kernel
theorem dX7_goThrough_4 : decode cX7_goThrough 4 = .ok (.aload_n 1, 1) := by decide +kernel
theorem dX7_goThrough_5 : decode cX7_goThrough 5 = .ok (.invokevirtual 31, 3) := by decide +kernel
theorem dX7_goThrough_8 : decode cX7_goThrough 8 = .ok (.astore_n 3, 1) := by decide +kernel
theorem dX7_goThrough_9 : decode cX7_goThrough 9 = .ok (.iconst 0, 1) := by decide +kernel
theorem dX7_goThrough_10 : decode cX7_goThrough 10 = .ok (.istore 4, 2) := by decide +kernel
theorem dX7_goThrough_12 : decode cX7_goThrough 12 = .ok (.iconst 0, 1) := by decide +kernel
theorem dX7_goThrough_13 : decode cX7_goThrough 13 = .ok (.istore 5, 2) := by decide +kernel
theorem dX7_goThrough_15 : decode cX7_goThrough 15 = .ok (.iload 5, 2) := by decide +kernel
theorem dX7_goThrough_17 : decode cX7_goThrough 17 = .ok (.sipush 6561, 3) := by decide +kernel
theorem dX7_goThrough_20 : decode cX7_goThrough 20 = .ok (.if_icmp .ge 135, 3) := by decide +kernel
theorem dX7_goThrough_23 : decode cX7_goThrough 23 = .ok (.iload 4, 2) := by decide +kernel
theorem dX7_goThrough_25 : decode cX7_goThrough 25 = .ok (.ifCond .lt 130, 3) := by decide +kernel
theorem dX7_goThrough_28 : decode cX7_goThrough 28 = .ok (.iload 4, 2) := by decide +kernel
theorem dX7_goThrough_30 : decode cX7_goThrough 30 = .ok (.istore 6, 2) := by decide +kernel
theorem dX7_goThrough_32 : decode cX7_goThrough 32 = .ok (.iload 6, 2) := by decide +kernel
theorem dX7_goThrough_34 : decode cX7_goThrough 34 = .ok (.aload_n 3, 1) := by decide +kernel
theorem dX7_goThrough_35 : decode cX7_goThrough 35 = .ok (.getfield 37, 3) := by decide +kernel
theorem dX7_goThrough_38 : decode cX7_goThrough 38 = .ok (.if_icmp .ge 85, 3) := by decide +kernel
theorem dX7_goThrough_41 : decode cX7_goThrough 41 = .ok (.iload 6, 2) := by decide +kernel
theorem dX7_goThrough_43 : decode cX7_goThrough 43 = .ok (.iconst 3, 1) := by decide +kernel
theorem dX7_goThrough_44 : decode cX7_goThrough 44 = .ok (.imul, 1) := by decide +kernel
theorem dX7_goThrough_45 : decode cX7_goThrough 45 = .ok (.aload_n 0, 1) := by decide +kernel
theorem dX7_goThrough_46 : decode cX7_goThrough 46 = .ok (.getfield 18, 3) := by decide +kernel
theorem dX7_goThrough_49 : decode cX7_goThrough 49 = .ok (.iload 6, 2) := by decide +kernel
theorem dX7_goThrough_51 : decode cX7_goThrough 51 = .ok (.iaload, 1) := by decide +kernel
theorem dX7_goThrough_52 : decode cX7_goThrough 52 = .ok (.iadd, 1) := by decide +kernel
theorem dX7_goThrough_53 : decode cX7_goThrough 53 = .ok (.istore 7, 2) := by decide +kernel
theorem dX7_goThrough_55 : decode cX7_goThrough 55 = .ok (.aload_n 0, 1) := by decide +kernel
theorem dX7_goThrough_56 : decode cX7_goThrough 56 = .ok (.getfield 22, 3) := by decide +kernel
theorem dX7_goThrough_59 : decode cX7_goThrough 59 = .ok (.iload 6, 2) := by decide +kernel
theorem dX7_goThrough_61 : decode cX7_goThrough 61 = .ok (.iconst 1, 1) := by decide +kernel
theorem dX7_goThrough_62 : decode cX7_goThrough 62 = .ok (.iadd, 1) := by decide +kernel
theorem dX7_goThrough_63 : decode cX7_goThrough 63 = .ok (.aload_n 0, 1) := by decide +kernel
theorem dX7_goThrough_64 : decode cX7_goThrough 64 = .ok (.getfield 22, 3) := by decide +kernel
theorem dX7_goThrough_67 : decode cX7_goThrough 67 = .ok (.iload 6, 2) := by decide +kernel
theorem dX7_goThrough_69 : decode cX7_goThrough 69 = .ok (.laload, 1) := by decide +kernel
theorem dX7_goThrough_70 : decode cX7_goThrough 70 = .ok (.aload_n 3, 1) := by decide +kernel
theorem dX7_goThrough_71 : decode cX7_goThrough 71 = .ok (.getfield 43, 3) := by decide +kernel
theorem dX7_goThrough_74 : decode cX7_goThrough 74 = .ok (.iload 7, 2) := by decide +kernel
theorem dX7_goThrough_76 : decode cX7_goThrough 76 = .ok (.iaload, 1) := by decide +kernel
theorem dX7_goThrough_77 : decode cX7_goThrough 77 = .ok (.i2l, 1) := by decide +kernel
theorem dX7_goThrough_78 : decode cX7_goThrough 78 = .ok (.lmul, 1) := by decide +kernel
theorem dX7_goThrough_79 : decode cX7_goThrough 79 = .ok (.lastore, 1) := by decide +kernel
theorem dX7_goThrough_80 : decode cX7_goThrough 80 = .ok (.aload_n 0, 1) := by decide +kernel
theorem dX7_goThrough_81 : decode cX7_goThrough 81 = .ok (.getfield 25, 3) := by decide +kernel
theorem dX7_goThrough_84 : decode cX7_goThrough 84 = .ok (.iload 6, 2) := by decide +kernel
theorem dX7_goThrough_86 : decode cX7_goThrough 86 = .ok (.iconst 1, 1) := by decide +kernel
theorem dX7_goThrough_87 : decode cX7_goThrough 87 = .ok (.iadd, 1) := by decide +kernel
theorem dX7_goThrough_88 : decode cX7_goThrough 88 = .ok (.aload_n 0, 1) := by decide +kernel
theorem dX7_goThrough_89 : decode cX7_goThrough 89 = .ok (.getfield 25, 3) := by decide +kernel
theorem dX7_goThrough_92 : decode cX7_goThrough 92 = .ok (.iload 6, 2) := by decide +kernel
theorem dX7_goThrough_94 : decode cX7_goThrough 94 = .ok (.iaload, 1) := by decide +kernel
theorem dX7_goThrough_95 : decode cX7_goThrough 95 = .ok (.aload_n 3, 1) := by decide +kernel
theorem dX7_goThrough_96 : decode cX7_goThrough 96 = .ok (.getfield 46, 3) := by decide +kernel
theorem dX7_goThrough_99 : decode cX7_goThrough 99 = .ok (.iload 7, 2) := by decide +kernel
theorem dX7_goThrough_101 : decode cX7_goThrough 101 = .ok (.iaload, 1) := by decide +kernel
theorem dX7_goThrough_102 : decode cX7_goThrough 102 = .ok (.iadd, 1) := by decide +kernel
theorem dX7_goThrough_103 : decode cX7_goThrough 103 = .ok (.iastore, 1) := by decide +kernel
theorem dX7_goThrough_104 : decode cX7_goThrough 104 = .ok (.aload_n 1, 1) := by decide +kernel
theorem dX7_goThrough_105 : decode cX7_goThrough 105 = .ok (.iload 6, 2) := by decide +kernel
theorem dX7_goThrough_107 : decode cX7_goThrough 107 = .ok (.aload_n 3, 1) := by decide +kernel
theorem dX7_goThrough_108 : decode cX7_goThrough 108 = .ok (.getfield 46, 3) := by decide +kernel
theorem dX7_goThrough_111 : decode cX7_goThrough 111 = .ok (.iload 7, 2) := by decide +kernel
theorem dX7_goThrough_113 : decode cX7_goThrough 113 = .ok (.iaload, 1) := by decide +kernel
theorem dX7_goThrough_114 : decode cX7_goThrough 114 = .ok (.invokevirtual 49, 3) := by decide +kernel
theorem dX7_goThrough_117 : decode cX7_goThrough 117 = .ok (.iinc 6 1, 3) := by decide +kernel
theorem dX7_goThrough_120 : decode cX7_goThrough 120 = .ok (.goto (-88), 3) := by decide +kernel
theorem dX7_goThrough_123 : decode cX7_goThrough 123 = .ok (.aload_n 0, 1) := by decide +kernel
theorem dX7_goThrough_124 : decode cX7_goThrough 124 = .ok (.aload_n 1, 1) := by decide +kernel
theorem dX7_goThrough_125 : decode cX7_goThrough 125 = .ok (.aload_n 3, 1) := by decide +kernel
theorem dX7_goThrough_126 : decode cX7_goThrough 126 = .ok (.getfield 37, 3) := by decide +kernel
theorem dX7_goThrough_129 : decode cX7_goThrough 129 = .ok (.invokevirtual 53, 3) := by decide +kernel
theorem dX7_goThrough_132 : decode cX7_goThrough 132 = .ok (.iload_n 2, 1) := by decide +kernel
theorem dX7_goThrough_133 : decode cX7_goThrough 133 = .ok (.ifCond .eq 9, 3) := by decide +kernel
theorem dX7_goThrough_136 : decode cX7_goThrough 136 = .ok (.aload_n 0, 1) := by decide +kernel
theorem dX7_goThrough_137 : decode cX7_goThrough 137 = .ok (.aload_n 1, 1) := by decide +kernel
theorem dX7_goThrough_138 : decode cX7_goThrough 138 = .ok (.aload_n 3, 1) := by decide +kernel
theorem dX7_goThrough_139 : decode cX7_goThrough 139 = .ok (.invokevirtual 57, 3) := by decide +kernel
theorem dX7_goThrough_142 : decode cX7_goThrough 142 = .ok (.aload_n 0, 1) := by decide +kernel
theorem dX7_goThrough_143 : decode cX7_goThrough 143 = .ok (.aload_n 3, 1) := by decide +kernel
theorem dX7_goThrough_144 : decode cX7_goThrough 144 = .ok (.invokevirtual 61, 3) := by decide +kernel
theorem dX7_goThrough_147 : decode cX7_goThrough 147 = .ok (.istore 4, 2) := by decide +kernel
theorem dX7_goThrough_149 : decode cX7_goThrough 149 = .ok (.iinc 5 1, 3) := by decide +kernel
theorem dX7_goThrough_152 : decode cX7_goThrough 152 = .ok (.goto (-137), 3) := by decide +kernel
theorem dX7_goThrough_155 : decode cX7_goThrough 155 = .ok (.return_, 1) := by decide +kernel
theorem dX7_clear_0 : decode cX7_clear 0 = .ok (.aload_n 0, 1) := by decide +kernel
theorem dX7_clear_1 : decode cX7_clear 1 = .ok (.lconst 0, 1) := by decide +kernel
theorem dX7_clear_2 : decode cX7_clear 2 = .ok (.putfield 65, 3) := by decide +kernel
theorem dX7_clear_5 : decode cX7_clear 5 = .ok (.aload_n 0, 1) := by decide +kernel
theorem dX7_clear_6 : decode cX7_clear 6 = .ok (.lconst 0, 1) := by decide +kernel
theorem dX7_clear_7 : decode cX7_clear 7 = .ok (.putfield 69, 3) := by decide +kernel
theorem dX7_clear_10 : decode cX7_clear 10 = .ok (.aload_n 0, 1) := by decide +kernel
theorem dX7_clear_11 : decode cX7_clear 11 = .ok (.lconst 0, 1) := by decide +kernel
theorem dX7_clear_12 : decode cX7_clear 12 = .ok (.putfield 72, 3) := by decide +kernel
theorem dX7_clear_15 : decode cX7_clear 15 = .ok (.aload_n 0, 1) := by decide +kernel
theorem dX7_clear_16 : decode cX7_clear 16 = .ok (.lconst 0, 1) := by decide +kernel
theorem dX7_clear_17 : decode cX7_clear 17 = .ok (.putfield 75, 3) := by decide +kernel
theorem dX7_clear_20 : decode cX7_clear 20 = .ok (.aload_n 0, 1) := by decide +kernel
theorem dX7_clear_21 : decode cX7_clear 21 = .ok (.lconst 0, 1) := by decide +kernel
theorem dX7_clear_22 : decode cX7_clear 22 = .ok (.putfield 78, 3) := by decide +kernel
theorem dX7_clear_25 : decode cX7_clear 25 = .ok (.aload_n 0, 1) := by decide +kernel
theorem dX7_clear_26 : decode cX7_clear 26 = .ok (.getfield 9, 3) := by decide +kernel
theorem dX7_clear_29 : decode cX7_clear 29 = .ok (.lconst 0, 1) := by decide +kernel
theorem dX7_clear_30 : decode cX7_clear 30 = .ok (.invokestatic 81, 3) := by decide +kernel
theorem dX7_clear_33 : decode cX7_clear 33 = .ok (.aload_n 0, 1) := by decide +kernel
theorem dX7_clear_34 : decode cX7_clear 34 = .ok (.getfield 15, 3) := by decide +kernel
theorem dX7_clear_37 : decode cX7_clear 37 = .ok (.lconst 0, 1) := by decide +kernel
theorem dX7_clear_38 : decode cX7_clear 38 = .ok (.invokestatic 81, 3) := by decide +kernel
theorem dX7_clear_41 : decode cX7_clear 41 = .ok (.aload_n 0, 1) := by decide +kernel
theorem dX7_clear_42 : decode cX7_clear 42 = .ok (.getfield 18, 3) := by decide +kernel
theorem dX7_clear_45 : decode cX7_clear 45 = .ok (.iconst 0, 1) := by decide +kernel
theorem dX7_clear_46 : decode cX7_clear 46 = .ok (.invokestatic 87, 3) := by decide +kernel
theorem dX7_clear_49 : decode cX7_clear 49 = .ok (.aload_n 0, 1) := by decide +kernel
theorem dX7_clear_50 : decode cX7_clear 50 = .ok (.getfield 22, 3) := by decide +kernel
theorem dX7_clear_53 : decode cX7_clear 53 = .ok (.iconst 0, 1) := by decide +kernel
theorem dX7_clear_54 : decode cX7_clear 54 = .ok (.lconst 1, 1) := by decide +kernel
theorem dX7_clear_55 : decode cX7_clear 55 = .ok (.lastore, 1) := by decide +kernel
theorem dX7_clear_56 : decode cX7_clear 56 = .ok (.return_, 1) := by decide +kernel
theorem dX7_add_0 : decode cX7_add 0 = .ok (.aload_n 1, 1) := by decide +kernel
theorem dX7_add_1 : decode cX7_add 1 = .ok (.invokevirtual 90, 3) := by decide +kernel
theorem dX7_add_4 : decode cX7_add 4 = .ok (.istore_n 3, 1) := by decide +kernel
theorem dX7_add_5 : decode cX7_add 5 = .ok (.aload_n 0, 1) := by decide +kernel
theorem dX7_add_6 : decode cX7_add 6 = .ok (.getfield 25, 3) := by decide +kernel
theorem dX7_add_9 : decode cX7_add 9 = .ok (.iload_n 2, 1) := by decide +kernel
theorem dX7_add_10 : decode cX7_add 10 = .ok (.iaload, 1) := by decide +kernel
theorem dX7_add_11 : decode cX7_add 11 = .ok (.aload_n 1, 1) := by decide +kernel
theorem dX7_add_12 : decode cX7_add 12 = .ok (.invokevirtual 94, 3) := by decide +kernel
theorem dX7_add_15 : decode cX7_add 15 = .ok (.if_icmp .lt 7, 3) := by decide +kernel
theorem dX7_add_18 : decode cX7_add 18 = .ok (.iconst 1, 1) := by decide +kernel
theorem dX7_add_19 : decode cX7_add 19 = .ok (.goto 4, 3) := by decide +kernel
theorem dX7_add_22 : decode cX7_add 22 = .ok (.iconst 0, 1) := by decide +kernel
theorem dX7_add_23 : decode cX7_add 23 = .ok (.istore 4, 2) := by decide +kernel
theorem dX7_add_25 : decode cX7_add 25 = .ok (.aload_n 1, 1) := by decide +kernel
theorem dX7_add_26 : decode cX7_add 26 = .ok (.invokevirtual 98, 3) := by decide +kernel
theorem dX7_add_29 : decode cX7_add 29 = .ok (.istore 5, 2) := by decide +kernel
theorem dX7_add_31 : decode cX7_add 31 = .ok (.iload_n 3, 1) := by decide +kernel
theorem dX7_add_32 : decode cX7_add 32 = .ok (.ifCond .eq 18, 3) := by decide +kernel
theorem dX7_add_35 : decode cX7_add 35 = .ok (.aload_n 0, 1) := by decide +kernel
theorem dX7_add_36 : decode cX7_add 36 = .ok (.dup, 1) := by decide +kernel
theorem dX7_add_37 : decode cX7_add 37 = .ok (.getfield 65, 3) := by decide +kernel
theorem dX7_add_40 : decode cX7_add 40 = .ok (.aload_n 0, 1) := by decide +kernel
theorem dX7_add_41 : decode cX7_add 41 = .ok (.getfield 22, 3) := by decide +kernel
theorem dX7_add_44 : decode cX7_add 44 = .ok (.iload_n 2, 1) := by decide +kernel
theorem dX7_add_45 : decode cX7_add 45 = .ok (.laload, 1) := by decide +kernel
theorem dX7_add_46 : decode cX7_add 46 = .ok (.ladd, 1) := by decide +kernel
theorem dX7_add_47 : decode cX7_add 47 = .ok (.putfield 65, 3) := by decide +kernel
theorem dX7_add_50 : decode cX7_add 50 = .ok (.iload_n 3, 1) := by decide +kernel
theorem dX7_add_51 : decode cX7_add 51 = .ok (.ifCond .eq 23, 3) := by decide +kernel
theorem dX7_add_54 : decode cX7_add 54 = .ok (.iload 4, 2) := by decide +kernel
theorem dX7_add_56 : decode cX7_add 56 = .ok (.ifCond .ne 18, 3) := by decide +kernel
theorem dX7_add_59 : decode cX7_add 59 = .ok (.aload_n 0, 1) := by decide +kernel
theorem dX7_add_60 : decode cX7_add 60 = .ok (.dup, 1) := by decide +kernel
theorem dX7_add_61 : decode cX7_add 61 = .ok (.getfield 69, 3) := by decide +kernel
theorem dX7_add_64 : decode cX7_add 64 = .ok (.aload_n 0, 1) := by decide +kernel
theorem dX7_add_65 : decode cX7_add 65 = .ok (.getfield 22, 3) := by decide +kernel
theorem dX7_add_68 : decode cX7_add 68 = .ok (.iload_n 2, 1) := by decide +kernel
theorem dX7_add_69 : decode cX7_add 69 = .ok (.laload, 1) := by decide +kernel
theorem dX7_add_70 : decode cX7_add 70 = .ok (.ladd, 1) := by decide +kernel
theorem dX7_add_71 : decode cX7_add 71 = .ok (.putfield 69, 3) := by decide +kernel
theorem dX7_add_74 : decode cX7_add 74 = .ok (.iload_n 3, 1) := by decide +kernel
theorem dX7_add_75 : decode cX7_add 75 = .ok (.ifCond .ne 23, 3) := by decide +kernel
theorem dX7_add_78 : decode cX7_add 78 = .ok (.iload 4, 2) := by decide +kernel
theorem dX7_add_80 : decode cX7_add 80 = .ok (.ifCond .eq 18, 3) := by decide +kernel
theorem dX7_add_83 : decode cX7_add 83 = .ok (.aload_n 0, 1) := by decide +kernel
theorem dX7_add_84 : decode cX7_add 84 = .ok (.dup, 1) := by decide +kernel
theorem dX7_add_85 : decode cX7_add 85 = .ok (.getfield 72, 3) := by decide +kernel
theorem dX7_add_88 : decode cX7_add 88 = .ok (.aload_n 0, 1) := by decide +kernel
theorem dX7_add_89 : decode cX7_add 89 = .ok (.getfield 22, 3) := by decide +kernel
theorem dX7_add_92 : decode cX7_add 92 = .ok (.iload_n 2, 1) := by decide +kernel
theorem dX7_add_93 : decode cX7_add 93 = .ok (.laload, 1) := by decide +kernel
theorem dX7_add_94 : decode cX7_add 94 = .ok (.ladd, 1) := by decide +kernel
theorem dX7_add_95 : decode cX7_add 95 = .ok (.putfield 72, 3) := by decide +kernel
theorem dX7_add_98 : decode cX7_add 98 = .ok (.iload 5, 2) := by decide +kernel
theorem dX7_add_100 : decode cX7_add 100 = .ok (.ifCond .eq 18, 3) := by decide +kernel
theorem dX7_add_103 : decode cX7_add 103 = .ok (.aload_n 0, 1) := by decide +kernel
theorem dX7_add_104 : decode cX7_add 104 = .ok (.dup, 1) := by decide +kernel
theorem dX7_add_105 : decode cX7_add 105 = .ok (.getfield 75, 3) := by decide +kernel
theorem dX7_add_108 : decode cX7_add 108 = .ok (.aload_n 0, 1) := by decide +kernel
theorem dX7_add_109 : decode cX7_add 109 = .ok (.getfield 22, 3) := by decide +kernel
theorem dX7_add_112 : decode cX7_add 112 = .ok (.iload_n 2, 1) := by decide +kernel
theorem dX7_add_113 : decode cX7_add 113 = .ok (.laload, 1) := by decide +kernel
theorem dX7_add_114 : decode cX7_add 114 = .ok (.ladd, 1) := by decide +kernel
theorem dX7_add_115 : decode cX7_add 115 = .ok (.putfield 75, 3) := by decide +kernel
theorem dX7_add_118 : decode cX7_add 118 = .ok (.iload_n 3, 1) := by decide +kernel
theorem dX7_add_119 : decode cX7_add 119 = .ok (.ifCond .eq 23, 3) := by decide +kernel
theorem dX7_add_122 : decode cX7_add 122 = .ok (.iload 5, 2) := by decide +kernel
theorem dX7_add_124 : decode cX7_add 124 = .ok (.ifCond .eq 18, 3) := by decide +kernel
theorem dX7_add_127 : decode cX7_add 127 = .ok (.aload_n 0, 1) := by decide +kernel
theorem dX7_add_128 : decode cX7_add 128 = .ok (.dup, 1) := by decide +kernel
theorem dX7_add_129 : decode cX7_add 129 = .ok (.getfield 78, 3) := by decide +kernel
theorem dX7_add_132 : decode cX7_add 132 = .ok (.aload_n 0, 1) := by decide +kernel
theorem dX7_add_133 : decode cX7_add 133 = .ok (.getfield 22, 3) := by decide +kernel
theorem dX7_add_136 : decode cX7_add 136 = .ok (.iload_n 2, 1) := by decide +kernel
theorem dX7_add_137 : decode cX7_add 137 = .ok (.laload, 1) := by decide +kernel
theorem dX7_add_138 : decode cX7_add 138 = .ok (.ladd, 1) := by decide +kernel
theorem dX7_add_139 : decode cX7_add 139 = .ok (.putfield 78, 3) := by decide +kernel
theorem dX7_add_142 : decode cX7_add 142 = .ok (.return_, 1) := by decide +kernel
theorem dX7_addMeans_0 : decode cX7_addMeans 0 = .ok (.iconst 0, 1) := by decide +kernel
theorem dX7_addMeans_1 : decode cX7_addMeans 1 = .ok (.istore_n 3, 1) := by decide +kernel
theorem dX7_addMeans_2 : decode cX7_addMeans 2 = .ok (.iload_n 3, 1) := by decide +kernel
theorem dX7_addMeans_3 : decode cX7_addMeans 3 = .ok (.aload_n 2, 1) := by decide +kernel
theorem dX7_addMeans_4 : decode cX7_addMeans 4 = .ok (.getfield 37, 3) := by decide +kernel
theorem dX7_addMeans_7 : decode cX7_addMeans 7 = .ok (.if_icmp .ge 79, 3) := by decide +kernel
theorem dX7_addMeans_10 : decode cX7_addMeans 10 = .ok (.aload_n 2, 1) := by decide +kernel
theorem dX7_addMeans_11 : decode cX7_addMeans 11 = .ok (.getfield 46, 3) := by decide +kernel
theorem dX7_addMeans_14 : decode cX7_addMeans 14 = .ok (.iload_n 3, 1) := by decide +kernel
theorem dX7_addMeans_15 : decode cX7_addMeans 15 = .ok (.iconst 3, 1) := by decide +kernel
theorem dX7_addMeans_16 : decode cX7_addMeans 16 = .ok (.imul, 1) := by decide +kernel
theorem dX7_addMeans_17 : decode cX7_addMeans 17 = .ok (.aload_n 0, 1) := by decide +kernel
theorem dX7_addMeans_18 : decode cX7_addMeans 18 = .ok (.getfield 18, 3) := by decide +kernel
theorem dX7_addMeans_21 : decode cX7_addMeans 21 = .ok (.iload_n 3, 1) := by decide +kernel
theorem dX7_addMeans_22 : decode cX7_addMeans 22 = .ok (.iaload, 1) := by decide +kernel
theorem dX7_addMeans_23 : decode cX7_addMeans 23 = .ok (.iadd, 1) := by decide +kernel
theorem dX7_addMeans_24 : decode cX7_addMeans 24 = .ok (.iaload, 1) := by decide +kernel
theorem dX7_addMeans_25 : decode cX7_addMeans 25 = .ok (.istore 4, 2) := by decide +kernel
theorem dX7_addMeans_27 : decode cX7_addMeans 27 = .ok (.aload_n 0, 1) := by decide +kernel
theorem dX7_addMeans_28 : decode cX7_addMeans 28 = .ok (.getfield 9, 3) := by decide +kernel
theorem dX7_addMeans_31 : decode cX7_addMeans 31 = .ok (.iload_n 3, 1) := by decide +kernel
theorem dX7_addMeans_32 : decode cX7_addMeans 32 = .ok (.dup2, 1) := by decide +kernel
theorem dX7_addMeans_33 : decode cX7_addMeans 33 = .ok (.laload, 1) := by decide +kernel
theorem dX7_addMeans_34 : decode cX7_addMeans 34 = .ok (.aload_n 0, 1) := by decide +kernel
theorem dX7_addMeans_35 : decode cX7_addMeans 35 = .ok (.getfield 22, 3) := by decide +kernel
theorem dX7_addMeans_38 : decode cX7_addMeans 38 = .ok (.aload_n 2, 1) := by decide +kernel
theorem dX7_addMeans_39 : decode cX7_addMeans 39 = .ok (.getfield 37, 3) := by decide +kernel
theorem dX7_addMeans_42 : decode cX7_addMeans 42 = .ok (.laload, 1) := by decide +kernel
theorem dX7_addMeans_43 : decode cX7_addMeans 43 = .ok (.aload_n 1, 1) := by decide +kernel
theorem dX7_addMeans_44 : decode cX7_addMeans 44 = .ok (.getfield 101, 3) := by decide +kernel
theorem dX7_addMeans_47 : decode cX7_addMeans 47 = .ok (.iload_n 3, 1) := by decide +kernel
theorem dX7_addMeans_48 : decode cX7_addMeans 48 = .ok (.iaload, 1) := by decide +kernel
theorem dX7_addMeans_49 : decode cX7_addMeans 49 = .ok (.i2l, 1) := by decide +kernel
theorem dX7_addMeans_50 : decode cX7_addMeans 50 = .ok (.lmul, 1) := by decide +kernel
theorem dX7_addMeans_51 : decode cX7_addMeans 51 = .ok (.ladd, 1) := by decide +kernel
theorem dX7_addMeans_52 : decode cX7_addMeans 52 = .ok (.lastore, 1) := by decide +kernel
theorem dX7_addMeans_53 : decode cX7_addMeans 53 = .ok (.aload_n 0, 1) := by decide +kernel
theorem dX7_addMeans_54 : decode cX7_addMeans 54 = .ok (.getfield 15, 3) := by decide +kernel
theorem dX7_addMeans_57 : decode cX7_addMeans 57 = .ok (.iload_n 3, 1) := by decide +kernel
theorem dX7_addMeans_58 : decode cX7_addMeans 58 = .ok (.dup2, 1) := by decide +kernel
theorem dX7_addMeans_59 : decode cX7_addMeans 59 = .ok (.laload, 1) := by decide +kernel
theorem dX7_addMeans_60 : decode cX7_addMeans 60 = .ok (.aload_n 0, 1) := by decide +kernel
theorem dX7_addMeans_61 : decode cX7_addMeans 61 = .ok (.getfield 22, 3) := by decide +kernel
theorem dX7_addMeans_64 : decode cX7_addMeans 64 = .ok (.aload_n 2, 1) := by decide +kernel
theorem dX7_addMeans_65 : decode cX7_addMeans 65 = .ok (.getfield 37, 3) := by decide +kernel
theorem dX7_addMeans_68 : decode cX7_addMeans 68 = .ok (.laload, 1) := by decide +kernel
theorem dX7_addMeans_69 : decode cX7_addMeans 69 = .ok (.aload_n 1, 1) := by decide +kernel
theorem dX7_addMeans_70 : decode cX7_addMeans 70 = .ok (.iload_n 3, 1) := by decide +kernel
theorem dX7_addMeans_71 : decode cX7_addMeans 71 = .ok (.iload 4, 2) := by decide +kernel
theorem dX7_addMeans_73 : decode cX7_addMeans 73 = .ok (.invokevirtual 104, 3) := by decide +kernel
theorem dX7_addMeans_76 : decode cX7_addMeans 76 = .ok (.i2l, 1) := by decide +kernel
theorem dX7_addMeans_77 : decode cX7_addMeans 77 = .ok (.lmul, 1) := by decide +kernel
theorem dX7_addMeans_78 : decode cX7_addMeans 78 = .ok (.ladd, 1) := by decide +kernel
theorem dX7_addMeans_79 : decode cX7_addMeans 79 = .ok (.lastore, 1) := by decide +kernel
theorem dX7_addMeans_80 : decode cX7_addMeans 80 = .ok (.iinc 3 1, 3) := by decide +kernel
theorem dX7_addMeans_83 : decode cX7_addMeans 83 = .ok (.goto (-81), 3) := by decide +kernel
theorem dX7_addMeans_86 : decode cX7_addMeans 86 = .ok (.return_, 1) := by decide +kernel
theorem dX7_nextWay_0 : decode cX7_nextWay 0 = .ok (.aload_n 1, 1) := by decide +kernel
theorem dX7_nextWay_1 : decode cX7_nextWay 1 = .ok (.getfield 37, 3) := by decide +kernel
theorem dX7_nextWay_4 : decode cX7_nextWay 4 = .ok (.iconst 1, 1) := by decide +kernel
theorem dX7_nextWay_5 : decode cX7_nextWay 5 = .ok (.isub, 1) := by decide +kernel
theorem dX7_nextWay_6 : decode cX7_nextWay 6 = .ok (.istore_n 2, 1) := by decide +kernel
theorem dX7_nextWay_7 : decode cX7_nextWay 7 = .ok (.iload_n 2, 1) := by decide +kernel
theorem dX7_nextWay_8 : decode cX7_nextWay 8 = .ok (.ifCond .lt 43, 3) := by decide +kernel
theorem dX7_nextWay_11 : decode cX7_nextWay 11 = .ok (.aload_n 0, 1) := by decide +kernel
theorem dX7_nextWay_12 : decode cX7_nextWay 12 = .ok (.getfield 18, 3) := by decide +kernel
theorem dX7_nextWay_15 : decode cX7_nextWay 15 = .ok (.iload_n 2, 1) := by decide +kernel
theorem dX7_nextWay_16 : decode cX7_nextWay 16 = .ok (.dup2, 1) := by decide +kernel
theorem dX7_nextWay_17 : decode cX7_nextWay 17 = .ok (.iaload, 1) := by decide +kernel
theorem dX7_nextWay_18 : decode cX7_nextWay 18 = .ok (.iconst 1, 1) := by decide +kernel
theorem dX7_nextWay_19 : decode cX7_nextWay 19 = .ok (.iadd, 1) := by decide +kernel
theorem dX7_nextWay_20 : decode cX7_nextWay 20 = .ok (.iastore, 1) := by decide +kernel
theorem dX7_nextWay_21 : decode cX7_nextWay 21 = .ok (.aload_n 0, 1) := by decide +kernel
theorem dX7_nextWay_22 : decode cX7_nextWay 22 = .ok (.getfield 18, 3) := by decide +kernel
theorem dX7_nextWay_25 : decode cX7_nextWay 25 = .ok (.iload_n 2, 1) := by decide +kernel
theorem dX7_nextWay_26 : decode cX7_nextWay 26 = .ok (.iaload, 1) := by decide +kernel
theorem dX7_nextWay_27 : decode cX7_nextWay 27 = .ok (.aload_n 1, 1) := by decide +kernel
theorem dX7_nextWay_28 : decode cX7_nextWay 28 = .ok (.getfield 108, 3) := by decide +kernel
theorem dX7_nextWay_31 : decode cX7_nextWay 31 = .ok (.iload_n 2, 1) := by decide +kernel
theorem dX7_nextWay_32 : decode cX7_nextWay 32 = .ok (.iaload, 1) := by decide +kernel
theorem dX7_nextWay_33 : decode cX7_nextWay 33 = .ok (.if_icmp .ge 5, 3) := by decide +kernel
theorem dX7_nextWay_36 : decode cX7_nextWay 36 = .ok (.iload_n 2, 1) := by decide +kernel
theorem dX7_nextWay_37 : decode cX7_nextWay 37 = .ok (.ireturn, 1) := by decide +kernel
theorem dX7_nextWay_38 : decode cX7_nextWay 38 = .ok (.aload_n 0, 1) := by decide +kernel
theorem dX7_nextWay_39 : decode cX7_nextWay 39 = .ok (.getfield 18, 3) := by decide +kernel
theorem dX7_nextWay_42 : decode cX7_nextWay 42 = .ok (.iload_n 2, 1) := by decide +kernel
theorem dX7_nextWay_43 : decode cX7_nextWay 43 = .ok (.iconst 0, 1) := by decide +kernel
theorem dX7_nextWay_44 : decode cX7_nextWay 44 = .ok (.iastore, 1) := by decide +kernel
theorem dX7_nextWay_45 : decode cX7_nextWay 45 = .ok (.iinc 2 (-1), 3) := by decide +kernel
theorem dX7_nextWay_48 : decode cX7_nextWay 48 = .ok (.goto (-41), 3) := by decide +kernel
theorem dX7_nextWay_51 : decode cX7_nextWay 51 = .ok (.iconst (-1), 1) := by decide +kernel
theorem dX7_nextWay_52 : decode cX7_nextWay 52 = .ok (.ireturn, 1) := by decide +kernel
end
section
theorem dX8_init_0 : decode cX8_init 0 = .ok (.aload_n 0, 1) := by decide +kernel
theorem dX8_init_1 : decode cX8_init 1 = .ok (.invokespecial 1, 3) := by decide +kernel
theorem dX8_init_4 : decode cX8_init 4 = .ok (.aload_n 0, 1) := by decide +kernel
theorem dX8_init_5 : decode cX8_init 5 = .ok (.new 7, 3) := by decide +kernel
theorem dX8_init_8 : decode cX8_init 8 = .ok (.dup, 1) := by decide +kernel
theorem dX8_init_9 : decode cX8_init 9 = .ok (.invokespecial 9, 3) := by decide +kernel
theorem dX8_init_12 : decode cX8_init 12 = .ok (.putfield 10, 3) := by decide +kernel
theorem dX8_init_15 : decode cX8_init 15 = .ok (.aload_n 0, 1) := by decide +kernel
theorem dX8_init_16 : decode cX8_init 16 = .ok (.new 16, 3) := by decide +kernel
theorem dX8_init_19 : decode cX8_init 19 = .ok (.dup, 1) := by decide +kernel
theorem dX8_init_20 : decode cX8_init 20 = .ok (.invokespecial 18, 3) := by decide +kernel
theorem dX8_init_23 : decode cX8_init 23 = .ok (.putfield 19, 3) := by decide +kernel
theorem dX8_init_26 : decode cX8_init 26 = .ok (.aload_n 0, 1) := by decide +kernel
theorem dX8_init_27 : decode cX8_init 27 = .ok (.new 23, 3) := by decide +kernel
theorem dX8_init_30 : decode cX8_init 30 = .ok (.dup, 1) := by decide +kernel
theorem dX8_init_31 : decode cX8_init 31 = .ok (.invokespecial 25, 3) := by decide +kernel
theorem dX8_init_34 : decode cX8_init 34 = .ok (.putfield 26, 3) := by decide +kernel
theorem dX8_init_37 : decode cX8_init 37 = .ok (.aload_n 0, 1) := by decide +kernel
theorem dX8_init_38 : decode cX8_init 38 = .ok (.new 23, 3) := by decide +kernel
theorem dX8_init_41 : decode cX8_init 41 = .ok (.dup, 1) := by decide +kernel
theorem dX8_init_42 : decode cX8_init 42 = .ok (.invokespecial 25, 3) := by decide +kernel
theorem dX8_init_45 : decode cX8_init 45 = .ok (.putfield 30, 3) := by decide +kernel
theorem dX8_init_48 : decode cX8_init 48 = .ok (.aload_n 0, 1) := by decide +kernel
theorem dX8_init_49 : decode cX8_init 49 = .ok (.new 33, 3) := by decide +kernel
theorem dX8_init_52 : decode cX8_init 52 = .ok (.dup, 1) := by decide +kernel
theorem dX8_init_53 : decode cX8_init 53 = .ok (.invokespecial 35, 3) := by decide +kernel
theorem dX8_init_56 : decode cX8_init 56 = .ok (.putfield 36, 3) := by decide +kernel
theorem dX8_init_59 : decode cX8_init 59 = .ok (.aload_n 0, 1) := by decide +kernel
theorem dX8_init_60 : decode cX8_init 60 = .ok (.new 33, 3) := by decide +kernel
theorem dX8_init_63 : decode cX8_init 63 = .ok (.dup, 1) := by decide +kernel
theorem dX8_init_64 : decode cX8_init 64 = .ok (.invokespecial 35, 3) := by decide +kernel
theorem dX8_init_67 : decode cX8_init 67 = .ok (.putfield 40, 3) := by decide +kernel
theorem dX8_init_70 : decode cX8_init 70 = .ok (.aload_n 0, 1) := by decide +kernel
theorem dX8_init_71 : decode cX8_init 71 = .ok (.new 43, 3) := by decide +kernel
theorem dX8_init_74 : decode cX8_init 74 = .ok (.dup, 1) := by decide +kernel
theorem dX8_init_75 : decode cX8_init 75 = .ok (.invokespecial 45, 3) := by decide +kernel
theorem dX8_init_78 : decode cX8_init 78 = .ok (.putfield 46, 3) := by decide +kernel
theorem dX8_init_81 : decode cX8_init 81 = .ok (.aload_n 0, 1) := by decide +kernel
theorem dX8_init_82 : decode cX8_init 82 = .ok (.new 50, 3) := by decide +kernel
theorem dX8_init_85 : decode cX8_init 85 = .ok (.dup, 1) := by decide +kernel
theorem dX8_init_86 : decode cX8_init 86 = .ok (.invokespecial 52, 3) := by decide +kernel
theorem dX8_init_89 : decode cX8_init 89 = .ok (.putfield 53, 3) := by decide +kernel
theorem dX8_init_92 : decode cX8_init 92 = .ok (.aload_n 0, 1) := by decide +kernel
theorem dX8_init_93 : decode cX8_init 93 = .ok (.new 50, 3) := by decide +kernel
theorem dX8_init_96 : decode cX8_init 96 = .ok (.dup, 1) := by decide +kernel
theorem dX8_init_97 : decode cX8_init 97 = .ok (.invokespecial 52, 3) := by decide +kernel
theorem dX8_init_100 : decode cX8_init 100 = .ok (.putfield 57, 3) := by decide +kernel
theorem dX8_init_103 : decode cX8_init 103 = .ok (.aload_n 0, 1) := by decide +kernel
theorem dX8_init_104 : decode cX8_init 104 = .ok (.new 60, 3) := by decide +kernel
theorem dX8_init_107 : decode cX8_init 107 = .ok (.dup, 1) := by decide +kernel
theorem dX8_init_108 : decode cX8_init 108 = .ok (.invokespecial 62, 3) := by decide +kernel
theorem dX8_init_111 : decode cX8_init 111 = .ok (.putfield 63, 3) := by decide +kernel
theorem dX8_init_114 : decode cX8_init 114 = .ok (.aload_n 0, 1) := by decide +kernel
theorem dX8_init_115 : decode cX8_init 115 = .ok (.bipush 8, 2) := by decide +kernel
theorem dX8_init_117 : decode cX8_init 117 = .ok (.newarray .int, 2) := by decide +kernel
theorem dX8_init_119 : decode cX8_init 119 = .ok (.putfield 69, 3) := by decide +kernel
theorem dX8_init_122 : decode cX8_init 122 = .ok (.aload_n 0, 1) := by decide +kernel
theorem dX8_init_123 : decode cX8_init 123 = .ok (.bipush 16, 2) := by decide +kernel
theorem dX8_init_125 : decode cX8_init 125 = .ok (.newarray .int, 2) := by decide +kernel
theorem dX8_init_127 : decode cX8_init 127 = .ok (.putfield 73, 3) := by decide +kernel
theorem dX8_init_130 : decode cX8_init 130 = .ok (.aload_n 0, 1) := by decide +kernel
theorem dX8_init_131 : decode cX8_init 131 = .ok (.iconst 2, 1) := by decide +kernel
theorem dX8_init_132 : decode cX8_init 132 = .ok (.newarray .int, 2) := by decide +kernel
theorem dX8_init_134 : decode cX8_init 134 = .ok (.putfield 76, 3) := by decide +kernel
theorem dX8_init_137 : decode cX8_init 137 = .ok (.aload_n 0, 1) := by decide +kernel
theorem dX8_init_138 : decode cX8_init 138 = .ok (.getfield 26, 3) := by decide +kernel
theorem dX8_init_141 : decode cX8_init 141 = .ok (.invokevirtual 79, 3) := by decide +kernel
theorem dX8_init_144 : decode cX8_init 144 = .ok (.aload_n 0, 1) := by decide +kernel
theorem dX8_init_145 : decode cX8_init 145 = .ok (.getfield 26, 3) := by decide +kernel
theorem dX8_init_148 : decode cX8_init 148 = .ok (.getfield 82, 3) := by decide +kernel
theorem dX8_init_151 : decode cX8_init 151 = .ok (.iconst 1, 1) := by decide +kernel
theorem dX8_init_152 : decode cX8_init 152 = .ok (.iconst 1, 1) := by decide +kernel
theorem dX8_init_153 : decode cX8_init 153 = .ok (.bipush 20, 2) := by decide +kernel
theorem dX8_init_155 : decode cX8_init 155 = .ok (.iconst 0, 1) := by decide +kernel
theorem dX8_init_156 : decode cX8_init 156 = .ok (.iconst 0, 1) := by decide +kernel
theorem dX8_init_157 : decode cX8_init 157 = .ok (.invokevirtual 86, 3) := by decide +kernel
theorem dX8_init_160 : decode cX8_init 160 = .ok (.pop, 1) := by decide +kernel
theorem dX8_init_161 : decode cX8_init 161 = .ok (.aload_n 0, 1) := by decide +kernel
theorem dX8_init_162 : decode cX8_init 162 = .ok (.getfield 26, 3) := by decide +kernel
theorem dX8_init_165 : decode cX8_init 165 = .ok (.getfield 82, 3) := by decide +kernel
theorem dX8_init_168 : decode cX8_init 168 = .ok (.iconst 0, 1) := by decide +kernel
theorem dX8_init_169 : decode cX8_init 169 = .ok (.bipush 20, 2) := by decide +kernel
theorem dX8_init_171 : decode cX8_init 171 = .ok (.bipush 10, 2) := by decide +kernel
theorem dX8_init_173 : decode cX8_init 173 = .ok (.invokevirtual 90, 3) := by decide +kernel
theorem dX8_init_176 : decode cX8_init 176 = .ok (.pop, 1) := by decide +kernel
theorem dX8_init_177 : decode cX8_init 177 = .ok (.aload_n 0, 1) := by decide +kernel
theorem dX8_init_178 : decode cX8_init 178 = .ok (.getfield 36, 3) := by decide +kernel
theorem dX8_init_181 : decode cX8_init 181 = .ok (.aload_n 0, 1) := by decide +kernel
theorem dX8_init_182 : decode cX8_init 182 = .ok (.getfield 26, 3) := by decide +kernel
theorem dX8_init_185 : decode cX8_init 185 = .ok (.aload_n 0, 1) := by decide +kernel
theorem dX8_init_186 : decode cX8_init 186 = .ok (.getfield 26, 3) := by decide +kernel
theorem dX8_init_189 : decode cX8_init 189 = .ok (.getfield 94, 3) := by decide +kernel
theorem dX8_init_192 : decode cX8_init 192 = .ok (.invokevirtual 98, 3) := by decide +kernel
theorem dX8_init_195 : decode cX8_init 195 = .ok (.pop, 1) := by decide +kernel
theorem dX8_init_196 : decode cX8_init 196 = .ok (.return_, 1) := by decide +kernel
theorem dX8_write_0 : decode cX8_write 0 = .ok (.iload_n 1, 1) := by decide +kernel
theorem dX8_write_1 : decode cX8_write 1 = .ok (.iconst 1, 1) := by decide +kernel
theorem dX8_write_2 : decode cX8_write 2 = .ok (.bipush 8, 2) := by decide +kernel
theorem dX8_write_4 : decode cX8_write 4 = .ok (.invokestatic 102, 3) := by decide +kernel
theorem dX8_write_7 : decode cX8_write 7 = .ok (.ifCond .ne 5, 3) := by decide +kernel
theorem dX8_write_10 : decode cX8_write 10 = .ok (.iconst (-1), 1) := by decide +kernel
theorem dX8_write_11 : decode cX8_write 11 = .ok (.ireturn, 1) := by decide +kernel
theorem dX8_write_12 : decode cX8_write 12 = .ok (.aload_n 0, 1) := by decide +kernel
theorem dX8_write_13 : decode cX8_write 13 = .ok (.getfield 10, 3) := by decide +kernel
theorem dX8_write_16 : decode cX8_write 16 = .ok (.iload_n 1, 1) := by decide +kernel
theorem dX8_write_17 : decode cX8_write 17 = .ok (.lload_n 2, 1) := by decide +kernel
theorem dX8_write_18 : decode cX8_write 18 = .ok (.invokevirtual 105, 3) := by decide +kernel
theorem dX8_write_21 : decode cX8_write 21 = .ok (.ifCond .eq 13, 3) := by decide +kernel
theorem dX8_write_24 : decode cX8_write 24 = .ok (.aload_n 0, 1) := by decide +kernel
theorem dX8_write_25 : decode cX8_write 25 = .ok (.getfield 10, 3) := by decide +kernel
theorem dX8_write_28 : decode cX8_write 28 = .ok (.getfield 109, 3) := by decide +kernel
theorem dX8_write_31 : decode cX8_write 31 = .ok (.goto 5, 3) := by decide +kernel
theorem dX8_write_34 : decode cX8_write 34 = .ok (.bipush (-3), 2) := by decide +kernel
theorem dX8_write_36 : decode cX8_write 36 = .ok (.ireturn, 1) := by decide +kernel
theorem dX8_wipe_0 : decode cX8_wipe 0 = .ok (.aload_n 0, 1) := by decide +kernel
theorem dX8_wipe_1 : decode cX8_wipe 1 = .ok (.getfield 10, 3) := by decide +kernel
theorem dX8_wipe_4 : decode cX8_wipe 4 = .ok (.getfield 109, 3) := by decide +kernel
theorem dX8_wipe_7 : decode cX8_wipe 7 = .ok (.istore_n 1, 1) := by decide +kernel
theorem dX8_wipe_8 : decode cX8_wipe 8 = .ok (.aload_n 0, 1) := by decide +kernel
theorem dX8_wipe_9 : decode cX8_wipe 9 = .ok (.getfield 10, 3) := by decide +kernel
theorem dX8_wipe_12 : decode cX8_wipe 12 = .ok (.iconst 0, 1) := by decide +kernel
theorem dX8_wipe_13 : decode cX8_wipe 13 = .ok (.putfield 109, 3) := by decide +kernel
theorem dX8_wipe_16 : decode cX8_wipe 16 = .ok (.iload_n 1, 1) := by decide +kernel
theorem dX8_wipe_17 : decode cX8_wipe 17 = .ok (.ireturn, 1) := by decide +kernel
theorem dX8_fault_0 : decode cX8_fault 0 = .ok (.aload_n 0, 1) := by decide +kernel
theorem dX8_fault_1 : decode cX8_fault 1 = .ok (.getfield 19, 3) := by decide +kernel
theorem dX8_fault_4 : decode cX8_fault 4 = .ok (.aload_n 0, 1) := by decide +kernel
theorem dX8_fault_5 : decode cX8_fault 5 = .ok (.getfield 10, 3) := by decide +kernel
theorem dX8_fault_8 : decode cX8_fault 8 = .ok (.aload_n 0, 1) := by decide +kernel
theorem dX8_fault_9 : decode cX8_fault 9 = .ok (.getfield 30, 3) := by decide +kernel
theorem dX8_fault_12 : decode cX8_fault 12 = .ok (.invokevirtual 112, 3) := by decide +kernel
theorem dX8_fault_15 : decode cX8_fault 15 = .ok (.ireturn, 1) := by decide +kernel
theorem dX8_lay_0 : decode cX8_lay 0 = .ok (.aload_n 0, 1) := by decide +kernel
theorem dX8_lay_1 : decode cX8_lay 1 = .ok (.getfield 19, 3) := by decide +kernel
theorem dX8_lay_4 : decode cX8_lay 4 = .ok (.aload_n 0, 1) := by decide +kernel
theorem dX8_lay_5 : decode cX8_lay 5 = .ok (.getfield 10, 3) := by decide +kernel
theorem dX8_lay_8 : decode cX8_lay 8 = .ok (.aload_n 0, 1) := by decide +kernel
theorem dX8_lay_9 : decode cX8_lay 9 = .ok (.getfield 30, 3) := by decide +kernel
theorem dX8_lay_12 : decode cX8_lay 12 = .ok (.invokevirtual 112, 3) := by decide +kernel
theorem dX8_lay_15 : decode cX8_lay 15 = .ok (.bipush (-4), 2) := by decide +kernel
theorem dX8_lay_17 : decode cX8_lay 17 = .ok (.if_icmp .ne 16, 3) := by decide +kernel
theorem dX8_lay_20 : decode cX8_lay 20 = .ok (.aload_n 0, 1) := by decide +kernel
theorem dX8_lay_21 : decode cX8_lay 21 = .ok (.getfield 30, 3) := by decide +kernel
theorem dX8_lay_24 : decode cX8_lay 24 = .ok (.getfield 82, 3) := by decide +kernel
theorem dX8_lay_27 : decode cX8_lay 27 = .ok (.getfield 116, 3) := by decide +kernel
theorem dX8_lay_30 : decode cX8_lay 30 = .ok (.ifCond .ne 6, 3) := by decide +kernel
theorem dX8_lay_33 : decode cX8_lay 33 = .ok (.bipush (-2), 2) := by decide +kernel
theorem dX8_lay_35 : decode cX8_lay 35 = .ok (.ireturn, 1) := by decide +kernel
theorem dX8_lay_36 : decode cX8_lay 36 = .ok (.aload_n 0, 1) := by decide +kernel
theorem dX8_lay_37 : decode cX8_lay 37 = .ok (.getfield 26, 3) := by decide +kernel
theorem dX8_lay_40 : decode cX8_lay 40 = .ok (.astore_n 1, 1) := by decide +kernel
theorem dX8_lay_41 : decode cX8_lay 41 = .ok (.aload_n 0, 1) := by decide +kernel
theorem dX8_lay_42 : decode cX8_lay 42 = .ok (.aload_n 0, 1) := by decide +kernel
theorem dX8_lay_43 : decode cX8_lay 43 = .ok (.getfield 30, 3) := by decide +kernel
theorem dX8_lay_46 : decode cX8_lay 46 = .ok (.putfield 26, 3) := by decide +kernel
theorem dX8_lay_49 : decode cX8_lay 49 = .ok (.aload_n 0, 1) := by decide +kernel
theorem dX8_lay_50 : decode cX8_lay 50 = .ok (.aload_n 1, 1) := by decide +kernel
theorem dX8_lay_51 : decode cX8_lay 51 = .ok (.putfield 30, 3) := by decide +kernel
theorem dX8_lay_54 : decode cX8_lay 54 = .ok (.aload_n 0, 1) := by decide +kernel
theorem dX8_lay_55 : decode cX8_lay 55 = .ok (.getfield 36, 3) := by decide +kernel
theorem dX8_lay_58 : decode cX8_lay 58 = .ok (.aload_n 0, 1) := by decide +kernel
theorem dX8_lay_59 : decode cX8_lay 59 = .ok (.getfield 26, 3) := by decide +kernel
theorem dX8_lay_62 : decode cX8_lay 62 = .ok (.aload_n 0, 1) := by decide +kernel
theorem dX8_lay_63 : decode cX8_lay 63 = .ok (.getfield 26, 3) := by decide +kernel
theorem dX8_lay_66 : decode cX8_lay 66 = .ok (.getfield 94, 3) := by decide +kernel
theorem dX8_lay_69 : decode cX8_lay 69 = .ok (.invokevirtual 98, 3) := by decide +kernel
theorem dX8_lay_72 : decode cX8_lay 72 = .ok (.pop, 1) := by decide +kernel
theorem dX8_lay_73 : decode cX8_lay 73 = .ok (.aload_n 0, 1) := by decide +kernel
theorem dX8_lay_74 : decode cX8_lay 74 = .ok (.getfield 69, 3) := by decide +kernel
theorem dX8_lay_77 : decode cX8_lay 77 = .ok (.iconst 0, 1) := by decide +kernel
theorem dX8_lay_78 : decode cX8_lay 78 = .ok (.invokestatic 118, 3) := by decide +kernel
theorem dX8_lay_81 : decode cX8_lay 81 = .ok (.aload_n 0, 1) := by decide +kernel
theorem dX8_lay_82 : decode cX8_lay 82 = .ok (.iconst 0, 1) := by decide +kernel
theorem dX8_lay_83 : decode cX8_lay 83 = .ok (.putfield 124, 3) := by decide +kernel
theorem dX8_lay_86 : decode cX8_lay 86 = .ok (.aload_n 0, 1) := by decide +kernel
theorem dX8_lay_87 : decode cX8_lay 87 = .ok (.iconst 0, 1) := by decide +kernel
theorem dX8_lay_88 : decode cX8_lay 88 = .ok (.putfield 127, 3) := by decide +kernel
theorem dX8_lay_91 : decode cX8_lay 91 = .ok (.aload_n 0, 1) := by decide +kernel
theorem dX8_lay_92 : decode cX8_lay 92 = .ok (.iconst 0, 1) := by decide +kernel
theorem dX8_lay_93 : decode cX8_lay 93 = .ok (.putfield 130, 3) := by decide +kernel
theorem dX8_lay_96 : decode cX8_lay 96 = .ok (.aload_n 0, 1) := by decide +kernel
theorem dX8_lay_97 : decode cX8_lay 97 = .ok (.invokevirtual 134, 3) := by decide +kernel
theorem dX8_lay_100 : decode cX8_lay 100 = .ok (.aload_n 0, 1) := by decide +kernel
theorem dX8_lay_101 : decode cX8_lay 101 = .ok (.getfield 26, 3) := by decide +kernel
theorem dX8_lay_104 : decode cX8_lay 104 = .ok (.getfield 82, 3) := by decide +kernel
theorem dX8_lay_107 : decode cX8_lay 107 = .ok (.getfield 137, 3) := by decide +kernel
theorem dX8_lay_110 : decode cX8_lay 110 = .ok (.ireturn, 1) := by decide +kernel
theorem dX8_giver_0 : decode cX8_giver 0 = .ok (.aload_n 0, 1) := by decide +kernel
theorem dX8_giver_1 : decode cX8_giver 1 = .ok (.iload_n 1, 1) := by decide +kernel
theorem dX8_giver_2 : decode cX8_giver 2 = .ok (.invokevirtual 140, 3) := by decide +kernel
theorem dX8_giver_5 : decode cX8_giver 5 = .ok (.ifCond .eq 12, 3) := by decide +kernel
theorem dX8_giver_8 : decode cX8_giver 8 = .ok (.iload_n 2, 1) := by decide +kernel
theorem dX8_giver_9 : decode cX8_giver 9 = .ok (.iconst 0, 1) := by decide +kernel
theorem dX8_giver_10 : decode cX8_giver 10 = .ok (.iconst 3, 1) := by decide +kernel
theorem dX8_giver_11 : decode cX8_giver 11 = .ok (.invokestatic 102, 3) := by decide +kernel
theorem dX8_giver_14 : decode cX8_giver 14 = .ok (.ifCond .ne 5, 3) := by decide +kernel
theorem dX8_giver_17 : decode cX8_giver 17 = .ok (.iconst (-1), 1) := by decide +kernel
theorem dX8_giver_18 : decode cX8_giver 18 = .ok (.ireturn, 1) := by decide +kernel
theorem dX8_giver_19 : decode cX8_giver 19 = .ok (.aload_n 0, 1) := by decide +kernel
theorem dX8_giver_20 : decode cX8_giver 20 = .ok (.getfield 36, 3) := by decide +kernel
theorem dX8_giver_23 : decode cX8_giver 23 = .ok (.iload_n 1, 1) := by decide +kernel
theorem dX8_giver_24 : decode cX8_giver 24 = .ok (.invokevirtual 144, 3) := by decide +kernel
theorem dX8_giver_27 : decode cX8_giver 27 = .ok (.istore_n 3, 1) := by decide +kernel
theorem dX8_giver_28 : decode cX8_giver 28 = .ok (.iload_n 2, 1) := by decide +kernel
theorem dX8_giver_29 : decode cX8_giver 29 = .ok (.tableswitch 83 0 2 #[27, 39, 62], 27) := by decide +kernel
theorem dX8_giver_56 : decode cX8_giver 56 = .ok (.aload_n 0, 1) := by decide +kernel
theorem dX8_giver_57 : decode cX8_giver 57 = .ok (.getfield 26, 3) := by decide +kernel
theorem dX8_giver_60 : decode cX8_giver 60 = .ok (.getfield 82, 3) := by decide +kernel
theorem dX8_giver_63 : decode cX8_giver 63 = .ok (.iload_n 1, 1) := by decide +kernel
theorem dX8_giver_64 : decode cX8_giver 64 = .ok (.invokevirtual 148, 3) := by decide +kernel
theorem dX8_giver_67 : decode cX8_giver 67 = .ok (.ireturn, 1) := by decide +kernel
theorem dX8_giver_68 : decode cX8_giver 68 = .ok (.aload_n 0, 1) := by decide +kernel
theorem dX8_giver_69 : decode cX8_giver 69 = .ok (.getfield 26, 3) := by decide +kernel
theorem dX8_giver_72 : decode cX8_giver 72 = .ok (.getfield 82, 3) := by decide +kernel
theorem dX8_giver_75 : decode cX8_giver 75 = .ok (.getfield 151, 3) := by decide +kernel
theorem dX8_giver_78 : decode cX8_giver 78 = .ok (.aload_n 0, 1) := by decide +kernel
theorem dX8_giver_79 : decode cX8_giver 79 = .ok (.getfield 26, 3) := by decide +kernel
theorem dX8_giver_82 : decode cX8_giver 82 = .ok (.getfield 82, 3) := by decide +kernel
theorem dX8_giver_85 : decode cX8_giver 85 = .ok (.iload_n 1, 1) := by decide +kernel
theorem dX8_giver_86 : decode cX8_giver 86 = .ok (.invokevirtual 148, 3) := by decide +kernel
theorem dX8_giver_89 : decode cX8_giver 89 = .ok (.iaload, 1) := by decide +kernel
theorem dX8_giver_90 : decode cX8_giver 90 = .ok (.ireturn, 1) := by decide +kernel
theorem dX8_giver_91 : decode cX8_giver 91 = .ok (.iload_n 3, 1) := by decide +kernel
theorem dX8_giver_92 : decode cX8_giver 92 = .ok (.bipush (-4), 2) := by decide +kernel
theorem dX8_giver_94 : decode cX8_giver 94 = .ok (.if_icmp .ne 8, 3) := by decide +kernel
theorem dX8_giver_97 : decode cX8_giver 97 = .ok (.bipush (-4), 2) := by decide +kernel
theorem dX8_giver_99 : decode cX8_giver 99 = .ok (.goto 12, 3) := by decide +kernel
theorem dX8_giver_102 : decode cX8_giver 102 = .ok (.aload_n 0, 1) := by decide +kernel
theorem dX8_giver_103 : decode cX8_giver 103 = .ok (.getfield 36, 3) := by decide +kernel
theorem dX8_giver_106 : decode cX8_giver 106 = .ok (.getfield 154, 3) := by decide +kernel
theorem dX8_giver_109 : decode cX8_giver 109 = .ok (.iload_n 3, 1) := by decide +kernel
theorem dX8_giver_110 : decode cX8_giver 110 = .ok (.iaload, 1) := by decide +kernel
theorem dX8_giver_111 : decode cX8_giver 111 = .ok (.ireturn, 1) := by decide +kernel
theorem dX8_giver_112 : decode cX8_giver 112 = .ok (.iload_n 3, 1) := by decide +kernel
theorem dX8_giver_113 : decode cX8_giver 113 = .ok (.ireturn, 1) := by decide +kernel
theorem dX8_show_0 : decode cX8_show 0 = .ok (.iload_n 1, 1) := by decide +kernel
theorem dX8_show_1 : decode cX8_show 1 = .ok (.iconst 0, 1) := by decide +kernel
theorem dX8_show_2 : decode cX8_show 2 = .ok (.iconst 2, 1) := by decide +kernel
theorem dX8_show_3 : decode cX8_show 3 = .ok (.invokestatic 102, 3) := by decide +kernel
theorem dX8_show_6 : decode cX8_show 6 = .ok (.ifCond .ne 5, 3) := by decide +kernel
theorem dX8_show_9 : decode cX8_show 9 = .ok (.iconst (-1), 1) := by decide +kernel
theorem dX8_show_10 : decode cX8_show 10 = .ok (.ireturn, 1) := by decide +kernel
theorem dX8_show_11 : decode cX8_show 11 = .ok (.aload_n 0, 1) := by decide +kernel
theorem dX8_show_12 : decode cX8_show 12 = .ok (.getfield 124, 3) := by decide +kernel
theorem dX8_show_15 : decode cX8_show 15 = .ok (.istore_n 2, 1) := by decide +kernel
theorem dX8_show_16 : decode cX8_show 16 = .ok (.aload_n 0, 1) := by decide +kernel
theorem dX8_show_17 : decode cX8_show 17 = .ok (.iload_n 1, 1) := by decide +kernel
theorem dX8_show_18 : decode cX8_show 18 = .ok (.putfield 124, 3) := by decide +kernel
theorem dX8_show_21 : decode cX8_show 21 = .ok (.aload_n 0, 1) := by decide +kernel
theorem dX8_show_22 : decode cX8_show 22 = .ok (.invokevirtual 134, 3) := by decide +kernel
theorem dX8_show_25 : decode cX8_show 25 = .ok (.iload_n 2, 1) := by decide +kernel
theorem dX8_show_26 : decode cX8_show 26 = .ok (.ireturn, 1) := by decide +kernel
theorem dX8_odds_0 : decode cX8_odds 0 = .ok (.iload_n 1, 1) := by decide +kernel
theorem dX8_odds_1 : decode cX8_odds 1 = .ok (.iconst 0, 1) := by decide +kernel
theorem dX8_odds_2 : decode cX8_odds 2 = .ok (.iconst 2, 1) := by decide +kernel
theorem dX8_odds_3 : decode cX8_odds 3 = .ok (.invokestatic 102, 3) := by decide +kernel
theorem dX8_odds_6 : decode cX8_odds 6 = .ok (.ifCond .ne 7, 3) := by decide +kernel
theorem dX8_odds_9 : decode cX8_odds 9 = .ok (.ldc2_w 157, 3) := by decide +kernel
theorem dX8_odds_12 : decode cX8_odds 12 = .ok (.lreturn, 1) := by decide +kernel
theorem dX8_odds_13 : decode cX8_odds 13 = .ok (.aload_n 0, 1) := by decide +kernel
theorem dX8_odds_14 : decode cX8_odds 14 = .ok (.invokevirtual 159, 3) := by decide +kernel
theorem dX8_odds_17 : decode cX8_odds 17 = .ok (.getfield 163, 3) := by decide +kernel
theorem dX8_odds_20 : decode cX8_odds 20 = .ok (.lstore_n 2, 1) := by decide +kernel
theorem dX8_odds_21 : decode cX8_odds 21 = .ok (.iload_n 1, 1) := by decide +kernel
theorem dX8_odds_22 : decode cX8_odds 22 = .ok (.ifCond .ne 5, 3) := by decide +kernel
theorem dX8_odds_25 : decode cX8_odds 25 = .ok (.lload_n 2, 1) := by decide +kernel
theorem dX8_odds_26 : decode cX8_odds 26 = .ok (.lreturn, 1) := by decide +kernel
theorem dX8_odds_27 : decode cX8_odds 27 = .ok (.aload_n 0, 1) := by decide +kernel
theorem dX8_odds_28 : decode cX8_odds 28 = .ok (.getfield 36, 3) := by decide +kernel
theorem dX8_odds_31 : decode cX8_odds 31 = .ok (.invokevirtual 167, 3) := by decide +kernel
theorem dX8_odds_34 : decode cX8_odds 34 = .ok (.lstore 4, 2) := by decide +kernel
theorem dX8_odds_36 : decode cX8_odds 36 = .ok (.lload_n 2, 1) := by decide +kernel
theorem dX8_odds_37 : decode cX8_odds 37 = .ok (.lload 4, 2) := by decide +kernel
theorem dX8_odds_39 : decode cX8_odds 39 = .ok (.invokestatic 171, 3) := by decide +kernel
theorem dX8_odds_42 : decode cX8_odds 42 = .ok (.lstore 6, 2) := by decide +kernel
theorem dX8_odds_44 : decode cX8_odds 44 = .ok (.iload_n 1, 1) := by decide +kernel
theorem dX8_odds_45 : decode cX8_odds 45 = .ok (.iconst 1, 1) := by decide +kernel
theorem dX8_odds_46 : decode cX8_odds 46 = .ok (.if_icmp .ne 7, 3) := by decide +kernel
theorem dX8_odds_49 : decode cX8_odds 49 = .ok (.lload_n 2, 1) := by decide +kernel
theorem dX8_odds_50 : decode cX8_odds 50 = .ok (.goto 5, 3) := by decide +kernel
theorem dX8_odds_53 : decode cX8_odds 53 = .ok (.lload 4, 2) := by decide +kernel
theorem dX8_odds_55 : decode cX8_odds 55 = .ok (.lload 6, 2) := by decide +kernel
theorem dX8_odds_57 : decode cX8_odds 57 = .ok (.ldiv, 1) := by decide +kernel
theorem dX8_odds_58 : decode cX8_odds 58 = .ok (.lreturn, 1) := by decide +kernel
theorem dX8_mean_0 : decode cX8_mean 0 = .ok (.aload_n 0, 1) := by decide +kernel
theorem dX8_mean_1 : decode cX8_mean 1 = .ok (.iload_n 1, 1) := by decide +kernel
theorem dX8_mean_2 : decode cX8_mean 2 = .ok (.invokevirtual 140, 3) := by decide +kernel
theorem dX8_mean_5 : decode cX8_mean 5 = .ok (.ifCond .eq 12, 3) := by decide +kernel
theorem dX8_mean_8 : decode cX8_mean 8 = .ok (.iload_n 2, 1) := by decide +kernel
theorem dX8_mean_9 : decode cX8_mean 9 = .ok (.iconst 0, 1) := by decide +kernel
theorem dX8_mean_10 : decode cX8_mean 10 = .ok (.iconst 1, 1) := by decide +kernel
theorem dX8_mean_11 : decode cX8_mean 11 = .ok (.invokestatic 102, 3) := by decide +kernel
theorem dX8_mean_14 : decode cX8_mean 14 = .ok (.ifCond .ne 7, 3) := by decide +kernel
theorem dX8_mean_17 : decode cX8_mean 17 = .ok (.ldc2_w 177, 3) := by decide +kernel
theorem dX8_mean_20 : decode cX8_mean 20 = .ok (.lreturn, 1) := by decide +kernel
theorem dX8_mean_21 : decode cX8_mean 21 = .ok (.aload_n 0, 1) := by decide +kernel
theorem dX8_mean_22 : decode cX8_mean 22 = .ok (.getfield 36, 3) := by decide +kernel
theorem dX8_mean_25 : decode cX8_mean 25 = .ok (.iload_n 1, 1) := by decide +kernel
theorem dX8_mean_26 : decode cX8_mean 26 = .ok (.invokevirtual 144, 3) := by decide +kernel
theorem dX8_mean_29 : decode cX8_mean 29 = .ok (.istore_n 3, 1) := by decide +kernel
theorem dX8_mean_30 : decode cX8_mean 30 = .ok (.iload_n 3, 1) := by decide +kernel
theorem dX8_mean_31 : decode cX8_mean 31 = .ok (.bipush (-4), 2) := by decide +kernel
theorem dX8_mean_33 : decode cX8_mean 33 = .ok (.if_icmp .ne 7, 3) := by decide +kernel
theorem dX8_mean_36 : decode cX8_mean 36 = .ok (.ldc2_w 179, 3) := by decide +kernel
theorem dX8_mean_39 : decode cX8_mean 39 = .ok (.lreturn, 1) := by decide +kernel
theorem dX8_mean_40 : decode cX8_mean 40 = .ok (.aload_n 0, 1) := by decide +kernel
theorem dX8_mean_41 : decode cX8_mean 41 = .ok (.invokevirtual 159, 3) := by decide +kernel
theorem dX8_mean_44 : decode cX8_mean 44 = .ok (.astore 4, 2) := by decide +kernel
theorem dX8_mean_46 : decode cX8_mean 46 = .ok (.iload_n 2, 1) := by decide +kernel
theorem dX8_mean_47 : decode cX8_mean 47 = .ok (.ifCond .ne 13, 3) := by decide +kernel
theorem dX8_mean_50 : decode cX8_mean 50 = .ok (.aload 4, 2) := by decide +kernel
theorem dX8_mean_52 : decode cX8_mean 52 = .ok (.getfield 181, 3) := by decide +kernel
theorem dX8_mean_55 : decode cX8_mean 55 = .ok (.iload_n 3, 1) := by decide +kernel
theorem dX8_mean_56 : decode cX8_mean 56 = .ok (.laload, 1) := by decide +kernel
theorem dX8_mean_57 : decode cX8_mean 57 = .ok (.goto 10, 3) := by decide +kernel
theorem dX8_mean_60 : decode cX8_mean 60 = .ok (.aload 4, 2) := by decide +kernel
theorem dX8_mean_62 : decode cX8_mean 62 = .ok (.getfield 185, 3) := by decide +kernel
theorem dX8_mean_65 : decode cX8_mean 65 = .ok (.iload_n 3, 1) := by decide +kernel
theorem dX8_mean_66 : decode cX8_mean 66 = .ok (.laload, 1) := by decide +kernel
theorem dX8_mean_67 : decode cX8_mean 67 = .ok (.lreturn, 1) := by decide +kernel
theorem dX8_wrong_0 : decode cX8_wrong 0 = .ok (.iload_n 1, 1) := by decide +kernel
theorem dX8_wrong_1 : decode cX8_wrong 1 = .ok (.iconst 0, 1) := by decide +kernel
theorem dX8_wrong_2 : decode cX8_wrong 2 = .ok (.iconst 1, 1) := by decide +kernel
theorem dX8_wrong_3 : decode cX8_wrong 3 = .ok (.invokestatic 102, 3) := by decide +kernel
theorem dX8_wrong_6 : decode cX8_wrong 6 = .ok (.ifCond .ne 7, 3) := by decide +kernel
theorem dX8_wrong_9 : decode cX8_wrong 9 = .ok (.ldc2_w 157, 3) := by decide +kernel
theorem dX8_wrong_12 : decode cX8_wrong 12 = .ok (.lreturn, 1) := by decide +kernel
theorem dX8_wrong_13 : decode cX8_wrong 13 = .ok (.aload_n 0, 1) := by decide +kernel
theorem dX8_wrong_14 : decode cX8_wrong 14 = .ok (.invokevirtual 159, 3) := by decide +kernel
theorem dX8_wrong_17 : decode cX8_wrong 17 = .ok (.astore_n 2, 1) := by decide +kernel
theorem dX8_wrong_18 : decode cX8_wrong 18 = .ok (.iload_n 1, 1) := by decide +kernel
theorem dX8_wrong_19 : decode cX8_wrong 19 = .ok (.ifCond .ne 10, 3) := by decide +kernel
theorem dX8_wrong_22 : decode cX8_wrong 22 = .ok (.aload_n 2, 1) := by decide +kernel
theorem dX8_wrong_23 : decode cX8_wrong 23 = .ok (.getfield 188, 3) := by decide +kernel
theorem dX8_wrong_26 : decode cX8_wrong 26 = .ok (.goto 7, 3) := by decide +kernel
theorem dX8_wrong_29 : decode cX8_wrong 29 = .ok (.aload_n 2, 1) := by decide +kernel
theorem dX8_wrong_30 : decode cX8_wrong 30 = .ok (.getfield 191, 3) := by decide +kernel
theorem dX8_wrong_33 : decode cX8_wrong 33 = .ok (.lreturn, 1) := by decide +kernel
theorem dX8_row_0 : decode cX8_row 0 = .ok (.aload_n 0, 1) := by decide +kernel
theorem dX8_row_1 : decode cX8_row 1 = .ok (.iload_n 1, 1) := by decide +kernel
theorem dX8_row_2 : decode cX8_row 2 = .ok (.invokevirtual 140, 3) := by decide +kernel
theorem dX8_row_5 : decode cX8_row 5 = .ok (.ifCond .eq 13, 3) := by decide +kernel
theorem dX8_row_8 : decode cX8_row 8 = .ok (.iload_n 2, 1) := by decide +kernel
theorem dX8_row_9 : decode cX8_row 9 = .ok (.iconst 0, 1) := by decide +kernel
theorem dX8_row_10 : decode cX8_row 10 = .ok (.bipush 30, 2) := by decide +kernel
theorem dX8_row_12 : decode cX8_row 12 = .ok (.invokestatic 102, 3) := by decide +kernel
theorem dX8_row_15 : decode cX8_row 15 = .ok (.ifCond .ne 5, 3) := by decide +kernel
theorem dX8_row_18 : decode cX8_row 18 = .ok (.iconst (-1), 1) := by decide +kernel
theorem dX8_row_19 : decode cX8_row 19 = .ok (.ireturn, 1) := by decide +kernel
theorem dX8_row_20 : decode cX8_row 20 = .ok (.aload_n 0, 1) := by decide +kernel
theorem dX8_row_21 : decode cX8_row 21 = .ok (.getfield 69, 3) := by decide +kernel
theorem dX8_row_24 : decode cX8_row 24 = .ok (.iload_n 1, 1) := by decide +kernel
theorem dX8_row_25 : decode cX8_row 25 = .ok (.iaload, 1) := by decide +kernel
theorem dX8_row_26 : decode cX8_row 26 = .ok (.istore_n 3, 1) := by decide +kernel
theorem dX8_row_27 : decode cX8_row 27 = .ok (.aload_n 0, 1) := by decide +kernel
theorem dX8_row_28 : decode cX8_row 28 = .ok (.getfield 69, 3) := by decide +kernel
theorem dX8_row_31 : decode cX8_row 31 = .ok (.iload_n 1, 1) := by decide +kernel
theorem dX8_row_32 : decode cX8_row 32 = .ok (.iload_n 2, 1) := by decide +kernel
theorem dX8_row_33 : decode cX8_row 33 = .ok (.iastore, 1) := by decide +kernel
theorem dX8_row_34 : decode cX8_row 34 = .ok (.iload_n 3, 1) := by decide +kernel
theorem dX8_row_35 : decode cX8_row 35 = .ok (.ireturn, 1) := by decide +kernel
theorem dX8_judge_0 : decode cX8_judge 0 = .ok (.aload_n 0, 1) := by decide +kernel
theorem dX8_judge_1 : decode cX8_judge 1 = .ok (.invokevirtual 194, 3) := by decide +kernel
theorem dX8_judge_4 : decode cX8_judge 4 = .ok (.iconst 0, 1) := by decide +kernel
theorem dX8_judge_5 : decode cX8_judge 5 = .ok (.istore_n 1, 1) := by decide +kernel
theorem dX8_judge_6 : decode cX8_judge 6 = .ok (.iconst 0, 1) := by decide +kernel
theorem dX8_judge_7 : decode cX8_judge 7 = .ok (.istore_n 2, 1) := by decide +kernel
theorem dX8_judge_8 : decode cX8_judge 8 = .ok (.iload_n 2, 1) := by decide +kernel
theorem dX8_judge_9 : decode cX8_judge 9 = .ok (.aload_n 0, 1) := by decide +kernel
theorem dX8_judge_10 : decode cX8_judge 10 = .ok (.getfield 36, 3) := by decide +kernel
theorem dX8_judge_13 : decode cX8_judge 13 = .ok (.getfield 197, 3) := by decide +kernel
theorem dX8_judge_16 : decode cX8_judge 16 = .ok (.if_icmp .ge 57, 3) := by decide +kernel
theorem dX8_judge_19 : decode cX8_judge 19 = .ok (.aload_n 0, 1) := by decide +kernel
theorem dX8_judge_20 : decode cX8_judge 20 = .ok (.getfield 36, 3) := by decide +kernel
theorem dX8_judge_23 : decode cX8_judge 23 = .ok (.getfield 200, 3) := by decide +kernel
theorem dX8_judge_26 : decode cX8_judge 26 = .ok (.iload_n 2, 1) := by decide +kernel
theorem dX8_judge_27 : decode cX8_judge 27 = .ok (.iaload, 1) := by decide +kernel
theorem dX8_judge_28 : decode cX8_judge 28 = .ok (.istore_n 3, 1) := by decide +kernel
theorem dX8_judge_29 : decode cX8_judge 29 = .ok (.aload_n 0, 1) := by decide +kernel
theorem dX8_judge_30 : decode cX8_judge 30 = .ok (.getfield 46, 3) := by decide +kernel
theorem dX8_judge_33 : decode cX8_judge 33 = .ok (.iload_n 2, 1) := by decide +kernel
theorem dX8_judge_34 : decode cX8_judge 34 = .ok (.aload_n 0, 1) := by decide +kernel
theorem dX8_judge_35 : decode cX8_judge 35 = .ok (.getfield 36, 3) := by decide +kernel
theorem dX8_judge_38 : decode cX8_judge 38 = .ok (.getfield 203, 3) := by decide +kernel
theorem dX8_judge_41 : decode cX8_judge 41 = .ok (.iload_n 2, 1) := by decide +kernel
theorem dX8_judge_42 : decode cX8_judge 42 = .ok (.iaload, 1) := by decide +kernel
theorem dX8_judge_43 : decode cX8_judge 43 = .ok (.iload_n 1, 1) := by decide +kernel
theorem dX8_judge_44 : decode cX8_judge 44 = .ok (.invokevirtual 206, 3) := by decide +kernel
theorem dX8_judge_47 : decode cX8_judge 47 = .ok (.aload_n 0, 1) := by decide +kernel
theorem dX8_judge_48 : decode cX8_judge 48 = .ok (.getfield 69, 3) := by decide +kernel
theorem dX8_judge_51 : decode cX8_judge 51 = .ok (.iload_n 3, 1) := by decide +kernel
theorem dX8_judge_52 : decode cX8_judge 52 = .ok (.iaload, 1) := by decide +kernel
theorem dX8_judge_53 : decode cX8_judge 53 = .ok (.if_icmp .eq 5, 3) := by decide +kernel
theorem dX8_judge_56 : decode cX8_judge 56 = .ok (.iload_n 3, 1) := by decide +kernel
theorem dX8_judge_57 : decode cX8_judge 57 = .ok (.ireturn, 1) := by decide +kernel
theorem dX8_judge_58 : decode cX8_judge 58 = .ok (.iload_n 1, 1) := by decide +kernel
theorem dX8_judge_59 : decode cX8_judge 59 = .ok (.aload_n 0, 1) := by decide +kernel
theorem dX8_judge_60 : decode cX8_judge 60 = .ok (.getfield 69, 3) := by decide +kernel
theorem dX8_judge_63 : decode cX8_judge 63 = .ok (.iload_n 3, 1) := by decide +kernel
theorem dX8_judge_64 : decode cX8_judge 64 = .ok (.iaload, 1) := by decide +kernel
theorem dX8_judge_65 : decode cX8_judge 65 = .ok (.iadd, 1) := by decide +kernel
theorem dX8_judge_66 : decode cX8_judge 66 = .ok (.istore_n 1, 1) := by decide +kernel
theorem dX8_judge_67 : decode cX8_judge 67 = .ok (.iinc 2 1, 3) := by decide +kernel
theorem dX8_judge_70 : decode cX8_judge 70 = .ok (.goto (-62), 3) := by decide +kernel
theorem dX8_judge_73 : decode cX8_judge 73 = .ok (.bipush (-4), 2) := by decide +kernel
theorem dX8_judge_75 : decode cX8_judge 75 = .ok (.ireturn, 1) := by decide +kernel
theorem dX8_made_0 : decode cX8_made 0 = .ok (.iload_n 1, 1) := by decide +kernel
theorem dX8_made_1 : decode cX8_made 1 = .ok (.iconst 0, 1) := by decide +kernel
theorem dX8_made_2 : decode cX8_made 2 = .ok (.iconst 1, 1) := by decide +kernel
theorem dX8_made_3 : decode cX8_made 3 = .ok (.invokestatic 102, 3) := by decide +kernel
theorem dX8_made_6 : decode cX8_made 6 = .ok (.ifCond .ne 5, 3) := by decide +kernel
theorem dX8_made_9 : decode cX8_made 9 = .ok (.iconst (-1), 1) := by decide +kernel
theorem dX8_made_10 : decode cX8_made 10 = .ok (.ireturn, 1) := by decide +kernel
theorem dX8_made_11 : decode cX8_made 11 = .ok (.iconst 0, 1) := by decide +kernel
theorem dX8_made_12 : decode cX8_made 12 = .ok (.istore_n 2, 1) := by decide +kernel
theorem dX8_made_13 : decode cX8_made 13 = .ok (.iconst 0, 1) := by decide +kernel
theorem dX8_made_14 : decode cX8_made 14 = .ok (.istore_n 3, 1) := by decide +kernel
theorem dX8_made_15 : decode cX8_made 15 = .ok (.iconst 0, 1) := by decide +kernel
theorem dX8_made_16 : decode cX8_made 16 = .ok (.istore 4, 2) := by decide +kernel
theorem dX8_made_18 : decode cX8_made 18 = .ok (.iload 4, 2) := by decide +kernel
theorem dX8_made_20 : decode cX8_made 20 = .ok (.aload_n 0, 1) := by decide +kernel
theorem dX8_made_21 : decode cX8_made 21 = .ok (.getfield 36, 3) := by decide +kernel
theorem dX8_made_24 : decode cX8_made 24 = .ok (.getfield 197, 3) := by decide +kernel
theorem dX8_made_27 : decode cX8_made 27 = .ok (.if_icmp .ge 39, 3) := by decide +kernel
theorem dX8_made_30 : decode cX8_made 30 = .ok (.aload_n 0, 1) := by decide +kernel
theorem dX8_made_31 : decode cX8_made 31 = .ok (.getfield 69, 3) := by decide +kernel
theorem dX8_made_34 : decode cX8_made 34 = .ok (.aload_n 0, 1) := by decide +kernel
theorem dX8_made_35 : decode cX8_made 35 = .ok (.getfield 36, 3) := by decide +kernel
theorem dX8_made_38 : decode cX8_made 38 = .ok (.getfield 200, 3) := by decide +kernel
theorem dX8_made_41 : decode cX8_made 41 = .ok (.iload 4, 2) := by decide +kernel
theorem dX8_made_43 : decode cX8_made 43 = .ok (.iaload, 1) := by decide +kernel
theorem dX8_made_44 : decode cX8_made 44 = .ok (.iaload, 1) := by decide +kernel
theorem dX8_made_45 : decode cX8_made 45 = .ok (.istore 5, 2) := by decide +kernel
theorem dX8_made_47 : decode cX8_made 47 = .ok (.iload_n 2, 1) := by decide +kernel
theorem dX8_made_48 : decode cX8_made 48 = .ok (.iload 5, 2) := by decide +kernel
theorem dX8_made_50 : decode cX8_made 50 = .ok (.iadd, 1) := by decide +kernel
theorem dX8_made_51 : decode cX8_made 51 = .ok (.istore_n 2, 1) := by decide +kernel
theorem dX8_made_52 : decode cX8_made 52 = .ok (.iload 5, 2) := by decide +kernel
theorem dX8_made_54 : decode cX8_made 54 = .ok (.ifCond .le 6, 3) := by decide +kernel
theorem dX8_made_57 : decode cX8_made 57 = .ok (.iinc 3 1, 3) := by decide +kernel
theorem dX8_made_60 : decode cX8_made 60 = .ok (.iinc 4 1, 3) := by decide +kernel
theorem dX8_made_63 : decode cX8_made 63 = .ok (.goto (-45), 3) := by decide +kernel
theorem dX8_made_66 : decode cX8_made 66 = .ok (.iload_n 1, 1) := by decide +kernel
theorem dX8_made_67 : decode cX8_made 67 = .ok (.ifCond .ne 5, 3) := by decide +kernel
theorem dX8_made_70 : decode cX8_made 70 = .ok (.iload_n 2, 1) := by decide +kernel
theorem dX8_made_71 : decode cX8_made 71 = .ok (.ireturn, 1) := by decide +kernel
theorem dX8_made_72 : decode cX8_made 72 = .ok (.iload_n 2, 1) := by decide +kernel
theorem dX8_made_73 : decode cX8_made 73 = .ok (.aload_n 0, 1) := by decide +kernel
theorem dX8_made_74 : decode cX8_made 74 = .ok (.getfield 26, 3) := by decide +kernel
theorem dX8_made_77 : decode cX8_made 77 = .ok (.getfield 210, 3) := by decide +kernel
theorem dX8_made_80 : decode cX8_made 80 = .ok (.if_icmp .lt 18, 3) := by decide +kernel
theorem dX8_made_83 : decode cX8_made 83 = .ok (.iload_n 3, 1) := by decide +kernel
theorem dX8_made_84 : decode cX8_made 84 = .ok (.aload_n 0, 1) := by decide +kernel
theorem dX8_made_85 : decode cX8_made 85 = .ok (.getfield 26, 3) := by decide +kernel
theorem dX8_made_88 : decode cX8_made 88 = .ok (.getfield 213, 3) := by decide +kernel
theorem dX8_made_91 : decode cX8_made 91 = .ok (.if_icmp .lt 7, 3) := by decide +kernel
theorem dX8_made_94 : decode cX8_made 94 = .ok (.iconst 1, 1) := by decide +kernel
theorem dX8_made_95 : decode cX8_made 95 = .ok (.goto 4, 3) := by decide +kernel
theorem dX8_made_98 : decode cX8_made 98 = .ok (.iconst 0, 1) := by decide +kernel
theorem dX8_made_99 : decode cX8_made 99 = .ok (.ireturn, 1) := by decide +kernel
theorem dX8_just_0 : decode cX8_just 0 = .ok (.iload_n 1, 1) := by decide +kernel
theorem dX8_just_1 : decode cX8_just 1 = .ok (.iconst (-1), 1) := by decide +kernel
theorem dX8_just_2 : decode cX8_just 2 = .ok (.if_icmp .eq 28, 3) := by decide +kernel
theorem dX8_just_5 : decode cX8_just 5 = .ok (.aload_n 0, 1) := by decide +kernel
theorem dX8_just_6 : decode cX8_just 6 = .ok (.iload_n 1, 1) := by decide +kernel
theorem dX8_just_7 : decode cX8_just 7 = .ok (.invokevirtual 140, 3) := by decide +kernel
theorem dX8_just_10 : decode cX8_just 10 = .ok (.ifCond .eq 16, 3) := by decide +kernel
theorem dX8_just_13 : decode cX8_just 13 = .ok (.aload_n 0, 1) := by decide +kernel
theorem dX8_just_14 : decode cX8_just 14 = .ok (.getfield 36, 3) := by decide +kernel
theorem dX8_just_17 : decode cX8_just 17 = .ok (.iload_n 1, 1) := by decide +kernel
theorem dX8_just_18 : decode cX8_just 18 = .ok (.invokevirtual 144, 3) := by decide +kernel
theorem dX8_just_21 : decode cX8_just 21 = .ok (.bipush (-4), 2) := by decide +kernel
theorem dX8_just_23 : decode cX8_just 23 = .ok (.if_icmp .ne 7, 3) := by decide +kernel
theorem dX8_just_26 : decode cX8_just 26 = .ok (.ldc2_w 157, 3) := by decide +kernel
theorem dX8_just_29 : decode cX8_just 29 = .ok (.lreturn, 1) := by decide +kernel
theorem dX8_just_30 : decode cX8_just 30 = .ok (.aload_n 0, 1) := by decide +kernel
theorem dX8_just_31 : decode cX8_just 31 = .ok (.getfield 63, 3) := by decide +kernel
theorem dX8_just_34 : decode cX8_just 34 = .ok (.aload_n 0, 1) := by decide +kernel
theorem dX8_just_35 : decode cX8_just 35 = .ok (.getfield 26, 3) := by decide +kernel
theorem dX8_just_38 : decode cX8_just 38 = .ok (.aload_n 0, 1) := by decide +kernel
theorem dX8_just_39 : decode cX8_just 39 = .ok (.getfield 36, 3) := by decide +kernel
theorem dX8_just_42 : decode cX8_just 42 = .ok (.invokevirtual 216, 3) := by decide +kernel
theorem dX8_just_45 : decode cX8_just 45 = .ok (.aload_n 0, 1) := by decide +kernel
theorem dX8_just_46 : decode cX8_just 46 = .ok (.getfield 63, 3) := by decide +kernel
theorem dX8_just_49 : decode cX8_just 49 = .ok (.invokevirtual 220, 3) := by decide +kernel
theorem dX8_just_52 : decode cX8_just 52 = .ok (.lstore_n 2, 1) := by decide +kernel
theorem dX8_just_53 : decode cX8_just 53 = .ok (.iload_n 1, 1) := by decide +kernel
theorem dX8_just_54 : decode cX8_just 54 = .ok (.iconst (-1), 1) := by decide +kernel
theorem dX8_just_55 : decode cX8_just 55 = .ok (.if_icmp .ne 5, 3) := by decide +kernel
theorem dX8_just_58 : decode cX8_just 58 = .ok (.lload_n 2, 1) := by decide +kernel
theorem dX8_just_59 : decode cX8_just 59 = .ok (.lreturn, 1) := by decide +kernel
theorem dX8_just_60 : decode cX8_just 60 = .ok (.lload_n 2, 1) := by decide +kernel
theorem dX8_just_61 : decode cX8_just 61 = .ok (.lconst 0, 1) := by decide +kernel
theorem dX8_just_62 : decode cX8_just 62 = .ok (.lcmp, 1) := by decide +kernel
theorem dX8_just_63 : decode cX8_just 63 = .ok (.ifCond .ne 9, 3) := by decide +kernel
theorem dX8_just_66 : decode cX8_just 66 = .ok (.ldc2_w 179, 3) := by decide +kernel
theorem dX8_just_69 : decode cX8_just 69 = .ok (.goto 12, 3) := by decide +kernel
theorem dX8_just_72 : decode cX8_just 72 = .ok (.aload_n 0, 1) := by decide +kernel
theorem dX8_just_73 : decode cX8_just 73 = .ok (.getfield 63, 3) := by decide +kernel
theorem dX8_just_76 : decode cX8_just 76 = .ok (.iload_n 1, 1) := by decide +kernel
theorem dX8_just_77 : decode cX8_just 77 = .ok (.invokevirtual 223, 3) := by decide +kernel
theorem dX8_just_80 : decode cX8_just 80 = .ok (.i2l, 1) := by decide +kernel
theorem dX8_just_81 : decode cX8_just 81 = .ok (.lreturn, 1) := by decide +kernel
theorem dX8_fails_0 : decode cX8_fails 0 = .ok (.aload_n 0, 1) := by decide +kernel
theorem dX8_fails_1 : decode cX8_fails 1 = .ok (.getfield 130, 3) := by decide +kernel
theorem dX8_fails_4 : decode cX8_fails 4 = .ok (.ifCond .ne 34, 3) := by decide +kernel
theorem dX8_fails_7 : decode cX8_fails 7 = .ok (.aload_n 0, 1) := by decide +kernel
theorem dX8_fails_8 : decode cX8_fails 8 = .ok (.getfield 63, 3) := by decide +kernel
theorem dX8_fails_11 : decode cX8_fails 11 = .ok (.aload_n 0, 1) := by decide +kernel
theorem dX8_fails_12 : decode cX8_fails 12 = .ok (.getfield 26, 3) := by decide +kernel
theorem dX8_fails_15 : decode cX8_fails 15 = .ok (.aload_n 0, 1) := by decide +kernel
theorem dX8_fails_16 : decode cX8_fails 16 = .ok (.getfield 36, 3) := by decide +kernel
theorem dX8_fails_19 : decode cX8_fails 19 = .ok (.invokevirtual 216, 3) := by decide +kernel
theorem dX8_fails_22 : decode cX8_fails 22 = .ok (.aload_n 0, 1) := by decide +kernel
theorem dX8_fails_23 : decode cX8_fails 23 = .ok (.aload_n 0, 1) := by decide +kernel
theorem dX8_fails_24 : decode cX8_fails 24 = .ok (.getfield 63, 3) := by decide +kernel
theorem dX8_fails_27 : decode cX8_fails 27 = .ok (.invokevirtual 226, 3) := by decide +kernel
theorem dX8_fails_30 : decode cX8_fails 30 = .ok (.putfield 229, 3) := by decide +kernel
theorem dX8_fails_33 : decode cX8_fails 33 = .ok (.aload_n 0, 1) := by decide +kernel
theorem dX8_fails_34 : decode cX8_fails 34 = .ok (.iconst 1, 1) := by decide +kernel
theorem dX8_fails_35 : decode cX8_fails 35 = .ok (.putfield 130, 3) := by decide +kernel
theorem dX8_fails_38 : decode cX8_fails 38 = .ok (.aload_n 0, 1) := by decide +kernel
theorem dX8_fails_39 : decode cX8_fails 39 = .ok (.getfield 229, 3) := by decide +kernel
theorem dX8_fails_42 : decode cX8_fails 42 = .ok (.lreturn, 1) := by decide +kernel
theorem dX8_bestBar_0 : decode cX8_bestBar 0 = .ok (.iload_n 1, 1) := by decide +kernel
theorem dX8_bestBar_1 : decode cX8_bestBar 1 = .ok (.iconst 0, 1) := by decide +kernel
theorem dX8_bestBar_2 : decode cX8_bestBar 2 = .ok (.iconst 1, 1) := by decide +kernel
theorem dX8_bestBar_3 : decode cX8_bestBar 3 = .ok (.invokestatic 102, 3) := by decide +kernel
theorem dX8_bestBar_6 : decode cX8_bestBar 6 = .ok (.ifCond .ne 7, 3) := by decide +kernel
theorem dX8_bestBar_9 : decode cX8_bestBar 9 = .ok (.ldc2_w 157, 3) := by decide +kernel
theorem dX8_bestBar_12 : decode cX8_bestBar 12 = .ok (.lreturn, 1) := by decide +kernel
theorem dX8_bestBar_13 : decode cX8_bestBar 13 = .ok (.aload_n 0, 1) := by decide +kernel
theorem dX8_bestBar_14 : decode cX8_bestBar 14 = .ok (.getfield 232, 3) := by decide +kernel
theorem dX8_bestBar_17 : decode cX8_bestBar 17 = .ok (.ifCond .ne 12, 3) := by decide +kernel
theorem dX8_bestBar_20 : decode cX8_bestBar 20 = .ok (.aload_n 0, 1) := by decide +kernel
theorem dX8_bestBar_21 : decode cX8_bestBar 21 = .ok (.invokevirtual 235, 3) := by decide +kernel
theorem dX8_bestBar_24 : decode cX8_bestBar 24 = .ok (.aload_n 0, 1) := by decide +kernel
theorem dX8_bestBar_25 : decode cX8_bestBar 25 = .ok (.iconst 1, 1) := by decide +kernel
theorem dX8_bestBar_26 : decode cX8_bestBar 26 = .ok (.putfield 232, 3) := by decide +kernel
theorem dX8_bestBar_29 : decode cX8_bestBar 29 = .ok (.iload_n 1, 1) := by decide +kernel
theorem dX8_bestBar_30 : decode cX8_bestBar 30 = .ok (.ifCond .ne 11, 3) := by decide +kernel
theorem dX8_bestBar_33 : decode cX8_bestBar 33 = .ok (.aload_n 0, 1) := by decide +kernel
theorem dX8_bestBar_34 : decode cX8_bestBar 34 = .ok (.getfield 238, 3) := by decide +kernel
theorem dX8_bestBar_37 : decode cX8_bestBar 37 = .ok (.i2l, 1) := by decide +kernel
theorem dX8_bestBar_38 : decode cX8_bestBar 38 = .ok (.goto 7, 3) := by decide +kernel
theorem dX8_bestBar_41 : decode cX8_bestBar 41 = .ok (.aload_n 0, 1) := by decide +kernel
theorem dX8_bestBar_42 : decode cX8_bestBar 42 = .ok (.getfield 241, 3) := by decide +kernel
theorem dX8_bestBar_45 : decode cX8_bestBar 45 = .ok (.lreturn, 1) := by decide +kernel
theorem dX8_bestDay_0 : decode cX8_bestDay 0 = .ok (.iconst 0, 1) := by decide +kernel
theorem dX8_bestDay_1 : decode cX8_bestDay 1 = .ok (.istore_n 1, 1) := by decide +kernel
theorem dX8_bestDay_2 : decode cX8_bestDay 2 = .ok (.ldc2_w 157, 3) := by decide +kernel
theorem dX8_bestDay_5 : decode cX8_bestDay 5 = .ok (.lstore_n 2, 1) := by decide +kernel
theorem dX8_bestDay_6 : decode cX8_bestDay 6 = .ok (.iconst 0, 1) := by decide +kernel
theorem dX8_bestDay_7 : decode cX8_bestDay 7 = .ok (.istore 4, 2) := by decide +kernel
theorem dX8_bestDay_9 : decode cX8_bestDay 9 = .ok (.iload 4, 2) := by decide +kernel
theorem dX8_bestDay_11 : decode cX8_bestDay 11 = .ok (.bipush 30, 2) := by decide +kernel
theorem dX8_bestDay_13 : decode cX8_bestDay 13 = .ok (.if_icmp .gt 98, 3) := by decide +kernel
theorem dX8_bestDay_16 : decode cX8_bestDay 16 = .ok (.aload_n 0, 1) := by decide +kernel
theorem dX8_bestDay_17 : decode cX8_bestDay 17 = .ok (.getfield 40, 3) := by decide +kernel
theorem dX8_bestDay_20 : decode cX8_bestDay 20 = .ok (.aload_n 0, 1) := by decide +kernel
theorem dX8_bestDay_21 : decode cX8_bestDay 21 = .ok (.getfield 26, 3) := by decide +kernel
theorem dX8_bestDay_24 : decode cX8_bestDay 24 = .ok (.iload 4, 2) := by decide +kernel
theorem dX8_bestDay_26 : decode cX8_bestDay 26 = .ok (.invokevirtual 98, 3) := by decide +kernel
theorem dX8_bestDay_29 : decode cX8_bestDay 29 = .ok (.istore 5, 2) := by decide +kernel
theorem dX8_bestDay_31 : decode cX8_bestDay 31 = .ok (.iload 4, 2) := by decide +kernel
theorem dX8_bestDay_33 : decode cX8_bestDay 33 = .ok (.ifCond .le 11, 3) := by decide +kernel
theorem dX8_bestDay_36 : decode cX8_bestDay 36 = .ok (.iload 5, 2) := by decide +kernel
theorem dX8_bestDay_38 : decode cX8_bestDay 38 = .ok (.ifCond .ne 6, 3) := by decide +kernel
theorem dX8_bestDay_41 : decode cX8_bestDay 41 = .ok (.goto 64, 3) := by decide +kernel
theorem dX8_bestDay_44 : decode cX8_bestDay 44 = .ok (.aload_n 0, 1) := by decide +kernel
theorem dX8_bestDay_45 : decode cX8_bestDay 45 = .ok (.getfield 46, 3) := by decide +kernel
theorem dX8_bestDay_48 : decode cX8_bestDay 48 = .ok (.aload_n 0, 1) := by decide +kernel
theorem dX8_bestDay_49 : decode cX8_bestDay 49 = .ok (.getfield 26, 3) := by decide +kernel
theorem dX8_bestDay_52 : decode cX8_bestDay 52 = .ok (.aload_n 0, 1) := by decide +kernel
theorem dX8_bestDay_53 : decode cX8_bestDay 53 = .ok (.getfield 40, 3) := by decide +kernel
theorem dX8_bestDay_56 : decode cX8_bestDay 56 = .ok (.aload_n 0, 1) := by decide +kernel
theorem dX8_bestDay_57 : decode cX8_bestDay 57 = .ok (.getfield 124, 3) := by decide +kernel
theorem dX8_bestDay_60 : decode cX8_bestDay 60 = .ok (.invokevirtual 244, 3) := by decide +kernel
theorem dX8_bestDay_63 : decode cX8_bestDay 63 = .ok (.aload_n 0, 1) := by decide +kernel
theorem dX8_bestDay_64 : decode cX8_bestDay 64 = .ok (.getfield 57, 3) := by decide +kernel
theorem dX8_bestDay_67 : decode cX8_bestDay 67 = .ok (.aload_n 0, 1) := by decide +kernel
theorem dX8_bestDay_68 : decode cX8_bestDay 68 = .ok (.getfield 46, 3) := by decide +kernel
theorem dX8_bestDay_71 : decode cX8_bestDay 71 = .ok (.iconst 0, 1) := by decide +kernel
theorem dX8_bestDay_72 : decode cX8_bestDay 72 = .ok (.invokevirtual 248, 3) := by decide +kernel
theorem dX8_bestDay_75 : decode cX8_bestDay 75 = .ok (.aload_n 0, 1) := by decide +kernel
theorem dX8_bestDay_76 : decode cX8_bestDay 76 = .ok (.getfield 57, 3) := by decide +kernel
theorem dX8_bestDay_79 : decode cX8_bestDay 79 = .ok (.getfield 163, 3) := by decide +kernel
theorem dX8_bestDay_82 : decode cX8_bestDay 82 = .ok (.aload_n 0, 1) := by decide +kernel
theorem dX8_bestDay_83 : decode cX8_bestDay 83 = .ok (.getfield 40, 3) := by decide +kernel
theorem dX8_bestDay_86 : decode cX8_bestDay 86 = .ok (.invokevirtual 252, 3) := by decide +kernel
theorem dX8_bestDay_89 : decode cX8_bestDay 89 = .ok (.lmul, 1) := by decide +kernel
theorem dX8_bestDay_90 : decode cX8_bestDay 90 = .ok (.lstore 6, 2) := by decide +kernel
theorem dX8_bestDay_92 : decode cX8_bestDay 92 = .ok (.lload 6, 2) := by decide +kernel
theorem dX8_bestDay_94 : decode cX8_bestDay 94 = .ok (.lload_n 2, 1) := by decide +kernel
theorem dX8_bestDay_95 : decode cX8_bestDay 95 = .ok (.lcmp, 1) := by decide +kernel
theorem dX8_bestDay_96 : decode cX8_bestDay 96 = .ok (.ifCond .le 9, 3) := by decide +kernel
theorem dX8_bestDay_99 : decode cX8_bestDay 99 = .ok (.lload 6, 2) := by decide +kernel
theorem dX8_bestDay_101 : decode cX8_bestDay 101 = .ok (.lstore_n 2, 1) := by decide +kernel
theorem dX8_bestDay_102 : decode cX8_bestDay 102 = .ok (.iload 4, 2) := by decide +kernel
theorem dX8_bestDay_104 : decode cX8_bestDay 104 = .ok (.istore_n 1, 1) := by decide +kernel
theorem dX8_bestDay_105 : decode cX8_bestDay 105 = .ok (.iinc 4 1, 3) := by decide +kernel
theorem dX8_bestDay_108 : decode cX8_bestDay 108 = .ok (.goto (-99), 3) := by decide +kernel
theorem dX8_bestDay_111 : decode cX8_bestDay 111 = .ok (.iload_n 1, 1) := by decide +kernel
theorem dX8_bestDay_112 : decode cX8_bestDay 112 = .ok (.ireturn, 1) := by decide +kernel
theorem dX8_extra_0 : decode cX8_extra 0 = .ok (.iload_n 1, 1) := by decide +kernel
theorem dX8_extra_1 : decode cX8_extra 1 = .ok (.iconst 0, 1) := by decide +kernel
theorem dX8_extra_2 : decode cX8_extra 2 = .ok (.bipush 10, 2) := by decide +kernel
theorem dX8_extra_4 : decode cX8_extra 4 = .ok (.invokestatic 102, 3) := by decide +kernel
theorem dX8_extra_7 : decode cX8_extra 7 = .ok (.ifCond .ne 5, 3) := by decide +kernel
theorem dX8_extra_10 : decode cX8_extra 10 = .ok (.iconst (-1), 1) := by decide +kernel
theorem dX8_extra_11 : decode cX8_extra 11 = .ok (.ireturn, 1) := by decide +kernel
theorem dX8_extra_12 : decode cX8_extra 12 = .ok (.iconst 0, 1) := by decide +kernel
theorem dX8_extra_13 : decode cX8_extra 13 = .ok (.istore_n 2, 1) := by decide +kernel
theorem dX8_extra_14 : decode cX8_extra 14 = .ok (.iload_n 2, 1) := by decide +kernel
theorem dX8_extra_15 : decode cX8_extra 15 = .ok (.bipush 9, 2) := by decide +kernel
theorem dX8_extra_17 : decode cX8_extra 17 = .ok (.if_icmp .gt 60, 3) := by decide +kernel
theorem dX8_extra_20 : decode cX8_extra 20 = .ok (.aload_n 0, 1) := by decide +kernel
theorem dX8_extra_21 : decode cX8_extra 21 = .ok (.invokevirtual 194, 3) := by decide +kernel
theorem dX8_extra_24 : decode cX8_extra 24 = .ok (.aload_n 0, 1) := by decide +kernel
theorem dX8_extra_25 : decode cX8_extra 25 = .ok (.getfield 46, 3) := by decide +kernel
theorem dX8_extra_28 : decode cX8_extra 28 = .ok (.iload_n 2, 1) := by decide +kernel
theorem dX8_extra_29 : decode cX8_extra 29 = .ok (.putfield 255, 3) := by decide +kernel
theorem dX8_extra_32 : decode cX8_extra 32 = .ok (.aload_n 0, 1) := by decide +kernel
theorem dX8_extra_33 : decode cX8_extra 33 = .ok (.getfield 57, 3) := by decide +kernel
theorem dX8_extra_36 : decode cX8_extra 36 = .ok (.aload_n 0, 1) := by decide +kernel
theorem dX8_extra_37 : decode cX8_extra 37 = .ok (.getfield 46, 3) := by decide +kernel
theorem dX8_extra_40 : decode cX8_extra 40 = .ok (.iconst 0, 1) := by decide +kernel
theorem dX8_extra_41 : decode cX8_extra 41 = .ok (.invokevirtual 248, 3) := by decide +kernel
theorem dX8_extra_44 : decode cX8_extra 44 = .ok (.aload_n 0, 1) := by decide +kernel
theorem dX8_extra_45 : decode cX8_extra 45 = .ok (.getfield 57, 3) := by decide +kernel
theorem dX8_extra_48 : decode cX8_extra 48 = .ok (.getfield 163, 3) := by decide +kernel
theorem dX8_extra_51 : decode cX8_extra 51 = .ok (.ldc2_w 258, 3) := by decide +kernel
theorem dX8_extra_54 : decode cX8_extra 54 = .ok (.lmul, 1) := by decide +kernel
theorem dX8_extra_55 : decode cX8_extra 55 = .ok (.iload_n 1, 1) := by decide +kernel
theorem dX8_extra_56 : decode cX8_extra 56 = .ok (.i2l, 1) := by decide +kernel
theorem dX8_extra_57 : decode cX8_extra 57 = .ok (.aload_n 0, 1) := by decide +kernel
theorem dX8_extra_58 : decode cX8_extra 58 = .ok (.getfield 36, 3) := by decide +kernel
theorem dX8_extra_61 : decode cX8_extra 61 = .ok (.invokevirtual 167, 3) := by decide +kernel
theorem dX8_extra_64 : decode cX8_extra 64 = .ok (.lmul, 1) := by decide +kernel
theorem dX8_extra_65 : decode cX8_extra 65 = .ok (.lcmp, 1) := by decide +kernel
theorem dX8_extra_66 : decode cX8_extra 66 = .ok (.ifCond .lt 5, 3) := by decide +kernel
theorem dX8_extra_69 : decode cX8_extra 69 = .ok (.iload_n 2, 1) := by decide +kernel
theorem dX8_extra_70 : decode cX8_extra 70 = .ok (.ireturn, 1) := by decide +kernel
theorem dX8_extra_71 : decode cX8_extra 71 = .ok (.iinc 2 1, 3) := by decide +kernel
theorem dX8_extra_74 : decode cX8_extra 74 = .ok (.goto (-60), 3) := by decide +kernel
theorem dX8_extra_77 : decode cX8_extra 77 = .ok (.bipush (-4), 2) := by decide +kernel
theorem dX8_extra_79 : decode cX8_extra 79 = .ok (.ireturn, 1) := by decide +kernel
theorem dX8_bestShow_0 : decode cX8_bestShow 0 = .ok (.iconst 0, 1) := by decide +kernel
theorem dX8_bestShow_1 : decode cX8_bestShow 1 = .ok (.istore_n 1, 1) := by decide +kernel
theorem dX8_bestShow_2 : decode cX8_bestShow 2 = .ok (.ldc2_w 157, 3) := by decide +kernel
theorem dX8_bestShow_5 : decode cX8_bestShow 5 = .ok (.lstore_n 2, 1) := by decide +kernel
theorem dX8_bestShow_6 : decode cX8_bestShow 6 = .ok (.iconst 0, 1) := by decide +kernel
theorem dX8_bestShow_7 : decode cX8_bestShow 7 = .ok (.istore 4, 2) := by decide +kernel
theorem dX8_bestShow_9 : decode cX8_bestShow 9 = .ok (.iload 4, 2) := by decide +kernel
theorem dX8_bestShow_11 : decode cX8_bestShow 11 = .ok (.iconst 2, 1) := by decide +kernel
theorem dX8_bestShow_12 : decode cX8_bestShow 12 = .ok (.if_icmp .gt 61, 3) := by decide +kernel
theorem dX8_bestShow_15 : decode cX8_bestShow 15 = .ok (.aload_n 0, 1) := by decide +kernel
theorem dX8_bestShow_16 : decode cX8_bestShow 16 = .ok (.getfield 46, 3) := by decide +kernel
theorem dX8_bestShow_19 : decode cX8_bestShow 19 = .ok (.aload_n 0, 1) := by decide +kernel
theorem dX8_bestShow_20 : decode cX8_bestShow 20 = .ok (.getfield 26, 3) := by decide +kernel
theorem dX8_bestShow_23 : decode cX8_bestShow 23 = .ok (.aload_n 0, 1) := by decide +kernel
theorem dX8_bestShow_24 : decode cX8_bestShow 24 = .ok (.getfield 36, 3) := by decide +kernel
theorem dX8_bestShow_27 : decode cX8_bestShow 27 = .ok (.iload 4, 2) := by decide +kernel
theorem dX8_bestShow_29 : decode cX8_bestShow 29 = .ok (.invokevirtual 244, 3) := by decide +kernel
theorem dX8_bestShow_32 : decode cX8_bestShow 32 = .ok (.aload_n 0, 1) := by decide +kernel
theorem dX8_bestShow_33 : decode cX8_bestShow 33 = .ok (.getfield 57, 3) := by decide +kernel
theorem dX8_bestShow_36 : decode cX8_bestShow 36 = .ok (.aload_n 0, 1) := by decide +kernel
theorem dX8_bestShow_37 : decode cX8_bestShow 37 = .ok (.getfield 46, 3) := by decide +kernel
theorem dX8_bestShow_40 : decode cX8_bestShow 40 = .ok (.iconst 0, 1) := by decide +kernel
theorem dX8_bestShow_41 : decode cX8_bestShow 41 = .ok (.invokevirtual 248, 3) := by decide +kernel
theorem dX8_bestShow_44 : decode cX8_bestShow 44 = .ok (.aload_n 0, 1) := by decide +kernel
theorem dX8_bestShow_45 : decode cX8_bestShow 45 = .ok (.getfield 57, 3) := by decide +kernel
theorem dX8_bestShow_48 : decode cX8_bestShow 48 = .ok (.getfield 163, 3) := by decide +kernel
theorem dX8_bestShow_51 : decode cX8_bestShow 51 = .ok (.lload_n 2, 1) := by decide +kernel
theorem dX8_bestShow_52 : decode cX8_bestShow 52 = .ok (.lcmp, 1) := by decide +kernel
theorem dX8_bestShow_53 : decode cX8_bestShow 53 = .ok (.ifCond .le 14, 3) := by decide +kernel
theorem dX8_bestShow_56 : decode cX8_bestShow 56 = .ok (.aload_n 0, 1) := by decide +kernel
theorem dX8_bestShow_57 : decode cX8_bestShow 57 = .ok (.getfield 57, 3) := by decide +kernel
theorem dX8_bestShow_60 : decode cX8_bestShow 60 = .ok (.getfield 163, 3) := by decide +kernel
theorem dX8_bestShow_63 : decode cX8_bestShow 63 = .ok (.lstore_n 2, 1) := by decide +kernel
theorem dX8_bestShow_64 : decode cX8_bestShow 64 = .ok (.iload 4, 2) := by decide +kernel
theorem dX8_bestShow_66 : decode cX8_bestShow 66 = .ok (.istore_n 1, 1) := by decide +kernel
theorem dX8_bestShow_67 : decode cX8_bestShow 67 = .ok (.iinc 4 1, 3) := by decide +kernel
theorem dX8_bestShow_70 : decode cX8_bestShow 70 = .ok (.goto (-61), 3) := by decide +kernel
theorem dX8_bestShow_73 : decode cX8_bestShow 73 = .ok (.iload_n 1, 1) := by decide +kernel
theorem dX8_bestShow_74 : decode cX8_bestShow 74 = .ok (.ireturn, 1) := by decide +kernel
theorem dX8_rich_0 : decode cX8_rich 0 = .ok (.iload_n 1, 1) := by decide +kernel
theorem dX8_rich_1 : decode cX8_rich 1 = .ok (.iconst 0, 1) := by decide +kernel
theorem dX8_rich_2 : decode cX8_rich 2 = .ok (.bipush 99, 2) := by decide +kernel
theorem dX8_rich_4 : decode cX8_rich 4 = .ok (.invokestatic 102, 3) := by decide +kernel
theorem dX8_rich_7 : decode cX8_rich 7 = .ok (.ifCond .eq 18, 3) := by decide +kernel
theorem dX8_rich_10 : decode cX8_rich 10 = .ok (.iload_n 2, 1) := by decide +kernel
theorem dX8_rich_11 : decode cX8_rich 11 = .ok (.iconst 0, 1) := by decide +kernel
theorem dX8_rich_12 : decode cX8_rich 12 = .ok (.aload_n 0, 1) := by decide +kernel
theorem dX8_rich_13 : decode cX8_rich 13 = .ok (.getfield 26, 3) := by decide +kernel
theorem dX8_rich_16 : decode cX8_rich 16 = .ok (.getfield 94, 3) := by decide +kernel
theorem dX8_rich_19 : decode cX8_rich 19 = .ok (.invokestatic 102, 3) := by decide +kernel
theorem dX8_rich_22 : decode cX8_rich 22 = .ok (.ifCond .ne 7, 3) := by decide +kernel
theorem dX8_rich_25 : decode cX8_rich 25 = .ok (.ldc2_w 157, 3) := by decide +kernel
theorem dX8_rich_28 : decode cX8_rich 28 = .ok (.lreturn, 1) := by decide +kernel
theorem dX8_rich_29 : decode cX8_rich 29 = .ok (.aload_n 0, 1) := by decide +kernel
theorem dX8_rich_30 : decode cX8_rich 30 = .ok (.iload_n 1, 1) := by decide +kernel
theorem dX8_rich_31 : decode cX8_rich 31 = .ok (.aload_n 0, 1) := by decide +kernel
theorem dX8_rich_32 : decode cX8_rich 32 = .ok (.getfield 36, 3) := by decide +kernel
theorem dX8_rich_35 : decode cX8_rich 35 = .ok (.iload_n 2, 1) := by decide +kernel
theorem dX8_rich_36 : decode cX8_rich 36 = .ok (.invokevirtual 260, 3) := by decide +kernel
theorem dX8_rich_39 : decode cX8_rich 39 = .ok (.invokevirtual 263, 3) := by decide +kernel
theorem dX8_rich_42 : decode cX8_rich 42 = .ok (.lreturn, 1) := by decide +kernel
theorem dX8_richDay_0 : decode cX8_richDay 0 = .ok (.iload_n 1, 1) := by decide +kernel
theorem dX8_richDay_1 : decode cX8_richDay 1 = .ok (.iconst 0, 1) := by decide +kernel
theorem dX8_richDay_2 : decode cX8_richDay 2 = .ok (.bipush 99, 2) := by decide +kernel
theorem dX8_richDay_4 : decode cX8_richDay 4 = .ok (.invokestatic 102, 3) := by decide +kernel
theorem dX8_richDay_7 : decode cX8_richDay 7 = .ok (.ifCond .ne 5, 3) := by decide +kernel
theorem dX8_richDay_10 : decode cX8_richDay 10 = .ok (.iconst (-1), 1) := by decide +kernel
theorem dX8_richDay_11 : decode cX8_richDay 11 = .ok (.ireturn, 1) := by decide +kernel
theorem dX8_richDay_12 : decode cX8_richDay 12 = .ok (.iconst 0, 1) := by decide +kernel
theorem dX8_richDay_13 : decode cX8_richDay 13 = .ok (.istore_n 2, 1) := by decide +kernel
theorem dX8_richDay_14 : decode cX8_richDay 14 = .ok (.ldc2_w 157, 3) := by decide +kernel
theorem dX8_richDay_17 : decode cX8_richDay 17 = .ok (.lstore_n 3, 1) := by decide +kernel
theorem dX8_richDay_18 : decode cX8_richDay 18 = .ok (.iconst (-1), 1) := by decide +kernel
theorem dX8_richDay_19 : decode cX8_richDay 19 = .ok (.istore 5, 2) := by decide +kernel
theorem dX8_richDay_21 : decode cX8_richDay 21 = .ok (.iconst 0, 1) := by decide +kernel
theorem dX8_richDay_22 : decode cX8_richDay 22 = .ok (.istore 6, 2) := by decide +kernel
theorem dX8_richDay_24 : decode cX8_richDay 24 = .ok (.iload 6, 2) := by decide +kernel
theorem dX8_richDay_26 : decode cX8_richDay 26 = .ok (.aload_n 0, 1) := by decide +kernel
theorem dX8_richDay_27 : decode cX8_richDay 27 = .ok (.getfield 26, 3) := by decide +kernel
theorem dX8_richDay_30 : decode cX8_richDay 30 = .ok (.getfield 94, 3) := by decide +kernel
theorem dX8_richDay_33 : decode cX8_richDay 33 = .ok (.if_icmp .gt 56, 3) := by decide +kernel
theorem dX8_richDay_36 : decode cX8_richDay 36 = .ok (.aload_n 0, 1) := by decide +kernel
theorem dX8_richDay_37 : decode cX8_richDay 37 = .ok (.getfield 36, 3) := by decide +kernel
theorem dX8_richDay_40 : decode cX8_richDay 40 = .ok (.iload 6, 2) := by decide +kernel
theorem dX8_richDay_42 : decode cX8_richDay 42 = .ok (.invokevirtual 260, 3) := by decide +kernel
theorem dX8_richDay_45 : decode cX8_richDay 45 = .ok (.istore 7, 2) := by decide +kernel
theorem dX8_richDay_47 : decode cX8_richDay 47 = .ok (.iload 7, 2) := by decide +kernel
theorem dX8_richDay_49 : decode cX8_richDay 49 = .ok (.iload 5, 2) := by decide +kernel
theorem dX8_richDay_51 : decode cX8_richDay 51 = .ok (.if_icmp .ne 6, 3) := by decide +kernel
theorem dX8_richDay_54 : decode cX8_richDay 54 = .ok (.goto 29, 3) := by decide +kernel
theorem dX8_richDay_57 : decode cX8_richDay 57 = .ok (.iload 7, 2) := by decide +kernel
theorem dX8_richDay_59 : decode cX8_richDay 59 = .ok (.istore 5, 2) := by decide +kernel
theorem dX8_richDay_61 : decode cX8_richDay 61 = .ok (.aload_n 0, 1) := by decide +kernel
theorem dX8_richDay_62 : decode cX8_richDay 62 = .ok (.iload_n 1, 1) := by decide +kernel
theorem dX8_richDay_63 : decode cX8_richDay 63 = .ok (.iload 7, 2) := by decide +kernel
theorem dX8_richDay_65 : decode cX8_richDay 65 = .ok (.invokevirtual 263, 3) := by decide +kernel
theorem dX8_richDay_68 : decode cX8_richDay 68 = .ok (.lstore 8, 2) := by decide +kernel
theorem dX8_richDay_70 : decode cX8_richDay 70 = .ok (.lload 8, 2) := by decide +kernel
theorem dX8_richDay_72 : decode cX8_richDay 72 = .ok (.lload_n 3, 1) := by decide +kernel
theorem dX8_richDay_73 : decode cX8_richDay 73 = .ok (.lcmp, 1) := by decide +kernel
theorem dX8_richDay_74 : decode cX8_richDay 74 = .ok (.ifCond .le 9, 3) := by decide +kernel
theorem dX8_richDay_77 : decode cX8_richDay 77 = .ok (.lload 8, 2) := by decide +kernel
theorem dX8_richDay_79 : decode cX8_richDay 79 = .ok (.lstore_n 3, 1) := by decide +kernel
theorem dX8_richDay_80 : decode cX8_richDay 80 = .ok (.iload 6, 2) := by decide +kernel
theorem dX8_richDay_82 : decode cX8_richDay 82 = .ok (.istore_n 2, 1) := by decide +kernel
theorem dX8_richDay_83 : decode cX8_richDay 83 = .ok (.iinc 6 1, 3) := by decide +kernel
theorem dX8_richDay_86 : decode cX8_richDay 86 = .ok (.goto (-62), 3) := by decide +kernel
theorem dX8_richDay_89 : decode cX8_richDay 89 = .ok (.iload_n 2, 1) := by decide +kernel
theorem dX8_richDay_90 : decode cX8_richDay 90 = .ok (.ireturn, 1) := by decide +kernel
theorem dX8_two_0 : decode cX8_two 0 = .ok (.iload_n 1, 1) := by decide +kernel
theorem dX8_two_1 : decode cX8_two 1 = .ok (.iconst 0, 1) := by decide +kernel
theorem dX8_two_2 : decode cX8_two 2 = .ok (.iconst 2, 1) := by decide +kernel
theorem dX8_two_3 : decode cX8_two 3 = .ok (.invokestatic 102, 3) := by decide +kernel
theorem dX8_two_6 : decode cX8_two 6 = .ok (.ifCond .ne 7, 3) := by decide +kernel
theorem dX8_two_9 : decode cX8_two 9 = .ok (.ldc2_w 157, 3) := by decide +kernel
theorem dX8_two_12 : decode cX8_two 12 = .ok (.lreturn, 1) := by decide +kernel
theorem dX8_two_13 : decode cX8_two 13 = .ok (.aload_n 0, 1) := by decide +kernel
theorem dX8_two_14 : decode cX8_two 14 = .ok (.getfield 26, 3) := by decide +kernel
theorem dX8_two_17 : decode cX8_two 17 = .ok (.getfield 267, 3) := by decide +kernel
theorem dX8_two_20 : decode cX8_two 20 = .ok (.ifCond .ne 7, 3) := by decide +kernel
theorem dX8_two_23 : decode cX8_two 23 = .ok (.ldc2_w 270, 3) := by decide +kernel
theorem dX8_two_26 : decode cX8_two 26 = .ok (.lreturn, 1) := by decide +kernel
theorem dX8_two_27 : decode cX8_two 27 = .ok (.aload_n 0, 1) := by decide +kernel
theorem dX8_two_28 : decode cX8_two 28 = .ok (.invokevirtual 159, 3) := by decide +kernel
theorem dX8_two_31 : decode cX8_two 31 = .ok (.astore_n 2, 1) := by decide +kernel
theorem dX8_two_32 : decode cX8_two 32 = .ok (.iload_n 1, 1) := by decide +kernel
theorem dX8_two_33 : decode cX8_two 33 = .ok (.ifCond .ne 8, 3) := by decide +kernel
theorem dX8_two_36 : decode cX8_two 36 = .ok (.aload_n 2, 1) := by decide +kernel
theorem dX8_two_37 : decode cX8_two 37 = .ok (.getfield 163, 3) := by decide +kernel
theorem dX8_two_40 : decode cX8_two 40 = .ok (.lreturn, 1) := by decide +kernel
theorem dX8_two_41 : decode cX8_two 41 = .ok (.iload_n 1, 1) := by decide +kernel
theorem dX8_two_42 : decode cX8_two 42 = .ok (.iconst 1, 1) := by decide +kernel
theorem dX8_two_43 : decode cX8_two 43 = .ok (.if_icmp .ne 10, 3) := by decide +kernel
theorem dX8_two_46 : decode cX8_two 46 = .ok (.aload_n 2, 1) := by decide +kernel
theorem dX8_two_47 : decode cX8_two 47 = .ok (.getfield 272, 3) := by decide +kernel
theorem dX8_two_50 : decode cX8_two 50 = .ok (.goto 7, 3) := by decide +kernel
theorem dX8_two_53 : decode cX8_two 53 = .ok (.aload_n 2, 1) := by decide +kernel
theorem dX8_two_54 : decode cX8_two 54 = .ok (.getfield 275, 3) := by decide +kernel
theorem dX8_two_57 : decode cX8_two 57 = .ok (.lreturn, 1) := by decide +kernel
theorem dX8_evening_0 : decode cX8_evening 0 = .ok (.iload_n 1, 1) := by decide +kernel
theorem dX8_evening_1 : decode cX8_evening 1 = .ok (.iconst 0, 1) := by decide +kernel
theorem dX8_evening_2 : decode cX8_evening 2 = .ok (.sipush 9999, 3) := by decide +kernel
theorem dX8_evening_5 : decode cX8_evening 5 = .ok (.invokestatic 102, 3) := by decide +kernel
theorem dX8_evening_8 : decode cX8_evening 8 = .ok (.ifCond .eq 20, 3) := by decide +kernel
theorem dX8_evening_11 : decode cX8_evening 11 = .ok (.aload_n 0, 1) := by decide +kernel
theorem dX8_evening_12 : decode cX8_evening 12 = .ok (.iload_n 2, 1) := by decide +kernel
theorem dX8_evening_13 : decode cX8_evening 13 = .ok (.invokevirtual 140, 3) := by decide +kernel
theorem dX8_evening_16 : decode cX8_evening 16 = .ok (.ifCond .eq 12, 3) := by decide +kernel
theorem dX8_evening_19 : decode cX8_evening 19 = .ok (.iload_n 3, 1) := by decide +kernel
theorem dX8_evening_20 : decode cX8_evening 20 = .ok (.iconst 0, 1) := by decide +kernel
theorem dX8_evening_21 : decode cX8_evening 21 = .ok (.iconst 1, 1) := by decide +kernel
theorem dX8_evening_22 : decode cX8_evening 22 = .ok (.invokestatic 102, 3) := by decide +kernel
theorem dX8_evening_25 : decode cX8_evening 25 = .ok (.ifCond .ne 7, 3) := by decide +kernel
theorem dX8_evening_28 : decode cX8_evening 28 = .ok (.sipush (-1001), 3) := by decide +kernel
theorem dX8_evening_31 : decode cX8_evening 31 = .ok (.ireturn, 1) := by decide +kernel
theorem dX8_evening_32 : decode cX8_evening 32 = .ok (.aload_n 0, 1) := by decide +kernel
theorem dX8_evening_33 : decode cX8_evening 33 = .ok (.getfield 36, 3) := by decide +kernel
theorem dX8_evening_36 : decode cX8_evening 36 = .ok (.iload_n 2, 1) := by decide +kernel
theorem dX8_evening_37 : decode cX8_evening 37 = .ok (.invokevirtual 144, 3) := by decide +kernel
theorem dX8_evening_40 : decode cX8_evening 40 = .ok (.istore 4, 2) := by decide +kernel
theorem dX8_evening_42 : decode cX8_evening 42 = .ok (.iload 4, 2) := by decide +kernel
theorem dX8_evening_44 : decode cX8_evening 44 = .ok (.bipush (-4), 2) := by decide +kernel
theorem dX8_evening_46 : decode cX8_evening 46 = .ok (.if_icmp .ne 7, 3) := by decide +kernel
theorem dX8_evening_49 : decode cX8_evening 49 = .ok (.sipush (-1004), 3) := by decide +kernel
theorem dX8_evening_52 : decode cX8_evening 52 = .ok (.ireturn, 1) := by decide +kernel
theorem dX8_evening_53 : decode cX8_evening 53 = .ok (.aload_n 0, 1) := by decide +kernel
theorem dX8_evening_54 : decode cX8_evening 54 = .ok (.iload_n 1, 1) := by decide +kernel
theorem dX8_evening_55 : decode cX8_evening 55 = .ok (.invokevirtual 278, 3) := by decide +kernel
theorem dX8_evening_58 : decode cX8_evening 58 = .ok (.iload_n 3, 1) := by decide +kernel
theorem dX8_evening_59 : decode cX8_evening 59 = .ok (.ifCond .ne 16, 3) := by decide +kernel
theorem dX8_evening_62 : decode cX8_evening 62 = .ok (.aload_n 0, 1) := by decide +kernel
theorem dX8_evening_63 : decode cX8_evening 63 = .ok (.getfield 46, 3) := by decide +kernel
theorem dX8_evening_66 : decode cX8_evening 66 = .ok (.getfield 282, 3) := by decide +kernel
theorem dX8_evening_69 : decode cX8_evening 69 = .ok (.iload 4, 2) := by decide +kernel
theorem dX8_evening_71 : decode cX8_evening 71 = .ok (.iaload, 1) := by decide +kernel
theorem dX8_evening_72 : decode cX8_evening 72 = .ok (.goto 19, 3) := by decide +kernel
theorem dX8_evening_75 : decode cX8_evening 75 = .ok (.aload_n 0, 1) := by decide +kernel
theorem dX8_evening_76 : decode cX8_evening 76 = .ok (.getfield 46, 3) := by decide +kernel
theorem dX8_evening_79 : decode cX8_evening 79 = .ok (.iload 4, 2) := by decide +kernel
theorem dX8_evening_81 : decode cX8_evening 81 = .ok (.aload_n 0, 1) := by decide +kernel
theorem dX8_evening_82 : decode cX8_evening 82 = .ok (.iload_n 1, 1) := by decide +kernel
theorem dX8_evening_83 : decode cX8_evening 83 = .ok (.iload 4, 2) := by decide +kernel
theorem dX8_evening_85 : decode cX8_evening 85 = .ok (.invokevirtual 285, 3) := by decide +kernel
theorem dX8_evening_88 : decode cX8_evening 88 = .ok (.invokevirtual 289, 3) := by decide +kernel
theorem dX8_evening_91 : decode cX8_evening 91 = .ok (.ireturn, 1) := by decide +kernel
theorem dX8_whole_0 : decode cX8_whole 0 = .ok (.iload_n 1, 1) := by decide +kernel
theorem dX8_whole_1 : decode cX8_whole 1 = .ok (.iconst 0, 1) := by decide +kernel
theorem dX8_whole_2 : decode cX8_whole 2 = .ok (.sipush 9999, 3) := by decide +kernel
theorem dX8_whole_5 : decode cX8_whole 5 = .ok (.invokestatic 102, 3) := by decide +kernel
theorem dX8_whole_8 : decode cX8_whole 8 = .ok (.ifCond .eq 12, 3) := by decide +kernel
theorem dX8_whole_11 : decode cX8_whole 11 = .ok (.iload_n 2, 1) := by decide +kernel
theorem dX8_whole_12 : decode cX8_whole 12 = .ok (.iconst 0, 1) := by decide +kernel
theorem dX8_whole_13 : decode cX8_whole 13 = .ok (.iconst 1, 1) := by decide +kernel
theorem dX8_whole_14 : decode cX8_whole 14 = .ok (.invokestatic 102, 3) := by decide +kernel
theorem dX8_whole_17 : decode cX8_whole 17 = .ok (.ifCond .ne 5, 3) := by decide +kernel
theorem dX8_whole_20 : decode cX8_whole 20 = .ok (.iconst (-1), 1) := by decide +kernel
theorem dX8_whole_21 : decode cX8_whole 21 = .ok (.ireturn, 1) := by decide +kernel
theorem dX8_whole_22 : decode cX8_whole 22 = .ok (.aload_n 0, 1) := by decide +kernel
theorem dX8_whole_23 : decode cX8_whole 23 = .ok (.iload_n 1, 1) := by decide +kernel
theorem dX8_whole_24 : decode cX8_whole 24 = .ok (.invokevirtual 278, 3) := by decide +kernel
theorem dX8_whole_27 : decode cX8_whole 27 = .ok (.iload_n 2, 1) := by decide +kernel
theorem dX8_whole_28 : decode cX8_whole 28 = .ok (.ifCond .ne 19, 3) := by decide +kernel
theorem dX8_whole_31 : decode cX8_whole 31 = .ok (.aload_n 0, 1) := by decide +kernel
theorem dX8_whole_32 : decode cX8_whole 32 = .ok (.getfield 46, 3) := by decide +kernel
theorem dX8_whole_35 : decode cX8_whole 35 = .ok (.getfield 292, 3) := by decide +kernel
theorem dX8_whole_38 : decode cX8_whole 38 = .ok (.aload_n 0, 1) := by decide +kernel
theorem dX8_whole_39 : decode cX8_whole 39 = .ok (.getfield 36, 3) := by decide +kernel
theorem dX8_whole_42 : decode cX8_whole 42 = .ok (.getfield 197, 3) := by decide +kernel
theorem dX8_whole_45 : decode cX8_whole 45 = .ok (.iaload, 1) := by decide +kernel
theorem dX8_whole_46 : decode cX8_whole 46 = .ok (.ireturn, 1) := by decide +kernel
theorem dX8_whole_47 : decode cX8_whole 47 = .ok (.aload_n 0, 1) := by decide +kernel
theorem dX8_whole_48 : decode cX8_whole 48 = .ok (.getfield 46, 3) := by decide +kernel
theorem dX8_whole_51 : decode cX8_whole 51 = .ok (.invokevirtual 295, 3) := by decide +kernel
theorem dX8_whole_54 : decode cX8_whole 54 = .ok (.ifCond .eq 7, 3) := by decide +kernel
theorem dX8_whole_57 : decode cX8_whole 57 = .ok (.iconst 1, 1) := by decide +kernel
theorem dX8_whole_58 : decode cX8_whole 58 = .ok (.goto 4, 3) := by decide +kernel
theorem dX8_whole_61 : decode cX8_whole 61 = .ok (.iconst 0, 1) := by decide +kernel
theorem dX8_whole_62 : decode cX8_whole 62 = .ok (.ireturn, 1) := by decide +kernel
theorem dX8_keep_0 : decode cX8_keep 0 = .ok (.aload_n 0, 1) := by decide +kernel
theorem dX8_keep_1 : decode cX8_keep 1 = .ok (.getfield 127, 3) := by decide +kernel
theorem dX8_keep_4 : decode cX8_keep 4 = .ok (.iconst 2, 1) := by decide +kernel
theorem dX8_keep_5 : decode cX8_keep 5 = .ok (.if_icmp .lt 6, 3) := by decide +kernel
theorem dX8_keep_8 : decode cX8_keep 8 = .ok (.bipush (-3), 2) := by decide +kernel
theorem dX8_keep_10 : decode cX8_keep 10 = .ok (.ireturn, 1) := by decide +kernel
theorem dX8_keep_11 : decode cX8_keep 11 = .ok (.aload_n 0, 1) := by decide +kernel
theorem dX8_keep_12 : decode cX8_keep 12 = .ok (.getfield 69, 3) := by decide +kernel
theorem dX8_keep_15 : decode cX8_keep 15 = .ok (.iconst 0, 1) := by decide +kernel
theorem dX8_keep_16 : decode cX8_keep 16 = .ok (.aload_n 0, 1) := by decide +kernel
theorem dX8_keep_17 : decode cX8_keep 17 = .ok (.getfield 73, 3) := by decide +kernel
theorem dX8_keep_20 : decode cX8_keep 20 = .ok (.aload_n 0, 1) := by decide +kernel
theorem dX8_keep_21 : decode cX8_keep 21 = .ok (.getfield 127, 3) := by decide +kernel
theorem dX8_keep_24 : decode cX8_keep 24 = .ok (.bipush 8, 2) := by decide +kernel
theorem dX8_keep_26 : decode cX8_keep 26 = .ok (.imul, 1) := by decide +kernel
theorem dX8_keep_27 : decode cX8_keep 27 = .ok (.bipush 8, 2) := by decide +kernel
theorem dX8_keep_29 : decode cX8_keep 29 = .ok (.invokestatic 299, 3) := by decide +kernel
theorem dX8_keep_32 : decode cX8_keep 32 = .ok (.aload_n 0, 1) := by decide +kernel
theorem dX8_keep_33 : decode cX8_keep 33 = .ok (.getfield 76, 3) := by decide +kernel
theorem dX8_keep_36 : decode cX8_keep 36 = .ok (.aload_n 0, 1) := by decide +kernel
theorem dX8_keep_37 : decode cX8_keep 37 = .ok (.getfield 127, 3) := by decide +kernel
theorem dX8_keep_40 : decode cX8_keep 40 = .ok (.aload_n 0, 1) := by decide +kernel
theorem dX8_keep_41 : decode cX8_keep 41 = .ok (.getfield 124, 3) := by decide +kernel
theorem dX8_keep_44 : decode cX8_keep 44 = .ok (.iastore, 1) := by decide +kernel
theorem dX8_keep_45 : decode cX8_keep 45 = .ok (.aload_n 0, 1) := by decide +kernel
theorem dX8_keep_46 : decode cX8_keep 46 = .ok (.dup, 1) := by decide +kernel
theorem dX8_keep_47 : decode cX8_keep 47 = .ok (.getfield 127, 3) := by decide +kernel
theorem dX8_keep_50 : decode cX8_keep 50 = .ok (.iconst 1, 1) := by decide +kernel
theorem dX8_keep_51 : decode cX8_keep 51 = .ok (.iadd, 1) := by decide +kernel
theorem dX8_keep_52 : decode cX8_keep 52 = .ok (.putfield 127, 3) := by decide +kernel
theorem dX8_keep_55 : decode cX8_keep 55 = .ok (.aload_n 0, 1) := by decide +kernel
theorem dX8_keep_56 : decode cX8_keep 56 = .ok (.getfield 127, 3) := by decide +kernel
theorem dX8_keep_59 : decode cX8_keep 59 = .ok (.ireturn, 1) := by decide +kernel
theorem dX8_back_0 : decode cX8_back 0 = .ok (.aload_n 0, 1) := by decide +kernel
theorem dX8_back_1 : decode cX8_back 1 = .ok (.getfield 127, 3) := by decide +kernel
theorem dX8_back_4 : decode cX8_back 4 = .ok (.iconst 1, 1) := by decide +kernel
theorem dX8_back_5 : decode cX8_back 5 = .ok (.if_icmp .ge 6, 3) := by decide +kernel
theorem dX8_back_8 : decode cX8_back 8 = .ok (.bipush (-2), 2) := by decide +kernel
theorem dX8_back_10 : decode cX8_back 10 = .ok (.ireturn, 1) := by decide +kernel
theorem dX8_back_11 : decode cX8_back 11 = .ok (.aload_n 0, 1) := by decide +kernel
theorem dX8_back_12 : decode cX8_back 12 = .ok (.dup, 1) := by decide +kernel
theorem dX8_back_13 : decode cX8_back 13 = .ok (.getfield 127, 3) := by decide +kernel
theorem dX8_back_16 : decode cX8_back 16 = .ok (.iconst 1, 1) := by decide +kernel
theorem dX8_back_17 : decode cX8_back 17 = .ok (.isub, 1) := by decide +kernel
theorem dX8_back_18 : decode cX8_back 18 = .ok (.putfield 127, 3) := by decide +kernel
theorem dX8_back_21 : decode cX8_back 21 = .ok (.aload_n 0, 1) := by decide +kernel
theorem dX8_back_22 : decode cX8_back 22 = .ok (.getfield 73, 3) := by decide +kernel
theorem dX8_back_25 : decode cX8_back 25 = .ok (.aload_n 0, 1) := by decide +kernel
theorem dX8_back_26 : decode cX8_back 26 = .ok (.getfield 127, 3) := by decide +kernel
theorem dX8_back_29 : decode cX8_back 29 = .ok (.bipush 8, 2) := by decide +kernel
theorem dX8_back_31 : decode cX8_back 31 = .ok (.imul, 1) := by decide +kernel
theorem dX8_back_32 : decode cX8_back 32 = .ok (.aload_n 0, 1) := by decide +kernel
theorem dX8_back_33 : decode cX8_back 33 = .ok (.getfield 69, 3) := by decide +kernel
theorem dX8_back_36 : decode cX8_back 36 = .ok (.iconst 0, 1) := by decide +kernel
theorem dX8_back_37 : decode cX8_back 37 = .ok (.bipush 8, 2) := by decide +kernel
theorem dX8_back_39 : decode cX8_back 39 = .ok (.invokestatic 299, 3) := by decide +kernel
theorem dX8_back_42 : decode cX8_back 42 = .ok (.aload_n 0, 1) := by decide +kernel
theorem dX8_back_43 : decode cX8_back 43 = .ok (.aload_n 0, 1) := by decide +kernel
theorem dX8_back_44 : decode cX8_back 44 = .ok (.getfield 76, 3) := by decide +kernel
theorem dX8_back_47 : decode cX8_back 47 = .ok (.aload_n 0, 1) := by decide +kernel
theorem dX8_back_48 : decode cX8_back 48 = .ok (.getfield 127, 3) := by decide +kernel
theorem dX8_back_51 : decode cX8_back 51 = .ok (.iaload, 1) := by decide +kernel
theorem dX8_back_52 : decode cX8_back 52 = .ok (.putfield 124, 3) := by decide +kernel
theorem dX8_back_55 : decode cX8_back 55 = .ok (.aload_n 0, 1) := by decide +kernel
theorem dX8_back_56 : decode cX8_back 56 = .ok (.invokevirtual 134, 3) := by decide +kernel
theorem dX8_back_59 : decode cX8_back 59 = .ok (.aload_n 0, 1) := by decide +kernel
theorem dX8_back_60 : decode cX8_back 60 = .ok (.getfield 127, 3) := by decide +kernel
theorem dX8_back_63 : decode cX8_back 63 = .ok (.ireturn, 1) := by decide +kernel
theorem dX8_count_0 : decode cX8_count 0 = .ok (.iload_n 1, 1) := by decide +kernel
theorem dX8_count_1 : decode cX8_count 1 = .ok (.tableswitch 102 0 6 #[43, 54, 62, 73, 81, 86, 94], 43) := by decide +kernel
theorem dX8_count_44 : decode cX8_count 44 = .ok (.aload_n 0, 1) := by decide +kernel
theorem dX8_count_45 : decode cX8_count 45 = .ok (.getfield 26, 3) := by decide +kernel
theorem dX8_count_48 : decode cX8_count 48 = .ok (.getfield 82, 3) := by decide +kernel
theorem dX8_count_51 : decode cX8_count 51 = .ok (.getfield 137, 3) := by decide +kernel
theorem dX8_count_54 : decode cX8_count 54 = .ok (.ireturn, 1) := by decide +kernel
theorem dX8_count_55 : decode cX8_count 55 = .ok (.aload_n 0, 1) := by decide +kernel
theorem dX8_count_56 : decode cX8_count 56 = .ok (.getfield 36, 3) := by decide +kernel
theorem dX8_count_59 : decode cX8_count 59 = .ok (.getfield 197, 3) := by decide +kernel
theorem dX8_count_62 : decode cX8_count 62 = .ok (.ireturn, 1) := by decide +kernel
theorem dX8_count_63 : decode cX8_count 63 = .ok (.aload_n 0, 1) := by decide +kernel
theorem dX8_count_64 : decode cX8_count 64 = .ok (.getfield 26, 3) := by decide +kernel
theorem dX8_count_67 : decode cX8_count 67 = .ok (.getfield 82, 3) := by decide +kernel
theorem dX8_count_70 : decode cX8_count 70 = .ok (.getfield 116, 3) := by decide +kernel
theorem dX8_count_73 : decode cX8_count 73 = .ok (.ireturn, 1) := by decide +kernel
theorem dX8_count_74 : decode cX8_count 74 = .ok (.aload_n 0, 1) := by decide +kernel
theorem dX8_count_75 : decode cX8_count 75 = .ok (.getfield 10, 3) := by decide +kernel
theorem dX8_count_78 : decode cX8_count 78 = .ok (.getfield 109, 3) := by decide +kernel
theorem dX8_count_81 : decode cX8_count 81 = .ok (.ireturn, 1) := by decide +kernel
theorem dX8_count_82 : decode cX8_count 82 = .ok (.aload_n 0, 1) := by decide +kernel
theorem dX8_count_83 : decode cX8_count 83 = .ok (.getfield 127, 3) := by decide +kernel
theorem dX8_count_86 : decode cX8_count 86 = .ok (.ireturn, 1) := by decide +kernel
theorem dX8_count_87 : decode cX8_count 87 = .ok (.aload_n 0, 1) := by decide +kernel
theorem dX8_count_88 : decode cX8_count 88 = .ok (.getfield 26, 3) := by decide +kernel
theorem dX8_count_91 : decode cX8_count 91 = .ok (.getfield 210, 3) := by decide +kernel
theorem dX8_count_94 : decode cX8_count 94 = .ok (.ireturn, 1) := by decide +kernel
theorem dX8_count_95 : decode cX8_count 95 = .ok (.aload_n 0, 1) := by decide +kernel
theorem dX8_count_96 : decode cX8_count 96 = .ok (.getfield 26, 3) := by decide +kernel
theorem dX8_count_99 : decode cX8_count 99 = .ok (.getfield 94, 3) := by decide +kernel
theorem dX8_count_102 : decode cX8_count 102 = .ok (.ireturn, 1) := by decide +kernel
theorem dX8_count_103 : decode cX8_count 103 = .ok (.iconst (-1), 1) := by decide +kernel
theorem dX8_count_104 : decode cX8_count 104 = .ok (.ireturn, 1) := by decide +kernel
theorem dX8_isWithin_0 : decode cX8_isWithin 0 = .ok (.iload_n 0, 1) := by decide +kernel
theorem dX8_isWithin_1 : decode cX8_isWithin 1 = .ok (.iload_n 1, 1) := by decide +kernel
theorem dX8_isWithin_2 : decode cX8_isWithin 2 = .ok (.if_icmp .lt 12, 3) := by decide +kernel
theorem dX8_isWithin_5 : decode cX8_isWithin 5 = .ok (.iload_n 0, 1) := by decide +kernel
theorem dX8_isWithin_6 : decode cX8_isWithin 6 = .ok (.iload_n 2, 1) := by decide +kernel
theorem dX8_isWithin_7 : decode cX8_isWithin 7 = .ok (.if_icmp .gt 7, 3) := by decide +kernel
theorem dX8_isWithin_10 : decode cX8_isWithin 10 = .ok (.iconst 1, 1) := by decide +kernel
theorem dX8_isWithin_11 : decode cX8_isWithin 11 = .ok (.goto 4, 3) := by decide +kernel
theorem dX8_isWithin_14 : decode cX8_isWithin 14 = .ok (.iconst 0, 1) := by decide +kernel
theorem dX8_isWithin_15 : decode cX8_isWithin 15 = .ok (.ireturn, 1) := by decide +kernel
theorem dX8_isGiver_0 : decode cX8_isGiver 0 = .ok (.iload_n 1, 1) := by decide +kernel
theorem dX8_isGiver_1 : decode cX8_isGiver 1 = .ok (.ifCond .lt 21, 3) := by decide +kernel
theorem dX8_isGiver_4 : decode cX8_isGiver 4 = .ok (.iload_n 1, 1) := by decide +kernel
theorem dX8_isGiver_5 : decode cX8_isGiver 5 = .ok (.aload_n 0, 1) := by decide +kernel
theorem dX8_isGiver_6 : decode cX8_isGiver 6 = .ok (.getfield 26, 3) := by decide +kernel
theorem dX8_isGiver_9 : decode cX8_isGiver 9 = .ok (.getfield 82, 3) := by decide +kernel
theorem dX8_isGiver_12 : decode cX8_isGiver 12 = .ok (.getfield 137, 3) := by decide +kernel
theorem dX8_isGiver_15 : decode cX8_isGiver 15 = .ok (.if_icmp .ge 7, 3) := by decide +kernel
theorem dX8_isGiver_18 : decode cX8_isGiver 18 = .ok (.iconst 1, 1) := by decide +kernel
theorem dX8_isGiver_19 : decode cX8_isGiver 19 = .ok (.goto 4, 3) := by decide +kernel
theorem dX8_isGiver_22 : decode cX8_isGiver 22 = .ok (.iconst 0, 1) := by decide +kernel
theorem dX8_isGiver_23 : decode cX8_isGiver 23 = .ok (.ireturn, 1) := by decide +kernel
theorem dX8_greatestPart_0 : decode cX8_greatestPart 0 = .ok (.iconst 0, 1) := by decide +kernel
theorem dX8_greatestPart_1 : decode cX8_greatestPart 1 = .ok (.istore 4, 2) := by decide +kernel
theorem dX8_greatestPart_3 : decode cX8_greatestPart 3 = .ok (.iload 4, 2) := by decide +kernel
theorem dX8_greatestPart_5 : decode cX8_greatestPart 5 = .ok (.bipush 100, 2) := by decide +kernel
theorem dX8_greatestPart_7 : decode cX8_greatestPart 7 = .ok (.if_icmp .ge 25, 3) := by decide +kernel
theorem dX8_greatestPart_10 : decode cX8_greatestPart 10 = .ok (.lload_n 2, 1) := by decide +kernel
theorem dX8_greatestPart_11 : decode cX8_greatestPart 11 = .ok (.lconst 0, 1) := by decide +kernel
theorem dX8_greatestPart_12 : decode cX8_greatestPart 12 = .ok (.lcmp, 1) := by decide +kernel
theorem dX8_greatestPart_13 : decode cX8_greatestPart 13 = .ok (.ifCond .eq 19, 3) := by decide +kernel
theorem dX8_greatestPart_16 : decode cX8_greatestPart 16 = .ok (.lload_n 0, 1) := by decide +kernel
theorem dX8_greatestPart_17 : decode cX8_greatestPart 17 = .ok (.lload_n 2, 1) := by decide +kernel
theorem dX8_greatestPart_18 : decode cX8_greatestPart 18 = .ok (.lrem, 1) := by decide +kernel
theorem dX8_greatestPart_19 : decode cX8_greatestPart 19 = .ok (.lstore 5, 2) := by decide +kernel
theorem dX8_greatestPart_21 : decode cX8_greatestPart 21 = .ok (.lload_n 2, 1) := by decide +kernel
theorem dX8_greatestPart_22 : decode cX8_greatestPart 22 = .ok (.lstore_n 0, 1) := by decide +kernel
theorem dX8_greatestPart_23 : decode cX8_greatestPart 23 = .ok (.lload 5, 2) := by decide +kernel
theorem dX8_greatestPart_25 : decode cX8_greatestPart 25 = .ok (.lstore_n 2, 1) := by decide +kernel
theorem dX8_greatestPart_26 : decode cX8_greatestPart 26 = .ok (.iinc 4 1, 3) := by decide +kernel
theorem dX8_greatestPart_29 : decode cX8_greatestPart 29 = .ok (.goto (-26), 3) := by decide +kernel
theorem dX8_greatestPart_32 : decode cX8_greatestPart 32 = .ok (.lload_n 0, 1) := by decide +kernel
theorem dX8_greatestPart_33 : decode cX8_greatestPart 33 = .ok (.lconst 0, 1) := by decide +kernel
theorem dX8_greatestPart_34 : decode cX8_greatestPart 34 = .ok (.lcmp, 1) := by decide +kernel
theorem dX8_greatestPart_35 : decode cX8_greatestPart 35 = .ok (.ifCond .ne 7, 3) := by decide +kernel
theorem dX8_greatestPart_38 : decode cX8_greatestPart 38 = .ok (.lconst 1, 1) := by decide +kernel
theorem dX8_greatestPart_39 : decode cX8_greatestPart 39 = .ok (.goto 4, 3) := by decide +kernel
theorem dX8_greatestPart_42 : decode cX8_greatestPart 42 = .ok (.lload_n 0, 1) := by decide +kernel
theorem dX8_greatestPart_43 : decode cX8_greatestPart 43 = .ok (.lreturn, 1) := by decide +kernel
theorem dX8_forgetWays_0 : decode cX8_forgetWays 0 = .ok (.aload_n 0, 1) := by decide +kernel
theorem dX8_forgetWays_1 : decode cX8_forgetWays 1 = .ok (.iconst 0, 1) := by decide +kernel
theorem dX8_forgetWays_2 : decode cX8_forgetWays 2 = .ok (.putfield 305, 3) := by decide +kernel
theorem dX8_forgetWays_5 : decode cX8_forgetWays 5 = .ok (.aload_n 0, 1) := by decide +kernel
theorem dX8_forgetWays_6 : decode cX8_forgetWays 6 = .ok (.iconst 0, 1) := by decide +kernel
theorem dX8_forgetWays_7 : decode cX8_forgetWays 7 = .ok (.putfield 232, 3) := by decide +kernel
theorem dX8_forgetWays_10 : decode cX8_forgetWays 10 = .ok (.return_, 1) := by decide +kernel
theorem dX8_setGame_0 : decode cX8_setGame 0 = .ok (.aload_n 0, 1) := by decide +kernel
theorem dX8_setGame_1 : decode cX8_setGame 1 = .ok (.getfield 46, 3) := by decide +kernel
theorem dX8_setGame_4 : decode cX8_setGame 4 = .ok (.aload_n 0, 1) := by decide +kernel
theorem dX8_setGame_5 : decode cX8_setGame 5 = .ok (.getfield 26, 3) := by decide +kernel
theorem dX8_setGame_8 : decode cX8_setGame 8 = .ok (.aload_n 0, 1) := by decide +kernel
theorem dX8_setGame_9 : decode cX8_setGame 9 = .ok (.getfield 36, 3) := by decide +kernel
theorem dX8_setGame_12 : decode cX8_setGame 12 = .ok (.aload_n 0, 1) := by decide +kernel
theorem dX8_setGame_13 : decode cX8_setGame 13 = .ok (.getfield 124, 3) := by decide +kernel
theorem dX8_setGame_16 : decode cX8_setGame 16 = .ok (.invokevirtual 244, 3) := by decide +kernel
theorem dX8_setGame_19 : decode cX8_setGame 19 = .ok (.return_, 1) := by decide +kernel
theorem dX8_waysAsTheyStand_0 : decode cX8_waysAsTheyStand 0 = .ok (.aload_n 0, 1) := by decide +kernel
theorem dX8_waysAsTheyStand_1 : decode cX8_waysAsTheyStand 1 = .ok (.getfield 305, 3) := by decide +kernel
theorem dX8_waysAsTheyStand_4 : decode cX8_waysAsTheyStand 4 = .ok (.ifCond .ne 24, 3) := by decide +kernel
theorem dX8_waysAsTheyStand_7 : decode cX8_waysAsTheyStand 7 = .ok (.aload_n 0, 1) := by decide +kernel
theorem dX8_waysAsTheyStand_8 : decode cX8_waysAsTheyStand 8 = .ok (.invokevirtual 194, 3) := by decide +kernel
theorem dX8_waysAsTheyStand_11 : decode cX8_waysAsTheyStand 11 = .ok (.aload_n 0, 1) := by decide +kernel
theorem dX8_waysAsTheyStand_12 : decode cX8_waysAsTheyStand 12 = .ok (.getfield 53, 3) := by decide +kernel
theorem dX8_waysAsTheyStand_15 : decode cX8_waysAsTheyStand 15 = .ok (.aload_n 0, 1) := by decide +kernel
theorem dX8_waysAsTheyStand_16 : decode cX8_waysAsTheyStand 16 = .ok (.getfield 46, 3) := by decide +kernel
theorem dX8_waysAsTheyStand_19 : decode cX8_waysAsTheyStand 19 = .ok (.iconst 1, 1) := by decide +kernel
theorem dX8_waysAsTheyStand_20 : decode cX8_waysAsTheyStand 20 = .ok (.invokevirtual 248, 3) := by decide +kernel
theorem dX8_waysAsTheyStand_23 : decode cX8_waysAsTheyStand 23 = .ok (.aload_n 0, 1) := by decide +kernel
theorem dX8_waysAsTheyStand_24 : decode cX8_waysAsTheyStand 24 = .ok (.iconst 1, 1) := by decide +kernel
theorem dX8_waysAsTheyStand_25 : decode cX8_waysAsTheyStand 25 = .ok (.putfield 305, 3) := by decide +kernel
theorem dX8_waysAsTheyStand_28 : decode cX8_waysAsTheyStand 28 = .ok (.aload_n 0, 1) := by decide +kernel
theorem dX8_waysAsTheyStand_29 : decode cX8_waysAsTheyStand 29 = .ok (.getfield 53, 3) := by decide +kernel
theorem dX8_waysAsTheyStand_32 : decode cX8_waysAsTheyStand 32 = .ok (.areturn, 1) := by decide +kernel
theorem dX8_findBestBar_0 : decode cX8_findBestBar 0 = .ok (.iconst 1, 1) := by decide +kernel
theorem dX8_findBestBar_1 : decode cX8_findBestBar 1 = .ok (.istore_n 1, 1) := by decide +kernel
theorem dX8_findBestBar_2 : decode cX8_findBestBar 2 = .ok (.iload_n 1, 1) := by decide +kernel
theorem dX8_findBestBar_3 : decode cX8_findBestBar 3 = .ok (.bipush 60, 2) := by decide +kernel
theorem dX8_findBestBar_5 : decode cX8_findBestBar 5 = .ok (.if_icmp .gt 73, 3) := by decide +kernel
theorem dX8_findBestBar_8 : decode cX8_findBestBar 8 = .ok (.aload_n 0, 1) := by decide +kernel
theorem dX8_findBestBar_9 : decode cX8_findBestBar 9 = .ok (.invokevirtual 194, 3) := by decide +kernel
theorem dX8_findBestBar_12 : decode cX8_findBestBar 12 = .ok (.aload_n 0, 1) := by decide +kernel
theorem dX8_findBestBar_13 : decode cX8_findBestBar 13 = .ok (.getfield 46, 3) := by decide +kernel
theorem dX8_findBestBar_16 : decode cX8_findBestBar 16 = .ok (.iload_n 1, 1) := by decide +kernel
theorem dX8_findBestBar_17 : decode cX8_findBestBar 17 = .ok (.putfield 308, 3) := by decide +kernel
theorem dX8_findBestBar_20 : decode cX8_findBestBar 20 = .ok (.aload_n 0, 1) := by decide +kernel
theorem dX8_findBestBar_21 : decode cX8_findBestBar 21 = .ok (.getfield 57, 3) := by decide +kernel
theorem dX8_findBestBar_24 : decode cX8_findBestBar 24 = .ok (.aload_n 0, 1) := by decide +kernel
theorem dX8_findBestBar_25 : decode cX8_findBestBar 25 = .ok (.getfield 46, 3) := by decide +kernel
theorem dX8_findBestBar_28 : decode cX8_findBestBar 28 = .ok (.iconst 0, 1) := by decide +kernel
theorem dX8_findBestBar_29 : decode cX8_findBestBar 29 = .ok (.invokevirtual 248, 3) := by decide +kernel
theorem dX8_findBestBar_32 : decode cX8_findBestBar 32 = .ok (.aload_n 0, 1) := by decide +kernel
theorem dX8_findBestBar_33 : decode cX8_findBestBar 33 = .ok (.getfield 57, 3) := by decide +kernel
theorem dX8_findBestBar_36 : decode cX8_findBestBar 36 = .ok (.getfield 188, 3) := by decide +kernel
theorem dX8_findBestBar_39 : decode cX8_findBestBar 39 = .ok (.aload_n 0, 1) := by decide +kernel
theorem dX8_findBestBar_40 : decode cX8_findBestBar 40 = .ok (.getfield 57, 3) := by decide +kernel
theorem dX8_findBestBar_43 : decode cX8_findBestBar 43 = .ok (.getfield 191, 3) := by decide +kernel
theorem dX8_findBestBar_46 : decode cX8_findBestBar 46 = .ok (.ladd, 1) := by decide +kernel
theorem dX8_findBestBar_47 : decode cX8_findBestBar 47 = .ok (.lstore_n 2, 1) := by decide +kernel
theorem dX8_findBestBar_48 : decode cX8_findBestBar 48 = .ok (.iload_n 1, 1) := by decide +kernel
theorem dX8_findBestBar_49 : decode cX8_findBestBar 49 = .ok (.iconst 1, 1) := by decide +kernel
theorem dX8_findBestBar_50 : decode cX8_findBestBar 50 = .ok (.if_icmp .eq 12, 3) := by decide +kernel
theorem dX8_findBestBar_53 : decode cX8_findBestBar 53 = .ok (.lload_n 2, 1) := by decide +kernel
theorem dX8_findBestBar_54 : decode cX8_findBestBar 54 = .ok (.aload_n 0, 1) := by decide +kernel
theorem dX8_findBestBar_55 : decode cX8_findBestBar 55 = .ok (.getfield 241, 3) := by decide +kernel
theorem dX8_findBestBar_58 : decode cX8_findBestBar 58 = .ok (.lcmp, 1) := by decide +kernel
theorem dX8_findBestBar_59 : decode cX8_findBestBar 59 = .ok (.ifCond .ge 13, 3) := by decide +kernel
theorem dX8_findBestBar_62 : decode cX8_findBestBar 62 = .ok (.aload_n 0, 1) := by decide +kernel
theorem dX8_findBestBar_63 : decode cX8_findBestBar 63 = .ok (.iload_n 1, 1) := by decide +kernel
theorem dX8_findBestBar_64 : decode cX8_findBestBar 64 = .ok (.putfield 238, 3) := by decide +kernel
theorem dX8_findBestBar_67 : decode cX8_findBestBar 67 = .ok (.aload_n 0, 1) := by decide +kernel
theorem dX8_findBestBar_68 : decode cX8_findBestBar 68 = .ok (.lload_n 2, 1) := by decide +kernel
theorem dX8_findBestBar_69 : decode cX8_findBestBar 69 = .ok (.putfield 241, 3) := by decide +kernel
theorem dX8_findBestBar_72 : decode cX8_findBestBar 72 = .ok (.iinc 1 1, 3) := by decide +kernel
theorem dX8_findBestBar_75 : decode cX8_findBestBar 75 = .ok (.goto (-73), 3) := by decide +kernel
theorem dX8_findBestBar_78 : decode cX8_findBestBar 78 = .ok (.return_, 1) := by decide +kernel
theorem dX8_richWays_0 : decode cX8_richWays 0 = .ok (.aload_n 0, 1) := by decide +kernel
theorem dX8_richWays_1 : decode cX8_richWays 1 = .ok (.invokevirtual 194, 3) := by decide +kernel
theorem dX8_richWays_4 : decode cX8_richWays 4 = .ok (.aload_n 0, 1) := by decide +kernel
theorem dX8_richWays_5 : decode cX8_richWays 5 = .ok (.getfield 46, 3) := by decide +kernel
theorem dX8_richWays_8 : decode cX8_richWays 8 = .ok (.iload_n 1, 1) := by decide +kernel
theorem dX8_richWays_9 : decode cX8_richWays 9 = .ok (.putfield 309, 3) := by decide +kernel
theorem dX8_richWays_12 : decode cX8_richWays 12 = .ok (.aload_n 0, 1) := by decide +kernel
theorem dX8_richWays_13 : decode cX8_richWays 13 = .ok (.getfield 46, 3) := by decide +kernel
theorem dX8_richWays_16 : decode cX8_richWays 16 = .ok (.iload_n 2, 1) := by decide +kernel
theorem dX8_richWays_17 : decode cX8_richWays 17 = .ok (.iconst 1, 1) := by decide +kernel
theorem dX8_richWays_18 : decode cX8_richWays 18 = .ok (.isub, 1) := by decide +kernel
theorem dX8_richWays_19 : decode cX8_richWays 19 = .ok (.putfield 312, 3) := by decide +kernel
theorem dX8_richWays_22 : decode cX8_richWays 22 = .ok (.aload_n 0, 1) := by decide +kernel
theorem dX8_richWays_23 : decode cX8_richWays 23 = .ok (.getfield 57, 3) := by decide +kernel
theorem dX8_richWays_26 : decode cX8_richWays 26 = .ok (.aload_n 0, 1) := by decide +kernel
theorem dX8_richWays_27 : decode cX8_richWays 27 = .ok (.getfield 46, 3) := by decide +kernel
theorem dX8_richWays_30 : decode cX8_richWays 30 = .ok (.iconst 0, 1) := by decide +kernel
theorem dX8_richWays_31 : decode cX8_richWays 31 = .ok (.invokevirtual 248, 3) := by decide +kernel
theorem dX8_richWays_34 : decode cX8_richWays 34 = .ok (.aload_n 0, 1) := by decide +kernel
theorem dX8_richWays_35 : decode cX8_richWays 35 = .ok (.getfield 57, 3) := by decide +kernel
theorem dX8_richWays_38 : decode cX8_richWays 38 = .ok (.getfield 163, 3) := by decide +kernel
theorem dX8_richWays_41 : decode cX8_richWays 41 = .ok (.lreturn, 1) := by decide +kernel
theorem dX8_playEvening_0 : decode cX8_playEvening 0 = .ok (.aload_n 0, 1) := by decide +kernel
theorem dX8_playEvening_1 : decode cX8_playEvening 1 = .ok (.invokevirtual 194, 3) := by decide +kernel
theorem dX8_playEvening_4 : decode cX8_playEvening 4 = .ok (.iconst 0, 1) := by decide +kernel
theorem dX8_playEvening_5 : decode cX8_playEvening 5 = .ok (.istore_n 2, 1) := by decide +kernel
theorem dX8_playEvening_6 : decode cX8_playEvening 6 = .ok (.iload_n 2, 1) := by decide +kernel
theorem dX8_playEvening_7 : decode cX8_playEvening 7 = .ok (.aload_n 0, 1) := by decide +kernel
theorem dX8_playEvening_8 : decode cX8_playEvening 8 = .ok (.getfield 36, 3) := by decide +kernel
theorem dX8_playEvening_11 : decode cX8_playEvening 11 = .ok (.getfield 197, 3) := by decide +kernel
theorem dX8_playEvening_14 : decode cX8_playEvening 14 = .ok (.if_icmp .ge 23, 3) := by decide +kernel
theorem dX8_playEvening_17 : decode cX8_playEvening 17 = .ok (.aload_n 0, 1) := by decide +kernel
theorem dX8_playEvening_18 : decode cX8_playEvening 18 = .ok (.getfield 46, 3) := by decide +kernel
theorem dX8_playEvening_21 : decode cX8_playEvening 21 = .ok (.iload_n 2, 1) := by decide +kernel
theorem dX8_playEvening_22 : decode cX8_playEvening 22 = .ok (.aload_n 0, 1) := by decide +kernel
theorem dX8_playEvening_23 : decode cX8_playEvening 23 = .ok (.iload_n 1, 1) := by decide +kernel
theorem dX8_playEvening_24 : decode cX8_playEvening 24 = .ok (.iload_n 2, 1) := by decide +kernel
theorem dX8_playEvening_25 : decode cX8_playEvening 25 = .ok (.invokevirtual 285, 3) := by decide +kernel
theorem dX8_playEvening_28 : decode cX8_playEvening 28 = .ok (.invokevirtual 315, 3) := by decide +kernel
theorem dX8_playEvening_31 : decode cX8_playEvening 31 = .ok (.iinc 2 1, 3) := by decide +kernel
theorem dX8_playEvening_34 : decode cX8_playEvening 34 = .ok (.goto (-28), 3) := by decide +kernel
theorem dX8_playEvening_37 : decode cX8_playEvening 37 = .ok (.return_, 1) := by decide +kernel
theorem dX8_drawnWorth_0 : decode cX8_drawnWorth 0 = .ok (.ldc2_w 319, 3) := by decide +kernel
theorem dX8_drawnWorth_3 : decode cX8_drawnWorth 3 = .ok (.iload_n 1, 1) := by decide +kernel
theorem dX8_drawnWorth_4 : decode cX8_drawnWorth 4 = .ok (.i2l, 1) := by decide +kernel
theorem dX8_drawnWorth_5 : decode cX8_drawnWorth 5 = .ok (.lmul, 1) := by decide +kernel
theorem dX8_drawnWorth_6 : decode cX8_drawnWorth 6 = .ok (.ldc2_w 321, 3) := by decide +kernel
theorem dX8_drawnWorth_9 : decode cX8_drawnWorth 9 = .ok (.aload_n 0, 1) := by decide +kernel
theorem dX8_drawnWorth_10 : decode cX8_drawnWorth 10 = .ok (.getfield 36, 3) := by decide +kernel
theorem dX8_drawnWorth_13 : decode cX8_drawnWorth 13 = .ok (.getfield 200, 3) := by decide +kernel
theorem dX8_drawnWorth_16 : decode cX8_drawnWorth 16 = .ok (.iload_n 2, 1) := by decide +kernel
theorem dX8_drawnWorth_17 : decode cX8_drawnWorth 17 = .ok (.iaload, 1) := by decide +kernel
theorem dX8_drawnWorth_18 : decode cX8_drawnWorth 18 = .ok (.i2l, 1) := by decide +kernel
theorem dX8_drawnWorth_19 : decode cX8_drawnWorth 19 = .ok (.lmul, 1) := by decide +kernel
theorem dX8_drawnWorth_20 : decode cX8_drawnWorth 20 = .ok (.ladd, 1) := by decide +kernel
theorem dX8_drawnWorth_21 : decode cX8_drawnWorth 21 = .ok (.lconst 1, 1) := by decide +kernel
theorem dX8_drawnWorth_22 : decode cX8_drawnWorth 22 = .ok (.ladd, 1) := by decide +kernel
theorem dX8_drawnWorth_23 : decode cX8_drawnWorth 23 = .ok (.lstore_n 3, 1) := by decide +kernel
theorem dX8_drawnWorth_24 : decode cX8_drawnWorth 24 = .ok (.aload_n 0, 1) := by decide +kernel
theorem dX8_drawnWorth_25 : decode cX8_drawnWorth 25 = .ok (.getfield 36, 3) := by decide +kernel
theorem dX8_drawnWorth_28 : decode cX8_drawnWorth 28 = .ok (.iload_n 2, 1) := by decide +kernel
theorem dX8_drawnWorth_29 : decode cX8_drawnWorth 29 = .ok (.lload_n 3, 1) := by decide +kernel
theorem dX8_drawnWorth_30 : decode cX8_drawnWorth 30 = .ok (.lload_n 3, 1) := by decide +kernel
theorem dX8_drawnWorth_31 : decode cX8_drawnWorth 31 = .ok (.lmul, 1) := by decide +kernel
theorem dX8_drawnWorth_32 : decode cX8_drawnWorth 32 = .ok (.ldc2_w 323, 3) := by decide +kernel
theorem dX8_drawnWorth_35 : decode cX8_drawnWorth 35 = .ok (.lrem, 1) := by decide +kernel
theorem dX8_drawnWorth_36 : decode cX8_drawnWorth 36 = .ok (.ldc2_w 258, 3) := by decide +kernel
theorem dX8_drawnWorth_39 : decode cX8_drawnWorth 39 = .ok (.lrem, 1) := by decide +kernel
theorem dX8_drawnWorth_40 : decode cX8_drawnWorth 40 = .ok (.l2i, 1) := by decide +kernel
theorem dX8_drawnWorth_41 : decode cX8_drawnWorth 41 = .ok (.invokevirtual 325, 3) := by decide +kernel
theorem dX8_drawnWorth_44 : decode cX8_drawnWorth 44 = .ok (.ireturn, 1) := by decide +kernel
theorem dL_law_0 : decode cL_law 0 = .ok (.new 7, 3) := by decide +kernel
theorem dL_law_3 : decode cL_law 3 = .ok (.dup, 1) := by decide +kernel
theorem dL_law_4 : decode cL_law 4 = .ok (.invokespecial 9, 3) := by decide +kernel
theorem dL_law_7 : decode cL_law 7 = .ok (.astore_n 1, 1) := by decide +kernel
theorem dL_law_8 : decode cL_law 8 = .ok (.new 10, 3) := by decide +kernel
theorem dL_law_11 : decode cL_law 11 = .ok (.dup, 1) := by decide +kernel
theorem dL_law_12 : decode cL_law 12 = .ok (.invokespecial 12, 3) := by decide +kernel
theorem dL_law_15 : decode cL_law 15 = .ok (.astore_n 2, 1) := by decide +kernel
theorem dL_law_16 : decode cL_law 16 = .ok (.iconst 0, 1) := by decide +kernel
theorem dL_law_17 : decode cL_law 17 = .ok (.istore_n 3, 1) := by decide +kernel
theorem dL_law_18 : decode cL_law 18 = .ok (.iload_n 3, 1) := by decide +kernel
theorem dL_law_19 : decode cL_law 19 = .ok (.aload_n 0, 1) := by decide +kernel
theorem dL_law_20 : decode cL_law 20 = .ok (.arraylength, 1) := by decide +kernel
theorem dL_law_21 : decode cL_law 21 = .ok (.iconst 4, 1) := by decide +kernel
theorem dL_law_22 : decode cL_law 22 = .ok (.isub, 1) := by decide +kernel
theorem dL_law_23 : decode cL_law 23 = .ok (.if_icmp .gt 761, 3) := by decide +kernel
theorem dL_law_26 : decode cL_law 26 = .ok (.aload_n 0, 1) := by decide +kernel
theorem dL_law_27 : decode cL_law 27 = .ok (.iload_n 3, 1) := by decide +kernel
theorem dL_law_28 : decode cL_law 28 = .ok (.iaload, 1) := by decide +kernel
theorem dL_law_29 : decode cL_law 29 = .ok (.bipush 31, 2) := by decide +kernel
theorem dL_law_31 : decode cL_law 31 = .ok (.iand, 1) := by decide +kernel
theorem dL_law_32 : decode cL_law 32 = .ok (.tableswitch 746 0 25 #[120, 183, 196, 209, 222, 255, 278, 302, 336, 360, 393, 406, 429, 453, 467, 491, 504, 527, 540, 574, 597, 621, 664, 697, 710, 723], 120) := by decide +kernel
theorem dL_law_152 : decode cL_law 152 = .ok (.aload_n 1, 1) := by decide +kernel
theorem dL_law_153 : decode cL_law 153 = .ok (.aload_n 0, 1) := by decide +kernel
theorem dL_law_154 : decode cL_law 154 = .ok (.iload_n 3, 1) := by decide +kernel
theorem dL_law_155 : decode cL_law 155 = .ok (.iconst 1, 1) := by decide +kernel
theorem dL_law_156 : decode cL_law 156 = .ok (.iadd, 1) := by decide +kernel
theorem dL_law_157 : decode cL_law 157 = .ok (.iaload, 1) := by decide +kernel
theorem dL_law_158 : decode cL_law 158 = .ok (.aload_n 0, 1) := by decide +kernel
theorem dL_law_159 : decode cL_law 159 = .ok (.iload_n 3, 1) := by decide +kernel
theorem dL_law_160 : decode cL_law 160 = .ok (.iconst 2, 1) := by decide +kernel
theorem dL_law_161 : decode cL_law 161 = .ok (.iadd, 1) := by decide +kernel
theorem dL_law_162 : decode cL_law 162 = .ok (.iaload, 1) := by decide +kernel
theorem dL_law_163 : decode cL_law 163 = .ok (.i2l, 1) := by decide +kernel
theorem dL_law_164 : decode cL_law 164 = .ok (.bipush 32, 2) := by decide +kernel
theorem dL_law_166 : decode cL_law 166 = .ok (.lshl, 1) := by decide +kernel
theorem dL_law_167 : decode cL_law 167 = .ok (.aload_n 0, 1) := by decide +kernel
theorem dL_law_168 : decode cL_law 168 = .ok (.iload_n 3, 1) := by decide +kernel
theorem dL_law_169 : decode cL_law 169 = .ok (.iconst 3, 1) := by decide +kernel
theorem dL_law_170 : decode cL_law 170 = .ok (.iadd, 1) := by decide +kernel
theorem dL_law_171 : decode cL_law 171 = .ok (.iaload, 1) := by decide +kernel
theorem dL_law_172 : decode cL_law 172 = .ok (.i2l, 1) := by decide +kernel
theorem dL_law_173 : decode cL_law 173 = .ok (.ldc2_w 13, 3) := by decide +kernel
theorem dL_law_176 : decode cL_law 176 = .ok (.land, 1) := by decide +kernel
theorem dL_law_177 : decode cL_law 177 = .ok (.lor, 1) := by decide +kernel
theorem dL_law_178 : decode cL_law 178 = .ok (.invokevirtual 15, 3) := by decide +kernel
theorem dL_law_181 : decode cL_law 181 = .ok (.aload_n 2, 1) := by decide +kernel
theorem dL_law_182 : decode cL_law 182 = .ok (.aload_n 0, 1) := by decide +kernel
theorem dL_law_183 : decode cL_law 183 = .ok (.iload_n 3, 1) := by decide +kernel
theorem dL_law_184 : decode cL_law 184 = .ok (.iconst 1, 1) := by decide +kernel
theorem dL_law_185 : decode cL_law 185 = .ok (.iadd, 1) := by decide +kernel
theorem dL_law_186 : decode cL_law 186 = .ok (.iaload, 1) := by decide +kernel
theorem dL_law_187 : decode cL_law 187 = .ok (.aload_n 0, 1) := by decide +kernel
theorem dL_law_188 : decode cL_law 188 = .ok (.iload_n 3, 1) := by decide +kernel
theorem dL_law_189 : decode cL_law 189 = .ok (.iconst 2, 1) := by decide +kernel
theorem dL_law_190 : decode cL_law 190 = .ok (.iadd, 1) := by decide +kernel
theorem dL_law_191 : decode cL_law 191 = .ok (.iaload, 1) := by decide +kernel
theorem dL_law_192 : decode cL_law 192 = .ok (.i2l, 1) := by decide +kernel
theorem dL_law_193 : decode cL_law 193 = .ok (.bipush 32, 2) := by decide +kernel
theorem dL_law_195 : decode cL_law 195 = .ok (.lshl, 1) := by decide +kernel
theorem dL_law_196 : decode cL_law 196 = .ok (.aload_n 0, 1) := by decide +kernel
theorem dL_law_197 : decode cL_law 197 = .ok (.iload_n 3, 1) := by decide +kernel
theorem dL_law_198 : decode cL_law 198 = .ok (.iconst 3, 1) := by decide +kernel
theorem dL_law_199 : decode cL_law 199 = .ok (.iadd, 1) := by decide +kernel
theorem dL_law_200 : decode cL_law 200 = .ok (.iaload, 1) := by decide +kernel
theorem dL_law_201 : decode cL_law 201 = .ok (.i2l, 1) := by decide +kernel
theorem dL_law_202 : decode cL_law 202 = .ok (.ldc2_w 13, 3) := by decide +kernel
theorem dL_law_205 : decode cL_law 205 = .ok (.land, 1) := by decide +kernel
theorem dL_law_206 : decode cL_law 206 = .ok (.lor, 1) := by decide +kernel
theorem dL_law_207 : decode cL_law 207 = .ok (.invokevirtual 19, 3) := by decide +kernel
theorem dL_law_210 : decode cL_law 210 = .ok (.if_icmp .eq 568, 3) := by decide +kernel
theorem dL_law_213 : decode cL_law 213 = .ok (.iconst 0, 1) := by decide +kernel
theorem dL_law_214 : decode cL_law 214 = .ok (.ireturn, 1) := by decide +kernel
theorem dL_law_215 : decode cL_law 215 = .ok (.aload_n 1, 1) := by decide +kernel
theorem dL_law_216 : decode cL_law 216 = .ok (.invokevirtual 20, 3) := by decide +kernel
theorem dL_law_219 : decode cL_law 219 = .ok (.aload_n 2, 1) := by decide +kernel
theorem dL_law_220 : decode cL_law 220 = .ok (.invokevirtual 24, 3) := by decide +kernel
theorem dL_law_223 : decode cL_law 223 = .ok (.if_icmp .eq 555, 3) := by decide +kernel
theorem dL_law_226 : decode cL_law 226 = .ok (.iconst 0, 1) := by decide +kernel
theorem dL_law_227 : decode cL_law 227 = .ok (.ireturn, 1) := by decide +kernel
theorem dL_law_228 : decode cL_law 228 = .ok (.aload_n 1, 1) := by decide +kernel
theorem dL_law_229 : decode cL_law 229 = .ok (.invokevirtual 25, 3) := by decide +kernel
theorem dL_law_232 : decode cL_law 232 = .ok (.aload_n 2, 1) := by decide +kernel
theorem dL_law_233 : decode cL_law 233 = .ok (.invokevirtual 28, 3) := by decide +kernel
theorem dL_law_236 : decode cL_law 236 = .ok (.if_icmp .eq 542, 3) := by decide +kernel
theorem dL_law_239 : decode cL_law 239 = .ok (.iconst 0, 1) := by decide +kernel
theorem dL_law_240 : decode cL_law 240 = .ok (.ireturn, 1) := by decide +kernel
theorem dL_law_241 : decode cL_law 241 = .ok (.aload_n 1, 1) := by decide +kernel
theorem dL_law_242 : decode cL_law 242 = .ok (.invokevirtual 29, 3) := by decide +kernel
theorem dL_law_245 : decode cL_law 245 = .ok (.aload_n 2, 1) := by decide +kernel
theorem dL_law_246 : decode cL_law 246 = .ok (.invokevirtual 32, 3) := by decide +kernel
theorem dL_law_249 : decode cL_law 249 = .ok (.if_icmp .eq 529, 3) := by decide +kernel
theorem dL_law_252 : decode cL_law 252 = .ok (.iconst 0, 1) := by decide +kernel
theorem dL_law_253 : decode cL_law 253 = .ok (.ireturn, 1) := by decide +kernel
theorem dL_law_254 : decode cL_law 254 = .ok (.aload_n 1, 1) := by decide +kernel
theorem dL_law_255 : decode cL_law 255 = .ok (.aload_n 0, 1) := by decide +kernel
theorem dL_law_256 : decode cL_law 256 = .ok (.iload_n 3, 1) := by decide +kernel
theorem dL_law_257 : decode cL_law 257 = .ok (.iconst 1, 1) := by decide +kernel
theorem dL_law_258 : decode cL_law 258 = .ok (.iadd, 1) := by decide +kernel
theorem dL_law_259 : decode cL_law 259 = .ok (.iaload, 1) := by decide +kernel
theorem dL_law_260 : decode cL_law 260 = .ok (.aload_n 0, 1) := by decide +kernel
theorem dL_law_261 : decode cL_law 261 = .ok (.iload_n 3, 1) := by decide +kernel
theorem dL_law_262 : decode cL_law 262 = .ok (.iconst 2, 1) := by decide +kernel
theorem dL_law_263 : decode cL_law 263 = .ok (.iadd, 1) := by decide +kernel
theorem dL_law_264 : decode cL_law 264 = .ok (.iaload, 1) := by decide +kernel
theorem dL_law_265 : decode cL_law 265 = .ok (.invokevirtual 33, 3) := by decide +kernel
theorem dL_law_268 : decode cL_law 268 = .ok (.aload_n 2, 1) := by decide +kernel
theorem dL_law_269 : decode cL_law 269 = .ok (.aload_n 0, 1) := by decide +kernel
theorem dL_law_270 : decode cL_law 270 = .ok (.iload_n 3, 1) := by decide +kernel
theorem dL_law_271 : decode cL_law 271 = .ok (.iconst 1, 1) := by decide +kernel
theorem dL_law_272 : decode cL_law 272 = .ok (.iadd, 1) := by decide +kernel
theorem dL_law_273 : decode cL_law 273 = .ok (.iaload, 1) := by decide +kernel
theorem dL_law_274 : decode cL_law 274 = .ok (.aload_n 0, 1) := by decide +kernel
theorem dL_law_275 : decode cL_law 275 = .ok (.iload_n 3, 1) := by decide +kernel
theorem dL_law_276 : decode cL_law 276 = .ok (.iconst 2, 1) := by decide +kernel
theorem dL_law_277 : decode cL_law 277 = .ok (.iadd, 1) := by decide +kernel
theorem dL_law_278 : decode cL_law 278 = .ok (.iaload, 1) := by decide +kernel
theorem dL_law_279 : decode cL_law 279 = .ok (.invokevirtual 37, 3) := by decide +kernel
theorem dL_law_282 : decode cL_law 282 = .ok (.if_icmp .eq 496, 3) := by decide +kernel
theorem dL_law_285 : decode cL_law 285 = .ok (.iconst 0, 1) := by decide +kernel
theorem dL_law_286 : decode cL_law 286 = .ok (.ireturn, 1) := by decide +kernel
theorem dL_law_287 : decode cL_law 287 = .ok (.aload_n 1, 1) := by decide +kernel
theorem dL_law_288 : decode cL_law 288 = .ok (.aload_n 0, 1) := by decide +kernel
theorem dL_law_289 : decode cL_law 289 = .ok (.iload_n 3, 1) := by decide +kernel
theorem dL_law_290 : decode cL_law 290 = .ok (.iconst 1, 1) := by decide +kernel
theorem dL_law_291 : decode cL_law 291 = .ok (.iadd, 1) := by decide +kernel
theorem dL_law_292 : decode cL_law 292 = .ok (.iaload, 1) := by decide +kernel
theorem dL_law_293 : decode cL_law 293 = .ok (.invokevirtual 38, 3) := by decide +kernel
theorem dL_law_296 : decode cL_law 296 = .ok (.aload_n 2, 1) := by decide +kernel
theorem dL_law_297 : decode cL_law 297 = .ok (.aload_n 0, 1) := by decide +kernel
theorem dL_law_298 : decode cL_law 298 = .ok (.iload_n 3, 1) := by decide +kernel
theorem dL_law_299 : decode cL_law 299 = .ok (.iconst 1, 1) := by decide +kernel
theorem dL_law_300 : decode cL_law 300 = .ok (.iadd, 1) := by decide +kernel
theorem dL_law_301 : decode cL_law 301 = .ok (.iaload, 1) := by decide +kernel
theorem dL_law_302 : decode cL_law 302 = .ok (.invokevirtual 42, 3) := by decide +kernel
theorem dL_law_305 : decode cL_law 305 = .ok (.if_icmp .eq 473, 3) := by decide +kernel
theorem dL_law_308 : decode cL_law 308 = .ok (.iconst 0, 1) := by decide +kernel
theorem dL_law_309 : decode cL_law 309 = .ok (.ireturn, 1) := by decide +kernel
theorem dL_law_310 : decode cL_law 310 = .ok (.aload_n 1, 1) := by decide +kernel
theorem dL_law_311 : decode cL_law 311 = .ok (.aload_n 0, 1) := by decide +kernel
theorem dL_law_312 : decode cL_law 312 = .ok (.iload_n 3, 1) := by decide +kernel
theorem dL_law_313 : decode cL_law 313 = .ok (.iconst 1, 1) := by decide +kernel
theorem dL_law_314 : decode cL_law 314 = .ok (.iadd, 1) := by decide +kernel
theorem dL_law_315 : decode cL_law 315 = .ok (.iaload, 1) := by decide +kernel
theorem dL_law_316 : decode cL_law 316 = .ok (.invokevirtual 43, 3) := by decide +kernel
theorem dL_law_319 : decode cL_law 319 = .ok (.aload_n 2, 1) := by decide +kernel
theorem dL_law_320 : decode cL_law 320 = .ok (.aload_n 0, 1) := by decide +kernel
theorem dL_law_321 : decode cL_law 321 = .ok (.iload_n 3, 1) := by decide +kernel
theorem dL_law_322 : decode cL_law 322 = .ok (.iconst 1, 1) := by decide +kernel
theorem dL_law_323 : decode cL_law 323 = .ok (.iadd, 1) := by decide +kernel
theorem dL_law_324 : decode cL_law 324 = .ok (.iaload, 1) := by decide +kernel
theorem dL_law_325 : decode cL_law 325 = .ok (.invokevirtual 47, 3) := by decide +kernel
theorem dL_law_328 : decode cL_law 328 = .ok (.lcmp, 1) := by decide +kernel
theorem dL_law_329 : decode cL_law 329 = .ok (.ifCond .eq 449, 3) := by decide +kernel
theorem dL_law_332 : decode cL_law 332 = .ok (.iconst 0, 1) := by decide +kernel
theorem dL_law_333 : decode cL_law 333 = .ok (.ireturn, 1) := by decide +kernel
theorem dL_law_334 : decode cL_law 334 = .ok (.aload_n 1, 1) := by decide +kernel
theorem dL_law_335 : decode cL_law 335 = .ok (.aload_n 0, 1) := by decide +kernel
theorem dL_law_336 : decode cL_law 336 = .ok (.iload_n 3, 1) := by decide +kernel
theorem dL_law_337 : decode cL_law 337 = .ok (.iconst 1, 1) := by decide +kernel
theorem dL_law_338 : decode cL_law 338 = .ok (.iadd, 1) := by decide +kernel
theorem dL_law_339 : decode cL_law 339 = .ok (.iaload, 1) := by decide +kernel
theorem dL_law_340 : decode cL_law 340 = .ok (.aload_n 0, 1) := by decide +kernel
theorem dL_law_341 : decode cL_law 341 = .ok (.iload_n 3, 1) := by decide +kernel
theorem dL_law_342 : decode cL_law 342 = .ok (.iconst 2, 1) := by decide +kernel
theorem dL_law_343 : decode cL_law 343 = .ok (.iadd, 1) := by decide +kernel
theorem dL_law_344 : decode cL_law 344 = .ok (.iaload, 1) := by decide +kernel
theorem dL_law_345 : decode cL_law 345 = .ok (.invokevirtual 48, 3) := by decide +kernel
theorem dL_law_348 : decode cL_law 348 = .ok (.aload_n 2, 1) := by decide +kernel
theorem dL_law_349 : decode cL_law 349 = .ok (.aload_n 0, 1) := by decide +kernel
theorem dL_law_350 : decode cL_law 350 = .ok (.iload_n 3, 1) := by decide +kernel
theorem dL_law_351 : decode cL_law 351 = .ok (.iconst 1, 1) := by decide +kernel
theorem dL_law_352 : decode cL_law 352 = .ok (.iadd, 1) := by decide +kernel
theorem dL_law_353 : decode cL_law 353 = .ok (.iaload, 1) := by decide +kernel
theorem dL_law_354 : decode cL_law 354 = .ok (.aload_n 0, 1) := by decide +kernel
theorem dL_law_355 : decode cL_law 355 = .ok (.iload_n 3, 1) := by decide +kernel
theorem dL_law_356 : decode cL_law 356 = .ok (.iconst 2, 1) := by decide +kernel
theorem dL_law_357 : decode cL_law 357 = .ok (.iadd, 1) := by decide +kernel
theorem dL_law_358 : decode cL_law 358 = .ok (.iaload, 1) := by decide +kernel
theorem dL_law_359 : decode cL_law 359 = .ok (.invokevirtual 52, 3) := by decide +kernel
theorem dL_law_362 : decode cL_law 362 = .ok (.lcmp, 1) := by decide +kernel
theorem dL_law_363 : decode cL_law 363 = .ok (.ifCond .eq 415, 3) := by decide +kernel
theorem dL_law_366 : decode cL_law 366 = .ok (.iconst 0, 1) := by decide +kernel
theorem dL_law_367 : decode cL_law 367 = .ok (.ireturn, 1) := by decide +kernel
theorem dL_law_368 : decode cL_law 368 = .ok (.aload_n 1, 1) := by decide +kernel
theorem dL_law_369 : decode cL_law 369 = .ok (.aload_n 0, 1) := by decide +kernel
theorem dL_law_370 : decode cL_law 370 = .ok (.iload_n 3, 1) := by decide +kernel
theorem dL_law_371 : decode cL_law 371 = .ok (.iconst 1, 1) := by decide +kernel
theorem dL_law_372 : decode cL_law 372 = .ok (.iadd, 1) := by decide +kernel
theorem dL_law_373 : decode cL_law 373 = .ok (.iaload, 1) := by decide +kernel
theorem dL_law_374 : decode cL_law 374 = .ok (.invokevirtual 53, 3) := by decide +kernel
theorem dL_law_377 : decode cL_law 377 = .ok (.aload_n 2, 1) := by decide +kernel
theorem dL_law_378 : decode cL_law 378 = .ok (.aload_n 0, 1) := by decide +kernel
theorem dL_law_379 : decode cL_law 379 = .ok (.iload_n 3, 1) := by decide +kernel
theorem dL_law_380 : decode cL_law 380 = .ok (.iconst 1, 1) := by decide +kernel
theorem dL_law_381 : decode cL_law 381 = .ok (.iadd, 1) := by decide +kernel
theorem dL_law_382 : decode cL_law 382 = .ok (.iaload, 1) := by decide +kernel
theorem dL_law_383 : decode cL_law 383 = .ok (.invokevirtual 56, 3) := by decide +kernel
theorem dL_law_386 : decode cL_law 386 = .ok (.lcmp, 1) := by decide +kernel
theorem dL_law_387 : decode cL_law 387 = .ok (.ifCond .eq 391, 3) := by decide +kernel
theorem dL_law_390 : decode cL_law 390 = .ok (.iconst 0, 1) := by decide +kernel
theorem dL_law_391 : decode cL_law 391 = .ok (.ireturn, 1) := by decide +kernel
theorem dL_law_392 : decode cL_law 392 = .ok (.aload_n 1, 1) := by decide +kernel
theorem dL_law_393 : decode cL_law 393 = .ok (.aload_n 0, 1) := by decide +kernel
theorem dL_law_394 : decode cL_law 394 = .ok (.iload_n 3, 1) := by decide +kernel
theorem dL_law_395 : decode cL_law 395 = .ok (.iconst 1, 1) := by decide +kernel
theorem dL_law_396 : decode cL_law 396 = .ok (.iadd, 1) := by decide +kernel
theorem dL_law_397 : decode cL_law 397 = .ok (.iaload, 1) := by decide +kernel
theorem dL_law_398 : decode cL_law 398 = .ok (.aload_n 0, 1) := by decide +kernel
theorem dL_law_399 : decode cL_law 399 = .ok (.iload_n 3, 1) := by decide +kernel
theorem dL_law_400 : decode cL_law 400 = .ok (.iconst 2, 1) := by decide +kernel
theorem dL_law_401 : decode cL_law 401 = .ok (.iadd, 1) := by decide +kernel
theorem dL_law_402 : decode cL_law 402 = .ok (.iaload, 1) := by decide +kernel
theorem dL_law_403 : decode cL_law 403 = .ok (.invokevirtual 57, 3) := by decide +kernel
theorem dL_law_406 : decode cL_law 406 = .ok (.aload_n 2, 1) := by decide +kernel
theorem dL_law_407 : decode cL_law 407 = .ok (.aload_n 0, 1) := by decide +kernel
theorem dL_law_408 : decode cL_law 408 = .ok (.iload_n 3, 1) := by decide +kernel
theorem dL_law_409 : decode cL_law 409 = .ok (.iconst 1, 1) := by decide +kernel
theorem dL_law_410 : decode cL_law 410 = .ok (.iadd, 1) := by decide +kernel
theorem dL_law_411 : decode cL_law 411 = .ok (.iaload, 1) := by decide +kernel
theorem dL_law_412 : decode cL_law 412 = .ok (.aload_n 0, 1) := by decide +kernel
theorem dL_law_413 : decode cL_law 413 = .ok (.iload_n 3, 1) := by decide +kernel
theorem dL_law_414 : decode cL_law 414 = .ok (.iconst 2, 1) := by decide +kernel
theorem dL_law_415 : decode cL_law 415 = .ok (.iadd, 1) := by decide +kernel
theorem dL_law_416 : decode cL_law 416 = .ok (.iaload, 1) := by decide +kernel
theorem dL_law_417 : decode cL_law 417 = .ok (.invokevirtual 60, 3) := by decide +kernel
theorem dL_law_420 : decode cL_law 420 = .ok (.if_icmp .eq 358, 3) := by decide +kernel
theorem dL_law_423 : decode cL_law 423 = .ok (.iconst 0, 1) := by decide +kernel
theorem dL_law_424 : decode cL_law 424 = .ok (.ireturn, 1) := by decide +kernel
theorem dL_law_425 : decode cL_law 425 = .ok (.aload_n 1, 1) := by decide +kernel
theorem dL_law_426 : decode cL_law 426 = .ok (.invokevirtual 61, 3) := by decide +kernel
theorem dL_law_429 : decode cL_law 429 = .ok (.aload_n 2, 1) := by decide +kernel
theorem dL_law_430 : decode cL_law 430 = .ok (.invokevirtual 64, 3) := by decide +kernel
theorem dL_law_433 : decode cL_law 433 = .ok (.if_icmp .eq 345, 3) := by decide +kernel
theorem dL_law_436 : decode cL_law 436 = .ok (.iconst 0, 1) := by decide +kernel
theorem dL_law_437 : decode cL_law 437 = .ok (.ireturn, 1) := by decide +kernel
theorem dL_law_438 : decode cL_law 438 = .ok (.aload_n 1, 1) := by decide +kernel
theorem dL_law_439 : decode cL_law 439 = .ok (.aload_n 0, 1) := by decide +kernel
theorem dL_law_440 : decode cL_law 440 = .ok (.iload_n 3, 1) := by decide +kernel
theorem dL_law_441 : decode cL_law 441 = .ok (.iconst 1, 1) := by decide +kernel
theorem dL_law_442 : decode cL_law 442 = .ok (.iadd, 1) := by decide +kernel
theorem dL_law_443 : decode cL_law 443 = .ok (.iaload, 1) := by decide +kernel
theorem dL_law_444 : decode cL_law 444 = .ok (.invokevirtual 65, 3) := by decide +kernel
theorem dL_law_447 : decode cL_law 447 = .ok (.aload_n 2, 1) := by decide +kernel
theorem dL_law_448 : decode cL_law 448 = .ok (.aload_n 0, 1) := by decide +kernel
theorem dL_law_449 : decode cL_law 449 = .ok (.iload_n 3, 1) := by decide +kernel
theorem dL_law_450 : decode cL_law 450 = .ok (.iconst 1, 1) := by decide +kernel
theorem dL_law_451 : decode cL_law 451 = .ok (.iadd, 1) := by decide +kernel
theorem dL_law_452 : decode cL_law 452 = .ok (.iaload, 1) := by decide +kernel
theorem dL_law_453 : decode cL_law 453 = .ok (.invokevirtual 68, 3) := by decide +kernel
theorem dL_law_456 : decode cL_law 456 = .ok (.if_icmp .eq 322, 3) := by decide +kernel
theorem dL_law_459 : decode cL_law 459 = .ok (.iconst 0, 1) := by decide +kernel
theorem dL_law_460 : decode cL_law 460 = .ok (.ireturn, 1) := by decide +kernel
theorem dL_law_461 : decode cL_law 461 = .ok (.aload_n 1, 1) := by decide +kernel
theorem dL_law_462 : decode cL_law 462 = .ok (.aload_n 0, 1) := by decide +kernel
theorem dL_law_463 : decode cL_law 463 = .ok (.iload_n 3, 1) := by decide +kernel
theorem dL_law_464 : decode cL_law 464 = .ok (.iconst 1, 1) := by decide +kernel
theorem dL_law_465 : decode cL_law 465 = .ok (.iadd, 1) := by decide +kernel
theorem dL_law_466 : decode cL_law 466 = .ok (.iaload, 1) := by decide +kernel
theorem dL_law_467 : decode cL_law 467 = .ok (.invokevirtual 69, 3) := by decide +kernel
theorem dL_law_470 : decode cL_law 470 = .ok (.aload_n 2, 1) := by decide +kernel
theorem dL_law_471 : decode cL_law 471 = .ok (.aload_n 0, 1) := by decide +kernel
theorem dL_law_472 : decode cL_law 472 = .ok (.iload_n 3, 1) := by decide +kernel
theorem dL_law_473 : decode cL_law 473 = .ok (.iconst 1, 1) := by decide +kernel
theorem dL_law_474 : decode cL_law 474 = .ok (.iadd, 1) := by decide +kernel
theorem dL_law_475 : decode cL_law 475 = .ok (.iaload, 1) := by decide +kernel
theorem dL_law_476 : decode cL_law 476 = .ok (.invokevirtual 72, 3) := by decide +kernel
theorem dL_law_479 : decode cL_law 479 = .ok (.lcmp, 1) := by decide +kernel
theorem dL_law_480 : decode cL_law 480 = .ok (.ifCond .eq 298, 3) := by decide +kernel
theorem dL_law_483 : decode cL_law 483 = .ok (.iconst 0, 1) := by decide +kernel
theorem dL_law_484 : decode cL_law 484 = .ok (.ireturn, 1) := by decide +kernel
theorem dL_law_485 : decode cL_law 485 = .ok (.aload_n 1, 1) := by decide +kernel
theorem dL_law_486 : decode cL_law 486 = .ok (.invokevirtual 73, 3) := by decide +kernel
theorem dL_law_489 : decode cL_law 489 = .ok (.aload_n 2, 1) := by decide +kernel
theorem dL_law_490 : decode cL_law 490 = .ok (.invokevirtual 77, 3) := by decide +kernel
theorem dL_law_493 : decode cL_law 493 = .ok (.lcmp, 1) := by decide +kernel
theorem dL_law_494 : decode cL_law 494 = .ok (.ifCond .eq 284, 3) := by decide +kernel
theorem dL_law_497 : decode cL_law 497 = .ok (.iconst 0, 1) := by decide +kernel
theorem dL_law_498 : decode cL_law 498 = .ok (.ireturn, 1) := by decide +kernel
theorem dL_law_499 : decode cL_law 499 = .ok (.aload_n 1, 1) := by decide +kernel
theorem dL_law_500 : decode cL_law 500 = .ok (.aload_n 0, 1) := by decide +kernel
theorem dL_law_501 : decode cL_law 501 = .ok (.iload_n 3, 1) := by decide +kernel
theorem dL_law_502 : decode cL_law 502 = .ok (.iconst 1, 1) := by decide +kernel
theorem dL_law_503 : decode cL_law 503 = .ok (.iadd, 1) := by decide +kernel
theorem dL_law_504 : decode cL_law 504 = .ok (.iaload, 1) := by decide +kernel
theorem dL_law_505 : decode cL_law 505 = .ok (.invokevirtual 78, 3) := by decide +kernel
theorem dL_law_508 : decode cL_law 508 = .ok (.aload_n 2, 1) := by decide +kernel
theorem dL_law_509 : decode cL_law 509 = .ok (.aload_n 0, 1) := by decide +kernel
theorem dL_law_510 : decode cL_law 510 = .ok (.iload_n 3, 1) := by decide +kernel
theorem dL_law_511 : decode cL_law 511 = .ok (.iconst 1, 1) := by decide +kernel
theorem dL_law_512 : decode cL_law 512 = .ok (.iadd, 1) := by decide +kernel
theorem dL_law_513 : decode cL_law 513 = .ok (.iaload, 1) := by decide +kernel
theorem dL_law_514 : decode cL_law 514 = .ok (.invokevirtual 81, 3) := by decide +kernel
theorem dL_law_517 : decode cL_law 517 = .ok (.lcmp, 1) := by decide +kernel
theorem dL_law_518 : decode cL_law 518 = .ok (.ifCond .eq 260, 3) := by decide +kernel
theorem dL_law_521 : decode cL_law 521 = .ok (.iconst 0, 1) := by decide +kernel
theorem dL_law_522 : decode cL_law 522 = .ok (.ireturn, 1) := by decide +kernel
theorem dL_law_523 : decode cL_law 523 = .ok (.aload_n 1, 1) := by decide +kernel
theorem dL_law_524 : decode cL_law 524 = .ok (.invokevirtual 82, 3) := by decide +kernel
theorem dL_law_527 : decode cL_law 527 = .ok (.aload_n 2, 1) := by decide +kernel
theorem dL_law_528 : decode cL_law 528 = .ok (.invokevirtual 85, 3) := by decide +kernel
theorem dL_law_531 : decode cL_law 531 = .ok (.if_icmp .eq 247, 3) := by decide +kernel
theorem dL_law_534 : decode cL_law 534 = .ok (.iconst 0, 1) := by decide +kernel
theorem dL_law_535 : decode cL_law 535 = .ok (.ireturn, 1) := by decide +kernel
theorem dL_law_536 : decode cL_law 536 = .ok (.aload_n 1, 1) := by decide +kernel
theorem dL_law_537 : decode cL_law 537 = .ok (.aload_n 0, 1) := by decide +kernel
theorem dL_law_538 : decode cL_law 538 = .ok (.iload_n 3, 1) := by decide +kernel
theorem dL_law_539 : decode cL_law 539 = .ok (.iconst 1, 1) := by decide +kernel
theorem dL_law_540 : decode cL_law 540 = .ok (.iadd, 1) := by decide +kernel
theorem dL_law_541 : decode cL_law 541 = .ok (.iaload, 1) := by decide +kernel
theorem dL_law_542 : decode cL_law 542 = .ok (.invokevirtual 86, 3) := by decide +kernel
theorem dL_law_545 : decode cL_law 545 = .ok (.aload_n 2, 1) := by decide +kernel
theorem dL_law_546 : decode cL_law 546 = .ok (.aload_n 0, 1) := by decide +kernel
theorem dL_law_547 : decode cL_law 547 = .ok (.iload_n 3, 1) := by decide +kernel
theorem dL_law_548 : decode cL_law 548 = .ok (.iconst 1, 1) := by decide +kernel
theorem dL_law_549 : decode cL_law 549 = .ok (.iadd, 1) := by decide +kernel
theorem dL_law_550 : decode cL_law 550 = .ok (.iaload, 1) := by decide +kernel
theorem dL_law_551 : decode cL_law 551 = .ok (.invokevirtual 89, 3) := by decide +kernel
theorem dL_law_554 : decode cL_law 554 = .ok (.if_icmp .eq 224, 3) := by decide +kernel
theorem dL_law_557 : decode cL_law 557 = .ok (.iconst 0, 1) := by decide +kernel
theorem dL_law_558 : decode cL_law 558 = .ok (.ireturn, 1) := by decide +kernel
theorem dL_law_559 : decode cL_law 559 = .ok (.aload_n 1, 1) := by decide +kernel
theorem dL_law_560 : decode cL_law 560 = .ok (.invokevirtual 90, 3) := by decide +kernel
theorem dL_law_563 : decode cL_law 563 = .ok (.aload_n 2, 1) := by decide +kernel
theorem dL_law_564 : decode cL_law 564 = .ok (.invokevirtual 93, 3) := by decide +kernel
theorem dL_law_567 : decode cL_law 567 = .ok (.if_icmp .eq 211, 3) := by decide +kernel
theorem dL_law_570 : decode cL_law 570 = .ok (.iconst 0, 1) := by decide +kernel
theorem dL_law_571 : decode cL_law 571 = .ok (.ireturn, 1) := by decide +kernel
theorem dL_law_572 : decode cL_law 572 = .ok (.aload_n 1, 1) := by decide +kernel
theorem dL_law_573 : decode cL_law 573 = .ok (.aload_n 0, 1) := by decide +kernel
theorem dL_law_574 : decode cL_law 574 = .ok (.iload_n 3, 1) := by decide +kernel
theorem dL_law_575 : decode cL_law 575 = .ok (.iconst 1, 1) := by decide +kernel
theorem dL_law_576 : decode cL_law 576 = .ok (.iadd, 1) := by decide +kernel
theorem dL_law_577 : decode cL_law 577 = .ok (.iaload, 1) := by decide +kernel
theorem dL_law_578 : decode cL_law 578 = .ok (.aload_n 0, 1) := by decide +kernel
theorem dL_law_579 : decode cL_law 579 = .ok (.iload_n 3, 1) := by decide +kernel
theorem dL_law_580 : decode cL_law 580 = .ok (.iconst 2, 1) := by decide +kernel
theorem dL_law_581 : decode cL_law 581 = .ok (.iadd, 1) := by decide +kernel
theorem dL_law_582 : decode cL_law 582 = .ok (.iaload, 1) := by decide +kernel
theorem dL_law_583 : decode cL_law 583 = .ok (.invokevirtual 94, 3) := by decide +kernel
theorem dL_law_586 : decode cL_law 586 = .ok (.aload_n 2, 1) := by decide +kernel
theorem dL_law_587 : decode cL_law 587 = .ok (.aload_n 0, 1) := by decide +kernel
theorem dL_law_588 : decode cL_law 588 = .ok (.iload_n 3, 1) := by decide +kernel
theorem dL_law_589 : decode cL_law 589 = .ok (.iconst 1, 1) := by decide +kernel
theorem dL_law_590 : decode cL_law 590 = .ok (.iadd, 1) := by decide +kernel
theorem dL_law_591 : decode cL_law 591 = .ok (.iaload, 1) := by decide +kernel
theorem dL_law_592 : decode cL_law 592 = .ok (.aload_n 0, 1) := by decide +kernel
theorem dL_law_593 : decode cL_law 593 = .ok (.iload_n 3, 1) := by decide +kernel
theorem dL_law_594 : decode cL_law 594 = .ok (.iconst 2, 1) := by decide +kernel
theorem dL_law_595 : decode cL_law 595 = .ok (.iadd, 1) := by decide +kernel
theorem dL_law_596 : decode cL_law 596 = .ok (.iaload, 1) := by decide +kernel
theorem dL_law_597 : decode cL_law 597 = .ok (.invokevirtual 97, 3) := by decide +kernel
theorem dL_law_600 : decode cL_law 600 = .ok (.lcmp, 1) := by decide +kernel
theorem dL_law_601 : decode cL_law 601 = .ok (.ifCond .eq 177, 3) := by decide +kernel
theorem dL_law_604 : decode cL_law 604 = .ok (.iconst 0, 1) := by decide +kernel
theorem dL_law_605 : decode cL_law 605 = .ok (.ireturn, 1) := by decide +kernel
theorem dL_law_606 : decode cL_law 606 = .ok (.aload_n 1, 1) := by decide +kernel
theorem dL_law_607 : decode cL_law 607 = .ok (.aload_n 0, 1) := by decide +kernel
theorem dL_law_608 : decode cL_law 608 = .ok (.iload_n 3, 1) := by decide +kernel
theorem dL_law_609 : decode cL_law 609 = .ok (.iconst 1, 1) := by decide +kernel
theorem dL_law_610 : decode cL_law 610 = .ok (.iadd, 1) := by decide +kernel
theorem dL_law_611 : decode cL_law 611 = .ok (.iaload, 1) := by decide +kernel
theorem dL_law_612 : decode cL_law 612 = .ok (.invokevirtual 98, 3) := by decide +kernel
theorem dL_law_615 : decode cL_law 615 = .ok (.aload_n 2, 1) := by decide +kernel
theorem dL_law_616 : decode cL_law 616 = .ok (.aload_n 0, 1) := by decide +kernel
theorem dL_law_617 : decode cL_law 617 = .ok (.iload_n 3, 1) := by decide +kernel
theorem dL_law_618 : decode cL_law 618 = .ok (.iconst 1, 1) := by decide +kernel
theorem dL_law_619 : decode cL_law 619 = .ok (.iadd, 1) := by decide +kernel
theorem dL_law_620 : decode cL_law 620 = .ok (.iaload, 1) := by decide +kernel
theorem dL_law_621 : decode cL_law 621 = .ok (.invokevirtual 101, 3) := by decide +kernel
theorem dL_law_624 : decode cL_law 624 = .ok (.if_icmp .eq 154, 3) := by decide +kernel
theorem dL_law_627 : decode cL_law 627 = .ok (.iconst 0, 1) := by decide +kernel
theorem dL_law_628 : decode cL_law 628 = .ok (.ireturn, 1) := by decide +kernel
theorem dL_law_629 : decode cL_law 629 = .ok (.aload_n 1, 1) := by decide +kernel
theorem dL_law_630 : decode cL_law 630 = .ok (.aload_n 0, 1) := by decide +kernel
theorem dL_law_631 : decode cL_law 631 = .ok (.iload_n 3, 1) := by decide +kernel
theorem dL_law_632 : decode cL_law 632 = .ok (.iconst 1, 1) := by decide +kernel
theorem dL_law_633 : decode cL_law 633 = .ok (.iadd, 1) := by decide +kernel
theorem dL_law_634 : decode cL_law 634 = .ok (.iaload, 1) := by decide +kernel
theorem dL_law_635 : decode cL_law 635 = .ok (.invokevirtual 102, 3) := by decide +kernel
theorem dL_law_638 : decode cL_law 638 = .ok (.aload_n 2, 1) := by decide +kernel
theorem dL_law_639 : decode cL_law 639 = .ok (.aload_n 0, 1) := by decide +kernel
theorem dL_law_640 : decode cL_law 640 = .ok (.iload_n 3, 1) := by decide +kernel
theorem dL_law_641 : decode cL_law 641 = .ok (.iconst 1, 1) := by decide +kernel
theorem dL_law_642 : decode cL_law 642 = .ok (.iadd, 1) := by decide +kernel
theorem dL_law_643 : decode cL_law 643 = .ok (.iaload, 1) := by decide +kernel
theorem dL_law_644 : decode cL_law 644 = .ok (.invokevirtual 105, 3) := by decide +kernel
theorem dL_law_647 : decode cL_law 647 = .ok (.lcmp, 1) := by decide +kernel
theorem dL_law_648 : decode cL_law 648 = .ok (.ifCond .eq 130, 3) := by decide +kernel
theorem dL_law_651 : decode cL_law 651 = .ok (.iconst 0, 1) := by decide +kernel
theorem dL_law_652 : decode cL_law 652 = .ok (.ireturn, 1) := by decide +kernel
theorem dL_law_653 : decode cL_law 653 = .ok (.aload_n 1, 1) := by decide +kernel
theorem dL_law_654 : decode cL_law 654 = .ok (.aload_n 0, 1) := by decide +kernel
theorem dL_law_655 : decode cL_law 655 = .ok (.iload_n 3, 1) := by decide +kernel
theorem dL_law_656 : decode cL_law 656 = .ok (.iconst 1, 1) := by decide +kernel
theorem dL_law_657 : decode cL_law 657 = .ok (.iadd, 1) := by decide +kernel
theorem dL_law_658 : decode cL_law 658 = .ok (.iaload, 1) := by decide +kernel
theorem dL_law_659 : decode cL_law 659 = .ok (.aload_n 0, 1) := by decide +kernel
theorem dL_law_660 : decode cL_law 660 = .ok (.iload_n 3, 1) := by decide +kernel
theorem dL_law_661 : decode cL_law 661 = .ok (.iconst 2, 1) := by decide +kernel
theorem dL_law_662 : decode cL_law 662 = .ok (.iadd, 1) := by decide +kernel
theorem dL_law_663 : decode cL_law 663 = .ok (.iaload, 1) := by decide +kernel
theorem dL_law_664 : decode cL_law 664 = .ok (.aload_n 0, 1) := by decide +kernel
theorem dL_law_665 : decode cL_law 665 = .ok (.iload_n 3, 1) := by decide +kernel
theorem dL_law_666 : decode cL_law 666 = .ok (.iconst 3, 1) := by decide +kernel
theorem dL_law_667 : decode cL_law 667 = .ok (.iadd, 1) := by decide +kernel
theorem dL_law_668 : decode cL_law 668 = .ok (.iaload, 1) := by decide +kernel
theorem dL_law_669 : decode cL_law 669 = .ok (.invokevirtual 106, 3) := by decide +kernel
theorem dL_law_672 : decode cL_law 672 = .ok (.aload_n 2, 1) := by decide +kernel
theorem dL_law_673 : decode cL_law 673 = .ok (.aload_n 0, 1) := by decide +kernel
theorem dL_law_674 : decode cL_law 674 = .ok (.iload_n 3, 1) := by decide +kernel
theorem dL_law_675 : decode cL_law 675 = .ok (.iconst 1, 1) := by decide +kernel
theorem dL_law_676 : decode cL_law 676 = .ok (.iadd, 1) := by decide +kernel
theorem dL_law_677 : decode cL_law 677 = .ok (.iaload, 1) := by decide +kernel
theorem dL_law_678 : decode cL_law 678 = .ok (.aload_n 0, 1) := by decide +kernel
theorem dL_law_679 : decode cL_law 679 = .ok (.iload_n 3, 1) := by decide +kernel
theorem dL_law_680 : decode cL_law 680 = .ok (.iconst 2, 1) := by decide +kernel
theorem dL_law_681 : decode cL_law 681 = .ok (.iadd, 1) := by decide +kernel
theorem dL_law_682 : decode cL_law 682 = .ok (.iaload, 1) := by decide +kernel
theorem dL_law_683 : decode cL_law 683 = .ok (.aload_n 0, 1) := by decide +kernel
theorem dL_law_684 : decode cL_law 684 = .ok (.iload_n 3, 1) := by decide +kernel
theorem dL_law_685 : decode cL_law 685 = .ok (.iconst 3, 1) := by decide +kernel
theorem dL_law_686 : decode cL_law 686 = .ok (.iadd, 1) := by decide +kernel
theorem dL_law_687 : decode cL_law 687 = .ok (.iaload, 1) := by decide +kernel
theorem dL_law_688 : decode cL_law 688 = .ok (.invokevirtual 110, 3) := by decide +kernel
theorem dL_law_691 : decode cL_law 691 = .ok (.if_icmp .eq 87, 3) := by decide +kernel
theorem dL_law_694 : decode cL_law 694 = .ok (.iconst 0, 1) := by decide +kernel
theorem dL_law_695 : decode cL_law 695 = .ok (.ireturn, 1) := by decide +kernel
theorem dL_law_696 : decode cL_law 696 = .ok (.aload_n 1, 1) := by decide +kernel
theorem dL_law_697 : decode cL_law 697 = .ok (.aload_n 0, 1) := by decide +kernel
theorem dL_law_698 : decode cL_law 698 = .ok (.iload_n 3, 1) := by decide +kernel
theorem dL_law_699 : decode cL_law 699 = .ok (.iconst 1, 1) := by decide +kernel
theorem dL_law_700 : decode cL_law 700 = .ok (.iadd, 1) := by decide +kernel
theorem dL_law_701 : decode cL_law 701 = .ok (.iaload, 1) := by decide +kernel
theorem dL_law_702 : decode cL_law 702 = .ok (.aload_n 0, 1) := by decide +kernel
theorem dL_law_703 : decode cL_law 703 = .ok (.iload_n 3, 1) := by decide +kernel
theorem dL_law_704 : decode cL_law 704 = .ok (.iconst 2, 1) := by decide +kernel
theorem dL_law_705 : decode cL_law 705 = .ok (.iadd, 1) := by decide +kernel
theorem dL_law_706 : decode cL_law 706 = .ok (.iaload, 1) := by decide +kernel
theorem dL_law_707 : decode cL_law 707 = .ok (.invokevirtual 111, 3) := by decide +kernel
theorem dL_law_710 : decode cL_law 710 = .ok (.aload_n 2, 1) := by decide +kernel
theorem dL_law_711 : decode cL_law 711 = .ok (.aload_n 0, 1) := by decide +kernel
theorem dL_law_712 : decode cL_law 712 = .ok (.iload_n 3, 1) := by decide +kernel
theorem dL_law_713 : decode cL_law 713 = .ok (.iconst 1, 1) := by decide +kernel
theorem dL_law_714 : decode cL_law 714 = .ok (.iadd, 1) := by decide +kernel
theorem dL_law_715 : decode cL_law 715 = .ok (.iaload, 1) := by decide +kernel
theorem dL_law_716 : decode cL_law 716 = .ok (.aload_n 0, 1) := by decide +kernel
theorem dL_law_717 : decode cL_law 717 = .ok (.iload_n 3, 1) := by decide +kernel
theorem dL_law_718 : decode cL_law 718 = .ok (.iconst 2, 1) := by decide +kernel
theorem dL_law_719 : decode cL_law 719 = .ok (.iadd, 1) := by decide +kernel
theorem dL_law_720 : decode cL_law 720 = .ok (.iaload, 1) := by decide +kernel
theorem dL_law_721 : decode cL_law 721 = .ok (.invokevirtual 114, 3) := by decide +kernel
theorem dL_law_724 : decode cL_law 724 = .ok (.if_icmp .eq 54, 3) := by decide +kernel
theorem dL_law_727 : decode cL_law 727 = .ok (.iconst 0, 1) := by decide +kernel
theorem dL_law_728 : decode cL_law 728 = .ok (.ireturn, 1) := by decide +kernel
theorem dL_law_729 : decode cL_law 729 = .ok (.aload_n 1, 1) := by decide +kernel
theorem dL_law_730 : decode cL_law 730 = .ok (.invokevirtual 115, 3) := by decide +kernel
theorem dL_law_733 : decode cL_law 733 = .ok (.aload_n 2, 1) := by decide +kernel
theorem dL_law_734 : decode cL_law 734 = .ok (.invokevirtual 118, 3) := by decide +kernel
theorem dL_law_737 : decode cL_law 737 = .ok (.if_icmp .eq 41, 3) := by decide +kernel
theorem dL_law_740 : decode cL_law 740 = .ok (.iconst 0, 1) := by decide +kernel
theorem dL_law_741 : decode cL_law 741 = .ok (.ireturn, 1) := by decide +kernel
theorem dL_law_742 : decode cL_law 742 = .ok (.aload_n 1, 1) := by decide +kernel
theorem dL_law_743 : decode cL_law 743 = .ok (.invokevirtual 119, 3) := by decide +kernel
theorem dL_law_746 : decode cL_law 746 = .ok (.aload_n 2, 1) := by decide +kernel
theorem dL_law_747 : decode cL_law 747 = .ok (.invokevirtual 122, 3) := by decide +kernel
theorem dL_law_750 : decode cL_law 750 = .ok (.if_icmp .eq 28, 3) := by decide +kernel
theorem dL_law_753 : decode cL_law 753 = .ok (.iconst 0, 1) := by decide +kernel
theorem dL_law_754 : decode cL_law 754 = .ok (.ireturn, 1) := by decide +kernel
theorem dL_law_755 : decode cL_law 755 = .ok (.aload_n 1, 1) := by decide +kernel
theorem dL_law_756 : decode cL_law 756 = .ok (.aload_n 0, 1) := by decide +kernel
theorem dL_law_757 : decode cL_law 757 = .ok (.iload_n 3, 1) := by decide +kernel
theorem dL_law_758 : decode cL_law 758 = .ok (.iconst 1, 1) := by decide +kernel
theorem dL_law_759 : decode cL_law 759 = .ok (.iadd, 1) := by decide +kernel
theorem dL_law_760 : decode cL_law 760 = .ok (.iaload, 1) := by decide +kernel
theorem dL_law_761 : decode cL_law 761 = .ok (.invokevirtual 123, 3) := by decide +kernel
theorem dL_law_764 : decode cL_law 764 = .ok (.aload_n 2, 1) := by decide +kernel
theorem dL_law_765 : decode cL_law 765 = .ok (.aload_n 0, 1) := by decide +kernel
theorem dL_law_766 : decode cL_law 766 = .ok (.iload_n 3, 1) := by decide +kernel
theorem dL_law_767 : decode cL_law 767 = .ok (.iconst 1, 1) := by decide +kernel
theorem dL_law_768 : decode cL_law 768 = .ok (.iadd, 1) := by decide +kernel
theorem dL_law_769 : decode cL_law 769 = .ok (.iaload, 1) := by decide +kernel
theorem dL_law_770 : decode cL_law 770 = .ok (.invokevirtual 126, 3) := by decide +kernel
theorem dL_law_773 : decode cL_law 773 = .ok (.if_icmp .eq 5, 3) := by decide +kernel
theorem dL_law_776 : decode cL_law 776 = .ok (.iconst 0, 1) := by decide +kernel
theorem dL_law_777 : decode cL_law 777 = .ok (.ireturn, 1) := by decide +kernel
theorem dL_law_778 : decode cL_law 778 = .ok (.iinc 3 4, 3) := by decide +kernel
theorem dL_law_781 : decode cL_law 781 = .ok (.goto (-763), 3) := by decide +kernel
theorem dL_law_784 : decode cL_law 784 = .ok (.iconst 1, 1) := by decide +kernel
theorem dL_law_785 : decode cL_law 785 = .ok (.ireturn, 1) := by decide +kernel
end
section
theorem dX9_init_0 : decode cX9_init 0 = .ok (.aload_n 0, 1) := by decide +kernel
theorem dX9_init_1 : decode cX9_init 1 = .ok (.invokespecial 1, 3) := by decide +kernel
theorem dX9_init_4 : decode cX9_init 4 = .ok (.aload_n 0, 1) := by decide +kernel
theorem dX9_init_5 : decode cX9_init 5 = .ok (.sipush 300, 3) := by decide +kernel
theorem dX9_init_8 : decode cX9_init 8 = .ok (.newarray .int, 2) := by decide +kernel
theorem dX9_init_10 : decode cX9_init 10 = .ok (.putfield 7, 3) := by decide +kernel
theorem dX9_init_13 : decode cX9_init 13 = .ok (.aload_n 0, 1) := by decide +kernel
theorem dX9_init_14 : decode cX9_init 14 = .ok (.bipush 20, 2) := by decide +kernel
theorem dX9_init_16 : decode cX9_init 16 = .ok (.newarray .int, 2) := by decide +kernel
theorem dX9_init_18 : decode cX9_init 18 = .ok (.putfield 13, 3) := by decide +kernel
theorem dX9_init_21 : decode cX9_init 21 = .ok (.aload_n 0, 1) := by decide +kernel
theorem dX9_init_22 : decode cX9_init 22 = .ok (.iconst 2, 1) := by decide +kernel
theorem dX9_init_23 : decode cX9_init 23 = .ok (.newarray .int, 2) := by decide +kernel
theorem dX9_init_25 : decode cX9_init 25 = .ok (.putfield 16, 3) := by decide +kernel
theorem dX9_init_28 : decode cX9_init 28 = .ok (.aload_n 0, 1) := by decide +kernel
theorem dX9_init_29 : decode cX9_init 29 = .ok (.bipush 12, 2) := by decide +kernel
theorem dX9_init_31 : decode cX9_init 31 = .ok (.newarray .int, 2) := by decide +kernel
theorem dX9_init_33 : decode cX9_init 33 = .ok (.putfield 19, 3) := by decide +kernel
theorem dX9_init_36 : decode cX9_init 36 = .ok (.aload_n 0, 1) := by decide +kernel
theorem dX9_init_37 : decode cX9_init 37 = .ok (.bipush 12, 2) := by decide +kernel
theorem dX9_init_39 : decode cX9_init 39 = .ok (.newarray .int, 2) := by decide +kernel
theorem dX9_init_41 : decode cX9_init 41 = .ok (.putfield 22, 3) := by decide +kernel
theorem dX9_init_44 : decode cX9_init 44 = .ok (.aload_n 0, 1) := by decide +kernel
theorem dX9_init_45 : decode cX9_init 45 = .ok (.bipush 12, 2) := by decide +kernel
theorem dX9_init_47 : decode cX9_init 47 = .ok (.newarray .int, 2) := by decide +kernel
theorem dX9_init_49 : decode cX9_init 49 = .ok (.putfield 25, 3) := by decide +kernel
theorem dX9_init_52 : decode cX9_init 52 = .ok (.aload_n 0, 1) := by decide +kernel
theorem dX9_init_53 : decode cX9_init 53 = .ok (.bipush 12, 2) := by decide +kernel
theorem dX9_init_55 : decode cX9_init 55 = .ok (.newarray .int, 2) := by decide +kernel
theorem dX9_init_57 : decode cX9_init 57 = .ok (.putfield 28, 3) := by decide +kernel
theorem dX9_init_60 : decode cX9_init 60 = .ok (.aload_n 0, 1) := by decide +kernel
theorem dX9_init_61 : decode cX9_init 61 = .ok (.bipush 12, 2) := by decide +kernel
theorem dX9_init_63 : decode cX9_init 63 = .ok (.newarray .int, 2) := by decide +kernel
theorem dX9_init_65 : decode cX9_init 65 = .ok (.putfield 31, 3) := by decide +kernel
theorem dX9_init_68 : decode cX9_init 68 = .ok (.aload_n 0, 1) := by decide +kernel
theorem dX9_init_69 : decode cX9_init 69 = .ok (.bipush 12, 2) := by decide +kernel
theorem dX9_init_71 : decode cX9_init 71 = .ok (.newarray .int, 2) := by decide +kernel
theorem dX9_init_73 : decode cX9_init 73 = .ok (.putfield 34, 3) := by decide +kernel
theorem dX9_init_76 : decode cX9_init 76 = .ok (.aload_n 0, 1) := by decide +kernel
theorem dX9_init_77 : decode cX9_init 77 = .ok (.bipush 12, 2) := by decide +kernel
theorem dX9_init_79 : decode cX9_init 79 = .ok (.newarray .int, 2) := by decide +kernel
theorem dX9_init_81 : decode cX9_init 81 = .ok (.putfield 37, 3) := by decide +kernel
theorem dX9_init_84 : decode cX9_init 84 = .ok (.aload_n 0, 1) := by decide +kernel
theorem dX9_init_85 : decode cX9_init 85 = .ok (.bipush 36, 2) := by decide +kernel
theorem dX9_init_87 : decode cX9_init 87 = .ok (.newarray .int, 2) := by decide +kernel
theorem dX9_init_89 : decode cX9_init 89 = .ok (.putfield 40, 3) := by decide +kernel
theorem dX9_init_92 : decode cX9_init 92 = .ok (.aload_n 0, 1) := by decide +kernel
theorem dX9_init_93 : decode cX9_init 93 = .ok (.bipush 36, 2) := by decide +kernel
theorem dX9_init_95 : decode cX9_init 95 = .ok (.newarray .int, 2) := by decide +kernel
theorem dX9_init_97 : decode cX9_init 97 = .ok (.putfield 43, 3) := by decide +kernel
theorem dX9_init_100 : decode cX9_init 100 = .ok (.aload_n 0, 1) := by decide +kernel
theorem dX9_init_101 : decode cX9_init 101 = .ok (.bipush 8, 2) := by decide +kernel
theorem dX9_init_103 : decode cX9_init 103 = .ok (.newarray .int, 2) := by decide +kernel
theorem dX9_init_105 : decode cX9_init 105 = .ok (.putfield 46, 3) := by decide +kernel
theorem dX9_init_108 : decode cX9_init 108 = .ok (.aload_n 0, 1) := by decide +kernel
theorem dX9_init_109 : decode cX9_init 109 = .ok (.bipush 8, 2) := by decide +kernel
theorem dX9_init_111 : decode cX9_init 111 = .ok (.newarray .int, 2) := by decide +kernel
theorem dX9_init_113 : decode cX9_init 113 = .ok (.putfield 49, 3) := by decide +kernel
theorem dX9_init_116 : decode cX9_init 116 = .ok (.aload_n 0, 1) := by decide +kernel
theorem dX9_init_117 : decode cX9_init 117 = .ok (.iconst 3, 1) := by decide +kernel
theorem dX9_init_118 : decode cX9_init 118 = .ok (.newarray .int, 2) := by decide +kernel
theorem dX9_init_120 : decode cX9_init 120 = .ok (.putfield 52, 3) := by decide +kernel
theorem dX9_init_123 : decode cX9_init 123 = .ok (.aload_n 0, 1) := by decide +kernel
theorem dX9_init_124 : decode cX9_init 124 = .ok (.bipush 24, 2) := by decide +kernel
theorem dX9_init_126 : decode cX9_init 126 = .ok (.newarray .int, 2) := by decide +kernel
theorem dX9_init_128 : decode cX9_init 128 = .ok (.putfield 55, 3) := by decide +kernel
theorem dX9_init_131 : decode cX9_init 131 = .ok (.aload_n 0, 1) := by decide +kernel
theorem dX9_init_132 : decode cX9_init 132 = .ok (.iconst 5, 1) := by decide +kernel
theorem dX9_init_133 : decode cX9_init 133 = .ok (.newarray .int, 2) := by decide +kernel
theorem dX9_init_135 : decode cX9_init 135 = .ok (.putfield 58, 3) := by decide +kernel
theorem dX9_init_138 : decode cX9_init 138 = .ok (.aload_n 0, 1) := by decide +kernel
theorem dX9_init_139 : decode cX9_init 139 = .ok (.bipush 8, 2) := by decide +kernel
theorem dX9_init_141 : decode cX9_init 141 = .ok (.newarray .int, 2) := by decide +kernel
theorem dX9_init_143 : decode cX9_init 143 = .ok (.putfield 61, 3) := by decide +kernel
theorem dX9_init_146 : decode cX9_init 146 = .ok (.aload_n 0, 1) := by decide +kernel
theorem dX9_init_147 : decode cX9_init 147 = .ok (.bipush 8, 2) := by decide +kernel
theorem dX9_init_149 : decode cX9_init 149 = .ok (.newarray .int, 2) := by decide +kernel
theorem dX9_init_151 : decode cX9_init 151 = .ok (.putfield 64, 3) := by decide +kernel
theorem dX9_init_154 : decode cX9_init 154 = .ok (.aload_n 0, 1) := by decide +kernel
theorem dX9_init_155 : decode cX9_init 155 = .ok (.bipush 8, 2) := by decide +kernel
theorem dX9_init_157 : decode cX9_init 157 = .ok (.newarray .int, 2) := by decide +kernel
theorem dX9_init_159 : decode cX9_init 159 = .ok (.putfield 67, 3) := by decide +kernel
theorem dX9_init_162 : decode cX9_init 162 = .ok (.aload_n 0, 1) := by decide +kernel
theorem dX9_init_163 : decode cX9_init 163 = .ok (.bipush 8, 2) := by decide +kernel
theorem dX9_init_165 : decode cX9_init 165 = .ok (.newarray .int, 2) := by decide +kernel
theorem dX9_init_167 : decode cX9_init 167 = .ok (.putfield 70, 3) := by decide +kernel
theorem dX9_init_170 : decode cX9_init 170 = .ok (.aload_n 0, 1) := by decide +kernel
theorem dX9_init_171 : decode cX9_init 171 = .ok (.bipush 8, 2) := by decide +kernel
theorem dX9_init_173 : decode cX9_init 173 = .ok (.newarray .int, 2) := by decide +kernel
theorem dX9_init_175 : decode cX9_init 175 = .ok (.putfield 73, 3) := by decide +kernel
theorem dX9_init_178 : decode cX9_init 178 = .ok (.aload_n 0, 1) := by decide +kernel
theorem dX9_init_179 : decode cX9_init 179 = .ok (.sipush 8100, 3) := by decide +kernel
theorem dX9_init_182 : decode cX9_init 182 = .ok (.newarray .long, 2) := by decide +kernel
theorem dX9_init_184 : decode cX9_init 184 = .ok (.putfield 76, 3) := by decide +kernel
theorem dX9_init_187 : decode cX9_init 187 = .ok (.aload_n 0, 1) := by decide +kernel
theorem dX9_init_188 : decode cX9_init 188 = .ok (.sipush 900, 3) := by decide +kernel
theorem dX9_init_191 : decode cX9_init 191 = .ok (.newarray .long, 2) := by decide +kernel
theorem dX9_init_193 : decode cX9_init 193 = .ok (.putfield 80, 3) := by decide +kernel
theorem dX9_init_196 : decode cX9_init 196 = .ok (.aload_n 0, 1) := by decide +kernel
theorem dX9_init_197 : decode cX9_init 197 = .ok (.sipush 900, 3) := by decide +kernel
theorem dX9_init_200 : decode cX9_init 200 = .ok (.newarray .long, 2) := by decide +kernel
theorem dX9_init_202 : decode cX9_init 202 = .ok (.putfield 83, 3) := by decide +kernel
theorem dX9_init_205 : decode cX9_init 205 = .ok (.aload_n 0, 1) := by decide +kernel
theorem dX9_init_206 : decode cX9_init 206 = .ok (.iconst 0, 1) := by decide +kernel
theorem dX9_init_207 : decode cX9_init 207 = .ok (.invokevirtual 86, 3) := by decide +kernel
theorem dX9_init_210 : decode cX9_init 210 = .ok (.aload_n 0, 1) := by decide +kernel
theorem dX9_init_211 : decode cX9_init 211 = .ok (.getfield 16, 3) := by decide +kernel
theorem dX9_init_214 : decode cX9_init 214 = .ok (.iconst 0, 1) := by decide +kernel
theorem dX9_init_215 : decode cX9_init 215 = .ok (.iconst 1, 1) := by decide +kernel
theorem dX9_init_216 : decode cX9_init 216 = .ok (.iastore, 1) := by decide +kernel
theorem dX9_init_217 : decode cX9_init 217 = .ok (.aload_n 0, 1) := by decide +kernel
theorem dX9_init_218 : decode cX9_init 218 = .ok (.getfield 19, 3) := by decide +kernel
theorem dX9_init_221 : decode cX9_init 221 = .ok (.iconst 0, 1) := by decide +kernel
theorem dX9_init_222 : decode cX9_init 222 = .ok (.iconst 1, 1) := by decide +kernel
theorem dX9_init_223 : decode cX9_init 223 = .ok (.iastore, 1) := by decide +kernel
theorem dX9_init_224 : decode cX9_init 224 = .ok (.aload_n 0, 1) := by decide +kernel
theorem dX9_init_225 : decode cX9_init 225 = .ok (.getfield 22, 3) := by decide +kernel
theorem dX9_init_228 : decode cX9_init 228 = .ok (.iconst 0, 1) := by decide +kernel
theorem dX9_init_229 : decode cX9_init 229 = .ok (.iconst 1, 1) := by decide +kernel
theorem dX9_init_230 : decode cX9_init 230 = .ok (.iastore, 1) := by decide +kernel
theorem dX9_init_231 : decode cX9_init 231 = .ok (.aload_n 0, 1) := by decide +kernel
theorem dX9_init_232 : decode cX9_init 232 = .ok (.getfield 25, 3) := by decide +kernel
theorem dX9_init_235 : decode cX9_init 235 = .ok (.iconst 0, 1) := by decide +kernel
theorem dX9_init_236 : decode cX9_init 236 = .ok (.bipush 20, 2) := by decide +kernel
theorem dX9_init_238 : decode cX9_init 238 = .ok (.iastore, 1) := by decide +kernel
theorem dX9_init_239 : decode cX9_init 239 = .ok (.aload_n 0, 1) := by decide +kernel
theorem dX9_init_240 : decode cX9_init 240 = .ok (.getfield 37, 3) := by decide +kernel
theorem dX9_init_243 : decode cX9_init 243 = .ok (.iconst 0, 1) := by decide +kernel
theorem dX9_init_244 : decode cX9_init 244 = .ok (.iconst 1, 1) := by decide +kernel
theorem dX9_init_245 : decode cX9_init 245 = .ok (.iastore, 1) := by decide +kernel
theorem dX9_init_246 : decode cX9_init 246 = .ok (.aload_n 0, 1) := by decide +kernel
theorem dX9_init_247 : decode cX9_init 247 = .ok (.getfield 40, 3) := by decide +kernel
theorem dX9_init_250 : decode cX9_init 250 = .ok (.iconst 0, 1) := by decide +kernel
theorem dX9_init_251 : decode cX9_init 251 = .ok (.bipush 20, 2) := by decide +kernel
theorem dX9_init_253 : decode cX9_init 253 = .ok (.iastore, 1) := by decide +kernel
theorem dX9_init_254 : decode cX9_init 254 = .ok (.aload_n 0, 1) := by decide +kernel
theorem dX9_init_255 : decode cX9_init 255 = .ok (.getfield 43, 3) := by decide +kernel
theorem dX9_init_258 : decode cX9_init 258 = .ok (.iconst 0, 1) := by decide +kernel
theorem dX9_init_259 : decode cX9_init 259 = .ok (.bipush 10, 2) := by decide +kernel
theorem dX9_init_261 : decode cX9_init 261 = .ok (.iastore, 1) := by decide +kernel
theorem dX9_init_262 : decode cX9_init 262 = .ok (.aload_n 0, 1) := by decide +kernel
theorem dX9_init_263 : decode cX9_init 263 = .ok (.invokevirtual 90, 3) := by decide +kernel
theorem dX9_init_266 : decode cX9_init 266 = .ok (.return_, 1) := by decide +kernel
theorem dX9_in_0 : decode cX9_in 0 = .ok (.lload_n 0, 1) := by decide +kernel
theorem dX9_in_1 : decode cX9_in 1 = .ok (.lload_n 2, 1) := by decide +kernel
theorem dX9_in_2 : decode cX9_in 2 = .ok (.lcmp, 1) := by decide +kernel
theorem dX9_in_3 : decode cX9_in 3 = .ok (.ifCond .lt 14, 3) := by decide +kernel
theorem dX9_in_6 : decode cX9_in 6 = .ok (.lload_n 0, 1) := by decide +kernel
theorem dX9_in_7 : decode cX9_in 7 = .ok (.lload 4, 2) := by decide +kernel
theorem dX9_in_9 : decode cX9_in 9 = .ok (.lcmp, 1) := by decide +kernel
theorem dX9_in_10 : decode cX9_in 10 = .ok (.ifCond .gt 7, 3) := by decide +kernel
theorem dX9_in_13 : decode cX9_in 13 = .ok (.iconst 1, 1) := by decide +kernel
theorem dX9_in_14 : decode cX9_in 14 = .ok (.goto 4, 3) := by decide +kernel
theorem dX9_in_17 : decode cX9_in 17 = .ok (.iconst 0, 1) := by decide +kernel
theorem dX9_in_18 : decode cX9_in 18 = .ok (.ireturn, 1) := by decide +kernel
theorem dX9_noBoard_0 : decode cX9_noBoard 0 = .ok (.bipush 10, 2) := by decide +kernel
theorem dX9_noBoard_2 : decode cX9_noBoard 2 = .ok (.iload_n 1, 1) := by decide +kernel
theorem dX9_noBoard_3 : decode cX9_noBoard 3 = .ok (.imul, 1) := by decide +kernel
theorem dX9_noBoard_4 : decode cX9_noBoard 4 = .ok (.istore_n 2, 1) := by decide +kernel
theorem dX9_noBoard_5 : decode cX9_noBoard 5 = .ok (.aload_n 0, 1) := by decide +kernel
theorem dX9_noBoard_6 : decode cX9_noBoard 6 = .ok (.getfield 13, 3) := by decide +kernel
theorem dX9_noBoard_9 : decode cX9_noBoard 9 = .ok (.iload_n 2, 1) := by decide +kernel
theorem dX9_noBoard_10 : decode cX9_noBoard 10 = .ok (.bipush 20, 2) := by decide +kernel
theorem dX9_noBoard_12 : decode cX9_noBoard 12 = .ok (.iastore, 1) := by decide +kernel
theorem dX9_noBoard_13 : decode cX9_noBoard 13 = .ok (.aload_n 0, 1) := by decide +kernel
theorem dX9_noBoard_14 : decode cX9_noBoard 14 = .ok (.getfield 13, 3) := by decide +kernel
theorem dX9_noBoard_17 : decode cX9_noBoard 17 = .ok (.iload_n 2, 1) := by decide +kernel
theorem dX9_noBoard_18 : decode cX9_noBoard 18 = .ok (.iconst 1, 1) := by decide +kernel
theorem dX9_noBoard_19 : decode cX9_noBoard 19 = .ok (.iadd, 1) := by decide +kernel
theorem dX9_noBoard_20 : decode cX9_noBoard 20 = .ok (.iconst 0, 1) := by decide +kernel
theorem dX9_noBoard_21 : decode cX9_noBoard 21 = .ok (.iastore, 1) := by decide +kernel
theorem dX9_noBoard_22 : decode cX9_noBoard 22 = .ok (.aload_n 0, 1) := by decide +kernel
theorem dX9_noBoard_23 : decode cX9_noBoard 23 = .ok (.getfield 13, 3) := by decide +kernel
theorem dX9_noBoard_26 : decode cX9_noBoard 26 = .ok (.iload_n 2, 1) := by decide +kernel
theorem dX9_noBoard_27 : decode cX9_noBoard 27 = .ok (.iconst 2, 1) := by decide +kernel
theorem dX9_noBoard_28 : decode cX9_noBoard 28 = .ok (.iadd, 1) := by decide +kernel
theorem dX9_noBoard_29 : decode cX9_noBoard 29 = .ok (.bipush 9, 2) := by decide +kernel
theorem dX9_noBoard_31 : decode cX9_noBoard 31 = .ok (.iastore, 1) := by decide +kernel
theorem dX9_noBoard_32 : decode cX9_noBoard 32 = .ok (.aload_n 0, 1) := by decide +kernel
theorem dX9_noBoard_33 : decode cX9_noBoard 33 = .ok (.getfield 13, 3) := by decide +kernel
theorem dX9_noBoard_36 : decode cX9_noBoard 36 = .ok (.iload_n 2, 1) := by decide +kernel
theorem dX9_noBoard_37 : decode cX9_noBoard 37 = .ok (.iconst 3, 1) := by decide +kernel
theorem dX9_noBoard_38 : decode cX9_noBoard 38 = .ok (.iadd, 1) := by decide +kernel
theorem dX9_noBoard_39 : decode cX9_noBoard 39 = .ok (.bipush 20, 2) := by decide +kernel
theorem dX9_noBoard_41 : decode cX9_noBoard 41 = .ok (.iastore, 1) := by decide +kernel
theorem dX9_noBoard_42 : decode cX9_noBoard 42 = .ok (.aload_n 0, 1) := by decide +kernel
theorem dX9_noBoard_43 : decode cX9_noBoard 43 = .ok (.getfield 13, 3) := by decide +kernel
theorem dX9_noBoard_46 : decode cX9_noBoard 46 = .ok (.iload_n 2, 1) := by decide +kernel
theorem dX9_noBoard_47 : decode cX9_noBoard 47 = .ok (.iconst 4, 1) := by decide +kernel
theorem dX9_noBoard_48 : decode cX9_noBoard 48 = .ok (.iadd, 1) := by decide +kernel
theorem dX9_noBoard_49 : decode cX9_noBoard 49 = .ok (.iconst 0, 1) := by decide +kernel
theorem dX9_noBoard_50 : decode cX9_noBoard 50 = .ok (.iastore, 1) := by decide +kernel
theorem dX9_noBoard_51 : decode cX9_noBoard 51 = .ok (.aload_n 0, 1) := by decide +kernel
theorem dX9_noBoard_52 : decode cX9_noBoard 52 = .ok (.getfield 13, 3) := by decide +kernel
theorem dX9_noBoard_55 : decode cX9_noBoard 55 = .ok (.iload_n 2, 1) := by decide +kernel
theorem dX9_noBoard_56 : decode cX9_noBoard 56 = .ok (.iconst 5, 1) := by decide +kernel
theorem dX9_noBoard_57 : decode cX9_noBoard 57 = .ok (.iadd, 1) := by decide +kernel
theorem dX9_noBoard_58 : decode cX9_noBoard 58 = .ok (.iconst 0, 1) := by decide +kernel
theorem dX9_noBoard_59 : decode cX9_noBoard 59 = .ok (.iastore, 1) := by decide +kernel
theorem dX9_noBoard_60 : decode cX9_noBoard 60 = .ok (.aload_n 0, 1) := by decide +kernel
theorem dX9_noBoard_61 : decode cX9_noBoard 61 = .ok (.getfield 13, 3) := by decide +kernel
theorem dX9_noBoard_64 : decode cX9_noBoard 64 = .ok (.iload_n 2, 1) := by decide +kernel
theorem dX9_noBoard_65 : decode cX9_noBoard 65 = .ok (.bipush 6, 2) := by decide +kernel
theorem dX9_noBoard_67 : decode cX9_noBoard 67 = .ok (.iadd, 1) := by decide +kernel
theorem dX9_noBoard_68 : decode cX9_noBoard 68 = .ok (.iconst 0, 1) := by decide +kernel
theorem dX9_noBoard_69 : decode cX9_noBoard 69 = .ok (.iastore, 1) := by decide +kernel
theorem dX9_noBoard_70 : decode cX9_noBoard 70 = .ok (.aload_n 0, 1) := by decide +kernel
theorem dX9_noBoard_71 : decode cX9_noBoard 71 = .ok (.getfield 13, 3) := by decide +kernel
theorem dX9_noBoard_74 : decode cX9_noBoard 74 = .ok (.iload_n 2, 1) := by decide +kernel
theorem dX9_noBoard_75 : decode cX9_noBoard 75 = .ok (.bipush 7, 2) := by decide +kernel
theorem dX9_noBoard_77 : decode cX9_noBoard 77 = .ok (.iadd, 1) := by decide +kernel
theorem dX9_noBoard_78 : decode cX9_noBoard 78 = .ok (.iconst 0, 1) := by decide +kernel
theorem dX9_noBoard_79 : decode cX9_noBoard 79 = .ok (.iastore, 1) := by decide +kernel
theorem dX9_noBoard_80 : decode cX9_noBoard 80 = .ok (.aload_n 0, 1) := by decide +kernel
theorem dX9_noBoard_81 : decode cX9_noBoard 81 = .ok (.getfield 13, 3) := by decide +kernel
theorem dX9_noBoard_84 : decode cX9_noBoard 84 = .ok (.iload_n 2, 1) := by decide +kernel
theorem dX9_noBoard_85 : decode cX9_noBoard 85 = .ok (.bipush 8, 2) := by decide +kernel
theorem dX9_noBoard_87 : decode cX9_noBoard 87 = .ok (.iadd, 1) := by decide +kernel
theorem dX9_noBoard_88 : decode cX9_noBoard 88 = .ok (.iconst 0, 1) := by decide +kernel
theorem dX9_noBoard_89 : decode cX9_noBoard 89 = .ok (.iastore, 1) := by decide +kernel
theorem dX9_noBoard_90 : decode cX9_noBoard 90 = .ok (.aload_n 0, 1) := by decide +kernel
theorem dX9_noBoard_91 : decode cX9_noBoard 91 = .ok (.getfield 13, 3) := by decide +kernel
theorem dX9_noBoard_94 : decode cX9_noBoard 94 = .ok (.iload_n 2, 1) := by decide +kernel
theorem dX9_noBoard_95 : decode cX9_noBoard 95 = .ok (.bipush 9, 2) := by decide +kernel
theorem dX9_noBoard_97 : decode cX9_noBoard 97 = .ok (.iadd, 1) := by decide +kernel
theorem dX9_noBoard_98 : decode cX9_noBoard 98 = .ok (.iconst 0, 1) := by decide +kernel
theorem dX9_noBoard_99 : decode cX9_noBoard 99 = .ok (.iastore, 1) := by decide +kernel
theorem dX9_noBoard_100 : decode cX9_noBoard 100 = .ok (.aload_n 0, 1) := by decide +kernel
theorem dX9_noBoard_101 : decode cX9_noBoard 101 = .ok (.getfield 16, 3) := by decide +kernel
theorem dX9_noBoard_104 : decode cX9_noBoard 104 = .ok (.iload_n 1, 1) := by decide +kernel
theorem dX9_noBoard_105 : decode cX9_noBoard 105 = .ok (.iconst 0, 1) := by decide +kernel
theorem dX9_noBoard_106 : decode cX9_noBoard 106 = .ok (.iastore, 1) := by decide +kernel
theorem dX9_noBoard_107 : decode cX9_noBoard 107 = .ok (.return_, 1) := by decide +kernel
theorem dX9_write_0 : decode cX9_write 0 = .ok (.iload_n 1, 1) := by decide +kernel
theorem dX9_write_1 : decode cX9_write 1 = .ok (.i2l, 1) := by decide +kernel
theorem dX9_write_2 : decode cX9_write 2 = .ok (.lconst 1, 1) := by decide +kernel
theorem dX9_write_3 : decode cX9_write 3 = .ok (.ldc2_w 93, 3) := by decide +kernel
theorem dX9_write_6 : decode cX9_write 6 = .ok (.invokestatic 95, 3) := by decide +kernel
theorem dX9_write_9 : decode cX9_write 9 = .ok (.ifCond .ne 5, 3) := by decide +kernel
theorem dX9_write_12 : decode cX9_write 12 = .ok (.iconst (-1), 1) := by decide +kernel
theorem dX9_write_13 : decode cX9_write 13 = .ok (.ireturn, 1) := by decide +kernel
theorem dX9_write_14 : decode cX9_write 14 = .ok (.aload_n 0, 1) := by decide +kernel
theorem dX9_write_15 : decode cX9_write 15 = .ok (.getfield 99, 3) := by decide +kernel
theorem dX9_write_18 : decode cX9_write 18 = .ok (.iload_n 1, 1) := by decide +kernel
theorem dX9_write_19 : decode cX9_write 19 = .ok (.iadd, 1) := by decide +kernel
theorem dX9_write_20 : decode cX9_write 20 = .ok (.sipush 300, 3) := by decide +kernel
theorem dX9_write_23 : decode cX9_write 23 = .ok (.if_icmp .le 6, 3) := by decide +kernel
theorem dX9_write_26 : decode cX9_write 26 = .ok (.bipush (-3), 2) := by decide +kernel
theorem dX9_write_28 : decode cX9_write 28 = .ok (.ireturn, 1) := by decide +kernel
theorem dX9_write_29 : decode cX9_write 29 = .ok (.iload_n 1, 1) := by decide +kernel
theorem dX9_write_30 : decode cX9_write 30 = .ok (.iconst 1, 1) := by decide +kernel
theorem dX9_write_31 : decode cX9_write 31 = .ok (.isub, 1) := by decide +kernel
theorem dX9_write_32 : decode cX9_write 32 = .ok (.istore 4, 2) := by decide +kernel
theorem dX9_write_34 : decode cX9_write 34 = .ok (.iload 4, 2) := by decide +kernel
theorem dX9_write_36 : decode cX9_write 36 = .ok (.ifCond .lt 40, 3) := by decide +kernel
theorem dX9_write_39 : decode cX9_write 39 = .ok (.aload_n 0, 1) := by decide +kernel
theorem dX9_write_40 : decode cX9_write 40 = .ok (.getfield 7, 3) := by decide +kernel
theorem dX9_write_43 : decode cX9_write 43 = .ok (.aload_n 0, 1) := by decide +kernel
theorem dX9_write_44 : decode cX9_write 44 = .ok (.getfield 99, 3) := by decide +kernel
theorem dX9_write_47 : decode cX9_write 47 = .ok (.lload_n 2, 1) := by decide +kernel
theorem dX9_write_48 : decode cX9_write 48 = .ok (.bipush 8, 2) := by decide +kernel
theorem dX9_write_50 : decode cX9_write 50 = .ok (.iload 4, 2) := by decide +kernel
theorem dX9_write_52 : decode cX9_write 52 = .ok (.imul, 1) := by decide +kernel
theorem dX9_write_53 : decode cX9_write 53 = .ok (.lshr, 1) := by decide +kernel
theorem dX9_write_54 : decode cX9_write 54 = .ok (.ldc2_w 103, 3) := by decide +kernel
theorem dX9_write_57 : decode cX9_write 57 = .ok (.land, 1) := by decide +kernel
theorem dX9_write_58 : decode cX9_write 58 = .ok (.l2i, 1) := by decide +kernel
theorem dX9_write_59 : decode cX9_write 59 = .ok (.iastore, 1) := by decide +kernel
theorem dX9_write_60 : decode cX9_write 60 = .ok (.aload_n 0, 1) := by decide +kernel
theorem dX9_write_61 : decode cX9_write 61 = .ok (.dup, 1) := by decide +kernel
theorem dX9_write_62 : decode cX9_write 62 = .ok (.getfield 99, 3) := by decide +kernel
theorem dX9_write_65 : decode cX9_write 65 = .ok (.iconst 1, 1) := by decide +kernel
theorem dX9_write_66 : decode cX9_write 66 = .ok (.iadd, 1) := by decide +kernel
theorem dX9_write_67 : decode cX9_write 67 = .ok (.putfield 99, 3) := by decide +kernel
theorem dX9_write_70 : decode cX9_write 70 = .ok (.iinc 4 (-1), 3) := by decide +kernel
theorem dX9_write_73 : decode cX9_write 73 = .ok (.goto (-39), 3) := by decide +kernel
theorem dX9_write_76 : decode cX9_write 76 = .ok (.aload_n 0, 1) := by decide +kernel
theorem dX9_write_77 : decode cX9_write 77 = .ok (.getfield 99, 3) := by decide +kernel
theorem dX9_write_80 : decode cX9_write 80 = .ok (.ireturn, 1) := by decide +kernel
theorem dX9_wipe_0 : decode cX9_wipe 0 = .ok (.aload_n 0, 1) := by decide +kernel
theorem dX9_wipe_1 : decode cX9_wipe 1 = .ok (.getfield 99, 3) := by decide +kernel
theorem dX9_wipe_4 : decode cX9_wipe 4 = .ok (.istore_n 1, 1) := by decide +kernel
theorem dX9_wipe_5 : decode cX9_wipe 5 = .ok (.aload_n 0, 1) := by decide +kernel
theorem dX9_wipe_6 : decode cX9_wipe 6 = .ok (.iconst 0, 1) := by decide +kernel
theorem dX9_wipe_7 : decode cX9_wipe 7 = .ok (.putfield 99, 3) := by decide +kernel
theorem dX9_wipe_10 : decode cX9_wipe 10 = .ok (.iload_n 1, 1) := by decide +kernel
theorem dX9_wipe_11 : decode cX9_wipe 11 = .ok (.ireturn, 1) := by decide +kernel
theorem dX9_byteAt_0 : decode cX9_byteAt 0 = .ok (.iload_n 1, 1) := by decide +kernel
theorem dX9_byteAt_1 : decode cX9_byteAt 1 = .ok (.aload_n 0, 1) := by decide +kernel
theorem dX9_byteAt_2 : decode cX9_byteAt 2 = .ok (.getfield 99, 3) := by decide +kernel
theorem dX9_byteAt_5 : decode cX9_byteAt 5 = .ok (.if_icmp .ge 12, 3) := by decide +kernel
theorem dX9_byteAt_8 : decode cX9_byteAt 8 = .ok (.aload_n 0, 1) := by decide +kernel
theorem dX9_byteAt_9 : decode cX9_byteAt 9 = .ok (.getfield 7, 3) := by decide +kernel
theorem dX9_byteAt_12 : decode cX9_byteAt 12 = .ok (.iload_n 1, 1) := by decide +kernel
theorem dX9_byteAt_13 : decode cX9_byteAt 13 = .ok (.iaload, 1) := by decide +kernel
theorem dX9_byteAt_14 : decode cX9_byteAt 14 = .ok (.goto 4, 3) := by decide +kernel
theorem dX9_byteAt_17 : decode cX9_byteAt 17 = .ok (.iconst 0, 1) := by decide +kernel
theorem dX9_byteAt_18 : decode cX9_byteAt 18 = .ok (.ireturn, 1) := by decide +kernel
theorem dX9_figures_0 : decode cX9_figures 0 = .ok (.iconst 0, 1) := by decide +kernel
theorem dX9_figures_1 : decode cX9_figures 1 = .ok (.istore_n 2, 1) := by decide +kernel
theorem dX9_figures_2 : decode cX9_figures 2 = .ok (.iload_n 2, 1) := by decide +kernel
theorem dX9_figures_3 : decode cX9_figures 3 = .ok (.iload_n 1, 1) := by decide +kernel
theorem dX9_figures_4 : decode cX9_figures 4 = .ok (.if_icmp .ge 132, 3) := by decide +kernel
theorem dX9_figures_7 : decode cX9_figures 7 = .ok (.iconst 0, 1) := by decide +kernel
theorem dX9_figures_8 : decode cX9_figures 8 = .ok (.istore_n 3, 1) := by decide +kernel
theorem dX9_figures_9 : decode cX9_figures 9 = .ok (.iconst 0, 1) := by decide +kernel
theorem dX9_figures_10 : decode cX9_figures 10 = .ok (.istore 4, 2) := by decide +kernel
theorem dX9_figures_12 : decode cX9_figures 12 = .ok (.aload_n 0, 1) := by decide +kernel
theorem dX9_figures_13 : decode cX9_figures 13 = .ok (.aload_n 0, 1) := by decide +kernel
theorem dX9_figures_14 : decode cX9_figures 14 = .ok (.getfield 105, 3) := by decide +kernel
theorem dX9_figures_17 : decode cX9_figures 17 = .ok (.invokevirtual 108, 3) := by decide +kernel
theorem dX9_figures_20 : decode cX9_figures 20 = .ok (.i2l, 1) := by decide +kernel
theorem dX9_figures_21 : decode cX9_figures 21 = .ok (.ldc2_w 112, 3) := by decide +kernel
theorem dX9_figures_24 : decode cX9_figures 24 = .ok (.ldc2_w 114, 3) := by decide +kernel
theorem dX9_figures_27 : decode cX9_figures 27 = .ok (.invokestatic 95, 3) := by decide +kernel
theorem dX9_figures_30 : decode cX9_figures 30 = .ok (.ifCond .eq 43, 3) := by decide +kernel
theorem dX9_figures_33 : decode cX9_figures 33 = .ok (.iload_n 3, 1) := by decide +kernel
theorem dX9_figures_34 : decode cX9_figures 34 = .ok (.iconst 4, 1) := by decide +kernel
theorem dX9_figures_35 : decode cX9_figures 35 = .ok (.if_icmp .ge 38, 3) := by decide +kernel
theorem dX9_figures_38 : decode cX9_figures 38 = .ok (.bipush 10, 2) := by decide +kernel
theorem dX9_figures_40 : decode cX9_figures 40 = .ok (.iload 4, 2) := by decide +kernel
theorem dX9_figures_42 : decode cX9_figures 42 = .ok (.imul, 1) := by decide +kernel
theorem dX9_figures_43 : decode cX9_figures 43 = .ok (.aload_n 0, 1) := by decide +kernel
theorem dX9_figures_44 : decode cX9_figures 44 = .ok (.aload_n 0, 1) := by decide +kernel
theorem dX9_figures_45 : decode cX9_figures 45 = .ok (.getfield 105, 3) := by decide +kernel
theorem dX9_figures_48 : decode cX9_figures 48 = .ok (.invokevirtual 108, 3) := by decide +kernel
theorem dX9_figures_51 : decode cX9_figures 51 = .ok (.iadd, 1) := by decide +kernel
theorem dX9_figures_52 : decode cX9_figures 52 = .ok (.bipush 48, 2) := by decide +kernel
theorem dX9_figures_54 : decode cX9_figures 54 = .ok (.isub, 1) := by decide +kernel
theorem dX9_figures_55 : decode cX9_figures 55 = .ok (.istore 4, 2) := by decide +kernel
theorem dX9_figures_57 : decode cX9_figures 57 = .ok (.iinc 3 1, 3) := by decide +kernel
theorem dX9_figures_60 : decode cX9_figures 60 = .ok (.aload_n 0, 1) := by decide +kernel
theorem dX9_figures_61 : decode cX9_figures 61 = .ok (.dup, 1) := by decide +kernel
theorem dX9_figures_62 : decode cX9_figures 62 = .ok (.getfield 105, 3) := by decide +kernel
theorem dX9_figures_65 : decode cX9_figures 65 = .ok (.iconst 1, 1) := by decide +kernel
theorem dX9_figures_66 : decode cX9_figures 66 = .ok (.iadd, 1) := by decide +kernel
theorem dX9_figures_67 : decode cX9_figures 67 = .ok (.putfield 105, 3) := by decide +kernel
theorem dX9_figures_70 : decode cX9_figures 70 = .ok (.goto (-58), 3) := by decide +kernel
theorem dX9_figures_73 : decode cX9_figures 73 = .ok (.iload_n 3, 1) := by decide +kernel
theorem dX9_figures_74 : decode cX9_figures 74 = .ok (.i2l, 1) := by decide +kernel
theorem dX9_figures_75 : decode cX9_figures 75 = .ok (.lconst 1, 1) := by decide +kernel
theorem dX9_figures_76 : decode cX9_figures 76 = .ok (.ldc2_w 116, 3) := by decide +kernel
theorem dX9_figures_79 : decode cX9_figures 79 = .ok (.invokestatic 95, 3) := by decide +kernel
theorem dX9_figures_82 : decode cX9_figures 82 = .ok (.ifCond .eq 28, 3) := by decide +kernel
theorem dX9_figures_85 : decode cX9_figures 85 = .ok (.aload_n 0, 1) := by decide +kernel
theorem dX9_figures_86 : decode cX9_figures 86 = .ok (.aload_n 0, 1) := by decide +kernel
theorem dX9_figures_87 : decode cX9_figures 87 = .ok (.getfield 105, 3) := by decide +kernel
theorem dX9_figures_90 : decode cX9_figures 90 = .ok (.invokevirtual 108, 3) := by decide +kernel
theorem dX9_figures_93 : decode cX9_figures 93 = .ok (.iload_n 2, 1) := by decide +kernel
theorem dX9_figures_94 : decode cX9_figures 94 = .ok (.iload_n 1, 1) := by decide +kernel
theorem dX9_figures_95 : decode cX9_figures 95 = .ok (.iconst 1, 1) := by decide +kernel
theorem dX9_figures_96 : decode cX9_figures 96 = .ok (.isub, 1) := by decide +kernel
theorem dX9_figures_97 : decode cX9_figures 97 = .ok (.if_icmp .ge 8, 3) := by decide +kernel
theorem dX9_figures_100 : decode cX9_figures 100 = .ok (.bipush 44, 2) := by decide +kernel
theorem dX9_figures_102 : decode cX9_figures 102 = .ok (.goto 5, 3) := by decide +kernel
theorem dX9_figures_105 : decode cX9_figures 105 = .ok (.bipush 59, 2) := by decide +kernel
theorem dX9_figures_107 : decode cX9_figures 107 = .ok (.if_icmp .eq 5, 3) := by decide +kernel
theorem dX9_figures_110 : decode cX9_figures 110 = .ok (.iconst 0, 1) := by decide +kernel
theorem dX9_figures_111 : decode cX9_figures 111 = .ok (.ireturn, 1) := by decide +kernel
theorem dX9_figures_112 : decode cX9_figures 112 = .ok (.aload_n 0, 1) := by decide +kernel
theorem dX9_figures_113 : decode cX9_figures 113 = .ok (.getfield 58, 3) := by decide +kernel
theorem dX9_figures_116 : decode cX9_figures 116 = .ok (.iload_n 2, 1) := by decide +kernel
theorem dX9_figures_117 : decode cX9_figures 117 = .ok (.iload 4, 2) := by decide +kernel
theorem dX9_figures_119 : decode cX9_figures 119 = .ok (.iastore, 1) := by decide +kernel
theorem dX9_figures_120 : decode cX9_figures 120 = .ok (.aload_n 0, 1) := by decide +kernel
theorem dX9_figures_121 : decode cX9_figures 121 = .ok (.dup, 1) := by decide +kernel
theorem dX9_figures_122 : decode cX9_figures 122 = .ok (.getfield 105, 3) := by decide +kernel
theorem dX9_figures_125 : decode cX9_figures 125 = .ok (.iconst 1, 1) := by decide +kernel
theorem dX9_figures_126 : decode cX9_figures 126 = .ok (.iadd, 1) := by decide +kernel
theorem dX9_figures_127 : decode cX9_figures 127 = .ok (.putfield 105, 3) := by decide +kernel
theorem dX9_figures_130 : decode cX9_figures 130 = .ok (.iinc 2 1, 3) := by decide +kernel
theorem dX9_figures_133 : decode cX9_figures 133 = .ok (.goto (-131), 3) := by decide +kernel
theorem dX9_figures_136 : decode cX9_figures 136 = .ok (.iconst 1, 1) := by decide +kernel
theorem dX9_figures_137 : decode cX9_figures 137 = .ok (.ireturn, 1) := by decide +kernel
theorem dX9_numberItem_0 : decode cX9_numberItem 0 = .ok (.aload_n 0, 1) := by decide +kernel
theorem dX9_numberItem_1 : decode cX9_numberItem 1 = .ok (.iload_n 2, 1) := by decide +kernel
theorem dX9_numberItem_2 : decode cX9_numberItem 2 = .ok (.invokevirtual 118, 3) := by decide +kernel
theorem dX9_numberItem_5 : decode cX9_numberItem 5 = .ok (.ifCond .eq 37, 3) := by decide +kernel
theorem dX9_numberItem_8 : decode cX9_numberItem 8 = .ok (.aload_n 0, 1) := by decide +kernel
theorem dX9_numberItem_9 : decode cX9_numberItem 9 = .ok (.getfield 58, 3) := by decide +kernel
theorem dX9_numberItem_12 : decode cX9_numberItem 12 = .ok (.iconst 0, 1) := by decide +kernel
theorem dX9_numberItem_13 : decode cX9_numberItem 13 = .ok (.iaload, 1) := by decide +kernel
theorem dX9_numberItem_14 : decode cX9_numberItem 14 = .ok (.i2l, 1) := by decide +kernel
theorem dX9_numberItem_15 : decode cX9_numberItem 15 = .ok (.iload_n 3, 1) := by decide +kernel
theorem dX9_numberItem_16 : decode cX9_numberItem 16 = .ok (.i2l, 1) := by decide +kernel
theorem dX9_numberItem_17 : decode cX9_numberItem 17 = .ok (.iload 4, 2) := by decide +kernel
theorem dX9_numberItem_19 : decode cX9_numberItem 19 = .ok (.i2l, 1) := by decide +kernel
theorem dX9_numberItem_20 : decode cX9_numberItem 20 = .ok (.invokestatic 95, 3) := by decide +kernel
theorem dX9_numberItem_23 : decode cX9_numberItem 23 = .ok (.ifCond .eq 19, 3) := by decide +kernel
theorem dX9_numberItem_26 : decode cX9_numberItem 26 = .ok (.iload_n 2, 1) := by decide +kernel
theorem dX9_numberItem_27 : decode cX9_numberItem 27 = .ok (.iconst 2, 1) := by decide +kernel
theorem dX9_numberItem_28 : decode cX9_numberItem 28 = .ok (.if_icmp .ne 16, 3) := by decide +kernel
theorem dX9_numberItem_31 : decode cX9_numberItem 31 = .ok (.aload_n 0, 1) := by decide +kernel
theorem dX9_numberItem_32 : decode cX9_numberItem 32 = .ok (.getfield 58, 3) := by decide +kernel
theorem dX9_numberItem_35 : decode cX9_numberItem 35 = .ok (.iconst 1, 1) := by decide +kernel
theorem dX9_numberItem_36 : decode cX9_numberItem 36 = .ok (.iaload, 1) := by decide +kernel
theorem dX9_numberItem_37 : decode cX9_numberItem 37 = .ok (.iload 5, 2) := by decide +kernel
theorem dX9_numberItem_39 : decode cX9_numberItem 39 = .ok (.if_icmp .le 5, 3) := by decide +kernel
theorem dX9_numberItem_42 : decode cX9_numberItem 42 = .ok (.iconst 0, 1) := by decide +kernel
theorem dX9_numberItem_43 : decode cX9_numberItem 43 = .ok (.ireturn, 1) := by decide +kernel
theorem dX9_numberItem_44 : decode cX9_numberItem 44 = .ok (.iconst 0, 1) := by decide +kernel
theorem dX9_numberItem_45 : decode cX9_numberItem 45 = .ok (.istore 6, 2) := by decide +kernel
theorem dX9_numberItem_47 : decode cX9_numberItem 47 = .ok (.iload 6, 2) := by decide +kernel
theorem dX9_numberItem_49 : decode cX9_numberItem 49 = .ok (.iload_n 2, 1) := by decide +kernel
theorem dX9_numberItem_50 : decode cX9_numberItem 50 = .ok (.if_icmp .ge 28, 3) := by decide +kernel
theorem dX9_numberItem_53 : decode cX9_numberItem 53 = .ok (.aload_n 0, 1) := by decide +kernel
theorem dX9_numberItem_54 : decode cX9_numberItem 54 = .ok (.getfield 13, 3) := by decide +kernel
theorem dX9_numberItem_57 : decode cX9_numberItem 57 = .ok (.bipush 10, 2) := by decide +kernel
theorem dX9_numberItem_59 : decode cX9_numberItem 59 = .ok (.iload_n 1, 1) := by decide +kernel
theorem dX9_numberItem_60 : decode cX9_numberItem 60 = .ok (.iadd, 1) := by decide +kernel
theorem dX9_numberItem_61 : decode cX9_numberItem 61 = .ok (.iload 6, 2) := by decide +kernel
theorem dX9_numberItem_63 : decode cX9_numberItem 63 = .ok (.iadd, 1) := by decide +kernel
theorem dX9_numberItem_64 : decode cX9_numberItem 64 = .ok (.aload_n 0, 1) := by decide +kernel
theorem dX9_numberItem_65 : decode cX9_numberItem 65 = .ok (.getfield 58, 3) := by decide +kernel
theorem dX9_numberItem_68 : decode cX9_numberItem 68 = .ok (.iload 6, 2) := by decide +kernel
theorem dX9_numberItem_70 : decode cX9_numberItem 70 = .ok (.iaload, 1) := by decide +kernel
theorem dX9_numberItem_71 : decode cX9_numberItem 71 = .ok (.iastore, 1) := by decide +kernel
theorem dX9_numberItem_72 : decode cX9_numberItem 72 = .ok (.iinc 6 1, 3) := by decide +kernel
theorem dX9_numberItem_75 : decode cX9_numberItem 75 = .ok (.goto (-28), 3) := by decide +kernel
theorem dX9_numberItem_78 : decode cX9_numberItem 78 = .ok (.iconst 1, 1) := by decide +kernel
theorem dX9_numberItem_79 : decode cX9_numberItem 79 = .ok (.ireturn, 1) := by decide +kernel
theorem dX9_readGivers_0 : decode cX9_readGivers 0 = .ok (.iconst 0, 1) := by decide +kernel
theorem dX9_readGivers_1 : decode cX9_readGivers 1 = .ok (.istore_n 1, 1) := by decide +kernel
theorem dX9_readGivers_2 : decode cX9_readGivers 2 = .ok (.iconst 0, 1) := by decide +kernel
theorem dX9_readGivers_3 : decode cX9_readGivers 3 = .ok (.istore_n 2, 1) := by decide +kernel
theorem dX9_readGivers_4 : decode cX9_readGivers 4 = .ok (.iload_n 2, 1) := by decide +kernel
theorem dX9_readGivers_5 : decode cX9_readGivers 5 = .ok (.aload_n 0, 1) := by decide +kernel
theorem dX9_readGivers_6 : decode cX9_readGivers 6 = .ok (.getfield 16, 3) := by decide +kernel
theorem dX9_readGivers_9 : decode cX9_readGivers 9 = .ok (.iconst 1, 1) := by decide +kernel
theorem dX9_readGivers_10 : decode cX9_readGivers 10 = .ok (.iaload, 1) := by decide +kernel
theorem dX9_readGivers_11 : decode cX9_readGivers 11 = .ok (.if_icmp .ge 21, 3) := by decide +kernel
theorem dX9_readGivers_14 : decode cX9_readGivers 14 = .ok (.iload_n 1, 1) := by decide +kernel
theorem dX9_readGivers_15 : decode cX9_readGivers 15 = .ok (.aload_n 0, 1) := by decide +kernel
theorem dX9_readGivers_16 : decode cX9_readGivers 16 = .ok (.getfield 19, 3) := by decide +kernel
theorem dX9_readGivers_19 : decode cX9_readGivers 19 = .ok (.bipush 6, 2) := by decide +kernel
theorem dX9_readGivers_21 : decode cX9_readGivers 21 = .ok (.iload_n 2, 1) := by decide +kernel
theorem dX9_readGivers_22 : decode cX9_readGivers 22 = .ok (.iadd, 1) := by decide +kernel
theorem dX9_readGivers_23 : decode cX9_readGivers 23 = .ok (.iaload, 1) := by decide +kernel
theorem dX9_readGivers_24 : decode cX9_readGivers 24 = .ok (.iadd, 1) := by decide +kernel
theorem dX9_readGivers_25 : decode cX9_readGivers 25 = .ok (.istore_n 1, 1) := by decide +kernel
theorem dX9_readGivers_26 : decode cX9_readGivers 26 = .ok (.iinc 2 1, 3) := by decide +kernel
theorem dX9_readGivers_29 : decode cX9_readGivers 29 = .ok (.goto (-25), 3) := by decide +kernel
theorem dX9_readGivers_32 : decode cX9_readGivers 32 = .ok (.iload_n 1, 1) := by decide +kernel
theorem dX9_readGivers_33 : decode cX9_readGivers 33 = .ok (.ireturn, 1) := by decide +kernel
theorem dX9_sortItem_0 : decode cX9_sortItem 0 = .ok (.bipush 6, 2) := by decide +kernel
theorem dX9_sortItem_2 : decode cX9_sortItem 2 = .ok (.aload_n 0, 1) := by decide +kernel
theorem dX9_sortItem_3 : decode cX9_sortItem 3 = .ok (.getfield 16, 3) := by decide +kernel
theorem dX9_sortItem_6 : decode cX9_sortItem 6 = .ok (.iconst 1, 1) := by decide +kernel
theorem dX9_sortItem_7 : decode cX9_sortItem 7 = .ok (.iaload, 1) := by decide +kernel
theorem dX9_sortItem_8 : decode cX9_sortItem 8 = .ok (.iadd, 1) := by decide +kernel
theorem dX9_sortItem_9 : decode cX9_sortItem 9 = .ok (.istore_n 1, 1) := by decide +kernel
theorem dX9_sortItem_10 : decode cX9_sortItem 10 = .ok (.aload_n 0, 1) := by decide +kernel
theorem dX9_sortItem_11 : decode cX9_sortItem 11 = .ok (.iconst 5, 1) := by decide +kernel
theorem dX9_sortItem_12 : decode cX9_sortItem 12 = .ok (.invokevirtual 118, 3) := by decide +kernel
theorem dX9_sortItem_15 : decode cX9_sortItem 15 = .ok (.ifCond .eq 90, 3) := by decide +kernel
theorem dX9_sortItem_18 : decode cX9_sortItem 18 = .ok (.aload_n 0, 1) := by decide +kernel
theorem dX9_sortItem_19 : decode cX9_sortItem 19 = .ok (.getfield 16, 3) := by decide +kernel
theorem dX9_sortItem_22 : decode cX9_sortItem 22 = .ok (.iconst 1, 1) := by decide +kernel
theorem dX9_sortItem_23 : decode cX9_sortItem 23 = .ok (.iaload, 1) := by decide +kernel
theorem dX9_sortItem_24 : decode cX9_sortItem 24 = .ok (.bipush 6, 2) := by decide +kernel
theorem dX9_sortItem_26 : decode cX9_sortItem 26 = .ok (.if_icmp .eq 79, 3) := by decide +kernel
theorem dX9_sortItem_29 : decode cX9_sortItem 29 = .ok (.aload_n 0, 1) := by decide +kernel
theorem dX9_sortItem_30 : decode cX9_sortItem 30 = .ok (.getfield 58, 3) := by decide +kernel
theorem dX9_sortItem_33 : decode cX9_sortItem 33 = .ok (.iconst 0, 1) := by decide +kernel
theorem dX9_sortItem_34 : decode cX9_sortItem 34 = .ok (.iaload, 1) := by decide +kernel
theorem dX9_sortItem_35 : decode cX9_sortItem 35 = .ok (.i2l, 1) := by decide +kernel
theorem dX9_sortItem_36 : decode cX9_sortItem 36 = .ok (.lconst 1, 1) := by decide +kernel
theorem dX9_sortItem_37 : decode cX9_sortItem 37 = .ok (.ldc2_w 93, 3) := by decide +kernel
theorem dX9_sortItem_40 : decode cX9_sortItem 40 = .ok (.invokestatic 95, 3) := by decide +kernel
theorem dX9_sortItem_43 : decode cX9_sortItem 43 = .ok (.ifCond .eq 62, 3) := by decide +kernel
theorem dX9_sortItem_46 : decode cX9_sortItem 46 = .ok (.aload_n 0, 1) := by decide +kernel
theorem dX9_sortItem_47 : decode cX9_sortItem 47 = .ok (.invokevirtual 122, 3) := by decide +kernel
theorem dX9_sortItem_50 : decode cX9_sortItem 50 = .ok (.aload_n 0, 1) := by decide +kernel
theorem dX9_sortItem_51 : decode cX9_sortItem 51 = .ok (.getfield 58, 3) := by decide +kernel
theorem dX9_sortItem_54 : decode cX9_sortItem 54 = .ok (.iconst 0, 1) := by decide +kernel
theorem dX9_sortItem_55 : decode cX9_sortItem 55 = .ok (.iaload, 1) := by decide +kernel
theorem dX9_sortItem_56 : decode cX9_sortItem 56 = .ok (.iadd, 1) := by decide +kernel
theorem dX9_sortItem_57 : decode cX9_sortItem 57 = .ok (.bipush 8, 2) := by decide +kernel
theorem dX9_sortItem_59 : decode cX9_sortItem 59 = .ok (.if_icmp .gt 46, 3) := by decide +kernel
theorem dX9_sortItem_62 : decode cX9_sortItem 62 = .ok (.aload_n 0, 1) := by decide +kernel
theorem dX9_sortItem_63 : decode cX9_sortItem 63 = .ok (.getfield 58, 3) := by decide +kernel
theorem dX9_sortItem_66 : decode cX9_sortItem 66 = .ok (.iconst 1, 1) := by decide +kernel
theorem dX9_sortItem_67 : decode cX9_sortItem 67 = .ok (.iaload, 1) := by decide +kernel
theorem dX9_sortItem_68 : decode cX9_sortItem 68 = .ok (.iconst 5, 1) := by decide +kernel
theorem dX9_sortItem_69 : decode cX9_sortItem 69 = .ok (.if_icmp .gt 36, 3) := by decide +kernel
theorem dX9_sortItem_72 : decode cX9_sortItem 72 = .ok (.aload_n 0, 1) := by decide +kernel
theorem dX9_sortItem_73 : decode cX9_sortItem 73 = .ok (.getfield 58, 3) := by decide +kernel
theorem dX9_sortItem_76 : decode cX9_sortItem 76 = .ok (.iconst 2, 1) := by decide +kernel
theorem dX9_sortItem_77 : decode cX9_sortItem 77 = .ok (.iaload, 1) := by decide +kernel
theorem dX9_sortItem_78 : decode cX9_sortItem 78 = .ok (.bipush 30, 2) := by decide +kernel
theorem dX9_sortItem_80 : decode cX9_sortItem 80 = .ok (.if_icmp .gt 25, 3) := by decide +kernel
theorem dX9_sortItem_83 : decode cX9_sortItem 83 = .ok (.aload_n 0, 1) := by decide +kernel
theorem dX9_sortItem_84 : decode cX9_sortItem 84 = .ok (.getfield 58, 3) := by decide +kernel
theorem dX9_sortItem_87 : decode cX9_sortItem 87 = .ok (.iconst 3, 1) := by decide +kernel
theorem dX9_sortItem_88 : decode cX9_sortItem 88 = .ok (.iaload, 1) := by decide +kernel
theorem dX9_sortItem_89 : decode cX9_sortItem 89 = .ok (.bipush 30, 2) := by decide +kernel
theorem dX9_sortItem_91 : decode cX9_sortItem 91 = .ok (.if_icmp .gt 14, 3) := by decide +kernel
theorem dX9_sortItem_94 : decode cX9_sortItem 94 = .ok (.aload_n 0, 1) := by decide +kernel
theorem dX9_sortItem_95 : decode cX9_sortItem 95 = .ok (.getfield 58, 3) := by decide +kernel
theorem dX9_sortItem_98 : decode cX9_sortItem 98 = .ok (.iconst 4, 1) := by decide +kernel
theorem dX9_sortItem_99 : decode cX9_sortItem 99 = .ok (.iaload, 1) := by decide +kernel
theorem dX9_sortItem_100 : decode cX9_sortItem 100 = .ok (.bipush 9, 2) := by decide +kernel
theorem dX9_sortItem_102 : decode cX9_sortItem 102 = .ok (.if_icmp .le 5, 3) := by decide +kernel
theorem dX9_sortItem_105 : decode cX9_sortItem 105 = .ok (.iconst 0, 1) := by decide +kernel
theorem dX9_sortItem_106 : decode cX9_sortItem 106 = .ok (.ireturn, 1) := by decide +kernel
theorem dX9_sortItem_107 : decode cX9_sortItem 107 = .ok (.aload_n 0, 1) := by decide +kernel
theorem dX9_sortItem_108 : decode cX9_sortItem 108 = .ok (.getfield 19, 3) := by decide +kernel
theorem dX9_sortItem_111 : decode cX9_sortItem 111 = .ok (.iload_n 1, 1) := by decide +kernel
theorem dX9_sortItem_112 : decode cX9_sortItem 112 = .ok (.aload_n 0, 1) := by decide +kernel
theorem dX9_sortItem_113 : decode cX9_sortItem 113 = .ok (.getfield 58, 3) := by decide +kernel
theorem dX9_sortItem_116 : decode cX9_sortItem 116 = .ok (.iconst 0, 1) := by decide +kernel
theorem dX9_sortItem_117 : decode cX9_sortItem 117 = .ok (.iaload, 1) := by decide +kernel
theorem dX9_sortItem_118 : decode cX9_sortItem 118 = .ok (.iastore, 1) := by decide +kernel
theorem dX9_sortItem_119 : decode cX9_sortItem 119 = .ok (.aload_n 0, 1) := by decide +kernel
theorem dX9_sortItem_120 : decode cX9_sortItem 120 = .ok (.getfield 22, 3) := by decide +kernel
theorem dX9_sortItem_123 : decode cX9_sortItem 123 = .ok (.iload_n 1, 1) := by decide +kernel
theorem dX9_sortItem_124 : decode cX9_sortItem 124 = .ok (.aload_n 0, 1) := by decide +kernel
theorem dX9_sortItem_125 : decode cX9_sortItem 125 = .ok (.getfield 58, 3) := by decide +kernel
theorem dX9_sortItem_128 : decode cX9_sortItem 128 = .ok (.iconst 1, 1) := by decide +kernel
theorem dX9_sortItem_129 : decode cX9_sortItem 129 = .ok (.iaload, 1) := by decide +kernel
theorem dX9_sortItem_130 : decode cX9_sortItem 130 = .ok (.iastore, 1) := by decide +kernel
theorem dX9_sortItem_131 : decode cX9_sortItem 131 = .ok (.aload_n 0, 1) := by decide +kernel
theorem dX9_sortItem_132 : decode cX9_sortItem 132 = .ok (.getfield 25, 3) := by decide +kernel
theorem dX9_sortItem_135 : decode cX9_sortItem 135 = .ok (.iload_n 1, 1) := by decide +kernel
theorem dX9_sortItem_136 : decode cX9_sortItem 136 = .ok (.aload_n 0, 1) := by decide +kernel
theorem dX9_sortItem_137 : decode cX9_sortItem 137 = .ok (.getfield 58, 3) := by decide +kernel
theorem dX9_sortItem_140 : decode cX9_sortItem 140 = .ok (.iconst 2, 1) := by decide +kernel
theorem dX9_sortItem_141 : decode cX9_sortItem 141 = .ok (.iaload, 1) := by decide +kernel
theorem dX9_sortItem_142 : decode cX9_sortItem 142 = .ok (.iastore, 1) := by decide +kernel
theorem dX9_sortItem_143 : decode cX9_sortItem 143 = .ok (.aload_n 0, 1) := by decide +kernel
theorem dX9_sortItem_144 : decode cX9_sortItem 144 = .ok (.getfield 28, 3) := by decide +kernel
theorem dX9_sortItem_147 : decode cX9_sortItem 147 = .ok (.iload_n 1, 1) := by decide +kernel
theorem dX9_sortItem_148 : decode cX9_sortItem 148 = .ok (.aload_n 0, 1) := by decide +kernel
theorem dX9_sortItem_149 : decode cX9_sortItem 149 = .ok (.getfield 58, 3) := by decide +kernel
theorem dX9_sortItem_152 : decode cX9_sortItem 152 = .ok (.iconst 3, 1) := by decide +kernel
theorem dX9_sortItem_153 : decode cX9_sortItem 153 = .ok (.iaload, 1) := by decide +kernel
theorem dX9_sortItem_154 : decode cX9_sortItem 154 = .ok (.iastore, 1) := by decide +kernel
theorem dX9_sortItem_155 : decode cX9_sortItem 155 = .ok (.aload_n 0, 1) := by decide +kernel
theorem dX9_sortItem_156 : decode cX9_sortItem 156 = .ok (.getfield 31, 3) := by decide +kernel
theorem dX9_sortItem_159 : decode cX9_sortItem 159 = .ok (.iload_n 1, 1) := by decide +kernel
theorem dX9_sortItem_160 : decode cX9_sortItem 160 = .ok (.aload_n 0, 1) := by decide +kernel
theorem dX9_sortItem_161 : decode cX9_sortItem 161 = .ok (.getfield 58, 3) := by decide +kernel
theorem dX9_sortItem_164 : decode cX9_sortItem 164 = .ok (.iconst 4, 1) := by decide +kernel
theorem dX9_sortItem_165 : decode cX9_sortItem 165 = .ok (.iaload, 1) := by decide +kernel
theorem dX9_sortItem_166 : decode cX9_sortItem 166 = .ok (.iastore, 1) := by decide +kernel
theorem dX9_sortItem_167 : decode cX9_sortItem 167 = .ok (.aload_n 0, 1) := by decide +kernel
theorem dX9_sortItem_168 : decode cX9_sortItem 168 = .ok (.getfield 34, 3) := by decide +kernel
theorem dX9_sortItem_171 : decode cX9_sortItem 171 = .ok (.iload_n 1, 1) := by decide +kernel
theorem dX9_sortItem_172 : decode cX9_sortItem 172 = .ok (.iconst 0, 1) := by decide +kernel
theorem dX9_sortItem_173 : decode cX9_sortItem 173 = .ok (.iastore, 1) := by decide +kernel
theorem dX9_sortItem_174 : decode cX9_sortItem 174 = .ok (.aload_n 0, 1) := by decide +kernel
theorem dX9_sortItem_175 : decode cX9_sortItem 175 = .ok (.getfield 37, 3) := by decide +kernel
theorem dX9_sortItem_178 : decode cX9_sortItem 178 = .ok (.iload_n 1, 1) := by decide +kernel
theorem dX9_sortItem_179 : decode cX9_sortItem 179 = .ok (.iconst 0, 1) := by decide +kernel
theorem dX9_sortItem_180 : decode cX9_sortItem 180 = .ok (.iastore, 1) := by decide +kernel
theorem dX9_sortItem_181 : decode cX9_sortItem 181 = .ok (.aload_n 0, 1) := by decide +kernel
theorem dX9_sortItem_182 : decode cX9_sortItem 182 = .ok (.getfield 16, 3) := by decide +kernel
theorem dX9_sortItem_185 : decode cX9_sortItem 185 = .ok (.iconst 1, 1) := by decide +kernel
theorem dX9_sortItem_186 : decode cX9_sortItem 186 = .ok (.dup2, 1) := by decide +kernel
theorem dX9_sortItem_187 : decode cX9_sortItem 187 = .ok (.iaload, 1) := by decide +kernel
theorem dX9_sortItem_188 : decode cX9_sortItem 188 = .ok (.iconst 1, 1) := by decide +kernel
theorem dX9_sortItem_189 : decode cX9_sortItem 189 = .ok (.iadd, 1) := by decide +kernel
theorem dX9_sortItem_190 : decode cX9_sortItem 190 = .ok (.iastore, 1) := by decide +kernel
theorem dX9_sortItem_191 : decode cX9_sortItem 191 = .ok (.iconst 1, 1) := by decide +kernel
theorem dX9_sortItem_192 : decode cX9_sortItem 192 = .ok (.ireturn, 1) := by decide +kernel
theorem dX9_worthItem_0 : decode cX9_worthItem 0 = .ok (.aload_n 0, 1) := by decide +kernel
theorem dX9_worthItem_1 : decode cX9_worthItem 1 = .ok (.iconst 3, 1) := by decide +kernel
theorem dX9_worthItem_2 : decode cX9_worthItem 2 = .ok (.invokevirtual 118, 3) := by decide +kernel
theorem dX9_worthItem_5 : decode cX9_worthItem 5 = .ok (.ifCond .eq 64, 3) := by decide +kernel
theorem dX9_worthItem_8 : decode cX9_worthItem 8 = .ok (.aload_n 0, 1) := by decide +kernel
theorem dX9_worthItem_9 : decode cX9_worthItem 9 = .ok (.getfield 58, 3) := by decide +kernel
theorem dX9_worthItem_12 : decode cX9_worthItem 12 = .ok (.iconst 0, 1) := by decide +kernel
theorem dX9_worthItem_13 : decode cX9_worthItem 13 = .ok (.iaload, 1) := by decide +kernel
theorem dX9_worthItem_14 : decode cX9_worthItem 14 = .ok (.aload_n 0, 1) := by decide +kernel
theorem dX9_worthItem_15 : decode cX9_worthItem 15 = .ok (.getfield 16, 3) := by decide +kernel
theorem dX9_worthItem_18 : decode cX9_worthItem 18 = .ok (.iconst 1, 1) := by decide +kernel
theorem dX9_worthItem_19 : decode cX9_worthItem 19 = .ok (.iaload, 1) := by decide +kernel
theorem dX9_worthItem_20 : decode cX9_worthItem 20 = .ok (.if_icmp .ge 49, 3) := by decide +kernel
theorem dX9_worthItem_23 : decode cX9_worthItem 23 = .ok (.aload_n 0, 1) := by decide +kernel
theorem dX9_worthItem_24 : decode cX9_worthItem 24 = .ok (.getfield 58, 3) := by decide +kernel
theorem dX9_worthItem_27 : decode cX9_worthItem 27 = .ok (.iconst 1, 1) := by decide +kernel
theorem dX9_worthItem_28 : decode cX9_worthItem 28 = .ok (.iaload, 1) := by decide +kernel
theorem dX9_worthItem_29 : decode cX9_worthItem 29 = .ok (.bipush 30, 2) := by decide +kernel
theorem dX9_worthItem_31 : decode cX9_worthItem 31 = .ok (.if_icmp .gt 38, 3) := by decide +kernel
theorem dX9_worthItem_34 : decode cX9_worthItem 34 = .ok (.aload_n 0, 1) := by decide +kernel
theorem dX9_worthItem_35 : decode cX9_worthItem 35 = .ok (.getfield 58, 3) := by decide +kernel
theorem dX9_worthItem_38 : decode cX9_worthItem 38 = .ok (.iconst 2, 1) := by decide +kernel
theorem dX9_worthItem_39 : decode cX9_worthItem 39 = .ok (.iaload, 1) := by decide +kernel
theorem dX9_worthItem_40 : decode cX9_worthItem 40 = .ok (.i2l, 1) := by decide +kernel
theorem dX9_worthItem_41 : decode cX9_worthItem 41 = .ok (.lconst 1, 1) := by decide +kernel
theorem dX9_worthItem_42 : decode cX9_worthItem 42 = .ok (.ldc2_w 126, 3) := by decide +kernel
theorem dX9_worthItem_45 : decode cX9_worthItem 45 = .ok (.invokestatic 95, 3) := by decide +kernel
theorem dX9_worthItem_48 : decode cX9_worthItem 48 = .ok (.ifCond .eq 21, 3) := by decide +kernel
theorem dX9_worthItem_51 : decode cX9_worthItem 51 = .ok (.aload_n 0, 1) := by decide +kernel
theorem dX9_worthItem_52 : decode cX9_worthItem 52 = .ok (.getfield 37, 3) := by decide +kernel
theorem dX9_worthItem_55 : decode cX9_worthItem 55 = .ok (.bipush 6, 2) := by decide +kernel
theorem dX9_worthItem_57 : decode cX9_worthItem 57 = .ok (.aload_n 0, 1) := by decide +kernel
theorem dX9_worthItem_58 : decode cX9_worthItem 58 = .ok (.getfield 58, 3) := by decide +kernel
theorem dX9_worthItem_61 : decode cX9_worthItem 61 = .ok (.iconst 0, 1) := by decide +kernel
theorem dX9_worthItem_62 : decode cX9_worthItem 62 = .ok (.iaload, 1) := by decide +kernel
theorem dX9_worthItem_63 : decode cX9_worthItem 63 = .ok (.iadd, 1) := by decide +kernel
theorem dX9_worthItem_64 : decode cX9_worthItem 64 = .ok (.iaload, 1) := by decide +kernel
theorem dX9_worthItem_65 : decode cX9_worthItem 65 = .ok (.iconst 3, 1) := by decide +kernel
theorem dX9_worthItem_66 : decode cX9_worthItem 66 = .ok (.if_icmp .ne 5, 3) := by decide +kernel
theorem dX9_worthItem_69 : decode cX9_worthItem 69 = .ok (.iconst 0, 1) := by decide +kernel
theorem dX9_worthItem_70 : decode cX9_worthItem 70 = .ok (.ireturn, 1) := by decide +kernel
theorem dX9_worthItem_71 : decode cX9_worthItem 71 = .ok (.bipush 6, 2) := by decide +kernel
theorem dX9_worthItem_73 : decode cX9_worthItem 73 = .ok (.aload_n 0, 1) := by decide +kernel
theorem dX9_worthItem_74 : decode cX9_worthItem 74 = .ok (.getfield 58, 3) := by decide +kernel
theorem dX9_worthItem_77 : decode cX9_worthItem 77 = .ok (.iconst 0, 1) := by decide +kernel
theorem dX9_worthItem_78 : decode cX9_worthItem 78 = .ok (.iaload, 1) := by decide +kernel
theorem dX9_worthItem_79 : decode cX9_worthItem 79 = .ok (.iadd, 1) := by decide +kernel
theorem dX9_worthItem_80 : decode cX9_worthItem 80 = .ok (.istore_n 1, 1) := by decide +kernel
theorem dX9_worthItem_81 : decode cX9_worthItem 81 = .ok (.aload_n 0, 1) := by decide +kernel
theorem dX9_worthItem_82 : decode cX9_worthItem 82 = .ok (.getfield 40, 3) := by decide +kernel
theorem dX9_worthItem_85 : decode cX9_worthItem 85 = .ok (.iconst 3, 1) := by decide +kernel
theorem dX9_worthItem_86 : decode cX9_worthItem 86 = .ok (.iload_n 1, 1) := by decide +kernel
theorem dX9_worthItem_87 : decode cX9_worthItem 87 = .ok (.imul, 1) := by decide +kernel
theorem dX9_worthItem_88 : decode cX9_worthItem 88 = .ok (.aload_n 0, 1) := by decide +kernel
theorem dX9_worthItem_89 : decode cX9_worthItem 89 = .ok (.getfield 37, 3) := by decide +kernel
theorem dX9_worthItem_92 : decode cX9_worthItem 92 = .ok (.iload_n 1, 1) := by decide +kernel
theorem dX9_worthItem_93 : decode cX9_worthItem 93 = .ok (.iaload, 1) := by decide +kernel
theorem dX9_worthItem_94 : decode cX9_worthItem 94 = .ok (.iadd, 1) := by decide +kernel
theorem dX9_worthItem_95 : decode cX9_worthItem 95 = .ok (.aload_n 0, 1) := by decide +kernel
theorem dX9_worthItem_96 : decode cX9_worthItem 96 = .ok (.getfield 58, 3) := by decide +kernel
theorem dX9_worthItem_99 : decode cX9_worthItem 99 = .ok (.iconst 1, 1) := by decide +kernel
theorem dX9_worthItem_100 : decode cX9_worthItem 100 = .ok (.iaload, 1) := by decide +kernel
theorem dX9_worthItem_101 : decode cX9_worthItem 101 = .ok (.iastore, 1) := by decide +kernel
theorem dX9_worthItem_102 : decode cX9_worthItem 102 = .ok (.aload_n 0, 1) := by decide +kernel
theorem dX9_worthItem_103 : decode cX9_worthItem 103 = .ok (.getfield 43, 3) := by decide +kernel
theorem dX9_worthItem_106 : decode cX9_worthItem 106 = .ok (.iconst 3, 1) := by decide +kernel
theorem dX9_worthItem_107 : decode cX9_worthItem 107 = .ok (.iload_n 1, 1) := by decide +kernel
theorem dX9_worthItem_108 : decode cX9_worthItem 108 = .ok (.imul, 1) := by decide +kernel
theorem dX9_worthItem_109 : decode cX9_worthItem 109 = .ok (.aload_n 0, 1) := by decide +kernel
theorem dX9_worthItem_110 : decode cX9_worthItem 110 = .ok (.getfield 37, 3) := by decide +kernel
theorem dX9_worthItem_113 : decode cX9_worthItem 113 = .ok (.iload_n 1, 1) := by decide +kernel
theorem dX9_worthItem_114 : decode cX9_worthItem 114 = .ok (.iaload, 1) := by decide +kernel
theorem dX9_worthItem_115 : decode cX9_worthItem 115 = .ok (.iadd, 1) := by decide +kernel
theorem dX9_worthItem_116 : decode cX9_worthItem 116 = .ok (.aload_n 0, 1) := by decide +kernel
theorem dX9_worthItem_117 : decode cX9_worthItem 117 = .ok (.getfield 58, 3) := by decide +kernel
theorem dX9_worthItem_120 : decode cX9_worthItem 120 = .ok (.iconst 2, 1) := by decide +kernel
theorem dX9_worthItem_121 : decode cX9_worthItem 121 = .ok (.iaload, 1) := by decide +kernel
theorem dX9_worthItem_122 : decode cX9_worthItem 122 = .ok (.iastore, 1) := by decide +kernel
theorem dX9_worthItem_123 : decode cX9_worthItem 123 = .ok (.aload_n 0, 1) := by decide +kernel
theorem dX9_worthItem_124 : decode cX9_worthItem 124 = .ok (.getfield 37, 3) := by decide +kernel
theorem dX9_worthItem_127 : decode cX9_worthItem 127 = .ok (.iload_n 1, 1) := by decide +kernel
theorem dX9_worthItem_128 : decode cX9_worthItem 128 = .ok (.dup2, 1) := by decide +kernel
theorem dX9_worthItem_129 : decode cX9_worthItem 129 = .ok (.iaload, 1) := by decide +kernel
theorem dX9_worthItem_130 : decode cX9_worthItem 130 = .ok (.iconst 1, 1) := by decide +kernel
theorem dX9_worthItem_131 : decode cX9_worthItem 131 = .ok (.iadd, 1) := by decide +kernel
theorem dX9_worthItem_132 : decode cX9_worthItem 132 = .ok (.iastore, 1) := by decide +kernel
theorem dX9_worthItem_133 : decode cX9_worthItem 133 = .ok (.iconst 1, 1) := by decide +kernel
theorem dX9_worthItem_134 : decode cX9_worthItem 134 = .ok (.ireturn, 1) := by decide +kernel
theorem dX9_item_0 : decode cX9_item 0 = .ok (.aload_n 0, 1) := by decide +kernel
theorem dX9_item_1 : decode cX9_item 1 = .ok (.aload_n 0, 1) := by decide +kernel
theorem dX9_item_2 : decode cX9_item 2 = .ok (.getfield 105, 3) := by decide +kernel
theorem dX9_item_5 : decode cX9_item 5 = .ok (.invokevirtual 108, 3) := by decide +kernel
theorem dX9_item_8 : decode cX9_item 8 = .ok (.istore_n 1, 1) := by decide +kernel
theorem dX9_item_9 : decode cX9_item 9 = .ok (.aload_n 0, 1) := by decide +kernel
theorem dX9_item_10 : decode cX9_item 10 = .ok (.dup, 1) := by decide +kernel
theorem dX9_item_11 : decode cX9_item 11 = .ok (.getfield 105, 3) := by decide +kernel
theorem dX9_item_14 : decode cX9_item 14 = .ok (.iconst 1, 1) := by decide +kernel
theorem dX9_item_15 : decode cX9_item 15 = .ok (.iadd, 1) := by decide +kernel
theorem dX9_item_16 : decode cX9_item 16 = .ok (.putfield 105, 3) := by decide +kernel
theorem dX9_item_19 : decode cX9_item 19 = .ok (.iload_n 1, 1) := by decide +kernel
theorem dX9_item_20 : decode cX9_item 20 = .ok (.tableswitch 254 98 119 #[104, 127, 116, 150, 254, 186, 254, 254, 254, 254, 254, 254, 254, 162, 139, 254, 254, 173, 196, 254, 254, 191], 104) := by decide +kernel
theorem dX9_item_124 : decode cX9_item 124 = .ok (.aload_n 0, 1) := by decide +kernel
theorem dX9_item_125 : decode cX9_item 125 = .ok (.iconst 0, 1) := by decide +kernel
theorem dX9_item_126 : decode cX9_item 126 = .ok (.iconst 2, 1) := by decide +kernel
theorem dX9_item_127 : decode cX9_item 127 = .ok (.iconst 1, 1) := by decide +kernel
theorem dX9_item_128 : decode cX9_item 128 = .ok (.bipush 60, 2) := by decide +kernel
theorem dX9_item_130 : decode cX9_item 130 = .ok (.bipush 8, 2) := by decide +kernel
theorem dX9_item_132 : decode cX9_item 132 = .ok (.invokevirtual 128, 3) := by decide +kernel
theorem dX9_item_135 : decode cX9_item 135 = .ok (.ireturn, 1) := by decide +kernel
theorem dX9_item_136 : decode cX9_item 136 = .ok (.aload_n 0, 1) := by decide +kernel
theorem dX9_item_137 : decode cX9_item 137 = .ok (.iconst 2, 1) := by decide +kernel
theorem dX9_item_138 : decode cX9_item 138 = .ok (.iconst 1, 1) := by decide +kernel
theorem dX9_item_139 : decode cX9_item 139 = .ok (.iconst 0, 1) := by decide +kernel
theorem dX9_item_140 : decode cX9_item 140 = .ok (.bipush 30, 2) := by decide +kernel
theorem dX9_item_142 : decode cX9_item 142 = .ok (.iconst 0, 1) := by decide +kernel
theorem dX9_item_143 : decode cX9_item 143 = .ok (.invokevirtual 128, 3) := by decide +kernel
theorem dX9_item_146 : decode cX9_item 146 = .ok (.ireturn, 1) := by decide +kernel
theorem dX9_item_147 : decode cX9_item 147 = .ok (.aload_n 0, 1) := by decide +kernel
theorem dX9_item_148 : decode cX9_item 148 = .ok (.iconst 3, 1) := by decide +kernel
theorem dX9_item_149 : decode cX9_item 149 = .ok (.iconst 1, 1) := by decide +kernel
theorem dX9_item_150 : decode cX9_item 150 = .ok (.iconst 0, 1) := by decide +kernel
theorem dX9_item_151 : decode cX9_item 151 = .ok (.sipush 199, 3) := by decide +kernel
theorem dX9_item_154 : decode cX9_item 154 = .ok (.iconst 0, 1) := by decide +kernel
theorem dX9_item_155 : decode cX9_item 155 = .ok (.invokevirtual 128, 3) := by decide +kernel
theorem dX9_item_158 : decode cX9_item 158 = .ok (.ireturn, 1) := by decide +kernel
theorem dX9_item_159 : decode cX9_item 159 = .ok (.aload_n 0, 1) := by decide +kernel
theorem dX9_item_160 : decode cX9_item 160 = .ok (.iconst 4, 1) := by decide +kernel
theorem dX9_item_161 : decode cX9_item 161 = .ok (.iconst 1, 1) := by decide +kernel
theorem dX9_item_162 : decode cX9_item 162 = .ok (.iconst 0, 1) := by decide +kernel
theorem dX9_item_163 : decode cX9_item 163 = .ok (.bipush 9, 2) := by decide +kernel
theorem dX9_item_165 : decode cX9_item 165 = .ok (.iconst 0, 1) := by decide +kernel
theorem dX9_item_166 : decode cX9_item 166 = .ok (.invokevirtual 128, 3) := by decide +kernel
theorem dX9_item_169 : decode cX9_item 169 = .ok (.ireturn, 1) := by decide +kernel
theorem dX9_item_170 : decode cX9_item 170 = .ok (.aload_n 0, 1) := by decide +kernel
theorem dX9_item_171 : decode cX9_item 171 = .ok (.iconst 5, 1) := by decide +kernel
theorem dX9_item_172 : decode cX9_item 172 = .ok (.iconst 2, 1) := by decide +kernel
theorem dX9_item_173 : decode cX9_item 173 = .ok (.iconst 0, 1) := by decide +kernel
theorem dX9_item_174 : decode cX9_item 174 = .ok (.bipush 9, 2) := by decide +kernel
theorem dX9_item_176 : decode cX9_item 176 = .ok (.bipush 30, 2) := by decide +kernel
theorem dX9_item_178 : decode cX9_item 178 = .ok (.invokevirtual 128, 3) := by decide +kernel
theorem dX9_item_181 : decode cX9_item 181 = .ok (.ireturn, 1) := by decide +kernel
theorem dX9_item_182 : decode cX9_item 182 = .ok (.aload_n 0, 1) := by decide +kernel
theorem dX9_item_183 : decode cX9_item 183 = .ok (.bipush 7, 2) := by decide +kernel
theorem dX9_item_185 : decode cX9_item 185 = .ok (.iconst 1, 1) := by decide +kernel
theorem dX9_item_186 : decode cX9_item 186 = .ok (.iconst 0, 1) := by decide +kernel
theorem dX9_item_187 : decode cX9_item 187 = .ok (.iconst 1, 1) := by decide +kernel
theorem dX9_item_188 : decode cX9_item 188 = .ok (.iconst 0, 1) := by decide +kernel
theorem dX9_item_189 : decode cX9_item 189 = .ok (.invokevirtual 128, 3) := by decide +kernel
theorem dX9_item_192 : decode cX9_item 192 = .ok (.ireturn, 1) := by decide +kernel
theorem dX9_item_193 : decode cX9_item 193 = .ok (.aload_n 0, 1) := by decide +kernel
theorem dX9_item_194 : decode cX9_item 194 = .ok (.bipush 8, 2) := by decide +kernel
theorem dX9_item_196 : decode cX9_item 196 = .ok (.iconst 2, 1) := by decide +kernel
theorem dX9_item_197 : decode cX9_item 197 = .ok (.iconst 1, 1) := by decide +kernel
theorem dX9_item_198 : decode cX9_item 198 = .ok (.bipush 60, 2) := by decide +kernel
theorem dX9_item_200 : decode cX9_item 200 = .ok (.bipush 99, 2) := by decide +kernel
theorem dX9_item_202 : decode cX9_item 202 = .ok (.invokevirtual 128, 3) := by decide +kernel
theorem dX9_item_205 : decode cX9_item 205 = .ok (.ireturn, 1) := by decide +kernel
theorem dX9_item_206 : decode cX9_item 206 = .ok (.aload_n 0, 1) := by decide +kernel
theorem dX9_item_207 : decode cX9_item 207 = .ok (.invokevirtual 132, 3) := by decide +kernel
theorem dX9_item_210 : decode cX9_item 210 = .ok (.ireturn, 1) := by decide +kernel
theorem dX9_item_211 : decode cX9_item 211 = .ok (.aload_n 0, 1) := by decide +kernel
theorem dX9_item_212 : decode cX9_item 212 = .ok (.invokevirtual 136, 3) := by decide +kernel
theorem dX9_item_215 : decode cX9_item 215 = .ok (.ireturn, 1) := by decide +kernel
theorem dX9_item_216 : decode cX9_item 216 = .ok (.aload_n 0, 1) := by decide +kernel
theorem dX9_item_217 : decode cX9_item 217 = .ok (.iconst 2, 1) := by decide +kernel
theorem dX9_item_218 : decode cX9_item 218 = .ok (.invokevirtual 118, 3) := by decide +kernel
theorem dX9_item_221 : decode cX9_item 221 = .ok (.ifCond .eq 29, 3) := by decide +kernel
theorem dX9_item_224 : decode cX9_item 224 = .ok (.aload_n 0, 1) := by decide +kernel
theorem dX9_item_225 : decode cX9_item 225 = .ok (.getfield 58, 3) := by decide +kernel
theorem dX9_item_228 : decode cX9_item 228 = .ok (.iconst 0, 1) := by decide +kernel
theorem dX9_item_229 : decode cX9_item 229 = .ok (.iaload, 1) := by decide +kernel
theorem dX9_item_230 : decode cX9_item 230 = .ok (.aload_n 0, 1) := by decide +kernel
theorem dX9_item_231 : decode cX9_item 231 = .ok (.getfield 16, 3) := by decide +kernel
theorem dX9_item_234 : decode cX9_item 234 = .ok (.iconst 1, 1) := by decide +kernel
theorem dX9_item_235 : decode cX9_item 235 = .ok (.iaload, 1) := by decide +kernel
theorem dX9_item_236 : decode cX9_item 236 = .ok (.if_icmp .ge 14, 3) := by decide +kernel
theorem dX9_item_239 : decode cX9_item 239 = .ok (.aload_n 0, 1) := by decide +kernel
theorem dX9_item_240 : decode cX9_item 240 = .ok (.getfield 58, 3) := by decide +kernel
theorem dX9_item_243 : decode cX9_item 243 = .ok (.iconst 1, 1) := by decide +kernel
theorem dX9_item_244 : decode cX9_item 244 = .ok (.iaload, 1) := by decide +kernel
theorem dX9_item_245 : decode cX9_item 245 = .ok (.bipush 30, 2) := by decide +kernel
theorem dX9_item_247 : decode cX9_item 247 = .ok (.if_icmp .le 5, 3) := by decide +kernel
theorem dX9_item_250 : decode cX9_item 250 = .ok (.iconst 0, 1) := by decide +kernel
theorem dX9_item_251 : decode cX9_item 251 = .ok (.ireturn, 1) := by decide +kernel
theorem dX9_item_252 : decode cX9_item 252 = .ok (.aload_n 0, 1) := by decide +kernel
theorem dX9_item_253 : decode cX9_item 253 = .ok (.getfield 34, 3) := by decide +kernel
theorem dX9_item_256 : decode cX9_item 256 = .ok (.bipush 6, 2) := by decide +kernel
theorem dX9_item_258 : decode cX9_item 258 = .ok (.aload_n 0, 1) := by decide +kernel
theorem dX9_item_259 : decode cX9_item 259 = .ok (.getfield 58, 3) := by decide +kernel
theorem dX9_item_262 : decode cX9_item 262 = .ok (.iconst 0, 1) := by decide +kernel
theorem dX9_item_263 : decode cX9_item 263 = .ok (.iaload, 1) := by decide +kernel
theorem dX9_item_264 : decode cX9_item 264 = .ok (.iadd, 1) := by decide +kernel
theorem dX9_item_265 : decode cX9_item 265 = .ok (.aload_n 0, 1) := by decide +kernel
theorem dX9_item_266 : decode cX9_item 266 = .ok (.getfield 58, 3) := by decide +kernel
theorem dX9_item_269 : decode cX9_item 269 = .ok (.iconst 1, 1) := by decide +kernel
theorem dX9_item_270 : decode cX9_item 270 = .ok (.iaload, 1) := by decide +kernel
theorem dX9_item_271 : decode cX9_item 271 = .ok (.iastore, 1) := by decide +kernel
theorem dX9_item_272 : decode cX9_item 272 = .ok (.iconst 1, 1) := by decide +kernel
theorem dX9_item_273 : decode cX9_item 273 = .ok (.ireturn, 1) := by decide +kernel
theorem dX9_item_274 : decode cX9_item 274 = .ok (.iconst 0, 1) := by decide +kernel
theorem dX9_item_275 : decode cX9_item 275 = .ok (.ireturn, 1) := by decide +kernel
theorem dX9_areWhole_0 : decode cX9_areWhole 0 = .ok (.iconst 1, 1) := by decide +kernel
theorem dX9_areWhole_1 : decode cX9_areWhole 1 = .ok (.istore_n 1, 1) := by decide +kernel
theorem dX9_areWhole_2 : decode cX9_areWhole 2 = .ok (.bipush 6, 2) := by decide +kernel
theorem dX9_areWhole_4 : decode cX9_areWhole 4 = .ok (.istore_n 2, 1) := by decide +kernel
theorem dX9_areWhole_5 : decode cX9_areWhole 5 = .ok (.iload_n 2, 1) := by decide +kernel
theorem dX9_areWhole_6 : decode cX9_areWhole 6 = .ok (.bipush 6, 2) := by decide +kernel
theorem dX9_areWhole_8 : decode cX9_areWhole 8 = .ok (.aload_n 0, 1) := by decide +kernel
theorem dX9_areWhole_9 : decode cX9_areWhole 9 = .ok (.getfield 16, 3) := by decide +kernel
theorem dX9_areWhole_12 : decode cX9_areWhole 12 = .ok (.iconst 1, 1) := by decide +kernel
theorem dX9_areWhole_13 : decode cX9_areWhole 13 = .ok (.iaload, 1) := by decide +kernel
theorem dX9_areWhole_14 : decode cX9_areWhole 14 = .ok (.iadd, 1) := by decide +kernel
theorem dX9_areWhole_15 : decode cX9_areWhole 15 = .ok (.if_icmp .ge 61, 3) := by decide +kernel
theorem dX9_areWhole_18 : decode cX9_areWhole 18 = .ok (.iconst 0, 1) := by decide +kernel
theorem dX9_areWhole_19 : decode cX9_areWhole 19 = .ok (.istore_n 3, 1) := by decide +kernel
theorem dX9_areWhole_20 : decode cX9_areWhole 20 = .ok (.iconst 0, 1) := by decide +kernel
theorem dX9_areWhole_21 : decode cX9_areWhole 21 = .ok (.istore 4, 2) := by decide +kernel
theorem dX9_areWhole_23 : decode cX9_areWhole 23 = .ok (.iload 4, 2) := by decide +kernel
theorem dX9_areWhole_25 : decode cX9_areWhole 25 = .ok (.aload_n 0, 1) := by decide +kernel
theorem dX9_areWhole_26 : decode cX9_areWhole 26 = .ok (.getfield 37, 3) := by decide +kernel
theorem dX9_areWhole_29 : decode cX9_areWhole 29 = .ok (.iload_n 2, 1) := by decide +kernel
theorem dX9_areWhole_30 : decode cX9_areWhole 30 = .ok (.iaload, 1) := by decide +kernel
theorem dX9_areWhole_31 : decode cX9_areWhole 31 = .ok (.if_icmp .ge 23, 3) := by decide +kernel
theorem dX9_areWhole_34 : decode cX9_areWhole 34 = .ok (.iload_n 3, 1) := by decide +kernel
theorem dX9_areWhole_35 : decode cX9_areWhole 35 = .ok (.aload_n 0, 1) := by decide +kernel
theorem dX9_areWhole_36 : decode cX9_areWhole 36 = .ok (.getfield 43, 3) := by decide +kernel
theorem dX9_areWhole_39 : decode cX9_areWhole 39 = .ok (.iconst 3, 1) := by decide +kernel
theorem dX9_areWhole_40 : decode cX9_areWhole 40 = .ok (.iload_n 2, 1) := by decide +kernel
theorem dX9_areWhole_41 : decode cX9_areWhole 41 = .ok (.imul, 1) := by decide +kernel
theorem dX9_areWhole_42 : decode cX9_areWhole 42 = .ok (.iload 4, 2) := by decide +kernel
theorem dX9_areWhole_44 : decode cX9_areWhole 44 = .ok (.iadd, 1) := by decide +kernel
theorem dX9_areWhole_45 : decode cX9_areWhole 45 = .ok (.iaload, 1) := by decide +kernel
theorem dX9_areWhole_46 : decode cX9_areWhole 46 = .ok (.iadd, 1) := by decide +kernel
theorem dX9_areWhole_47 : decode cX9_areWhole 47 = .ok (.istore_n 3, 1) := by decide +kernel
theorem dX9_areWhole_48 : decode cX9_areWhole 48 = .ok (.iinc 4 1, 3) := by decide +kernel
theorem dX9_areWhole_51 : decode cX9_areWhole 51 = .ok (.goto (-28), 3) := by decide +kernel
theorem dX9_areWhole_54 : decode cX9_areWhole 54 = .ok (.iload_n 1, 1) := by decide +kernel
theorem dX9_areWhole_55 : decode cX9_areWhole 55 = .ok (.ifCond .eq 13, 3) := by decide +kernel
theorem dX9_areWhole_58 : decode cX9_areWhole 58 = .ok (.iload_n 3, 1) := by decide +kernel
theorem dX9_areWhole_59 : decode cX9_areWhole 59 = .ok (.bipush 10, 2) := by decide +kernel
theorem dX9_areWhole_61 : decode cX9_areWhole 61 = .ok (.if_icmp .ne 7, 3) := by decide +kernel
theorem dX9_areWhole_64 : decode cX9_areWhole 64 = .ok (.iconst 1, 1) := by decide +kernel
theorem dX9_areWhole_65 : decode cX9_areWhole 65 = .ok (.goto 4, 3) := by decide +kernel
theorem dX9_areWhole_68 : decode cX9_areWhole 68 = .ok (.iconst 0, 1) := by decide +kernel
theorem dX9_areWhole_69 : decode cX9_areWhole 69 = .ok (.istore_n 1, 1) := by decide +kernel
theorem dX9_areWhole_70 : decode cX9_areWhole 70 = .ok (.iinc 2 1, 3) := by decide +kernel
theorem dX9_areWhole_73 : decode cX9_areWhole 73 = .ok (.goto (-68), 3) := by decide +kernel
theorem dX9_areWhole_76 : decode cX9_areWhole 76 = .ok (.iload_n 1, 1) := by decide +kernel
theorem dX9_areWhole_77 : decode cX9_areWhole 77 = .ok (.ireturn, 1) := by decide +kernel
theorem dX9_readAll_0 : decode cX9_readAll 0 = .ok (.aload_n 0, 1) := by decide +kernel
theorem dX9_readAll_1 : decode cX9_readAll 1 = .ok (.iconst 1, 1) := by decide +kernel
theorem dX9_readAll_2 : decode cX9_readAll 2 = .ok (.invokevirtual 86, 3) := by decide +kernel
theorem dX9_readAll_5 : decode cX9_readAll 5 = .ok (.aload_n 0, 1) := by decide +kernel
theorem dX9_readAll_6 : decode cX9_readAll 6 = .ok (.iconst 0, 1) := by decide +kernel
theorem dX9_readAll_7 : decode cX9_readAll 7 = .ok (.putfield 105, 3) := by decide +kernel
theorem dX9_readAll_10 : decode cX9_readAll 10 = .ok (.aload_n 0, 1) := by decide +kernel
theorem dX9_readAll_11 : decode cX9_readAll 11 = .ok (.getfield 105, 3) := by decide +kernel
theorem dX9_readAll_14 : decode cX9_readAll 14 = .ok (.aload_n 0, 1) := by decide +kernel
theorem dX9_readAll_15 : decode cX9_readAll 15 = .ok (.getfield 99, 3) := by decide +kernel
theorem dX9_readAll_18 : decode cX9_readAll 18 = .ok (.if_icmp .ge 20, 3) := by decide +kernel
theorem dX9_readAll_21 : decode cX9_readAll 21 = .ok (.aload_n 0, 1) := by decide +kernel
theorem dX9_readAll_22 : decode cX9_readAll 22 = .ok (.getfield 105, 3) := by decide +kernel
theorem dX9_readAll_25 : decode cX9_readAll 25 = .ok (.istore_n 1, 1) := by decide +kernel
theorem dX9_readAll_26 : decode cX9_readAll 26 = .ok (.aload_n 0, 1) := by decide +kernel
theorem dX9_readAll_27 : decode cX9_readAll 27 = .ok (.invokevirtual 139, 3) := by decide +kernel
theorem dX9_readAll_30 : decode cX9_readAll 30 = .ok (.ifCond .ne 5, 3) := by decide +kernel
theorem dX9_readAll_33 : decode cX9_readAll 33 = .ok (.iload_n 1, 1) := by decide +kernel
theorem dX9_readAll_34 : decode cX9_readAll 34 = .ok (.ireturn, 1) := by decide +kernel
theorem dX9_readAll_35 : decode cX9_readAll 35 = .ok (.goto (-25), 3) := by decide +kernel
theorem dX9_readAll_38 : decode cX9_readAll 38 = .ok (.aload_n 0, 1) := by decide +kernel
theorem dX9_readAll_39 : decode cX9_readAll 39 = .ok (.invokevirtual 142, 3) := by decide +kernel
theorem dX9_readAll_42 : decode cX9_readAll 42 = .ok (.ifCond .eq 8, 3) := by decide +kernel
theorem dX9_readAll_45 : decode cX9_readAll 45 = .ok (.bipush (-4), 2) := by decide +kernel
theorem dX9_readAll_47 : decode cX9_readAll 47 = .ok (.goto 7, 3) := by decide +kernel
theorem dX9_readAll_50 : decode cX9_readAll 50 = .ok (.aload_n 0, 1) := by decide +kernel
theorem dX9_readAll_51 : decode cX9_readAll 51 = .ok (.getfield 99, 3) := by decide +kernel
theorem dX9_readAll_54 : decode cX9_readAll 54 = .ok (.ireturn, 1) := by decide +kernel
theorem dX9_fault_0 : decode cX9_fault 0 = .ok (.aload_n 0, 1) := by decide +kernel
theorem dX9_fault_1 : decode cX9_fault 1 = .ok (.invokevirtual 145, 3) := by decide +kernel
theorem dX9_fault_4 : decode cX9_fault 4 = .ok (.ireturn, 1) := by decide +kernel
theorem dX9_layGivers_0 : decode cX9_layGivers 0 = .ok (.aload_n 0, 1) := by decide +kernel
theorem dX9_layGivers_1 : decode cX9_layGivers 1 = .ok (.iconst 0, 1) := by decide +kernel
theorem dX9_layGivers_2 : decode cX9_layGivers 2 = .ok (.putfield 148, 3) := by decide +kernel
theorem dX9_layGivers_5 : decode cX9_layGivers 5 = .ok (.iconst 0, 1) := by decide +kernel
theorem dX9_layGivers_6 : decode cX9_layGivers 6 = .ok (.istore_n 1, 1) := by decide +kernel
theorem dX9_layGivers_7 : decode cX9_layGivers 7 = .ok (.iload_n 1, 1) := by decide +kernel
theorem dX9_layGivers_8 : decode cX9_layGivers 8 = .ok (.aload_n 0, 1) := by decide +kernel
theorem dX9_layGivers_9 : decode cX9_layGivers 9 = .ok (.getfield 16, 3) := by decide +kernel
theorem dX9_layGivers_12 : decode cX9_layGivers 12 = .ok (.iconst 0, 1) := by decide +kernel
theorem dX9_layGivers_13 : decode cX9_layGivers 13 = .ok (.iaload, 1) := by decide +kernel
theorem dX9_layGivers_14 : decode cX9_layGivers 14 = .ok (.if_icmp .ge 71, 3) := by decide +kernel
theorem dX9_layGivers_17 : decode cX9_layGivers 17 = .ok (.iconst 0, 1) := by decide +kernel
theorem dX9_layGivers_18 : decode cX9_layGivers 18 = .ok (.istore_n 2, 1) := by decide +kernel
theorem dX9_layGivers_19 : decode cX9_layGivers 19 = .ok (.iload_n 2, 1) := by decide +kernel
theorem dX9_layGivers_20 : decode cX9_layGivers 20 = .ok (.aload_n 0, 1) := by decide +kernel
theorem dX9_layGivers_21 : decode cX9_layGivers 21 = .ok (.getfield 19, 3) := by decide +kernel
theorem dX9_layGivers_24 : decode cX9_layGivers 24 = .ok (.iload_n 1, 1) := by decide +kernel
theorem dX9_layGivers_25 : decode cX9_layGivers 25 = .ok (.iaload, 1) := by decide +kernel
theorem dX9_layGivers_26 : decode cX9_layGivers 26 = .ok (.if_icmp .ge 53, 3) := by decide +kernel
theorem dX9_layGivers_29 : decode cX9_layGivers 29 = .ok (.aload_n 0, 1) := by decide +kernel
theorem dX9_layGivers_30 : decode cX9_layGivers 30 = .ok (.getfield 46, 3) := by decide +kernel
theorem dX9_layGivers_33 : decode cX9_layGivers 33 = .ok (.aload_n 0, 1) := by decide +kernel
theorem dX9_layGivers_34 : decode cX9_layGivers 34 = .ok (.getfield 148, 3) := by decide +kernel
theorem dX9_layGivers_37 : decode cX9_layGivers 37 = .ok (.iload_n 1, 1) := by decide +kernel
theorem dX9_layGivers_38 : decode cX9_layGivers 38 = .ok (.iastore, 1) := by decide +kernel
theorem dX9_layGivers_39 : decode cX9_layGivers 39 = .ok (.aload_n 0, 1) := by decide +kernel
theorem dX9_layGivers_40 : decode cX9_layGivers 40 = .ok (.getfield 49, 3) := by decide +kernel
theorem dX9_layGivers_43 : decode cX9_layGivers 43 = .ok (.aload_n 0, 1) := by decide +kernel
theorem dX9_layGivers_44 : decode cX9_layGivers 44 = .ok (.getfield 148, 3) := by decide +kernel
theorem dX9_layGivers_47 : decode cX9_layGivers 47 = .ok (.aload_n 0, 1) := by decide +kernel
theorem dX9_layGivers_48 : decode cX9_layGivers 48 = .ok (.getfield 28, 3) := by decide +kernel
theorem dX9_layGivers_51 : decode cX9_layGivers 51 = .ok (.iload_n 1, 1) := by decide +kernel
theorem dX9_layGivers_52 : decode cX9_layGivers 52 = .ok (.iaload, 1) := by decide +kernel
theorem dX9_layGivers_53 : decode cX9_layGivers 53 = .ok (.iload_n 2, 1) := by decide +kernel
theorem dX9_layGivers_54 : decode cX9_layGivers 54 = .ok (.aload_n 0, 1) := by decide +kernel
theorem dX9_layGivers_55 : decode cX9_layGivers 55 = .ok (.getfield 31, 3) := by decide +kernel
theorem dX9_layGivers_58 : decode cX9_layGivers 58 = .ok (.iload_n 1, 1) := by decide +kernel
theorem dX9_layGivers_59 : decode cX9_layGivers 59 = .ok (.iaload, 1) := by decide +kernel
theorem dX9_layGivers_60 : decode cX9_layGivers 60 = .ok (.imul, 1) := by decide +kernel
theorem dX9_layGivers_61 : decode cX9_layGivers 61 = .ok (.iadd, 1) := by decide +kernel
theorem dX9_layGivers_62 : decode cX9_layGivers 62 = .ok (.iastore, 1) := by decide +kernel
theorem dX9_layGivers_63 : decode cX9_layGivers 63 = .ok (.aload_n 0, 1) := by decide +kernel
theorem dX9_layGivers_64 : decode cX9_layGivers 64 = .ok (.dup, 1) := by decide +kernel
theorem dX9_layGivers_65 : decode cX9_layGivers 65 = .ok (.getfield 148, 3) := by decide +kernel
theorem dX9_layGivers_68 : decode cX9_layGivers 68 = .ok (.iconst 1, 1) := by decide +kernel
theorem dX9_layGivers_69 : decode cX9_layGivers 69 = .ok (.iadd, 1) := by decide +kernel
theorem dX9_layGivers_70 : decode cX9_layGivers 70 = .ok (.putfield 148, 3) := by decide +kernel
theorem dX9_layGivers_73 : decode cX9_layGivers 73 = .ok (.iinc 2 1, 3) := by decide +kernel
theorem dX9_layGivers_76 : decode cX9_layGivers 76 = .ok (.goto (-57), 3) := by decide +kernel
theorem dX9_layGivers_79 : decode cX9_layGivers 79 = .ok (.iinc 1 1, 3) := by decide +kernel
theorem dX9_layGivers_82 : decode cX9_layGivers 82 = .ok (.goto (-75), 3) := by decide +kernel
theorem dX9_layGivers_85 : decode cX9_layGivers 85 = .ok (.aload_n 0, 1) := by decide +kernel
theorem dX9_layGivers_86 : decode cX9_layGivers 86 = .ok (.invokevirtual 151, 3) := by decide +kernel
theorem dX9_layGivers_89 : decode cX9_layGivers 89 = .ok (.return_, 1) := by decide +kernel
theorem dX9_plain_0 : decode cX9_plain 0 = .ok (.aload_n 0, 1) := by decide +kernel
theorem dX9_plain_1 : decode cX9_plain 1 = .ok (.aload_n 0, 1) := by decide +kernel
theorem dX9_plain_2 : decode cX9_plain 2 = .ok (.getfield 13, 3) := by decide +kernel
theorem dX9_plain_5 : decode cX9_plain 5 = .ok (.iconst 0, 1) := by decide +kernel
theorem dX9_plain_6 : decode cX9_plain 6 = .ok (.iaload, 1) := by decide +kernel
theorem dX9_plain_7 : decode cX9_plain 7 = .ok (.putfield 154, 3) := by decide +kernel
theorem dX9_plain_10 : decode cX9_plain 10 = .ok (.aload_n 0, 1) := by decide +kernel
theorem dX9_plain_11 : decode cX9_plain 11 = .ok (.aload_n 0, 1) := by decide +kernel
theorem dX9_plain_12 : decode cX9_plain 12 = .ok (.getfield 13, 3) := by decide +kernel
theorem dX9_plain_15 : decode cX9_plain 15 = .ok (.iconst 2, 1) := by decide +kernel
theorem dX9_plain_16 : decode cX9_plain 16 = .ok (.iaload, 1) := by decide +kernel
theorem dX9_plain_17 : decode cX9_plain 17 = .ok (.putfield 157, 3) := by decide +kernel
theorem dX9_plain_20 : decode cX9_plain 20 = .ok (.aload_n 0, 1) := by decide +kernel
theorem dX9_plain_21 : decode cX9_plain 21 = .ok (.aload_n 0, 1) := by decide +kernel
theorem dX9_plain_22 : decode cX9_plain 22 = .ok (.getfield 13, 3) := by decide +kernel
theorem dX9_plain_25 : decode cX9_plain 25 = .ok (.iconst 5, 1) := by decide +kernel
theorem dX9_plain_26 : decode cX9_plain 26 = .ok (.iaload, 1) := by decide +kernel
theorem dX9_plain_27 : decode cX9_plain 27 = .ok (.putfield 160, 3) := by decide +kernel
theorem dX9_plain_30 : decode cX9_plain 30 = .ok (.aload_n 0, 1) := by decide +kernel
theorem dX9_plain_31 : decode cX9_plain 31 = .ok (.aload_n 0, 1) := by decide +kernel
theorem dX9_plain_32 : decode cX9_plain 32 = .ok (.getfield 52, 3) := by decide +kernel
theorem dX9_plain_35 : decode cX9_plain 35 = .ok (.iconst 0, 1) := by decide +kernel
theorem dX9_plain_36 : decode cX9_plain 36 = .ok (.iaload, 1) := by decide +kernel
theorem dX9_plain_37 : decode cX9_plain 37 = .ok (.putfield 163, 3) := by decide +kernel
theorem dX9_plain_40 : decode cX9_plain 40 = .ok (.aload_n 0, 1) := by decide +kernel
theorem dX9_plain_41 : decode cX9_plain 41 = .ok (.iconst 0, 1) := by decide +kernel
theorem dX9_plain_42 : decode cX9_plain 42 = .ok (.putfield 166, 3) := by decide +kernel
theorem dX9_plain_45 : decode cX9_plain 45 = .ok (.aload_n 0, 1) := by decide +kernel
theorem dX9_plain_46 : decode cX9_plain 46 = .ok (.bipush (-4), 2) := by decide +kernel
theorem dX9_plain_48 : decode cX9_plain 48 = .ok (.putfield 169, 3) := by decide +kernel
theorem dX9_plain_51 : decode cX9_plain 51 = .ok (.return_, 1) := by decide +kernel
theorem dX9_lay_0 : decode cX9_lay 0 = .ok (.aload_n 0, 1) := by decide +kernel
theorem dX9_lay_1 : decode cX9_lay 1 = .ok (.invokevirtual 145, 3) := by decide +kernel
theorem dX9_lay_4 : decode cX9_lay 4 = .ok (.bipush (-4), 2) := by decide +kernel
theorem dX9_lay_6 : decode cX9_lay 6 = .ok (.if_icmp .ne 12, 3) := by decide +kernel
theorem dX9_lay_9 : decode cX9_lay 9 = .ok (.aload_n 0, 1) := by decide +kernel
theorem dX9_lay_10 : decode cX9_lay 10 = .ok (.getfield 16, 3) := by decide +kernel
theorem dX9_lay_13 : decode cX9_lay 13 = .ok (.iconst 1, 1) := by decide +kernel
theorem dX9_lay_14 : decode cX9_lay 14 = .ok (.iaload, 1) := by decide +kernel
theorem dX9_lay_15 : decode cX9_lay 15 = .ok (.ifCond .ne 6, 3) := by decide +kernel
theorem dX9_lay_18 : decode cX9_lay 18 = .ok (.bipush (-2), 2) := by decide +kernel
theorem dX9_lay_20 : decode cX9_lay 20 = .ok (.ireturn, 1) := by decide +kernel
theorem dX9_lay_21 : decode cX9_lay 21 = .ok (.iconst 0, 1) := by decide +kernel
theorem dX9_lay_22 : decode cX9_lay 22 = .ok (.istore_n 1, 1) := by decide +kernel
theorem dX9_lay_23 : decode cX9_lay 23 = .ok (.iload_n 1, 1) := by decide +kernel
theorem dX9_lay_24 : decode cX9_lay 24 = .ok (.bipush 10, 2) := by decide +kernel
theorem dX9_lay_26 : decode cX9_lay 26 = .ok (.if_icmp .ge 24, 3) := by decide +kernel
theorem dX9_lay_29 : decode cX9_lay 29 = .ok (.aload_n 0, 1) := by decide +kernel
theorem dX9_lay_30 : decode cX9_lay 30 = .ok (.getfield 13, 3) := by decide +kernel
theorem dX9_lay_33 : decode cX9_lay 33 = .ok (.iload_n 1, 1) := by decide +kernel
theorem dX9_lay_34 : decode cX9_lay 34 = .ok (.aload_n 0, 1) := by decide +kernel
theorem dX9_lay_35 : decode cX9_lay 35 = .ok (.getfield 13, 3) := by decide +kernel
theorem dX9_lay_38 : decode cX9_lay 38 = .ok (.bipush 10, 2) := by decide +kernel
theorem dX9_lay_40 : decode cX9_lay 40 = .ok (.iload_n 1, 1) := by decide +kernel
theorem dX9_lay_41 : decode cX9_lay 41 = .ok (.iadd, 1) := by decide +kernel
theorem dX9_lay_42 : decode cX9_lay 42 = .ok (.iaload, 1) := by decide +kernel
theorem dX9_lay_43 : decode cX9_lay 43 = .ok (.iastore, 1) := by decide +kernel
theorem dX9_lay_44 : decode cX9_lay 44 = .ok (.iinc 1 1, 3) := by decide +kernel
theorem dX9_lay_47 : decode cX9_lay 47 = .ok (.goto (-24), 3) := by decide +kernel
theorem dX9_lay_50 : decode cX9_lay 50 = .ok (.aload_n 0, 1) := by decide +kernel
theorem dX9_lay_51 : decode cX9_lay 51 = .ok (.getfield 16, 3) := by decide +kernel
theorem dX9_lay_54 : decode cX9_lay 54 = .ok (.iconst 0, 1) := by decide +kernel
theorem dX9_lay_55 : decode cX9_lay 55 = .ok (.aload_n 0, 1) := by decide +kernel
theorem dX9_lay_56 : decode cX9_lay 56 = .ok (.getfield 16, 3) := by decide +kernel
theorem dX9_lay_59 : decode cX9_lay 59 = .ok (.iconst 1, 1) := by decide +kernel
theorem dX9_lay_60 : decode cX9_lay 60 = .ok (.iaload, 1) := by decide +kernel
theorem dX9_lay_61 : decode cX9_lay 61 = .ok (.iastore, 1) := by decide +kernel
theorem dX9_lay_62 : decode cX9_lay 62 = .ok (.iconst 0, 1) := by decide +kernel
theorem dX9_lay_63 : decode cX9_lay 63 = .ok (.istore_n 1, 1) := by decide +kernel
theorem dX9_lay_64 : decode cX9_lay 64 = .ok (.iload_n 1, 1) := by decide +kernel
theorem dX9_lay_65 : decode cX9_lay 65 = .ok (.bipush 6, 2) := by decide +kernel
theorem dX9_lay_67 : decode cX9_lay 67 = .ok (.if_icmp .ge 114, 3) := by decide +kernel
theorem dX9_lay_70 : decode cX9_lay 70 = .ok (.aload_n 0, 1) := by decide +kernel
theorem dX9_lay_71 : decode cX9_lay 71 = .ok (.getfield 19, 3) := by decide +kernel
theorem dX9_lay_74 : decode cX9_lay 74 = .ok (.iload_n 1, 1) := by decide +kernel
theorem dX9_lay_75 : decode cX9_lay 75 = .ok (.aload_n 0, 1) := by decide +kernel
theorem dX9_lay_76 : decode cX9_lay 76 = .ok (.getfield 19, 3) := by decide +kernel
theorem dX9_lay_79 : decode cX9_lay 79 = .ok (.bipush 6, 2) := by decide +kernel
theorem dX9_lay_81 : decode cX9_lay 81 = .ok (.iload_n 1, 1) := by decide +kernel
theorem dX9_lay_82 : decode cX9_lay 82 = .ok (.iadd, 1) := by decide +kernel
theorem dX9_lay_83 : decode cX9_lay 83 = .ok (.iaload, 1) := by decide +kernel
theorem dX9_lay_84 : decode cX9_lay 84 = .ok (.iastore, 1) := by decide +kernel
theorem dX9_lay_85 : decode cX9_lay 85 = .ok (.aload_n 0, 1) := by decide +kernel
theorem dX9_lay_86 : decode cX9_lay 86 = .ok (.getfield 22, 3) := by decide +kernel
theorem dX9_lay_89 : decode cX9_lay 89 = .ok (.iload_n 1, 1) := by decide +kernel
theorem dX9_lay_90 : decode cX9_lay 90 = .ok (.aload_n 0, 1) := by decide +kernel
theorem dX9_lay_91 : decode cX9_lay 91 = .ok (.getfield 22, 3) := by decide +kernel
theorem dX9_lay_94 : decode cX9_lay 94 = .ok (.bipush 6, 2) := by decide +kernel
theorem dX9_lay_96 : decode cX9_lay 96 = .ok (.iload_n 1, 1) := by decide +kernel
theorem dX9_lay_97 : decode cX9_lay 97 = .ok (.iadd, 1) := by decide +kernel
theorem dX9_lay_98 : decode cX9_lay 98 = .ok (.iaload, 1) := by decide +kernel
theorem dX9_lay_99 : decode cX9_lay 99 = .ok (.iastore, 1) := by decide +kernel
theorem dX9_lay_100 : decode cX9_lay 100 = .ok (.aload_n 0, 1) := by decide +kernel
theorem dX9_lay_101 : decode cX9_lay 101 = .ok (.getfield 25, 3) := by decide +kernel
theorem dX9_lay_104 : decode cX9_lay 104 = .ok (.iload_n 1, 1) := by decide +kernel
theorem dX9_lay_105 : decode cX9_lay 105 = .ok (.aload_n 0, 1) := by decide +kernel
theorem dX9_lay_106 : decode cX9_lay 106 = .ok (.getfield 25, 3) := by decide +kernel
theorem dX9_lay_109 : decode cX9_lay 109 = .ok (.bipush 6, 2) := by decide +kernel
theorem dX9_lay_111 : decode cX9_lay 111 = .ok (.iload_n 1, 1) := by decide +kernel
theorem dX9_lay_112 : decode cX9_lay 112 = .ok (.iadd, 1) := by decide +kernel
theorem dX9_lay_113 : decode cX9_lay 113 = .ok (.iaload, 1) := by decide +kernel
theorem dX9_lay_114 : decode cX9_lay 114 = .ok (.iastore, 1) := by decide +kernel
theorem dX9_lay_115 : decode cX9_lay 115 = .ok (.aload_n 0, 1) := by decide +kernel
theorem dX9_lay_116 : decode cX9_lay 116 = .ok (.getfield 28, 3) := by decide +kernel
theorem dX9_lay_119 : decode cX9_lay 119 = .ok (.iload_n 1, 1) := by decide +kernel
theorem dX9_lay_120 : decode cX9_lay 120 = .ok (.aload_n 0, 1) := by decide +kernel
theorem dX9_lay_121 : decode cX9_lay 121 = .ok (.getfield 28, 3) := by decide +kernel
theorem dX9_lay_124 : decode cX9_lay 124 = .ok (.bipush 6, 2) := by decide +kernel
theorem dX9_lay_126 : decode cX9_lay 126 = .ok (.iload_n 1, 1) := by decide +kernel
theorem dX9_lay_127 : decode cX9_lay 127 = .ok (.iadd, 1) := by decide +kernel
theorem dX9_lay_128 : decode cX9_lay 128 = .ok (.iaload, 1) := by decide +kernel
theorem dX9_lay_129 : decode cX9_lay 129 = .ok (.iastore, 1) := by decide +kernel
theorem dX9_lay_130 : decode cX9_lay 130 = .ok (.aload_n 0, 1) := by decide +kernel
theorem dX9_lay_131 : decode cX9_lay 131 = .ok (.getfield 31, 3) := by decide +kernel
theorem dX9_lay_134 : decode cX9_lay 134 = .ok (.iload_n 1, 1) := by decide +kernel
theorem dX9_lay_135 : decode cX9_lay 135 = .ok (.aload_n 0, 1) := by decide +kernel
theorem dX9_lay_136 : decode cX9_lay 136 = .ok (.getfield 31, 3) := by decide +kernel
theorem dX9_lay_139 : decode cX9_lay 139 = .ok (.bipush 6, 2) := by decide +kernel
theorem dX9_lay_141 : decode cX9_lay 141 = .ok (.iload_n 1, 1) := by decide +kernel
theorem dX9_lay_142 : decode cX9_lay 142 = .ok (.iadd, 1) := by decide +kernel
theorem dX9_lay_143 : decode cX9_lay 143 = .ok (.iaload, 1) := by decide +kernel
theorem dX9_lay_144 : decode cX9_lay 144 = .ok (.iastore, 1) := by decide +kernel
theorem dX9_lay_145 : decode cX9_lay 145 = .ok (.aload_n 0, 1) := by decide +kernel
theorem dX9_lay_146 : decode cX9_lay 146 = .ok (.getfield 34, 3) := by decide +kernel
theorem dX9_lay_149 : decode cX9_lay 149 = .ok (.iload_n 1, 1) := by decide +kernel
theorem dX9_lay_150 : decode cX9_lay 150 = .ok (.aload_n 0, 1) := by decide +kernel
theorem dX9_lay_151 : decode cX9_lay 151 = .ok (.getfield 34, 3) := by decide +kernel
theorem dX9_lay_154 : decode cX9_lay 154 = .ok (.bipush 6, 2) := by decide +kernel
theorem dX9_lay_156 : decode cX9_lay 156 = .ok (.iload_n 1, 1) := by decide +kernel
theorem dX9_lay_157 : decode cX9_lay 157 = .ok (.iadd, 1) := by decide +kernel
theorem dX9_lay_158 : decode cX9_lay 158 = .ok (.iaload, 1) := by decide +kernel
theorem dX9_lay_159 : decode cX9_lay 159 = .ok (.iastore, 1) := by decide +kernel
theorem dX9_lay_160 : decode cX9_lay 160 = .ok (.aload_n 0, 1) := by decide +kernel
theorem dX9_lay_161 : decode cX9_lay 161 = .ok (.getfield 37, 3) := by decide +kernel
theorem dX9_lay_164 : decode cX9_lay 164 = .ok (.iload_n 1, 1) := by decide +kernel
theorem dX9_lay_165 : decode cX9_lay 165 = .ok (.aload_n 0, 1) := by decide +kernel
theorem dX9_lay_166 : decode cX9_lay 166 = .ok (.getfield 37, 3) := by decide +kernel
theorem dX9_lay_169 : decode cX9_lay 169 = .ok (.bipush 6, 2) := by decide +kernel
theorem dX9_lay_171 : decode cX9_lay 171 = .ok (.iload_n 1, 1) := by decide +kernel
theorem dX9_lay_172 : decode cX9_lay 172 = .ok (.iadd, 1) := by decide +kernel
theorem dX9_lay_173 : decode cX9_lay 173 = .ok (.iaload, 1) := by decide +kernel
theorem dX9_lay_174 : decode cX9_lay 174 = .ok (.iastore, 1) := by decide +kernel
theorem dX9_lay_175 : decode cX9_lay 175 = .ok (.iinc 1 1, 3) := by decide +kernel
theorem dX9_lay_178 : decode cX9_lay 178 = .ok (.goto (-114), 3) := by decide +kernel
theorem dX9_lay_181 : decode cX9_lay 181 = .ok (.iconst 0, 1) := by decide +kernel
theorem dX9_lay_182 : decode cX9_lay 182 = .ok (.istore_n 1, 1) := by decide +kernel
theorem dX9_lay_183 : decode cX9_lay 183 = .ok (.iload_n 1, 1) := by decide +kernel
theorem dX9_lay_184 : decode cX9_lay 184 = .ok (.bipush 18, 2) := by decide +kernel
theorem dX9_lay_186 : decode cX9_lay 186 = .ok (.if_icmp .ge 39, 3) := by decide +kernel
theorem dX9_lay_189 : decode cX9_lay 189 = .ok (.aload_n 0, 1) := by decide +kernel
theorem dX9_lay_190 : decode cX9_lay 190 = .ok (.getfield 40, 3) := by decide +kernel
theorem dX9_lay_193 : decode cX9_lay 193 = .ok (.iload_n 1, 1) := by decide +kernel
theorem dX9_lay_194 : decode cX9_lay 194 = .ok (.aload_n 0, 1) := by decide +kernel
theorem dX9_lay_195 : decode cX9_lay 195 = .ok (.getfield 40, 3) := by decide +kernel
theorem dX9_lay_198 : decode cX9_lay 198 = .ok (.bipush 18, 2) := by decide +kernel
theorem dX9_lay_200 : decode cX9_lay 200 = .ok (.iload_n 1, 1) := by decide +kernel
theorem dX9_lay_201 : decode cX9_lay 201 = .ok (.iadd, 1) := by decide +kernel
theorem dX9_lay_202 : decode cX9_lay 202 = .ok (.iaload, 1) := by decide +kernel
theorem dX9_lay_203 : decode cX9_lay 203 = .ok (.iastore, 1) := by decide +kernel
theorem dX9_lay_204 : decode cX9_lay 204 = .ok (.aload_n 0, 1) := by decide +kernel
theorem dX9_lay_205 : decode cX9_lay 205 = .ok (.getfield 43, 3) := by decide +kernel
theorem dX9_lay_208 : decode cX9_lay 208 = .ok (.iload_n 1, 1) := by decide +kernel
theorem dX9_lay_209 : decode cX9_lay 209 = .ok (.aload_n 0, 1) := by decide +kernel
theorem dX9_lay_210 : decode cX9_lay 210 = .ok (.getfield 43, 3) := by decide +kernel
theorem dX9_lay_213 : decode cX9_lay 213 = .ok (.bipush 18, 2) := by decide +kernel
theorem dX9_lay_215 : decode cX9_lay 215 = .ok (.iload_n 1, 1) := by decide +kernel
theorem dX9_lay_216 : decode cX9_lay 216 = .ok (.iadd, 1) := by decide +kernel
theorem dX9_lay_217 : decode cX9_lay 217 = .ok (.iaload, 1) := by decide +kernel
theorem dX9_lay_218 : decode cX9_lay 218 = .ok (.iastore, 1) := by decide +kernel
theorem dX9_lay_219 : decode cX9_lay 219 = .ok (.iinc 1 1, 3) := by decide +kernel
theorem dX9_lay_222 : decode cX9_lay 222 = .ok (.goto (-39), 3) := by decide +kernel
theorem dX9_lay_225 : decode cX9_lay 225 = .ok (.iconst 0, 1) := by decide +kernel
theorem dX9_lay_226 : decode cX9_lay 226 = .ok (.istore_n 1, 1) := by decide +kernel
theorem dX9_lay_227 : decode cX9_lay 227 = .ok (.iload_n 1, 1) := by decide +kernel
theorem dX9_lay_228 : decode cX9_lay 228 = .ok (.bipush 8, 2) := by decide +kernel
theorem dX9_lay_230 : decode cX9_lay 230 = .ok (.if_icmp .ge 16, 3) := by decide +kernel
theorem dX9_lay_233 : decode cX9_lay 233 = .ok (.aload_n 0, 1) := by decide +kernel
theorem dX9_lay_234 : decode cX9_lay 234 = .ok (.getfield 55, 3) := by decide +kernel
theorem dX9_lay_237 : decode cX9_lay 237 = .ok (.iload_n 1, 1) := by decide +kernel
theorem dX9_lay_238 : decode cX9_lay 238 = .ok (.iconst 0, 1) := by decide +kernel
theorem dX9_lay_239 : decode cX9_lay 239 = .ok (.iastore, 1) := by decide +kernel
theorem dX9_lay_240 : decode cX9_lay 240 = .ok (.iinc 1 1, 3) := by decide +kernel
theorem dX9_lay_243 : decode cX9_lay 243 = .ok (.goto (-16), 3) := by decide +kernel
theorem dX9_lay_246 : decode cX9_lay 246 = .ok (.aload_n 0, 1) := by decide +kernel
theorem dX9_lay_247 : decode cX9_lay 247 = .ok (.getfield 52, 3) := by decide +kernel
theorem dX9_lay_250 : decode cX9_lay 250 = .ok (.iconst 0, 1) := by decide +kernel
theorem dX9_lay_251 : decode cX9_lay 251 = .ok (.iconst 0, 1) := by decide +kernel
theorem dX9_lay_252 : decode cX9_lay 252 = .ok (.iastore, 1) := by decide +kernel
theorem dX9_lay_253 : decode cX9_lay 253 = .ok (.aload_n 0, 1) := by decide +kernel
theorem dX9_lay_254 : decode cX9_lay 254 = .ok (.iconst 0, 1) := by decide +kernel
theorem dX9_lay_255 : decode cX9_lay 255 = .ok (.putfield 172, 3) := by decide +kernel
theorem dX9_lay_258 : decode cX9_lay 258 = .ok (.aload_n 0, 1) := by decide +kernel
theorem dX9_lay_259 : decode cX9_lay 259 = .ok (.invokevirtual 90, 3) := by decide +kernel
theorem dX9_lay_262 : decode cX9_lay 262 = .ok (.aload_n 0, 1) := by decide +kernel
theorem dX9_lay_263 : decode cX9_lay 263 = .ok (.getfield 148, 3) := by decide +kernel
theorem dX9_lay_266 : decode cX9_lay 266 = .ok (.ireturn, 1) := by decide +kernel
theorem dX9_isGiver_0 : decode cX9_isGiver 0 = .ok (.iload_n 1, 1) := by decide +kernel
theorem dX9_isGiver_1 : decode cX9_isGiver 1 = .ok (.i2l, 1) := by decide +kernel
theorem dX9_isGiver_2 : decode cX9_isGiver 2 = .ok (.lconst 0, 1) := by decide +kernel
theorem dX9_isGiver_3 : decode cX9_isGiver 3 = .ok (.aload_n 0, 1) := by decide +kernel
theorem dX9_isGiver_4 : decode cX9_isGiver 4 = .ok (.getfield 148, 3) := by decide +kernel
theorem dX9_isGiver_7 : decode cX9_isGiver 7 = .ok (.iconst 1, 1) := by decide +kernel
theorem dX9_isGiver_8 : decode cX9_isGiver 8 = .ok (.isub, 1) := by decide +kernel
theorem dX9_isGiver_9 : decode cX9_isGiver 9 = .ok (.i2l, 1) := by decide +kernel
theorem dX9_isGiver_10 : decode cX9_isGiver 10 = .ok (.invokestatic 95, 3) := by decide +kernel
theorem dX9_isGiver_13 : decode cX9_isGiver 13 = .ok (.ireturn, 1) := by decide +kernel
theorem dX9_dayOf_0 : decode cX9_dayOf 0 = .ok (.aload_n 0, 1) := by decide +kernel
theorem dX9_dayOf_1 : decode cX9_dayOf 1 = .ok (.getfield 22, 3) := by decide +kernel
theorem dX9_dayOf_4 : decode cX9_dayOf 4 = .ok (.aload_n 0, 1) := by decide +kernel
theorem dX9_dayOf_5 : decode cX9_dayOf 5 = .ok (.getfield 46, 3) := by decide +kernel
theorem dX9_dayOf_8 : decode cX9_dayOf 8 = .ok (.iload_n 1, 1) := by decide +kernel
theorem dX9_dayOf_9 : decode cX9_dayOf 9 = .ok (.iaload, 1) := by decide +kernel
theorem dX9_dayOf_10 : decode cX9_dayOf 10 = .ok (.iaload, 1) := by decide +kernel
theorem dX9_dayOf_11 : decode cX9_dayOf 11 = .ok (.iconst 4, 1) := by decide +kernel
theorem dX9_dayOf_12 : decode cX9_dayOf 12 = .ok (.if_icmp .ne 10, 3) := by decide +kernel
theorem dX9_dayOf_15 : decode cX9_dayOf 15 = .ok (.aload_n 0, 1) := by decide +kernel
theorem dX9_dayOf_16 : decode cX9_dayOf 16 = .ok (.getfield 157, 3) := by decide +kernel
theorem dX9_dayOf_19 : decode cX9_dayOf 19 = .ok (.goto 9, 3) := by decide +kernel
theorem dX9_dayOf_22 : decode cX9_dayOf 22 = .ok (.aload_n 0, 1) := by decide +kernel
theorem dX9_dayOf_23 : decode cX9_dayOf 23 = .ok (.getfield 49, 3) := by decide +kernel
theorem dX9_dayOf_26 : decode cX9_dayOf 26 = .ok (.iload_n 1, 1) := by decide +kernel
theorem dX9_dayOf_27 : decode cX9_dayOf 27 = .ok (.iaload, 1) := by decide +kernel
theorem dX9_dayOf_28 : decode cX9_dayOf 28 = .ok (.ireturn, 1) := by decide +kernel
theorem dX9_layOrder_0 : decode cX9_layOrder 0 = .ok (.aload_n 0, 1) := by decide +kernel
theorem dX9_layOrder_1 : decode cX9_layOrder 1 = .ok (.iconst 0, 1) := by decide +kernel
theorem dX9_layOrder_2 : decode cX9_layOrder 2 = .ok (.putfield 175, 3) := by decide +kernel
theorem dX9_layOrder_5 : decode cX9_layOrder 5 = .ok (.iconst 0, 1) := by decide +kernel
theorem dX9_layOrder_6 : decode cX9_layOrder 6 = .ok (.istore_n 1, 1) := by decide +kernel
theorem dX9_layOrder_7 : decode cX9_layOrder 7 = .ok (.iload_n 1, 1) := by decide +kernel
theorem dX9_layOrder_8 : decode cX9_layOrder 8 = .ok (.aload_n 0, 1) := by decide +kernel
theorem dX9_layOrder_9 : decode cX9_layOrder 9 = .ok (.getfield 157, 3) := by decide +kernel
theorem dX9_layOrder_12 : decode cX9_layOrder 12 = .ok (.if_icmp .gt 54, 3) := by decide +kernel
theorem dX9_layOrder_15 : decode cX9_layOrder 15 = .ok (.iconst 0, 1) := by decide +kernel
theorem dX9_layOrder_16 : decode cX9_layOrder 16 = .ok (.istore_n 2, 1) := by decide +kernel
theorem dX9_layOrder_17 : decode cX9_layOrder 17 = .ok (.iload_n 2, 1) := by decide +kernel
theorem dX9_layOrder_18 : decode cX9_layOrder 18 = .ok (.aload_n 0, 1) := by decide +kernel
theorem dX9_layOrder_19 : decode cX9_layOrder 19 = .ok (.getfield 148, 3) := by decide +kernel
theorem dX9_layOrder_22 : decode cX9_layOrder 22 = .ok (.if_icmp .ge 38, 3) := by decide +kernel
theorem dX9_layOrder_25 : decode cX9_layOrder 25 = .ok (.aload_n 0, 1) := by decide +kernel
theorem dX9_layOrder_26 : decode cX9_layOrder 26 = .ok (.iload_n 2, 1) := by decide +kernel
theorem dX9_layOrder_27 : decode cX9_layOrder 27 = .ok (.invokevirtual 178, 3) := by decide +kernel
theorem dX9_layOrder_30 : decode cX9_layOrder 30 = .ok (.iload_n 1, 1) := by decide +kernel
theorem dX9_layOrder_31 : decode cX9_layOrder 31 = .ok (.if_icmp .ne 23, 3) := by decide +kernel
theorem dX9_layOrder_34 : decode cX9_layOrder 34 = .ok (.aload_n 0, 1) := by decide +kernel
theorem dX9_layOrder_35 : decode cX9_layOrder 35 = .ok (.getfield 61, 3) := by decide +kernel
theorem dX9_layOrder_38 : decode cX9_layOrder 38 = .ok (.aload_n 0, 1) := by decide +kernel
theorem dX9_layOrder_39 : decode cX9_layOrder 39 = .ok (.getfield 175, 3) := by decide +kernel
theorem dX9_layOrder_42 : decode cX9_layOrder 42 = .ok (.iload_n 2, 1) := by decide +kernel
theorem dX9_layOrder_43 : decode cX9_layOrder 43 = .ok (.iastore, 1) := by decide +kernel
theorem dX9_layOrder_44 : decode cX9_layOrder 44 = .ok (.aload_n 0, 1) := by decide +kernel
theorem dX9_layOrder_45 : decode cX9_layOrder 45 = .ok (.dup, 1) := by decide +kernel
theorem dX9_layOrder_46 : decode cX9_layOrder 46 = .ok (.getfield 175, 3) := by decide +kernel
theorem dX9_layOrder_49 : decode cX9_layOrder 49 = .ok (.iconst 1, 1) := by decide +kernel
theorem dX9_layOrder_50 : decode cX9_layOrder 50 = .ok (.iadd, 1) := by decide +kernel
theorem dX9_layOrder_51 : decode cX9_layOrder 51 = .ok (.putfield 175, 3) := by decide +kernel
theorem dX9_layOrder_54 : decode cX9_layOrder 54 = .ok (.iinc 2 1, 3) := by decide +kernel
theorem dX9_layOrder_57 : decode cX9_layOrder 57 = .ok (.goto (-40), 3) := by decide +kernel
theorem dX9_layOrder_60 : decode cX9_layOrder 60 = .ok (.iinc 1 1, 3) := by decide +kernel
theorem dX9_layOrder_63 : decode cX9_layOrder 63 = .ok (.goto (-56), 3) := by decide +kernel
theorem dX9_layOrder_66 : decode cX9_layOrder 66 = .ok (.return_, 1) := by decide +kernel
theorem dX9_placeOf_0 : decode cX9_placeOf 0 = .ok (.iconst 0, 1) := by decide +kernel
theorem dX9_placeOf_1 : decode cX9_placeOf 1 = .ok (.istore_n 2, 1) := by decide +kernel
theorem dX9_placeOf_2 : decode cX9_placeOf 2 = .ok (.iload_n 2, 1) := by decide +kernel
theorem dX9_placeOf_3 : decode cX9_placeOf 3 = .ok (.aload_n 0, 1) := by decide +kernel
theorem dX9_placeOf_4 : decode cX9_placeOf 4 = .ok (.getfield 175, 3) := by decide +kernel
theorem dX9_placeOf_7 : decode cX9_placeOf 7 = .ok (.if_icmp .ge 21, 3) := by decide +kernel
theorem dX9_placeOf_10 : decode cX9_placeOf 10 = .ok (.aload_n 0, 1) := by decide +kernel
theorem dX9_placeOf_11 : decode cX9_placeOf 11 = .ok (.getfield 61, 3) := by decide +kernel
theorem dX9_placeOf_14 : decode cX9_placeOf 14 = .ok (.iload_n 2, 1) := by decide +kernel
theorem dX9_placeOf_15 : decode cX9_placeOf 15 = .ok (.iaload, 1) := by decide +kernel
theorem dX9_placeOf_16 : decode cX9_placeOf 16 = .ok (.iload_n 1, 1) := by decide +kernel
theorem dX9_placeOf_17 : decode cX9_placeOf 17 = .ok (.if_icmp .ne 5, 3) := by decide +kernel
theorem dX9_placeOf_20 : decode cX9_placeOf 20 = .ok (.iload_n 2, 1) := by decide +kernel
theorem dX9_placeOf_21 : decode cX9_placeOf 21 = .ok (.ireturn, 1) := by decide +kernel
theorem dX9_placeOf_22 : decode cX9_placeOf 22 = .ok (.iinc 2 1, 3) := by decide +kernel
theorem dX9_placeOf_25 : decode cX9_placeOf 25 = .ok (.goto (-23), 3) := by decide +kernel
theorem dX9_placeOf_28 : decode cX9_placeOf 28 = .ok (.bipush (-4), 2) := by decide +kernel
theorem dX9_placeOf_30 : decode cX9_placeOf 30 = .ok (.ireturn, 1) := by decide +kernel
theorem dX9_giver_0 : decode cX9_giver 0 = .ok (.aload_n 0, 1) := by decide +kernel
theorem dX9_giver_1 : decode cX9_giver 1 = .ok (.iload_n 1, 1) := by decide +kernel
theorem dX9_giver_2 : decode cX9_giver 2 = .ok (.invokevirtual 181, 3) := by decide +kernel
theorem dX9_giver_5 : decode cX9_giver 5 = .ok (.ifCond .eq 15, 3) := by decide +kernel
theorem dX9_giver_8 : decode cX9_giver 8 = .ok (.iload_n 2, 1) := by decide +kernel
theorem dX9_giver_9 : decode cX9_giver 9 = .ok (.i2l, 1) := by decide +kernel
theorem dX9_giver_10 : decode cX9_giver 10 = .ok (.lconst 0, 1) := by decide +kernel
theorem dX9_giver_11 : decode cX9_giver 11 = .ok (.ldc2_w 116, 3) := by decide +kernel
theorem dX9_giver_14 : decode cX9_giver 14 = .ok (.invokestatic 95, 3) := by decide +kernel
theorem dX9_giver_17 : decode cX9_giver 17 = .ok (.ifCond .ne 5, 3) := by decide +kernel
theorem dX9_giver_20 : decode cX9_giver 20 = .ok (.iconst (-1), 1) := by decide +kernel
theorem dX9_giver_21 : decode cX9_giver 21 = .ok (.ireturn, 1) := by decide +kernel
theorem dX9_giver_22 : decode cX9_giver 22 = .ok (.aload_n 0, 1) := by decide +kernel
theorem dX9_giver_23 : decode cX9_giver 23 = .ok (.invokevirtual 151, 3) := by decide +kernel
theorem dX9_giver_26 : decode cX9_giver 26 = .ok (.aload_n 0, 1) := by decide +kernel
theorem dX9_giver_27 : decode cX9_giver 27 = .ok (.invokevirtual 184, 3) := by decide +kernel
theorem dX9_giver_30 : decode cX9_giver 30 = .ok (.iload_n 2, 1) := by decide +kernel
theorem dX9_giver_31 : decode cX9_giver 31 = .ok (.iconst 2, 1) := by decide +kernel
theorem dX9_giver_32 : decode cX9_giver 32 = .ok (.if_icmp .ge 28, 3) := by decide +kernel
theorem dX9_giver_35 : decode cX9_giver 35 = .ok (.iload_n 2, 1) := by decide +kernel
theorem dX9_giver_36 : decode cX9_giver 36 = .ok (.ifCond .ne 12, 3) := by decide +kernel
theorem dX9_giver_39 : decode cX9_giver 39 = .ok (.aload_n 0, 1) := by decide +kernel
theorem dX9_giver_40 : decode cX9_giver 40 = .ok (.getfield 46, 3) := by decide +kernel
theorem dX9_giver_43 : decode cX9_giver 43 = .ok (.iload_n 1, 1) := by decide +kernel
theorem dX9_giver_44 : decode cX9_giver 44 = .ok (.iaload, 1) := by decide +kernel
theorem dX9_giver_45 : decode cX9_giver 45 = .ok (.goto 14, 3) := by decide +kernel
theorem dX9_giver_48 : decode cX9_giver 48 = .ok (.aload_n 0, 1) := by decide +kernel
theorem dX9_giver_49 : decode cX9_giver 49 = .ok (.getfield 22, 3) := by decide +kernel
theorem dX9_giver_52 : decode cX9_giver 52 = .ok (.aload_n 0, 1) := by decide +kernel
theorem dX9_giver_53 : decode cX9_giver 53 = .ok (.getfield 46, 3) := by decide +kernel
theorem dX9_giver_56 : decode cX9_giver 56 = .ok (.iload_n 1, 1) := by decide +kernel
theorem dX9_giver_57 : decode cX9_giver 57 = .ok (.iaload, 1) := by decide +kernel
theorem dX9_giver_58 : decode cX9_giver 58 = .ok (.iaload, 1) := by decide +kernel
theorem dX9_giver_59 : decode cX9_giver 59 = .ok (.ireturn, 1) := by decide +kernel
theorem dX9_giver_60 : decode cX9_giver 60 = .ok (.aload_n 0, 1) := by decide +kernel
theorem dX9_giver_61 : decode cX9_giver 61 = .ok (.iload_n 1, 1) := by decide +kernel
theorem dX9_giver_62 : decode cX9_giver 62 = .ok (.invokevirtual 187, 3) := by decide +kernel
theorem dX9_giver_65 : decode cX9_giver 65 = .ok (.bipush (-4), 2) := by decide +kernel
theorem dX9_giver_67 : decode cX9_giver 67 = .ok (.if_icmp .ne 8, 3) := by decide +kernel
theorem dX9_giver_70 : decode cX9_giver 70 = .ok (.bipush (-4), 2) := by decide +kernel
theorem dX9_giver_72 : decode cX9_giver 72 = .ok (.goto 21, 3) := by decide +kernel
theorem dX9_giver_75 : decode cX9_giver 75 = .ok (.iload_n 2, 1) := by decide +kernel
theorem dX9_giver_76 : decode cX9_giver 76 = .ok (.iconst 2, 1) := by decide +kernel
theorem dX9_giver_77 : decode cX9_giver 77 = .ok (.if_icmp .ne 11, 3) := by decide +kernel
theorem dX9_giver_80 : decode cX9_giver 80 = .ok (.aload_n 0, 1) := by decide +kernel
theorem dX9_giver_81 : decode cX9_giver 81 = .ok (.iload_n 1, 1) := by decide +kernel
theorem dX9_giver_82 : decode cX9_giver 82 = .ok (.invokevirtual 178, 3) := by decide +kernel
theorem dX9_giver_85 : decode cX9_giver 85 = .ok (.goto 8, 3) := by decide +kernel
theorem dX9_giver_88 : decode cX9_giver 88 = .ok (.aload_n 0, 1) := by decide +kernel
theorem dX9_giver_89 : decode cX9_giver 89 = .ok (.iload_n 1, 1) := by decide +kernel
theorem dX9_giver_90 : decode cX9_giver 90 = .ok (.invokevirtual 187, 3) := by decide +kernel
theorem dX9_giver_93 : decode cX9_giver 93 = .ok (.ireturn, 1) := by decide +kernel
theorem dX9_show_0 : decode cX9_show 0 = .ok (.iload_n 1, 1) := by decide +kernel
theorem dX9_show_1 : decode cX9_show 1 = .ok (.i2l, 1) := by decide +kernel
theorem dX9_show_2 : decode cX9_show 2 = .ok (.lconst 0, 1) := by decide +kernel
theorem dX9_show_3 : decode cX9_show 3 = .ok (.ldc2_w 190, 3) := by decide +kernel
theorem dX9_show_6 : decode cX9_show 6 = .ok (.invokestatic 95, 3) := by decide +kernel
theorem dX9_show_9 : decode cX9_show 9 = .ok (.ifCond .ne 5, 3) := by decide +kernel
theorem dX9_show_12 : decode cX9_show 12 = .ok (.iconst (-1), 1) := by decide +kernel
theorem dX9_show_13 : decode cX9_show 13 = .ok (.ireturn, 1) := by decide +kernel
theorem dX9_show_14 : decode cX9_show 14 = .ok (.aload_n 0, 1) := by decide +kernel
theorem dX9_show_15 : decode cX9_show 15 = .ok (.getfield 52, 3) := by decide +kernel
theorem dX9_show_18 : decode cX9_show 18 = .ok (.iconst 0, 1) := by decide +kernel
theorem dX9_show_19 : decode cX9_show 19 = .ok (.iaload, 1) := by decide +kernel
theorem dX9_show_20 : decode cX9_show 20 = .ok (.istore_n 2, 1) := by decide +kernel
theorem dX9_show_21 : decode cX9_show 21 = .ok (.aload_n 0, 1) := by decide +kernel
theorem dX9_show_22 : decode cX9_show 22 = .ok (.getfield 52, 3) := by decide +kernel
theorem dX9_show_25 : decode cX9_show 25 = .ok (.iconst 0, 1) := by decide +kernel
theorem dX9_show_26 : decode cX9_show 26 = .ok (.iload_n 1, 1) := by decide +kernel
theorem dX9_show_27 : decode cX9_show 27 = .ok (.iastore, 1) := by decide +kernel
theorem dX9_show_28 : decode cX9_show 28 = .ok (.iload_n 2, 1) := by decide +kernel
theorem dX9_show_29 : decode cX9_show 29 = .ok (.ireturn, 1) := by decide +kernel
theorem dX9_lackOf_0 : decode cX9_lackOf 0 = .ok (.aload_n 0, 1) := by decide +kernel
theorem dX9_lackOf_1 : decode cX9_lackOf 1 = .ok (.getfield 163, 3) := by decide +kernel
theorem dX9_lackOf_4 : decode cX9_lackOf 4 = .ok (.ifCond .ne 7, 3) := by decide +kernel
theorem dX9_lackOf_7 : decode cX9_lackOf 7 = .ok (.iload_n 2, 1) := by decide +kernel
theorem dX9_lackOf_8 : decode cX9_lackOf 8 = .ok (.goto 21, 3) := by decide +kernel
theorem dX9_lackOf_11 : decode cX9_lackOf 11 = .ok (.aload_n 0, 1) := by decide +kernel
theorem dX9_lackOf_12 : decode cX9_lackOf 12 = .ok (.getfield 163, 3) := by decide +kernel
theorem dX9_lackOf_15 : decode cX9_lackOf 15 = .ok (.iconst 1, 1) := by decide +kernel
theorem dX9_lackOf_16 : decode cX9_lackOf 16 = .ok (.if_icmp .ne 7, 3) := by decide +kernel
theorem dX9_lackOf_19 : decode cX9_lackOf 19 = .ok (.iconst 0, 1) := by decide +kernel
theorem dX9_lackOf_20 : decode cX9_lackOf 20 = .ok (.goto 9, 3) := by decide +kernel
theorem dX9_lackOf_23 : decode cX9_lackOf 23 = .ok (.iload_n 2, 1) := by decide +kernel
theorem dX9_lackOf_24 : decode cX9_lackOf 24 = .ok (.iload_n 2, 1) := by decide +kernel
theorem dX9_lackOf_25 : decode cX9_lackOf 25 = .ok (.bipush 10, 2) := by decide +kernel
theorem dX9_lackOf_27 : decode cX9_lackOf 27 = .ok (.irem, 1) := by decide +kernel
theorem dX9_lackOf_28 : decode cX9_lackOf 28 = .ok (.isub, 1) := by decide +kernel
theorem dX9_lackOf_29 : decode cX9_lackOf 29 = .ok (.istore_n 3, 1) := by decide +kernel
theorem dX9_lackOf_30 : decode cX9_lackOf 30 = .ok (.iload_n 1, 1) := by decide +kernel
theorem dX9_lackOf_31 : decode cX9_lackOf 31 = .ok (.iload_n 3, 1) := by decide +kernel
theorem dX9_lackOf_32 : decode cX9_lackOf 32 = .ok (.if_icmp .le 9, 3) := by decide +kernel
theorem dX9_lackOf_35 : decode cX9_lackOf 35 = .ok (.iload_n 1, 1) := by decide +kernel
theorem dX9_lackOf_36 : decode cX9_lackOf 36 = .ok (.iload_n 3, 1) := by decide +kernel
theorem dX9_lackOf_37 : decode cX9_lackOf 37 = .ok (.isub, 1) := by decide +kernel
theorem dX9_lackOf_38 : decode cX9_lackOf 38 = .ok (.goto 4, 3) := by decide +kernel
theorem dX9_lackOf_41 : decode cX9_lackOf 41 = .ok (.iconst 0, 1) := by decide +kernel
theorem dX9_lackOf_42 : decode cX9_lackOf 42 = .ok (.ireturn, 1) := by decide +kernel
theorem dX9_lesser_0 : decode cX9_lesser 0 = .ok (.iload_n 0, 1) := by decide +kernel
theorem dX9_lesser_1 : decode cX9_lesser 1 = .ok (.iload_n 1, 1) := by decide +kernel
theorem dX9_lesser_2 : decode cX9_lesser 2 = .ok (.if_icmp .ge 7, 3) := by decide +kernel
theorem dX9_lesser_5 : decode cX9_lesser 5 = .ok (.iload_n 0, 1) := by decide +kernel
theorem dX9_lesser_6 : decode cX9_lesser 6 = .ok (.goto 4, 3) := by decide +kernel
theorem dX9_lesser_9 : decode cX9_lesser 9 = .ok (.iload_n 1, 1) := by decide +kernel
theorem dX9_lesser_10 : decode cX9_lesser 10 = .ok (.ireturn, 1) := by decide +kernel
theorem dX9_giftBy_0 : decode cX9_giftBy 0 = .ok (.iload_n 3, 1) := by decide +kernel
theorem dX9_giftBy_1 : decode cX9_giftBy 1 = .ok (.iload 4, 2) := by decide +kernel
theorem dX9_giftBy_3 : decode cX9_giftBy 3 = .ok (.invokestatic 192, 3) := by decide +kernel
theorem dX9_giftBy_6 : decode cX9_giftBy 6 = .ok (.istore 7, 2) := by decide +kernel
theorem dX9_giftBy_8 : decode cX9_giftBy 8 = .ok (.iload_n 1, 1) := by decide +kernel
theorem dX9_giftBy_9 : decode cX9_giftBy 9 = .ok (.tableswitch 146 0 5 #[39, 146, 59, 66, 115, 129], 39) := by decide +kernel
theorem dX9_giftBy_48 : decode cX9_giftBy 48 = .ok (.iload 6, 2) := by decide +kernel
theorem dX9_giftBy_50 : decode cX9_giftBy 50 = .ok (.iconst 1, 1) := by decide +kernel
theorem dX9_giftBy_51 : decode cX9_giftBy 51 = .ok (.if_icmp .ne 15, 3) := by decide +kernel
theorem dX9_giftBy_54 : decode cX9_giftBy 54 = .ok (.iload 5, 2) := by decide +kernel
theorem dX9_giftBy_56 : decode cX9_giftBy 56 = .ok (.iload 7, 2) := by decide +kernel
theorem dX9_giftBy_58 : decode cX9_giftBy 58 = .ok (.if_icmp .gt 8, 3) := by decide +kernel
theorem dX9_giftBy_61 : decode cX9_giftBy 61 = .ok (.iload 5, 2) := by decide +kernel
theorem dX9_giftBy_63 : decode cX9_giftBy 63 = .ok (.goto 4, 3) := by decide +kernel
theorem dX9_giftBy_66 : decode cX9_giftBy 66 = .ok (.iconst 0, 1) := by decide +kernel
theorem dX9_giftBy_67 : decode cX9_giftBy 67 = .ok (.ireturn, 1) := by decide +kernel
theorem dX9_giftBy_68 : decode cX9_giftBy 68 = .ok (.iload 7, 2) := by decide +kernel
theorem dX9_giftBy_70 : decode cX9_giftBy 70 = .ok (.iconst 1, 1) := by decide +kernel
theorem dX9_giftBy_71 : decode cX9_giftBy 71 = .ok (.iadd, 1) := by decide +kernel
theorem dX9_giftBy_72 : decode cX9_giftBy 72 = .ok (.iconst 2, 1) := by decide +kernel
theorem dX9_giftBy_73 : decode cX9_giftBy 73 = .ok (.idiv, 1) := by decide +kernel
theorem dX9_giftBy_74 : decode cX9_giftBy 74 = .ok (.ireturn, 1) := by decide +kernel
theorem dX9_giftBy_75 : decode cX9_giftBy 75 = .ok (.aload_n 0, 1) := by decide +kernel
theorem dX9_giftBy_76 : decode cX9_giftBy 76 = .ok (.iload_n 2, 1) := by decide +kernel
theorem dX9_giftBy_77 : decode cX9_giftBy 77 = .ok (.invokevirtual 178, 3) := by decide +kernel
theorem dX9_giftBy_80 : decode cX9_giftBy 80 = .ok (.aload_n 0, 1) := by decide +kernel
theorem dX9_giftBy_81 : decode cX9_giftBy 81 = .ok (.getfield 13, 3) := by decide +kernel
theorem dX9_giftBy_84 : decode cX9_giftBy 84 = .ok (.bipush 6, 2) := by decide +kernel
theorem dX9_giftBy_86 : decode cX9_giftBy 86 = .ok (.iaload, 1) := by decide +kernel
theorem dX9_giftBy_87 : decode cX9_giftBy 87 = .ok (.if_icmp .gt 21, 3) := by decide +kernel
theorem dX9_giftBy_90 : decode cX9_giftBy 90 = .ok (.iload 7, 2) := by decide +kernel
theorem dX9_giftBy_92 : decode cX9_giftBy 92 = .ok (.aload_n 0, 1) := by decide +kernel
theorem dX9_giftBy_93 : decode cX9_giftBy 93 = .ok (.getfield 160, 3) := by decide +kernel
theorem dX9_giftBy_96 : decode cX9_giftBy 96 = .ok (.iadd, 1) := by decide +kernel
theorem dX9_giftBy_97 : decode cX9_giftBy 97 = .ok (.iload 4, 2) := by decide +kernel
theorem dX9_giftBy_99 : decode cX9_giftBy 99 = .ok (.invokestatic 192, 3) := by decide +kernel
theorem dX9_giftBy_102 : decode cX9_giftBy 102 = .ok (.iload 5, 2) := by decide +kernel
theorem dX9_giftBy_104 : decode cX9_giftBy 104 = .ok (.invokestatic 192, 3) := by decide +kernel
theorem dX9_giftBy_107 : decode cX9_giftBy 107 = .ok (.ireturn, 1) := by decide +kernel
theorem dX9_giftBy_108 : decode cX9_giftBy 108 = .ok (.iload 5, 2) := by decide +kernel
theorem dX9_giftBy_110 : decode cX9_giftBy 110 = .ok (.iload 6, 2) := by decide +kernel
theorem dX9_giftBy_112 : decode cX9_giftBy 112 = .ok (.iadd, 1) := by decide +kernel
theorem dX9_giftBy_113 : decode cX9_giftBy 113 = .ok (.iconst 1, 1) := by decide +kernel
theorem dX9_giftBy_114 : decode cX9_giftBy 114 = .ok (.isub, 1) := by decide +kernel
theorem dX9_giftBy_115 : decode cX9_giftBy 115 = .ok (.iload 6, 2) := by decide +kernel
theorem dX9_giftBy_117 : decode cX9_giftBy 117 = .ok (.idiv, 1) := by decide +kernel
theorem dX9_giftBy_118 : decode cX9_giftBy 118 = .ok (.iload 7, 2) := by decide +kernel
theorem dX9_giftBy_120 : decode cX9_giftBy 120 = .ok (.invokestatic 192, 3) := by decide +kernel
theorem dX9_giftBy_123 : decode cX9_giftBy 123 = .ok (.ireturn, 1) := by decide +kernel
theorem dX9_giftBy_124 : decode cX9_giftBy 124 = .ok (.iload 5, 2) := by decide +kernel
theorem dX9_giftBy_126 : decode cX9_giftBy 126 = .ok (.iload 7, 2) := by decide +kernel
theorem dX9_giftBy_128 : decode cX9_giftBy 128 = .ok (.if_icmp .gt 8, 3) := by decide +kernel
theorem dX9_giftBy_131 : decode cX9_giftBy 131 = .ok (.iload 5, 2) := by decide +kernel
theorem dX9_giftBy_133 : decode cX9_giftBy 133 = .ok (.goto 4, 3) := by decide +kernel
theorem dX9_giftBy_136 : decode cX9_giftBy 136 = .ok (.iconst 0, 1) := by decide +kernel
theorem dX9_giftBy_137 : decode cX9_giftBy 137 = .ok (.ireturn, 1) := by decide +kernel
theorem dX9_giftBy_138 : decode cX9_giftBy 138 = .ok (.aload_n 0, 1) := by decide +kernel
theorem dX9_giftBy_139 : decode cX9_giftBy 139 = .ok (.getfield 34, 3) := by decide +kernel
theorem dX9_giftBy_142 : decode cX9_giftBy 142 = .ok (.aload_n 0, 1) := by decide +kernel
theorem dX9_giftBy_143 : decode cX9_giftBy 143 = .ok (.getfield 46, 3) := by decide +kernel
theorem dX9_giftBy_146 : decode cX9_giftBy 146 = .ok (.iload_n 2, 1) := by decide +kernel
theorem dX9_giftBy_147 : decode cX9_giftBy 147 = .ok (.iaload, 1) := by decide +kernel
theorem dX9_giftBy_148 : decode cX9_giftBy 148 = .ok (.iaload, 1) := by decide +kernel
theorem dX9_giftBy_149 : decode cX9_giftBy 149 = .ok (.iload 4, 2) := by decide +kernel
theorem dX9_giftBy_151 : decode cX9_giftBy 151 = .ok (.invokestatic 192, 3) := by decide +kernel
theorem dX9_giftBy_154 : decode cX9_giftBy 154 = .ok (.ireturn, 1) := by decide +kernel
theorem dX9_giftBy_155 : decode cX9_giftBy 155 = .ok (.iload 5, 2) := by decide +kernel
theorem dX9_giftBy_157 : decode cX9_giftBy 157 = .ok (.iload 6, 2) := by decide +kernel
theorem dX9_giftBy_159 : decode cX9_giftBy 159 = .ok (.iadd, 1) := by decide +kernel
theorem dX9_giftBy_160 : decode cX9_giftBy 160 = .ok (.iconst 1, 1) := by decide +kernel
theorem dX9_giftBy_161 : decode cX9_giftBy 161 = .ok (.isub, 1) := by decide +kernel
theorem dX9_giftBy_162 : decode cX9_giftBy 162 = .ok (.iload 6, 2) := by decide +kernel
theorem dX9_giftBy_164 : decode cX9_giftBy 164 = .ok (.idiv, 1) := by decide +kernel
theorem dX9_giftBy_165 : decode cX9_giftBy 165 = .ok (.iload 7, 2) := by decide +kernel
theorem dX9_giftBy_167 : decode cX9_giftBy 167 = .ok (.invokestatic 192, 3) := by decide +kernel
theorem dX9_giftBy_170 : decode cX9_giftBy 170 = .ok (.ireturn, 1) := by decide +kernel
theorem dX9_goAll_0 : decode cX9_goAll 0 = .ok (.aload_n 0, 1) := by decide +kernel
theorem dX9_goAll_1 : decode cX9_goAll 1 = .ok (.iconst 0, 1) := by decide +kernel
theorem dX9_goAll_2 : decode cX9_goAll 2 = .ok (.putfield 196, 3) := by decide +kernel
theorem dX9_goAll_5 : decode cX9_goAll 5 = .ok (.aload_n 0, 1) := by decide +kernel
theorem dX9_goAll_6 : decode cX9_goAll 6 = .ok (.iconst 0, 1) := by decide +kernel
theorem dX9_goAll_7 : decode cX9_goAll 7 = .ok (.putfield 199, 3) := by decide +kernel
theorem dX9_goAll_10 : decode cX9_goAll 10 = .ok (.aload_n 0, 1) := by decide +kernel
theorem dX9_goAll_11 : decode cX9_goAll 11 = .ok (.iconst 0, 1) := by decide +kernel
theorem dX9_goAll_12 : decode cX9_goAll 12 = .ok (.putfield 202, 3) := by decide +kernel
theorem dX9_goAll_15 : decode cX9_goAll 15 = .ok (.aload_n 0, 1) := by decide +kernel
theorem dX9_goAll_16 : decode cX9_goAll 16 = .ok (.getfield 169, 3) := by decide +kernel
theorem dX9_goAll_19 : decode cX9_goAll 19 = .ok (.ifCond .ge 7, 3) := by decide +kernel
theorem dX9_goAll_22 : decode cX9_goAll 22 = .ok (.iconst 1, 1) := by decide +kernel
theorem dX9_goAll_23 : decode cX9_goAll 23 = .ok (.goto 4, 3) := by decide +kernel
theorem dX9_goAll_26 : decode cX9_goAll 26 = .ok (.iconst 0, 1) := by decide +kernel
theorem dX9_goAll_27 : decode cX9_goAll 27 = .ok (.istore_n 1, 1) := by decide +kernel
theorem dX9_goAll_28 : decode cX9_goAll 28 = .ok (.iconst 0, 1) := by decide +kernel
theorem dX9_goAll_29 : decode cX9_goAll 29 = .ok (.istore_n 2, 1) := by decide +kernel
theorem dX9_goAll_30 : decode cX9_goAll 30 = .ok (.iload_n 2, 1) := by decide +kernel
theorem dX9_goAll_31 : decode cX9_goAll 31 = .ok (.aload_n 0, 1) := by decide +kernel
theorem dX9_goAll_32 : decode cX9_goAll 32 = .ok (.getfield 175, 3) := by decide +kernel
theorem dX9_goAll_35 : decode cX9_goAll 35 = .ok (.if_icmp .ge 278, 3) := by decide +kernel
theorem dX9_goAll_38 : decode cX9_goAll 38 = .ok (.aload_n 0, 1) := by decide +kernel
theorem dX9_goAll_39 : decode cX9_goAll 39 = .ok (.getfield 61, 3) := by decide +kernel
theorem dX9_goAll_42 : decode cX9_goAll 42 = .ok (.iload_n 2, 1) := by decide +kernel
theorem dX9_goAll_43 : decode cX9_goAll 43 = .ok (.iaload, 1) := by decide +kernel
theorem dX9_goAll_44 : decode cX9_goAll 44 = .ok (.istore_n 3, 1) := by decide +kernel
theorem dX9_goAll_45 : decode cX9_goAll 45 = .ok (.aload_n 0, 1) := by decide +kernel
theorem dX9_goAll_46 : decode cX9_goAll 46 = .ok (.getfield 46, 3) := by decide +kernel
theorem dX9_goAll_49 : decode cX9_goAll 49 = .ok (.iload_n 3, 1) := by decide +kernel
theorem dX9_goAll_50 : decode cX9_goAll 50 = .ok (.iaload, 1) := by decide +kernel
theorem dX9_goAll_51 : decode cX9_goAll 51 = .ok (.istore 4, 2) := by decide +kernel
theorem dX9_goAll_53 : decode cX9_goAll 53 = .ok (.iload_n 1, 1) := by decide +kernel
theorem dX9_goAll_54 : decode cX9_goAll 54 = .ok (.ifCond .ne 37, 3) := by decide +kernel
theorem dX9_goAll_57 : decode cX9_goAll 57 = .ok (.aload_n 0, 1) := by decide +kernel
theorem dX9_goAll_58 : decode cX9_goAll 58 = .ok (.iload_n 3, 1) := by decide +kernel
theorem dX9_goAll_59 : decode cX9_goAll 59 = .ok (.invokevirtual 178, 3) := by decide +kernel
theorem dX9_goAll_62 : decode cX9_goAll 62 = .ok (.aload_n 0, 1) := by decide +kernel
theorem dX9_goAll_63 : decode cX9_goAll 63 = .ok (.getfield 169, 3) := by decide +kernel
theorem dX9_goAll_66 : decode cX9_goAll 66 = .ok (.if_icmp .le 25, 3) := by decide +kernel
theorem dX9_goAll_69 : decode cX9_goAll 69 = .ok (.aload_n 0, 1) := by decide +kernel
theorem dX9_goAll_70 : decode cX9_goAll 70 = .ok (.dup, 1) := by decide +kernel
theorem dX9_goAll_71 : decode cX9_goAll 71 = .ok (.getfield 196, 3) := by decide +kernel
theorem dX9_goAll_74 : decode cX9_goAll 74 = .ok (.aload_n 0, 1) := by decide +kernel
theorem dX9_goAll_75 : decode cX9_goAll 75 = .ok (.getfield 166, 3) := by decide +kernel
theorem dX9_goAll_78 : decode cX9_goAll 78 = .ok (.aload_n 0, 1) := by decide +kernel
theorem dX9_goAll_79 : decode cX9_goAll 79 = .ok (.getfield 196, 3) := by decide +kernel
theorem dX9_goAll_82 : decode cX9_goAll 82 = .ok (.invokestatic 192, 3) := by decide +kernel
theorem dX9_goAll_85 : decode cX9_goAll 85 = .ok (.iadd, 1) := by decide +kernel
theorem dX9_goAll_86 : decode cX9_goAll 86 = .ok (.putfield 196, 3) := by decide +kernel
theorem dX9_goAll_89 : decode cX9_goAll 89 = .ok (.iconst 1, 1) := by decide +kernel
theorem dX9_goAll_90 : decode cX9_goAll 90 = .ok (.istore_n 1, 1) := by decide +kernel
theorem dX9_goAll_91 : decode cX9_goAll 91 = .ok (.aload_n 0, 1) := by decide +kernel
theorem dX9_goAll_92 : decode cX9_goAll 92 = .ok (.getfield 67, 3) := by decide +kernel
theorem dX9_goAll_95 : decode cX9_goAll 95 = .ok (.iload_n 3, 1) := by decide +kernel
theorem dX9_goAll_96 : decode cX9_goAll 96 = .ok (.aload_n 0, 1) := by decide +kernel
theorem dX9_goAll_97 : decode cX9_goAll 97 = .ok (.aload_n 0, 1) := by decide +kernel
theorem dX9_goAll_98 : decode cX9_goAll 98 = .ok (.getfield 22, 3) := by decide +kernel
theorem dX9_goAll_101 : decode cX9_goAll 101 = .ok (.iload 4, 2) := by decide +kernel
theorem dX9_goAll_103 : decode cX9_goAll 103 = .ok (.iaload, 1) := by decide +kernel
theorem dX9_goAll_104 : decode cX9_goAll 104 = .ok (.iload_n 3, 1) := by decide +kernel
theorem dX9_goAll_105 : decode cX9_goAll 105 = .ok (.aload_n 0, 1) := by decide +kernel
theorem dX9_goAll_106 : decode cX9_goAll 106 = .ok (.getfield 64, 3) := by decide +kernel
theorem dX9_goAll_109 : decode cX9_goAll 109 = .ok (.iload_n 3, 1) := by decide +kernel
theorem dX9_goAll_110 : decode cX9_goAll 110 = .ok (.iaload, 1) := by decide +kernel
theorem dX9_goAll_111 : decode cX9_goAll 111 = .ok (.aload_n 0, 1) := by decide +kernel
theorem dX9_goAll_112 : decode cX9_goAll 112 = .ok (.getfield 25, 3) := by decide +kernel
theorem dX9_goAll_115 : decode cX9_goAll 115 = .ok (.iload 4, 2) := by decide +kernel
theorem dX9_goAll_117 : decode cX9_goAll 117 = .ok (.iaload, 1) := by decide +kernel
theorem dX9_goAll_118 : decode cX9_goAll 118 = .ok (.aload_n 0, 1) := by decide +kernel
theorem dX9_goAll_119 : decode cX9_goAll 119 = .ok (.aload_n 0, 1) := by decide +kernel
theorem dX9_goAll_120 : decode cX9_goAll 120 = .ok (.getfield 154, 3) := by decide +kernel
theorem dX9_goAll_123 : decode cX9_goAll 123 = .ok (.aload_n 0, 1) := by decide +kernel
theorem dX9_goAll_124 : decode cX9_goAll 124 = .ok (.getfield 196, 3) := by decide +kernel
theorem dX9_goAll_127 : decode cX9_goAll 127 = .ok (.invokevirtual 205, 3) := by decide +kernel
theorem dX9_goAll_130 : decode cX9_goAll 130 = .ok (.aload_n 0, 1) := by decide +kernel
theorem dX9_goAll_131 : decode cX9_goAll 131 = .ok (.getfield 175, 3) := by decide +kernel
theorem dX9_goAll_134 : decode cX9_goAll 134 = .ok (.iload_n 2, 1) := by decide +kernel
theorem dX9_goAll_135 : decode cX9_goAll 135 = .ok (.isub, 1) := by decide +kernel
theorem dX9_goAll_136 : decode cX9_goAll 136 = .ok (.invokevirtual 208, 3) := by decide +kernel
theorem dX9_goAll_139 : decode cX9_goAll 139 = .ok (.iastore, 1) := by decide +kernel
theorem dX9_goAll_140 : decode cX9_goAll 140 = .ok (.aload_n 0, 1) := by decide +kernel
theorem dX9_goAll_141 : decode cX9_goAll 141 = .ok (.getfield 22, 3) := by decide +kernel
theorem dX9_goAll_144 : decode cX9_goAll 144 = .ok (.iload 4, 2) := by decide +kernel
theorem dX9_goAll_146 : decode cX9_goAll 146 = .ok (.iaload, 1) := by decide +kernel
theorem dX9_goAll_147 : decode cX9_goAll 147 = .ok (.iconst 3, 1) := by decide +kernel
theorem dX9_goAll_148 : decode cX9_goAll 148 = .ok (.if_icmp .eq 14, 3) := by decide +kernel
theorem dX9_goAll_151 : decode cX9_goAll 151 = .ok (.aload_n 0, 1) := by decide +kernel
theorem dX9_goAll_152 : decode cX9_goAll 152 = .ok (.getfield 22, 3) := by decide +kernel
theorem dX9_goAll_155 : decode cX9_goAll 155 = .ok (.iload 4, 2) := by decide +kernel
theorem dX9_goAll_157 : decode cX9_goAll 157 = .ok (.iaload, 1) := by decide +kernel
theorem dX9_goAll_158 : decode cX9_goAll 158 = .ok (.iconst 5, 1) := by decide +kernel
theorem dX9_goAll_159 : decode cX9_goAll 159 = .ok (.if_icmp .ne 7, 3) := by decide +kernel
theorem dX9_goAll_162 : decode cX9_goAll 162 = .ok (.iconst 1, 1) := by decide +kernel
theorem dX9_goAll_163 : decode cX9_goAll 163 = .ok (.goto 10, 3) := by decide +kernel
theorem dX9_goAll_166 : decode cX9_goAll 166 = .ok (.aload_n 0, 1) := by decide +kernel
theorem dX9_goAll_167 : decode cX9_goAll 167 = .ok (.getfield 22, 3) := by decide +kernel
theorem dX9_goAll_170 : decode cX9_goAll 170 = .ok (.iload 4, 2) := by decide +kernel
theorem dX9_goAll_172 : decode cX9_goAll 172 = .ok (.iaload, 1) := by decide +kernel
theorem dX9_goAll_173 : decode cX9_goAll 173 = .ok (.istore 5, 2) := by decide +kernel
theorem dX9_goAll_175 : decode cX9_goAll 175 = .ok (.aload_n 0, 1) := by decide +kernel
theorem dX9_goAll_176 : decode cX9_goAll 176 = .ok (.getfield 70, 3) := by decide +kernel
theorem dX9_goAll_179 : decode cX9_goAll 179 = .ok (.iload_n 3, 1) := by decide +kernel
theorem dX9_goAll_180 : decode cX9_goAll 180 = .ok (.aload_n 0, 1) := by decide +kernel
theorem dX9_goAll_181 : decode cX9_goAll 181 = .ok (.getfield 13, 3) := by decide +kernel
theorem dX9_goAll_184 : decode cX9_goAll 184 = .ok (.bipush 8, 2) := by decide +kernel
theorem dX9_goAll_186 : decode cX9_goAll 186 = .ok (.iaload, 1) := by decide +kernel
theorem dX9_goAll_187 : decode cX9_goAll 187 = .ok (.ifCond .ne 7, 3) := by decide +kernel
theorem dX9_goAll_190 : decode cX9_goAll 190 = .ok (.iconst 0, 1) := by decide +kernel
theorem dX9_goAll_191 : decode cX9_goAll 191 = .ok (.goto 62, 3) := by decide +kernel
theorem dX9_goAll_194 : decode cX9_goAll 194 = .ok (.aload_n 0, 1) := by decide +kernel
theorem dX9_goAll_195 : decode cX9_goAll 195 = .ok (.iload 5, 2) := by decide +kernel
theorem dX9_goAll_197 : decode cX9_goAll 197 = .ok (.iload_n 3, 1) := by decide +kernel
theorem dX9_goAll_198 : decode cX9_goAll 198 = .ok (.aload_n 0, 1) := by decide +kernel
theorem dX9_goAll_199 : decode cX9_goAll 199 = .ok (.getfield 64, 3) := by decide +kernel
theorem dX9_goAll_202 : decode cX9_goAll 202 = .ok (.iload_n 3, 1) := by decide +kernel
theorem dX9_goAll_203 : decode cX9_goAll 203 = .ok (.iaload, 1) := by decide +kernel
theorem dX9_goAll_204 : decode cX9_goAll 204 = .ok (.aload_n 0, 1) := by decide +kernel
theorem dX9_goAll_205 : decode cX9_goAll 205 = .ok (.getfield 13, 3) := by decide +kernel
theorem dX9_goAll_208 : decode cX9_goAll 208 = .ok (.bipush 9, 2) := by decide +kernel
theorem dX9_goAll_210 : decode cX9_goAll 210 = .ok (.iaload, 1) := by decide +kernel
theorem dX9_goAll_211 : decode cX9_goAll 211 = .ok (.imul, 1) := by decide +kernel
theorem dX9_goAll_212 : decode cX9_goAll 212 = .ok (.bipush 100, 2) := by decide +kernel
theorem dX9_goAll_214 : decode cX9_goAll 214 = .ok (.idiv, 1) := by decide +kernel
theorem dX9_goAll_215 : decode cX9_goAll 215 = .ok (.aload_n 0, 1) := by decide +kernel
theorem dX9_goAll_216 : decode cX9_goAll 216 = .ok (.getfield 25, 3) := by decide +kernel
theorem dX9_goAll_219 : decode cX9_goAll 219 = .ok (.iload 4, 2) := by decide +kernel
theorem dX9_goAll_221 : decode cX9_goAll 221 = .ok (.iaload, 1) := by decide +kernel
theorem dX9_goAll_222 : decode cX9_goAll 222 = .ok (.aload_n 0, 1) := by decide +kernel
theorem dX9_goAll_223 : decode cX9_goAll 223 = .ok (.getfield 67, 3) := by decide +kernel
theorem dX9_goAll_226 : decode cX9_goAll 226 = .ok (.iload_n 3, 1) := by decide +kernel
theorem dX9_goAll_227 : decode cX9_goAll 227 = .ok (.iaload, 1) := by decide +kernel
theorem dX9_goAll_228 : decode cX9_goAll 228 = .ok (.isub, 1) := by decide +kernel
theorem dX9_goAll_229 : decode cX9_goAll 229 = .ok (.aload_n 0, 1) := by decide +kernel
theorem dX9_goAll_230 : decode cX9_goAll 230 = .ok (.aload_n 0, 1) := by decide +kernel
theorem dX9_goAll_231 : decode cX9_goAll 231 = .ok (.getfield 13, 3) := by decide +kernel
theorem dX9_goAll_234 : decode cX9_goAll 234 = .ok (.bipush 8, 2) := by decide +kernel
theorem dX9_goAll_236 : decode cX9_goAll 236 = .ok (.iaload, 1) := by decide +kernel
theorem dX9_goAll_237 : decode cX9_goAll 237 = .ok (.aload_n 0, 1) := by decide +kernel
theorem dX9_goAll_238 : decode cX9_goAll 238 = .ok (.getfield 199, 3) := by decide +kernel
theorem dX9_goAll_241 : decode cX9_goAll 241 = .ok (.invokevirtual 205, 3) := by decide +kernel
theorem dX9_goAll_244 : decode cX9_goAll 244 = .ok (.aload_n 0, 1) := by decide +kernel
theorem dX9_goAll_245 : decode cX9_goAll 245 = .ok (.getfield 175, 3) := by decide +kernel
theorem dX9_goAll_248 : decode cX9_goAll 248 = .ok (.iload_n 2, 1) := by decide +kernel
theorem dX9_goAll_249 : decode cX9_goAll 249 = .ok (.isub, 1) := by decide +kernel
theorem dX9_goAll_250 : decode cX9_goAll 250 = .ok (.invokevirtual 208, 3) := by decide +kernel
theorem dX9_goAll_253 : decode cX9_goAll 253 = .ok (.iastore, 1) := by decide +kernel
theorem dX9_goAll_254 : decode cX9_goAll 254 = .ok (.aload_n 0, 1) := by decide +kernel
theorem dX9_goAll_255 : decode cX9_goAll 255 = .ok (.dup, 1) := by decide +kernel
theorem dX9_goAll_256 : decode cX9_goAll 256 = .ok (.getfield 196, 3) := by decide +kernel
theorem dX9_goAll_259 : decode cX9_goAll 259 = .ok (.aload_n 0, 1) := by decide +kernel
theorem dX9_goAll_260 : decode cX9_goAll 260 = .ok (.getfield 67, 3) := by decide +kernel
theorem dX9_goAll_263 : decode cX9_goAll 263 = .ok (.iload_n 3, 1) := by decide +kernel
theorem dX9_goAll_264 : decode cX9_goAll 264 = .ok (.iaload, 1) := by decide +kernel
theorem dX9_goAll_265 : decode cX9_goAll 265 = .ok (.iadd, 1) := by decide +kernel
theorem dX9_goAll_266 : decode cX9_goAll 266 = .ok (.putfield 196, 3) := by decide +kernel
theorem dX9_goAll_269 : decode cX9_goAll 269 = .ok (.aload_n 0, 1) := by decide +kernel
theorem dX9_goAll_270 : decode cX9_goAll 270 = .ok (.dup, 1) := by decide +kernel
theorem dX9_goAll_271 : decode cX9_goAll 271 = .ok (.getfield 199, 3) := by decide +kernel
theorem dX9_goAll_274 : decode cX9_goAll 274 = .ok (.aload_n 0, 1) := by decide +kernel
theorem dX9_goAll_275 : decode cX9_goAll 275 = .ok (.getfield 70, 3) := by decide +kernel
theorem dX9_goAll_278 : decode cX9_goAll 278 = .ok (.iload_n 3, 1) := by decide +kernel
theorem dX9_goAll_279 : decode cX9_goAll 279 = .ok (.iaload, 1) := by decide +kernel
theorem dX9_goAll_280 : decode cX9_goAll 280 = .ok (.iadd, 1) := by decide +kernel
theorem dX9_goAll_281 : decode cX9_goAll 281 = .ok (.putfield 199, 3) := by decide +kernel
theorem dX9_goAll_284 : decode cX9_goAll 284 = .ok (.aload_n 0, 1) := by decide +kernel
theorem dX9_goAll_285 : decode cX9_goAll 285 = .ok (.dup, 1) := by decide +kernel
theorem dX9_goAll_286 : decode cX9_goAll 286 = .ok (.getfield 202, 3) := by decide +kernel
theorem dX9_goAll_289 : decode cX9_goAll 289 = .ok (.aload_n 0, 1) := by decide +kernel
theorem dX9_goAll_290 : decode cX9_goAll 290 = .ok (.getfield 67, 3) := by decide +kernel
theorem dX9_goAll_293 : decode cX9_goAll 293 = .ok (.iload_n 3, 1) := by decide +kernel
theorem dX9_goAll_294 : decode cX9_goAll 294 = .ok (.iaload, 1) := by decide +kernel
theorem dX9_goAll_295 : decode cX9_goAll 295 = .ok (.ifCond .le 7, 3) := by decide +kernel
theorem dX9_goAll_298 : decode cX9_goAll 298 = .ok (.iconst 1, 1) := by decide +kernel
theorem dX9_goAll_299 : decode cX9_goAll 299 = .ok (.goto 4, 3) := by decide +kernel
theorem dX9_goAll_302 : decode cX9_goAll 302 = .ok (.iconst 0, 1) := by decide +kernel
theorem dX9_goAll_303 : decode cX9_goAll 303 = .ok (.iadd, 1) := by decide +kernel
theorem dX9_goAll_304 : decode cX9_goAll 304 = .ok (.putfield 202, 3) := by decide +kernel
theorem dX9_goAll_307 : decode cX9_goAll 307 = .ok (.iinc 2 1, 3) := by decide +kernel
theorem dX9_goAll_310 : decode cX9_goAll 310 = .ok (.goto (-280), 3) := by decide +kernel
theorem dX9_goAll_313 : decode cX9_goAll 313 = .ok (.iload_n 1, 1) := by decide +kernel
theorem dX9_goAll_314 : decode cX9_goAll 314 = .ok (.ifCond .ne 23, 3) := by decide +kernel
theorem dX9_goAll_317 : decode cX9_goAll 317 = .ok (.aload_n 0, 1) := by decide +kernel
theorem dX9_goAll_318 : decode cX9_goAll 318 = .ok (.dup, 1) := by decide +kernel
theorem dX9_goAll_319 : decode cX9_goAll 319 = .ok (.getfield 196, 3) := by decide +kernel
theorem dX9_goAll_322 : decode cX9_goAll 322 = .ok (.aload_n 0, 1) := by decide +kernel
theorem dX9_goAll_323 : decode cX9_goAll 323 = .ok (.getfield 166, 3) := by decide +kernel
theorem dX9_goAll_326 : decode cX9_goAll 326 = .ok (.aload_n 0, 1) := by decide +kernel
theorem dX9_goAll_327 : decode cX9_goAll 327 = .ok (.getfield 196, 3) := by decide +kernel
theorem dX9_goAll_330 : decode cX9_goAll 330 = .ok (.invokestatic 192, 3) := by decide +kernel
theorem dX9_goAll_333 : decode cX9_goAll 333 = .ok (.iadd, 1) := by decide +kernel
theorem dX9_goAll_334 : decode cX9_goAll 334 = .ok (.putfield 196, 3) := by decide +kernel
theorem dX9_goAll_337 : decode cX9_goAll 337 = .ok (.return_, 1) := by decide +kernel
theorem dX9_isBuilt_0 : decode cX9_isBuilt 0 = .ok (.aload_n 0, 1) := by decide +kernel
theorem dX9_isBuilt_1 : decode cX9_isBuilt 1 = .ok (.getfield 196, 3) := by decide +kernel
theorem dX9_isBuilt_4 : decode cX9_isBuilt 4 = .ok (.aload_n 0, 1) := by decide +kernel
theorem dX9_isBuilt_5 : decode cX9_isBuilt 5 = .ok (.getfield 154, 3) := by decide +kernel
theorem dX9_isBuilt_8 : decode cX9_isBuilt 8 = .ok (.if_icmp .lt 20, 3) := by decide +kernel
theorem dX9_isBuilt_11 : decode cX9_isBuilt 11 = .ok (.aload_n 0, 1) := by decide +kernel
theorem dX9_isBuilt_12 : decode cX9_isBuilt 12 = .ok (.getfield 202, 3) := by decide +kernel
theorem dX9_isBuilt_15 : decode cX9_isBuilt 15 = .ok (.aload_n 0, 1) := by decide +kernel
theorem dX9_isBuilt_16 : decode cX9_isBuilt 16 = .ok (.getfield 13, 3) := by decide +kernel
theorem dX9_isBuilt_19 : decode cX9_isBuilt 19 = .ok (.iconst 1, 1) := by decide +kernel
theorem dX9_isBuilt_20 : decode cX9_isBuilt 20 = .ok (.iaload, 1) := by decide +kernel
theorem dX9_isBuilt_21 : decode cX9_isBuilt 21 = .ok (.if_icmp .lt 7, 3) := by decide +kernel
theorem dX9_isBuilt_24 : decode cX9_isBuilt 24 = .ok (.iconst 1, 1) := by decide +kernel
theorem dX9_isBuilt_25 : decode cX9_isBuilt 25 = .ok (.goto 4, 3) := by decide +kernel
theorem dX9_isBuilt_28 : decode cX9_isBuilt 28 = .ok (.iconst 0, 1) := by decide +kernel
theorem dX9_isBuilt_29 : decode cX9_isBuilt 29 = .ok (.ireturn, 1) := by decide +kernel
theorem dX9_hasOf_0 : decode cX9_hasOf 0 = .ok (.aload_n 0, 1) := by decide +kernel
theorem dX9_hasOf_1 : decode cX9_hasOf 1 = .ok (.invokevirtual 212, 3) := by decide +kernel
theorem dX9_hasOf_4 : decode cX9_hasOf 4 = .ok (.ifCond .ne 23, 3) := by decide +kernel
theorem dX9_hasOf_7 : decode cX9_hasOf 7 = .ok (.aload_n 0, 1) := by decide +kernel
theorem dX9_hasOf_8 : decode cX9_hasOf 8 = .ok (.getfield 67, 3) := by decide +kernel
theorem dX9_hasOf_11 : decode cX9_hasOf 11 = .ok (.iload_n 1, 1) := by decide +kernel
theorem dX9_hasOf_12 : decode cX9_hasOf 12 = .ok (.iaload, 1) := by decide +kernel
theorem dX9_hasOf_13 : decode cX9_hasOf 13 = .ok (.ifCond .le 12, 3) := by decide +kernel
theorem dX9_hasOf_16 : decode cX9_hasOf 16 = .ok (.aload_n 0, 1) := by decide +kernel
theorem dX9_hasOf_17 : decode cX9_hasOf 17 = .ok (.getfield 13, 3) := by decide +kernel
theorem dX9_hasOf_20 : decode cX9_hasOf 20 = .ok (.iconst 4, 1) := by decide +kernel
theorem dX9_hasOf_21 : decode cX9_hasOf 21 = .ok (.iaload, 1) := by decide +kernel
theorem dX9_hasOf_22 : decode cX9_hasOf 22 = .ok (.goto 4, 3) := by decide +kernel
theorem dX9_hasOf_25 : decode cX9_hasOf 25 = .ok (.iconst 0, 1) := by decide +kernel
theorem dX9_hasOf_26 : decode cX9_hasOf 26 = .ok (.ireturn, 1) := by decide +kernel
theorem dX9_hasOf_27 : decode cX9_hasOf 27 = .ok (.aload_n 0, 1) := by decide +kernel
theorem dX9_hasOf_28 : decode cX9_hasOf 28 = .ok (.getfield 64, 3) := by decide +kernel
theorem dX9_hasOf_31 : decode cX9_hasOf 31 = .ok (.iload_n 1, 1) := by decide +kernel
theorem dX9_hasOf_32 : decode cX9_hasOf 32 = .ok (.iaload, 1) := by decide +kernel
theorem dX9_hasOf_33 : decode cX9_hasOf 33 = .ok (.aload_n 0, 1) := by decide +kernel
theorem dX9_hasOf_34 : decode cX9_hasOf 34 = .ok (.getfield 67, 3) := by decide +kernel
theorem dX9_hasOf_37 : decode cX9_hasOf 37 = .ok (.iload_n 1, 1) := by decide +kernel
theorem dX9_hasOf_38 : decode cX9_hasOf 38 = .ok (.iaload, 1) := by decide +kernel
theorem dX9_hasOf_39 : decode cX9_hasOf 39 = .ok (.isub, 1) := by decide +kernel
theorem dX9_hasOf_40 : decode cX9_hasOf 40 = .ok (.istore_n 2, 1) := by decide +kernel
theorem dX9_hasOf_41 : decode cX9_hasOf 41 = .ok (.iload_n 2, 1) := by decide +kernel
theorem dX9_hasOf_42 : decode cX9_hasOf 42 = .ok (.aload_n 0, 1) := by decide +kernel
theorem dX9_hasOf_43 : decode cX9_hasOf 43 = .ok (.getfield 67, 3) := by decide +kernel
theorem dX9_hasOf_46 : decode cX9_hasOf 46 = .ok (.iload_n 1, 1) := by decide +kernel
theorem dX9_hasOf_47 : decode cX9_hasOf 47 = .ok (.iaload, 1) := by decide +kernel
theorem dX9_hasOf_48 : decode cX9_hasOf 48 = .ok (.ifCond .le 25, 3) := by decide +kernel
theorem dX9_hasOf_51 : decode cX9_hasOf 51 = .ok (.aload_n 0, 1) := by decide +kernel
theorem dX9_hasOf_52 : decode cX9_hasOf 52 = .ok (.iload_n 1, 1) := by decide +kernel
theorem dX9_hasOf_53 : decode cX9_hasOf 53 = .ok (.invokevirtual 178, 3) := by decide +kernel
theorem dX9_hasOf_56 : decode cX9_hasOf 56 = .ok (.aload_n 0, 1) := by decide +kernel
theorem dX9_hasOf_57 : decode cX9_hasOf 57 = .ok (.getfield 13, 3) := by decide +kernel
theorem dX9_hasOf_60 : decode cX9_hasOf 60 = .ok (.bipush 6, 2) := by decide +kernel
theorem dX9_hasOf_62 : decode cX9_hasOf 62 = .ok (.iaload, 1) := by decide +kernel
theorem dX9_hasOf_63 : decode cX9_hasOf 63 = .ok (.if_icmp .gt 10, 3) := by decide +kernel
theorem dX9_hasOf_66 : decode cX9_hasOf 66 = .ok (.aload_n 0, 1) := by decide +kernel
theorem dX9_hasOf_67 : decode cX9_hasOf 67 = .ok (.getfield 160, 3) := by decide +kernel
theorem dX9_hasOf_70 : decode cX9_hasOf 70 = .ok (.goto 4, 3) := by decide +kernel
theorem dX9_hasOf_73 : decode cX9_hasOf 73 = .ok (.iconst 0, 1) := by decide +kernel
theorem dX9_hasOf_74 : decode cX9_hasOf 74 = .ok (.iadd, 1) := by decide +kernel
theorem dX9_hasOf_75 : decode cX9_hasOf 75 = .ok (.istore_n 2, 1) := by decide +kernel
theorem dX9_hasOf_76 : decode cX9_hasOf 76 = .ok (.iload_n 2, 1) := by decide +kernel
theorem dX9_hasOf_77 : decode cX9_hasOf 77 = .ok (.aload_n 0, 1) := by decide +kernel
theorem dX9_hasOf_78 : decode cX9_hasOf 78 = .ok (.getfield 13, 3) := by decide +kernel
theorem dX9_hasOf_81 : decode cX9_hasOf 81 = .ok (.bipush 7, 2) := by decide +kernel
theorem dX9_hasOf_83 : decode cX9_hasOf 83 = .ok (.iaload, 1) := by decide +kernel
theorem dX9_hasOf_84 : decode cX9_hasOf 84 = .ok (.iconst 1, 1) := by decide +kernel
theorem dX9_hasOf_85 : decode cX9_hasOf 85 = .ok (.if_icmp .ne 27, 3) := by decide +kernel
theorem dX9_hasOf_88 : decode cX9_hasOf 88 = .ok (.aload_n 0, 1) := by decide +kernel
theorem dX9_hasOf_89 : decode cX9_hasOf 89 = .ok (.getfield 67, 3) := by decide +kernel
theorem dX9_hasOf_92 : decode cX9_hasOf 92 = .ok (.iload_n 1, 1) := by decide +kernel
theorem dX9_hasOf_93 : decode cX9_hasOf 93 = .ok (.iaload, 1) := by decide +kernel
theorem dX9_hasOf_94 : decode cX9_hasOf 94 = .ok (.aload_n 0, 1) := by decide +kernel
theorem dX9_hasOf_95 : decode cX9_hasOf 95 = .ok (.getfield 196, 3) := by decide +kernel
theorem dX9_hasOf_98 : decode cX9_hasOf 98 = .ok (.aload_n 0, 1) := by decide +kernel
theorem dX9_hasOf_99 : decode cX9_hasOf 99 = .ok (.getfield 154, 3) := by decide +kernel
theorem dX9_hasOf_102 : decode cX9_hasOf 102 = .ok (.isub, 1) := by decide +kernel
theorem dX9_hasOf_103 : decode cX9_hasOf 103 = .ok (.imul, 1) := by decide +kernel
theorem dX9_hasOf_104 : decode cX9_hasOf 104 = .ok (.aload_n 0, 1) := by decide +kernel
theorem dX9_hasOf_105 : decode cX9_hasOf 105 = .ok (.getfield 196, 3) := by decide +kernel
theorem dX9_hasOf_108 : decode cX9_hasOf 108 = .ok (.idiv, 1) := by decide +kernel
theorem dX9_hasOf_109 : decode cX9_hasOf 109 = .ok (.goto 4, 3) := by decide +kernel
theorem dX9_hasOf_112 : decode cX9_hasOf 112 = .ok (.iconst 0, 1) := by decide +kernel
theorem dX9_hasOf_113 : decode cX9_hasOf 113 = .ok (.iadd, 1) := by decide +kernel
theorem dX9_hasOf_114 : decode cX9_hasOf 114 = .ok (.ireturn, 1) := by decide +kernel
theorem dX9_beginWays_0 : decode cX9_beginWays 0 = .ok (.aload_n 0, 1) := by decide +kernel
theorem dX9_beginWays_1 : decode cX9_beginWays 1 = .ok (.invokevirtual 184, 3) := by decide +kernel
theorem dX9_beginWays_4 : decode cX9_beginWays 4 = .ok (.iconst 0, 1) := by decide +kernel
theorem dX9_beginWays_5 : decode cX9_beginWays 5 = .ok (.istore_n 1, 1) := by decide +kernel
theorem dX9_beginWays_6 : decode cX9_beginWays 6 = .ok (.iload_n 1, 1) := by decide +kernel
theorem dX9_beginWays_7 : decode cX9_beginWays 7 = .ok (.bipush 8, 2) := by decide +kernel
theorem dX9_beginWays_9 : decode cX9_beginWays 9 = .ok (.if_icmp .ge 16, 3) := by decide +kernel
theorem dX9_beginWays_12 : decode cX9_beginWays 12 = .ok (.aload_n 0, 1) := by decide +kernel
theorem dX9_beginWays_13 : decode cX9_beginWays 13 = .ok (.getfield 73, 3) := by decide +kernel
theorem dX9_beginWays_16 : decode cX9_beginWays 16 = .ok (.iload_n 1, 1) := by decide +kernel
theorem dX9_beginWays_17 : decode cX9_beginWays 17 = .ok (.iconst 0, 1) := by decide +kernel
theorem dX9_beginWays_18 : decode cX9_beginWays 18 = .ok (.iastore, 1) := by decide +kernel
theorem dX9_beginWays_19 : decode cX9_beginWays 19 = .ok (.iinc 1 1, 3) := by decide +kernel
theorem dX9_beginWays_22 : decode cX9_beginWays 22 = .ok (.goto (-16), 3) := by decide +kernel
theorem dX9_beginWays_25 : decode cX9_beginWays 25 = .ok (.return_, 1) := by decide +kernel
theorem dX9_nextWay_0 : decode cX9_nextWay 0 = .ok (.iconst 0, 1) := by decide +kernel
theorem dX9_nextWay_1 : decode cX9_nextWay 1 = .ok (.istore_n 1, 1) := by decide +kernel
theorem dX9_nextWay_2 : decode cX9_nextWay 2 = .ok (.iload_n 1, 1) := by decide +kernel
theorem dX9_nextWay_3 : decode cX9_nextWay 3 = .ok (.aload_n 0, 1) := by decide +kernel
theorem dX9_nextWay_4 : decode cX9_nextWay 4 = .ok (.getfield 175, 3) := by decide +kernel
theorem dX9_nextWay_7 : decode cX9_nextWay 7 = .ok (.if_icmp .ge 43, 3) := by decide +kernel
theorem dX9_nextWay_10 : decode cX9_nextWay 10 = .ok (.aload_n 0, 1) := by decide +kernel
theorem dX9_nextWay_11 : decode cX9_nextWay 11 = .ok (.getfield 73, 3) := by decide +kernel
theorem dX9_nextWay_14 : decode cX9_nextWay 14 = .ok (.iload_n 1, 1) := by decide +kernel
theorem dX9_nextWay_15 : decode cX9_nextWay 15 = .ok (.iaload, 1) := by decide +kernel
theorem dX9_nextWay_16 : decode cX9_nextWay 16 = .ok (.aload_n 0, 1) := by decide +kernel
theorem dX9_nextWay_17 : decode cX9_nextWay 17 = .ok (.getfield 37, 3) := by decide +kernel
theorem dX9_nextWay_20 : decode cX9_nextWay 20 = .ok (.aload_n 0, 1) := by decide +kernel
theorem dX9_nextWay_21 : decode cX9_nextWay 21 = .ok (.getfield 46, 3) := by decide +kernel
theorem dX9_nextWay_24 : decode cX9_nextWay 24 = .ok (.aload_n 0, 1) := by decide +kernel
theorem dX9_nextWay_25 : decode cX9_nextWay 25 = .ok (.getfield 61, 3) := by decide +kernel
theorem dX9_nextWay_28 : decode cX9_nextWay 28 = .ok (.iload_n 1, 1) := by decide +kernel
theorem dX9_nextWay_29 : decode cX9_nextWay 29 = .ok (.iaload, 1) := by decide +kernel
theorem dX9_nextWay_30 : decode cX9_nextWay 30 = .ok (.iaload, 1) := by decide +kernel
theorem dX9_nextWay_31 : decode cX9_nextWay 31 = .ok (.iaload, 1) := by decide +kernel
theorem dX9_nextWay_32 : decode cX9_nextWay 32 = .ok (.iconst 1, 1) := by decide +kernel
theorem dX9_nextWay_33 : decode cX9_nextWay 33 = .ok (.isub, 1) := by decide +kernel
theorem dX9_nextWay_34 : decode cX9_nextWay 34 = .ok (.if_icmp .ne 16, 3) := by decide +kernel
theorem dX9_nextWay_37 : decode cX9_nextWay 37 = .ok (.aload_n 0, 1) := by decide +kernel
theorem dX9_nextWay_38 : decode cX9_nextWay 38 = .ok (.getfield 73, 3) := by decide +kernel
theorem dX9_nextWay_41 : decode cX9_nextWay 41 = .ok (.iload_n 1, 1) := by decide +kernel
theorem dX9_nextWay_42 : decode cX9_nextWay 42 = .ok (.iconst 0, 1) := by decide +kernel
theorem dX9_nextWay_43 : decode cX9_nextWay 43 = .ok (.iastore, 1) := by decide +kernel
theorem dX9_nextWay_44 : decode cX9_nextWay 44 = .ok (.iinc 1 1, 3) := by decide +kernel
theorem dX9_nextWay_47 : decode cX9_nextWay 47 = .ok (.goto (-45), 3) := by decide +kernel
theorem dX9_nextWay_50 : decode cX9_nextWay 50 = .ok (.iload_n 1, 1) := by decide +kernel
theorem dX9_nextWay_51 : decode cX9_nextWay 51 = .ok (.aload_n 0, 1) := by decide +kernel
theorem dX9_nextWay_52 : decode cX9_nextWay 52 = .ok (.getfield 175, 3) := by decide +kernel
theorem dX9_nextWay_55 : decode cX9_nextWay 55 = .ok (.if_icmp .ne 5, 3) := by decide +kernel
theorem dX9_nextWay_58 : decode cX9_nextWay 58 = .ok (.iconst 0, 1) := by decide +kernel
theorem dX9_nextWay_59 : decode cX9_nextWay 59 = .ok (.ireturn, 1) := by decide +kernel
theorem dX9_nextWay_60 : decode cX9_nextWay 60 = .ok (.aload_n 0, 1) := by decide +kernel
theorem dX9_nextWay_61 : decode cX9_nextWay 61 = .ok (.getfield 73, 3) := by decide +kernel
theorem dX9_nextWay_64 : decode cX9_nextWay 64 = .ok (.iload_n 1, 1) := by decide +kernel
theorem dX9_nextWay_65 : decode cX9_nextWay 65 = .ok (.dup2, 1) := by decide +kernel
theorem dX9_nextWay_66 : decode cX9_nextWay 66 = .ok (.iaload, 1) := by decide +kernel
theorem dX9_nextWay_67 : decode cX9_nextWay 67 = .ok (.iconst 1, 1) := by decide +kernel
theorem dX9_nextWay_68 : decode cX9_nextWay 68 = .ok (.iadd, 1) := by decide +kernel
theorem dX9_nextWay_69 : decode cX9_nextWay 69 = .ok (.iastore, 1) := by decide +kernel
theorem dX9_nextWay_70 : decode cX9_nextWay 70 = .ok (.iconst 1, 1) := by decide +kernel
theorem dX9_nextWay_71 : decode cX9_nextWay 71 = .ok (.ireturn, 1) := by decide +kernel
theorem dX9_takeWay_0 : decode cX9_takeWay 0 = .ok (.lconst 1, 1) := by decide +kernel
theorem dX9_takeWay_1 : decode cX9_takeWay 1 = .ok (.lstore_n 1, 1) := by decide +kernel
theorem dX9_takeWay_2 : decode cX9_takeWay 2 = .ok (.iconst 0, 1) := by decide +kernel
theorem dX9_takeWay_3 : decode cX9_takeWay 3 = .ok (.istore_n 3, 1) := by decide +kernel
theorem dX9_takeWay_4 : decode cX9_takeWay 4 = .ok (.iload_n 3, 1) := by decide +kernel
theorem dX9_takeWay_5 : decode cX9_takeWay 5 = .ok (.aload_n 0, 1) := by decide +kernel
theorem dX9_takeWay_6 : decode cX9_takeWay 6 = .ok (.getfield 175, 3) := by decide +kernel
theorem dX9_takeWay_9 : decode cX9_takeWay 9 = .ok (.if_icmp .ge 60, 3) := by decide +kernel
theorem dX9_takeWay_12 : decode cX9_takeWay 12 = .ok (.iconst 3, 1) := by decide +kernel
theorem dX9_takeWay_13 : decode cX9_takeWay 13 = .ok (.aload_n 0, 1) := by decide +kernel
theorem dX9_takeWay_14 : decode cX9_takeWay 14 = .ok (.getfield 46, 3) := by decide +kernel
theorem dX9_takeWay_17 : decode cX9_takeWay 17 = .ok (.aload_n 0, 1) := by decide +kernel
theorem dX9_takeWay_18 : decode cX9_takeWay 18 = .ok (.getfield 61, 3) := by decide +kernel
theorem dX9_takeWay_21 : decode cX9_takeWay 21 = .ok (.iload_n 3, 1) := by decide +kernel
theorem dX9_takeWay_22 : decode cX9_takeWay 22 = .ok (.iaload, 1) := by decide +kernel
theorem dX9_takeWay_23 : decode cX9_takeWay 23 = .ok (.iaload, 1) := by decide +kernel
theorem dX9_takeWay_24 : decode cX9_takeWay 24 = .ok (.imul, 1) := by decide +kernel
theorem dX9_takeWay_25 : decode cX9_takeWay 25 = .ok (.aload_n 0, 1) := by decide +kernel
theorem dX9_takeWay_26 : decode cX9_takeWay 26 = .ok (.getfield 73, 3) := by decide +kernel
theorem dX9_takeWay_29 : decode cX9_takeWay 29 = .ok (.iload_n 3, 1) := by decide +kernel
theorem dX9_takeWay_30 : decode cX9_takeWay 30 = .ok (.iaload, 1) := by decide +kernel
theorem dX9_takeWay_31 : decode cX9_takeWay 31 = .ok (.iadd, 1) := by decide +kernel
theorem dX9_takeWay_32 : decode cX9_takeWay 32 = .ok (.istore 4, 2) := by decide +kernel
theorem dX9_takeWay_34 : decode cX9_takeWay 34 = .ok (.aload_n 0, 1) := by decide +kernel
theorem dX9_takeWay_35 : decode cX9_takeWay 35 = .ok (.getfield 64, 3) := by decide +kernel
theorem dX9_takeWay_38 : decode cX9_takeWay 38 = .ok (.aload_n 0, 1) := by decide +kernel
theorem dX9_takeWay_39 : decode cX9_takeWay 39 = .ok (.getfield 61, 3) := by decide +kernel
theorem dX9_takeWay_42 : decode cX9_takeWay 42 = .ok (.iload_n 3, 1) := by decide +kernel
theorem dX9_takeWay_43 : decode cX9_takeWay 43 = .ok (.iaload, 1) := by decide +kernel
theorem dX9_takeWay_44 : decode cX9_takeWay 44 = .ok (.aload_n 0, 1) := by decide +kernel
theorem dX9_takeWay_45 : decode cX9_takeWay 45 = .ok (.getfield 40, 3) := by decide +kernel
theorem dX9_takeWay_48 : decode cX9_takeWay 48 = .ok (.iload 4, 2) := by decide +kernel
theorem dX9_takeWay_50 : decode cX9_takeWay 50 = .ok (.iaload, 1) := by decide +kernel
theorem dX9_takeWay_51 : decode cX9_takeWay 51 = .ok (.iastore, 1) := by decide +kernel
theorem dX9_takeWay_52 : decode cX9_takeWay 52 = .ok (.lload_n 1, 1) := by decide +kernel
theorem dX9_takeWay_53 : decode cX9_takeWay 53 = .ok (.aload_n 0, 1) := by decide +kernel
theorem dX9_takeWay_54 : decode cX9_takeWay 54 = .ok (.getfield 43, 3) := by decide +kernel
theorem dX9_takeWay_57 : decode cX9_takeWay 57 = .ok (.iload 4, 2) := by decide +kernel
theorem dX9_takeWay_59 : decode cX9_takeWay 59 = .ok (.iaload, 1) := by decide +kernel
theorem dX9_takeWay_60 : decode cX9_takeWay 60 = .ok (.i2l, 1) := by decide +kernel
theorem dX9_takeWay_61 : decode cX9_takeWay 61 = .ok (.lmul, 1) := by decide +kernel
theorem dX9_takeWay_62 : decode cX9_takeWay 62 = .ok (.lstore_n 1, 1) := by decide +kernel
theorem dX9_takeWay_63 : decode cX9_takeWay 63 = .ok (.iinc 3 1, 3) := by decide +kernel
theorem dX9_takeWay_66 : decode cX9_takeWay 66 = .ok (.goto (-62), 3) := by decide +kernel
theorem dX9_takeWay_69 : decode cX9_takeWay 69 = .ok (.aload_n 0, 1) := by decide +kernel
theorem dX9_takeWay_70 : decode cX9_takeWay 70 = .ok (.invokevirtual 215, 3) := by decide +kernel
theorem dX9_takeWay_73 : decode cX9_takeWay 73 = .ok (.lload_n 1, 1) := by decide +kernel
theorem dX9_takeWay_74 : decode cX9_takeWay 74 = .ok (.lreturn, 1) := by decide +kernel
theorem dX9_allWays_0 : decode cX9_allWays 0 = .ok (.lconst 1, 1) := by decide +kernel
theorem dX9_allWays_1 : decode cX9_allWays 1 = .ok (.lstore_n 1, 1) := by decide +kernel
theorem dX9_allWays_2 : decode cX9_allWays 2 = .ok (.iconst 0, 1) := by decide +kernel
theorem dX9_allWays_3 : decode cX9_allWays 3 = .ok (.istore_n 3, 1) := by decide +kernel
theorem dX9_allWays_4 : decode cX9_allWays 4 = .ok (.iload_n 3, 1) := by decide +kernel
theorem dX9_allWays_5 : decode cX9_allWays 5 = .ok (.aload_n 0, 1) := by decide +kernel
theorem dX9_allWays_6 : decode cX9_allWays 6 = .ok (.getfield 175, 3) := by decide +kernel
theorem dX9_allWays_9 : decode cX9_allWays 9 = .ok (.if_icmp .ge 15, 3) := by decide +kernel
theorem dX9_allWays_12 : decode cX9_allWays 12 = .ok (.lload_n 1, 1) := by decide +kernel
theorem dX9_allWays_13 : decode cX9_allWays 13 = .ok (.ldc2_w 126, 3) := by decide +kernel
theorem dX9_allWays_16 : decode cX9_allWays 16 = .ok (.lmul, 1) := by decide +kernel
theorem dX9_allWays_17 : decode cX9_allWays 17 = .ok (.lstore_n 1, 1) := by decide +kernel
theorem dX9_allWays_18 : decode cX9_allWays 18 = .ok (.iinc 3 1, 3) := by decide +kernel
theorem dX9_allWays_21 : decode cX9_allWays 21 = .ok (.goto (-17), 3) := by decide +kernel
theorem dX9_allWays_24 : decode cX9_allWays 24 = .ok (.lload_n 1, 1) := by decide +kernel
theorem dX9_allWays_25 : decode cX9_allWays 25 = .ok (.lreturn, 1) := by decide +kernel
theorem dX9_isDue_0 : decode cX9_isDue 0 = .ok (.iconst 0, 1) := by decide +kernel
theorem dX9_isDue_1 : decode cX9_isDue 1 = .ok (.istore_n 1, 1) := by decide +kernel
theorem dX9_isDue_2 : decode cX9_isDue 2 = .ok (.iconst 0, 1) := by decide +kernel
theorem dX9_isDue_3 : decode cX9_isDue 3 = .ok (.istore_n 2, 1) := by decide +kernel
theorem dX9_isDue_4 : decode cX9_isDue 4 = .ok (.iload_n 2, 1) := by decide +kernel
theorem dX9_isDue_5 : decode cX9_isDue 5 = .ok (.aload_n 0, 1) := by decide +kernel
theorem dX9_isDue_6 : decode cX9_isDue 6 = .ok (.getfield 175, 3) := by decide +kernel
theorem dX9_isDue_9 : decode cX9_isDue 9 = .ok (.if_icmp .ge 23, 3) := by decide +kernel
theorem dX9_isDue_12 : decode cX9_isDue 12 = .ok (.iload_n 1, 1) := by decide +kernel
theorem dX9_isDue_13 : decode cX9_isDue 13 = .ok (.aload_n 0, 1) := by decide +kernel
theorem dX9_isDue_14 : decode cX9_isDue 14 = .ok (.getfield 64, 3) := by decide +kernel
theorem dX9_isDue_17 : decode cX9_isDue 17 = .ok (.aload_n 0, 1) := by decide +kernel
theorem dX9_isDue_18 : decode cX9_isDue 18 = .ok (.getfield 61, 3) := by decide +kernel
theorem dX9_isDue_21 : decode cX9_isDue 21 = .ok (.iload_n 2, 1) := by decide +kernel
theorem dX9_isDue_22 : decode cX9_isDue 22 = .ok (.iaload, 1) := by decide +kernel
theorem dX9_isDue_23 : decode cX9_isDue 23 = .ok (.iaload, 1) := by decide +kernel
theorem dX9_isDue_24 : decode cX9_isDue 24 = .ok (.iadd, 1) := by decide +kernel
theorem dX9_isDue_25 : decode cX9_isDue 25 = .ok (.istore_n 1, 1) := by decide +kernel
theorem dX9_isDue_26 : decode cX9_isDue 26 = .ok (.iinc 2 1, 3) := by decide +kernel
theorem dX9_isDue_29 : decode cX9_isDue 29 = .ok (.goto (-25), 3) := by decide +kernel
theorem dX9_isDue_32 : decode cX9_isDue 32 = .ok (.iload_n 1, 1) := by decide +kernel
theorem dX9_isDue_33 : decode cX9_isDue 33 = .ok (.aload_n 0, 1) := by decide +kernel
theorem dX9_isDue_34 : decode cX9_isDue 34 = .ok (.getfield 13, 3) := by decide +kernel
theorem dX9_isDue_37 : decode cX9_isDue 37 = .ok (.iconst 3, 1) := by decide +kernel
theorem dX9_isDue_38 : decode cX9_isDue 38 = .ok (.iaload, 1) := by decide +kernel
theorem dX9_isDue_39 : decode cX9_isDue 39 = .ok (.if_icmp .lt 7, 3) := by decide +kernel
theorem dX9_isDue_42 : decode cX9_isDue 42 = .ok (.iconst 1, 1) := by decide +kernel
theorem dX9_isDue_43 : decode cX9_isDue 43 = .ok (.goto 4, 3) := by decide +kernel
theorem dX9_isDue_46 : decode cX9_isDue 46 = .ok (.iconst 0, 1) := by decide +kernel
theorem dX9_isDue_47 : decode cX9_isDue 47 = .ok (.ireturn, 1) := by decide +kernel
theorem dX9_waysOf_0 : decode cX9_waysOf 0 = .ok (.aload_n 0, 1) := by decide +kernel
theorem dX9_waysOf_1 : decode cX9_waysOf 1 = .ok (.invokevirtual 218, 3) := by decide +kernel
theorem dX9_waysOf_4 : decode cX9_waysOf 4 = .ok (.lconst 0, 1) := by decide +kernel
theorem dX9_waysOf_5 : decode cX9_waysOf 5 = .ok (.lstore_n 2, 1) := by decide +kernel
theorem dX9_waysOf_6 : decode cX9_waysOf 6 = .ok (.iconst 1, 1) := by decide +kernel
theorem dX9_waysOf_7 : decode cX9_waysOf 7 = .ok (.istore 4, 2) := by decide +kernel
theorem dX9_waysOf_9 : decode cX9_waysOf 9 = .ok (.iload 4, 2) := by decide +kernel
theorem dX9_waysOf_11 : decode cX9_waysOf 11 = .ok (.ifCond .eq 167, 3) := by decide +kernel
theorem dX9_waysOf_14 : decode cX9_waysOf 14 = .ok (.aload_n 0, 1) := by decide +kernel
theorem dX9_waysOf_15 : decode cX9_waysOf 15 = .ok (.invokevirtual 221, 3) := by decide +kernel
theorem dX9_waysOf_18 : decode cX9_waysOf 18 = .ok (.lstore 5, 2) := by decide +kernel
theorem dX9_waysOf_20 : decode cX9_waysOf 20 = .ok (.aload_n 0, 1) := by decide +kernel
theorem dX9_waysOf_21 : decode cX9_waysOf 21 = .ok (.invokevirtual 212, 3) := by decide +kernel
theorem dX9_waysOf_24 : decode cX9_waysOf 24 = .ok (.istore 7, 2) := by decide +kernel
theorem dX9_waysOf_26 : decode cX9_waysOf 26 = .ok (.aload_n 0, 1) := by decide +kernel
theorem dX9_waysOf_27 : decode cX9_waysOf 27 = .ok (.getfield 199, 3) := by decide +kernel
theorem dX9_waysOf_30 : decode cX9_waysOf 30 = .ok (.aload_n 0, 1) := by decide +kernel
theorem dX9_waysOf_31 : decode cX9_waysOf 31 = .ok (.getfield 13, 3) := by decide +kernel
theorem dX9_waysOf_34 : decode cX9_waysOf 34 = .ok (.bipush 8, 2) := by decide +kernel
theorem dX9_waysOf_36 : decode cX9_waysOf 36 = .ok (.iaload, 1) := by decide +kernel
theorem dX9_waysOf_37 : decode cX9_waysOf 37 = .ok (.if_icmp .lt 7, 3) := by decide +kernel
theorem dX9_waysOf_40 : decode cX9_waysOf 40 = .ok (.iconst 1, 1) := by decide +kernel
theorem dX9_waysOf_41 : decode cX9_waysOf 41 = .ok (.goto 4, 3) := by decide +kernel
theorem dX9_waysOf_44 : decode cX9_waysOf 44 = .ok (.iconst 0, 1) := by decide +kernel
theorem dX9_waysOf_45 : decode cX9_waysOf 45 = .ok (.istore 8, 2) := by decide +kernel
theorem dX9_waysOf_47 : decode cX9_waysOf 47 = .ok (.iload_n 1, 1) := by decide +kernel
theorem dX9_waysOf_48 : decode cX9_waysOf 48 = .ok (.ifCond .ne 8, 3) := by decide +kernel
theorem dX9_waysOf_51 : decode cX9_waysOf 51 = .ok (.iload 7, 2) := by decide +kernel
theorem dX9_waysOf_53 : decode cX9_waysOf 53 = .ok (.goto 100, 3) := by decide +kernel
theorem dX9_waysOf_56 : decode cX9_waysOf 56 = .ok (.iload_n 1, 1) := by decide +kernel
theorem dX9_waysOf_57 : decode cX9_waysOf 57 = .ok (.iconst 1, 1) := by decide +kernel
theorem dX9_waysOf_58 : decode cX9_waysOf 58 = .ok (.if_icmp .ne 23, 3) := by decide +kernel
theorem dX9_waysOf_61 : decode cX9_waysOf 61 = .ok (.iload 7, 2) := by decide +kernel
theorem dX9_waysOf_63 : decode cX9_waysOf 63 = .ok (.ifCond .eq 14, 3) := by decide +kernel
theorem dX9_waysOf_66 : decode cX9_waysOf 66 = .ok (.aload_n 0, 1) := by decide +kernel
theorem dX9_waysOf_67 : decode cX9_waysOf 67 = .ok (.invokevirtual 225, 3) := by decide +kernel
theorem dX9_waysOf_70 : decode cX9_waysOf 70 = .ok (.ifCond .ne 7, 3) := by decide +kernel
theorem dX9_waysOf_73 : decode cX9_waysOf 73 = .ok (.iconst 1, 1) := by decide +kernel
theorem dX9_waysOf_74 : decode cX9_waysOf 74 = .ok (.goto 79, 3) := by decide +kernel
theorem dX9_waysOf_77 : decode cX9_waysOf 77 = .ok (.iconst 0, 1) := by decide +kernel
theorem dX9_waysOf_78 : decode cX9_waysOf 78 = .ok (.goto 75, 3) := by decide +kernel
theorem dX9_waysOf_81 : decode cX9_waysOf 81 = .ok (.iload_n 1, 1) := by decide +kernel
theorem dX9_waysOf_82 : decode cX9_waysOf 82 = .ok (.iconst 2, 1) := by decide +kernel
theorem dX9_waysOf_83 : decode cX9_waysOf 83 = .ok (.if_icmp .ne 23, 3) := by decide +kernel
theorem dX9_waysOf_86 : decode cX9_waysOf 86 = .ok (.iload 7, 2) := by decide +kernel
theorem dX9_waysOf_88 : decode cX9_waysOf 88 = .ok (.ifCond .ne 14, 3) := by decide +kernel
theorem dX9_waysOf_91 : decode cX9_waysOf 91 = .ok (.aload_n 0, 1) := by decide +kernel
theorem dX9_waysOf_92 : decode cX9_waysOf 92 = .ok (.invokevirtual 225, 3) := by decide +kernel
theorem dX9_waysOf_95 : decode cX9_waysOf 95 = .ok (.ifCond .eq 7, 3) := by decide +kernel
theorem dX9_waysOf_98 : decode cX9_waysOf 98 = .ok (.iconst 1, 1) := by decide +kernel
theorem dX9_waysOf_99 : decode cX9_waysOf 99 = .ok (.goto 54, 3) := by decide +kernel
theorem dX9_waysOf_102 : decode cX9_waysOf 102 = .ok (.iconst 0, 1) := by decide +kernel
theorem dX9_waysOf_103 : decode cX9_waysOf 103 = .ok (.goto 50, 3) := by decide +kernel
theorem dX9_waysOf_106 : decode cX9_waysOf 106 = .ok (.iload_n 1, 1) := by decide +kernel
theorem dX9_waysOf_107 : decode cX9_waysOf 107 = .ok (.iconst 3, 1) := by decide +kernel
theorem dX9_waysOf_108 : decode cX9_waysOf 108 = .ok (.if_icmp .ne 20, 3) := by decide +kernel
theorem dX9_waysOf_111 : decode cX9_waysOf 111 = .ok (.iload 7, 2) := by decide +kernel
theorem dX9_waysOf_113 : decode cX9_waysOf 113 = .ok (.aload_n 0, 1) := by decide +kernel
theorem dX9_waysOf_114 : decode cX9_waysOf 114 = .ok (.invokevirtual 225, 3) := by decide +kernel
theorem dX9_waysOf_117 : decode cX9_waysOf 117 = .ok (.if_icmp .eq 7, 3) := by decide +kernel
theorem dX9_waysOf_120 : decode cX9_waysOf 120 = .ok (.iconst 1, 1) := by decide +kernel
theorem dX9_waysOf_121 : decode cX9_waysOf 121 = .ok (.goto 32, 3) := by decide +kernel
theorem dX9_waysOf_124 : decode cX9_waysOf 124 = .ok (.iconst 0, 1) := by decide +kernel
theorem dX9_waysOf_125 : decode cX9_waysOf 125 = .ok (.goto 28, 3) := by decide +kernel
theorem dX9_waysOf_128 : decode cX9_waysOf 128 = .ok (.iload_n 1, 1) := by decide +kernel
theorem dX9_waysOf_129 : decode cX9_waysOf 129 = .ok (.iconst 4, 1) := by decide +kernel
theorem dX9_waysOf_130 : decode cX9_waysOf 130 = .ok (.if_icmp .ne 8, 3) := by decide +kernel
theorem dX9_waysOf_133 : decode cX9_waysOf 133 = .ok (.iload 8, 2) := by decide +kernel
theorem dX9_waysOf_135 : decode cX9_waysOf 135 = .ok (.goto 18, 3) := by decide +kernel
theorem dX9_waysOf_138 : decode cX9_waysOf 138 = .ok (.iload 7, 2) := by decide +kernel
theorem dX9_waysOf_140 : decode cX9_waysOf 140 = .ok (.ifCond .eq 12, 3) := by decide +kernel
theorem dX9_waysOf_143 : decode cX9_waysOf 143 = .ok (.iload 8, 2) := by decide +kernel
theorem dX9_waysOf_145 : decode cX9_waysOf 145 = .ok (.ifCond .eq 7, 3) := by decide +kernel
theorem dX9_waysOf_148 : decode cX9_waysOf 148 = .ok (.iconst 1, 1) := by decide +kernel
theorem dX9_waysOf_149 : decode cX9_waysOf 149 = .ok (.goto 4, 3) := by decide +kernel
theorem dX9_waysOf_152 : decode cX9_waysOf 152 = .ok (.iconst 0, 1) := by decide +kernel
theorem dX9_waysOf_153 : decode cX9_waysOf 153 = .ok (.istore 9, 2) := by decide +kernel
theorem dX9_waysOf_155 : decode cX9_waysOf 155 = .ok (.lload_n 2, 1) := by decide +kernel
theorem dX9_waysOf_156 : decode cX9_waysOf 156 = .ok (.iload 9, 2) := by decide +kernel
theorem dX9_waysOf_158 : decode cX9_waysOf 158 = .ok (.ifCond .eq 8, 3) := by decide +kernel
theorem dX9_waysOf_161 : decode cX9_waysOf 161 = .ok (.lload 5, 2) := by decide +kernel
theorem dX9_waysOf_163 : decode cX9_waysOf 163 = .ok (.goto 4, 3) := by decide +kernel
theorem dX9_waysOf_166 : decode cX9_waysOf 166 = .ok (.lconst 0, 1) := by decide +kernel
theorem dX9_waysOf_167 : decode cX9_waysOf 167 = .ok (.ladd, 1) := by decide +kernel
theorem dX9_waysOf_168 : decode cX9_waysOf 168 = .ok (.lstore_n 2, 1) := by decide +kernel
theorem dX9_waysOf_169 : decode cX9_waysOf 169 = .ok (.aload_n 0, 1) := by decide +kernel
theorem dX9_waysOf_170 : decode cX9_waysOf 170 = .ok (.invokevirtual 228, 3) := by decide +kernel
theorem dX9_waysOf_173 : decode cX9_waysOf 173 = .ok (.istore 4, 2) := by decide +kernel
theorem dX9_waysOf_175 : decode cX9_waysOf 175 = .ok (.goto (-166), 3) := by decide +kernel
theorem dX9_waysOf_178 : decode cX9_waysOf 178 = .ok (.lload_n 2, 1) := by decide +kernel
theorem dX9_waysOf_179 : decode cX9_waysOf 179 = .ok (.lreturn, 1) := by decide +kernel
theorem dX9_common_0 : decode cX9_common 0 = .ok (.lload_n 0, 1) := by decide +kernel
theorem dX9_common_1 : decode cX9_common 1 = .ok (.lstore 4, 2) := by decide +kernel
theorem dX9_common_3 : decode cX9_common 3 = .ok (.lload_n 2, 1) := by decide +kernel
theorem dX9_common_4 : decode cX9_common 4 = .ok (.lstore 6, 2) := by decide +kernel
theorem dX9_common_6 : decode cX9_common 6 = .ok (.lload 6, 2) := by decide +kernel
theorem dX9_common_8 : decode cX9_common 8 = .ok (.lconst 0, 1) := by decide +kernel
theorem dX9_common_9 : decode cX9_common 9 = .ok (.lcmp, 1) := by decide +kernel
theorem dX9_common_10 : decode cX9_common 10 = .ok (.ifCond .eq 21, 3) := by decide +kernel
theorem dX9_common_13 : decode cX9_common 13 = .ok (.lload 4, 2) := by decide +kernel
theorem dX9_common_15 : decode cX9_common 15 = .ok (.lload 6, 2) := by decide +kernel
theorem dX9_common_17 : decode cX9_common 17 = .ok (.lrem, 1) := by decide +kernel
theorem dX9_common_18 : decode cX9_common 18 = .ok (.lstore 8, 2) := by decide +kernel
theorem dX9_common_20 : decode cX9_common 20 = .ok (.lload 6, 2) := by decide +kernel
theorem dX9_common_22 : decode cX9_common 22 = .ok (.lstore 4, 2) := by decide +kernel
theorem dX9_common_24 : decode cX9_common 24 = .ok (.lload 8, 2) := by decide +kernel
theorem dX9_common_26 : decode cX9_common 26 = .ok (.lstore 6, 2) := by decide +kernel
theorem dX9_common_28 : decode cX9_common 28 = .ok (.goto (-22), 3) := by decide +kernel
theorem dX9_common_31 : decode cX9_common 31 = .ok (.lload 4, 2) := by decide +kernel
theorem dX9_common_33 : decode cX9_common 33 = .ok (.lreturn, 1) := by decide +kernel
theorem dX9_odds_0 : decode cX9_odds 0 = .ok (.iload_n 1, 1) := by decide +kernel
theorem dX9_odds_1 : decode cX9_odds 1 = .ok (.i2l, 1) := by decide +kernel
theorem dX9_odds_2 : decode cX9_odds 2 = .ok (.lconst 0, 1) := by decide +kernel
theorem dX9_odds_3 : decode cX9_odds 3 = .ok (.ldc2_w 190, 3) := by decide +kernel
theorem dX9_odds_6 : decode cX9_odds 6 = .ok (.invokestatic 95, 3) := by decide +kernel
theorem dX9_odds_9 : decode cX9_odds 9 = .ok (.ifCond .ne 7, 3) := by decide +kernel
theorem dX9_odds_12 : decode cX9_odds 12 = .ok (.ldc2_w 231, 3) := by decide +kernel
theorem dX9_odds_15 : decode cX9_odds 15 = .ok (.lreturn, 1) := by decide +kernel
theorem dX9_odds_16 : decode cX9_odds 16 = .ok (.aload_n 0, 1) := by decide +kernel
theorem dX9_odds_17 : decode cX9_odds 17 = .ok (.invokevirtual 151, 3) := by decide +kernel
theorem dX9_odds_20 : decode cX9_odds 20 = .ok (.aload_n 0, 1) := by decide +kernel
theorem dX9_odds_21 : decode cX9_odds 21 = .ok (.iconst 0, 1) := by decide +kernel
theorem dX9_odds_22 : decode cX9_odds 22 = .ok (.invokevirtual 233, 3) := by decide +kernel
theorem dX9_odds_25 : decode cX9_odds 25 = .ok (.lstore_n 2, 1) := by decide +kernel
theorem dX9_odds_26 : decode cX9_odds 26 = .ok (.lload_n 2, 1) := by decide +kernel
theorem dX9_odds_27 : decode cX9_odds 27 = .ok (.aload_n 0, 1) := by decide +kernel
theorem dX9_odds_28 : decode cX9_odds 28 = .ok (.invokevirtual 237, 3) := by decide +kernel
theorem dX9_odds_31 : decode cX9_odds 31 = .ok (.invokestatic 240, 3) := by decide +kernel
theorem dX9_odds_34 : decode cX9_odds 34 = .ok (.lstore 4, 2) := by decide +kernel
theorem dX9_odds_36 : decode cX9_odds 36 = .ok (.iload_n 1, 1) := by decide +kernel
theorem dX9_odds_37 : decode cX9_odds 37 = .ok (.ifCond .ne 7, 3) := by decide +kernel
theorem dX9_odds_40 : decode cX9_odds 40 = .ok (.lload_n 2, 1) := by decide +kernel
theorem dX9_odds_41 : decode cX9_odds 41 = .ok (.goto 22, 3) := by decide +kernel
theorem dX9_odds_44 : decode cX9_odds 44 = .ok (.iload_n 1, 1) := by decide +kernel
theorem dX9_odds_45 : decode cX9_odds 45 = .ok (.iconst 1, 1) := by decide +kernel
theorem dX9_odds_46 : decode cX9_odds 46 = .ok (.if_icmp .ne 10, 3) := by decide +kernel
theorem dX9_odds_49 : decode cX9_odds 49 = .ok (.lload_n 2, 1) := by decide +kernel
theorem dX9_odds_50 : decode cX9_odds 50 = .ok (.lload 4, 2) := by decide +kernel
theorem dX9_odds_52 : decode cX9_odds 52 = .ok (.ldiv, 1) := by decide +kernel
theorem dX9_odds_53 : decode cX9_odds 53 = .ok (.goto 10, 3) := by decide +kernel
theorem dX9_odds_56 : decode cX9_odds 56 = .ok (.aload_n 0, 1) := by decide +kernel
theorem dX9_odds_57 : decode cX9_odds 57 = .ok (.invokevirtual 237, 3) := by decide +kernel
theorem dX9_odds_60 : decode cX9_odds 60 = .ok (.lload 4, 2) := by decide +kernel
theorem dX9_odds_62 : decode cX9_odds 62 = .ok (.ldiv, 1) := by decide +kernel
theorem dX9_odds_63 : decode cX9_odds 63 = .ok (.lreturn, 1) := by decide +kernel
theorem dX9_mean_0 : decode cX9_mean 0 = .ok (.aload_n 0, 1) := by decide +kernel
theorem dX9_mean_1 : decode cX9_mean 1 = .ok (.iload_n 1, 1) := by decide +kernel
theorem dX9_mean_2 : decode cX9_mean 2 = .ok (.invokevirtual 181, 3) := by decide +kernel
theorem dX9_mean_5 : decode cX9_mean 5 = .ok (.ifCond .eq 13, 3) := by decide +kernel
theorem dX9_mean_8 : decode cX9_mean 8 = .ok (.iload_n 2, 1) := by decide +kernel
theorem dX9_mean_9 : decode cX9_mean 9 = .ok (.i2l, 1) := by decide +kernel
theorem dX9_mean_10 : decode cX9_mean 10 = .ok (.lconst 0, 1) := by decide +kernel
theorem dX9_mean_11 : decode cX9_mean 11 = .ok (.lconst 1, 1) := by decide +kernel
theorem dX9_mean_12 : decode cX9_mean 12 = .ok (.invokestatic 95, 3) := by decide +kernel
theorem dX9_mean_15 : decode cX9_mean 15 = .ok (.ifCond .ne 7, 3) := by decide +kernel
theorem dX9_mean_18 : decode cX9_mean 18 = .ok (.ldc2_w 244, 3) := by decide +kernel
theorem dX9_mean_21 : decode cX9_mean 21 = .ok (.lreturn, 1) := by decide +kernel
theorem dX9_mean_22 : decode cX9_mean 22 = .ok (.aload_n 0, 1) := by decide +kernel
theorem dX9_mean_23 : decode cX9_mean 23 = .ok (.invokevirtual 151, 3) := by decide +kernel
theorem dX9_mean_26 : decode cX9_mean 26 = .ok (.aload_n 0, 1) := by decide +kernel
theorem dX9_mean_27 : decode cX9_mean 27 = .ok (.invokevirtual 218, 3) := by decide +kernel
theorem dX9_mean_30 : decode cX9_mean 30 = .ok (.aload_n 0, 1) := by decide +kernel
theorem dX9_mean_31 : decode cX9_mean 31 = .ok (.iload_n 1, 1) := by decide +kernel
theorem dX9_mean_32 : decode cX9_mean 32 = .ok (.invokevirtual 187, 3) := by decide +kernel
theorem dX9_mean_35 : decode cX9_mean 35 = .ok (.bipush (-4), 2) := by decide +kernel
theorem dX9_mean_37 : decode cX9_mean 37 = .ok (.if_icmp .ne 7, 3) := by decide +kernel
theorem dX9_mean_40 : decode cX9_mean 40 = .ok (.ldc2_w 246, 3) := by decide +kernel
theorem dX9_mean_43 : decode cX9_mean 43 = .ok (.lreturn, 1) := by decide +kernel
theorem dX9_mean_44 : decode cX9_mean 44 = .ok (.lconst 0, 1) := by decide +kernel
theorem dX9_mean_45 : decode cX9_mean 45 = .ok (.lstore_n 3, 1) := by decide +kernel
theorem dX9_mean_46 : decode cX9_mean 46 = .ok (.iconst 1, 1) := by decide +kernel
theorem dX9_mean_47 : decode cX9_mean 47 = .ok (.istore 5, 2) := by decide +kernel
theorem dX9_mean_49 : decode cX9_mean 49 = .ok (.iload 5, 2) := by decide +kernel
theorem dX9_mean_51 : decode cX9_mean 51 = .ok (.ifCond .eq 43, 3) := by decide +kernel
theorem dX9_mean_54 : decode cX9_mean 54 = .ok (.aload_n 0, 1) := by decide +kernel
theorem dX9_mean_55 : decode cX9_mean 55 = .ok (.invokevirtual 221, 3) := by decide +kernel
theorem dX9_mean_58 : decode cX9_mean 58 = .ok (.lstore 6, 2) := by decide +kernel
theorem dX9_mean_60 : decode cX9_mean 60 = .ok (.lload_n 3, 1) := by decide +kernel
theorem dX9_mean_61 : decode cX9_mean 61 = .ok (.lload 6, 2) := by decide +kernel
theorem dX9_mean_63 : decode cX9_mean 63 = .ok (.iload_n 2, 1) := by decide +kernel
theorem dX9_mean_64 : decode cX9_mean 64 = .ok (.ifCond .ne 12, 3) := by decide +kernel
theorem dX9_mean_67 : decode cX9_mean 67 = .ok (.aload_n 0, 1) := by decide +kernel
theorem dX9_mean_68 : decode cX9_mean 68 = .ok (.getfield 67, 3) := by decide +kernel
theorem dX9_mean_71 : decode cX9_mean 71 = .ok (.iload_n 1, 1) := by decide +kernel
theorem dX9_mean_72 : decode cX9_mean 72 = .ok (.iaload, 1) := by decide +kernel
theorem dX9_mean_73 : decode cX9_mean 73 = .ok (.goto 8, 3) := by decide +kernel
theorem dX9_mean_76 : decode cX9_mean 76 = .ok (.aload_n 0, 1) := by decide +kernel
theorem dX9_mean_77 : decode cX9_mean 77 = .ok (.iload_n 1, 1) := by decide +kernel
theorem dX9_mean_78 : decode cX9_mean 78 = .ok (.invokevirtual 248, 3) := by decide +kernel
theorem dX9_mean_81 : decode cX9_mean 81 = .ok (.i2l, 1) := by decide +kernel
theorem dX9_mean_82 : decode cX9_mean 82 = .ok (.lmul, 1) := by decide +kernel
theorem dX9_mean_83 : decode cX9_mean 83 = .ok (.ladd, 1) := by decide +kernel
theorem dX9_mean_84 : decode cX9_mean 84 = .ok (.lstore_n 3, 1) := by decide +kernel
theorem dX9_mean_85 : decode cX9_mean 85 = .ok (.aload_n 0, 1) := by decide +kernel
theorem dX9_mean_86 : decode cX9_mean 86 = .ok (.invokevirtual 228, 3) := by decide +kernel
theorem dX9_mean_89 : decode cX9_mean 89 = .ok (.istore 5, 2) := by decide +kernel
theorem dX9_mean_91 : decode cX9_mean 91 = .ok (.goto (-42), 3) := by decide +kernel
theorem dX9_mean_94 : decode cX9_mean 94 = .ok (.lload_n 3, 1) := by decide +kernel
theorem dX9_mean_95 : decode cX9_mean 95 = .ok (.lreturn, 1) := by decide +kernel
theorem dX9_wrong_0 : decode cX9_wrong 0 = .ok (.iload_n 1, 1) := by decide +kernel
theorem dX9_wrong_1 : decode cX9_wrong 1 = .ok (.i2l, 1) := by decide +kernel
theorem dX9_wrong_2 : decode cX9_wrong 2 = .ok (.lconst 0, 1) := by decide +kernel
theorem dX9_wrong_3 : decode cX9_wrong 3 = .ok (.lconst 1, 1) := by decide +kernel
theorem dX9_wrong_4 : decode cX9_wrong 4 = .ok (.invokestatic 95, 3) := by decide +kernel
theorem dX9_wrong_7 : decode cX9_wrong 7 = .ok (.ifCond .ne 7, 3) := by decide +kernel
theorem dX9_wrong_10 : decode cX9_wrong 10 = .ok (.ldc2_w 231, 3) := by decide +kernel
theorem dX9_wrong_13 : decode cX9_wrong 13 = .ok (.lreturn, 1) := by decide +kernel
theorem dX9_wrong_14 : decode cX9_wrong 14 = .ok (.aload_n 0, 1) := by decide +kernel
theorem dX9_wrong_15 : decode cX9_wrong 15 = .ok (.invokevirtual 151, 3) := by decide +kernel
theorem dX9_wrong_18 : decode cX9_wrong 18 = .ok (.aload_n 0, 1) := by decide +kernel
theorem dX9_wrong_19 : decode cX9_wrong 19 = .ok (.iload_n 1, 1) := by decide +kernel
theorem dX9_wrong_20 : decode cX9_wrong 20 = .ok (.iconst 1, 1) := by decide +kernel
theorem dX9_wrong_21 : decode cX9_wrong 21 = .ok (.iadd, 1) := by decide +kernel
theorem dX9_wrong_22 : decode cX9_wrong 22 = .ok (.invokevirtual 233, 3) := by decide +kernel
theorem dX9_wrong_25 : decode cX9_wrong 25 = .ok (.lreturn, 1) := by decide +kernel
theorem dX9_row_0 : decode cX9_row 0 = .ok (.aload_n 0, 1) := by decide +kernel
theorem dX9_row_1 : decode cX9_row 1 = .ok (.iload_n 1, 1) := by decide +kernel
theorem dX9_row_2 : decode cX9_row 2 = .ok (.invokevirtual 181, 3) := by decide +kernel
theorem dX9_row_5 : decode cX9_row 5 = .ok (.ifCond .eq 15, 3) := by decide +kernel
theorem dX9_row_8 : decode cX9_row 8 = .ok (.iload_n 2, 1) := by decide +kernel
theorem dX9_row_9 : decode cX9_row 9 = .ok (.i2l, 1) := by decide +kernel
theorem dX9_row_10 : decode cX9_row 10 = .ok (.lconst 0, 1) := by decide +kernel
theorem dX9_row_11 : decode cX9_row 11 = .ok (.ldc2_w 251, 3) := by decide +kernel
theorem dX9_row_14 : decode cX9_row 14 = .ok (.invokestatic 95, 3) := by decide +kernel
theorem dX9_row_17 : decode cX9_row 17 = .ok (.ifCond .ne 5, 3) := by decide +kernel
theorem dX9_row_20 : decode cX9_row 20 = .ok (.iconst (-1), 1) := by decide +kernel
theorem dX9_row_21 : decode cX9_row 21 = .ok (.ireturn, 1) := by decide +kernel
theorem dX9_row_22 : decode cX9_row 22 = .ok (.aload_n 0, 1) := by decide +kernel
theorem dX9_row_23 : decode cX9_row 23 = .ok (.getfield 55, 3) := by decide +kernel
theorem dX9_row_26 : decode cX9_row 26 = .ok (.iload_n 1, 1) := by decide +kernel
theorem dX9_row_27 : decode cX9_row 27 = .ok (.iaload, 1) := by decide +kernel
theorem dX9_row_28 : decode cX9_row 28 = .ok (.istore_n 3, 1) := by decide +kernel
theorem dX9_row_29 : decode cX9_row 29 = .ok (.aload_n 0, 1) := by decide +kernel
theorem dX9_row_30 : decode cX9_row 30 = .ok (.getfield 55, 3) := by decide +kernel
theorem dX9_row_33 : decode cX9_row 33 = .ok (.iload_n 1, 1) := by decide +kernel
theorem dX9_row_34 : decode cX9_row 34 = .ok (.iload_n 2, 1) := by decide +kernel
theorem dX9_row_35 : decode cX9_row 35 = .ok (.iastore, 1) := by decide +kernel
theorem dX9_row_36 : decode cX9_row 36 = .ok (.iload_n 3, 1) := by decide +kernel
theorem dX9_row_37 : decode cX9_row 37 = .ok (.ireturn, 1) := by decide +kernel
theorem dX9_most_0 : decode cX9_most 0 = .ok (.aload_n 0, 1) := by decide +kernel
theorem dX9_most_1 : decode cX9_most 1 = .ok (.getfield 46, 3) := by decide +kernel
theorem dX9_most_4 : decode cX9_most 4 = .ok (.iload_n 1, 1) := by decide +kernel
theorem dX9_most_5 : decode cX9_most 5 = .ok (.iaload, 1) := by decide +kernel
theorem dX9_most_6 : decode cX9_most 6 = .ok (.istore_n 2, 1) := by decide +kernel
theorem dX9_most_7 : decode cX9_most 7 = .ok (.iconst 0, 1) := by decide +kernel
theorem dX9_most_8 : decode cX9_most 8 = .ok (.istore_n 3, 1) := by decide +kernel
theorem dX9_most_9 : decode cX9_most 9 = .ok (.iconst 0, 1) := by decide +kernel
theorem dX9_most_10 : decode cX9_most 10 = .ok (.istore 4, 2) := by decide +kernel
theorem dX9_most_12 : decode cX9_most 12 = .ok (.iload 4, 2) := by decide +kernel
theorem dX9_most_14 : decode cX9_most 14 = .ok (.aload_n 0, 1) := by decide +kernel
theorem dX9_most_15 : decode cX9_most 15 = .ok (.getfield 37, 3) := by decide +kernel
theorem dX9_most_18 : decode cX9_most 18 = .ok (.iload_n 2, 1) := by decide +kernel
theorem dX9_most_19 : decode cX9_most 19 = .ok (.iaload, 1) := by decide +kernel
theorem dX9_most_20 : decode cX9_most 20 = .ok (.if_icmp .ge 40, 3) := by decide +kernel
theorem dX9_most_23 : decode cX9_most 23 = .ok (.aload_n 0, 1) := by decide +kernel
theorem dX9_most_24 : decode cX9_most 24 = .ok (.getfield 40, 3) := by decide +kernel
theorem dX9_most_27 : decode cX9_most 27 = .ok (.iconst 3, 1) := by decide +kernel
theorem dX9_most_28 : decode cX9_most 28 = .ok (.iload_n 2, 1) := by decide +kernel
theorem dX9_most_29 : decode cX9_most 29 = .ok (.imul, 1) := by decide +kernel
theorem dX9_most_30 : decode cX9_most 30 = .ok (.iload 4, 2) := by decide +kernel
theorem dX9_most_32 : decode cX9_most 32 = .ok (.iadd, 1) := by decide +kernel
theorem dX9_most_33 : decode cX9_most 33 = .ok (.iaload, 1) := by decide +kernel
theorem dX9_most_34 : decode cX9_most 34 = .ok (.iload_n 3, 1) := by decide +kernel
theorem dX9_most_35 : decode cX9_most 35 = .ok (.if_icmp .le 17, 3) := by decide +kernel
theorem dX9_most_38 : decode cX9_most 38 = .ok (.aload_n 0, 1) := by decide +kernel
theorem dX9_most_39 : decode cX9_most 39 = .ok (.getfield 40, 3) := by decide +kernel
theorem dX9_most_42 : decode cX9_most 42 = .ok (.iconst 3, 1) := by decide +kernel
theorem dX9_most_43 : decode cX9_most 43 = .ok (.iload_n 2, 1) := by decide +kernel
theorem dX9_most_44 : decode cX9_most 44 = .ok (.imul, 1) := by decide +kernel
theorem dX9_most_45 : decode cX9_most 45 = .ok (.iload 4, 2) := by decide +kernel
theorem dX9_most_47 : decode cX9_most 47 = .ok (.iadd, 1) := by decide +kernel
theorem dX9_most_48 : decode cX9_most 48 = .ok (.iaload, 1) := by decide +kernel
theorem dX9_most_49 : decode cX9_most 49 = .ok (.goto 4, 3) := by decide +kernel
theorem dX9_most_52 : decode cX9_most 52 = .ok (.iload_n 3, 1) := by decide +kernel
theorem dX9_most_53 : decode cX9_most 53 = .ok (.istore_n 3, 1) := by decide +kernel
theorem dX9_most_54 : decode cX9_most 54 = .ok (.iinc 4 1, 3) := by decide +kernel
theorem dX9_most_57 : decode cX9_most 57 = .ok (.goto (-45), 3) := by decide +kernel
theorem dX9_most_60 : decode cX9_most 60 = .ok (.iload_n 3, 1) := by decide +kernel
theorem dX9_most_61 : decode cX9_most 61 = .ok (.ireturn, 1) := by decide +kernel
theorem dX9_judge_0 : decode cX9_judge 0 = .ok (.aload_n 0, 1) := by decide +kernel
theorem dX9_judge_1 : decode cX9_judge 1 = .ok (.invokevirtual 151, 3) := by decide +kernel
theorem dX9_judge_4 : decode cX9_judge 4 = .ok (.aload_n 0, 1) := by decide +kernel
theorem dX9_judge_5 : decode cX9_judge 5 = .ok (.invokevirtual 184, 3) := by decide +kernel
theorem dX9_judge_8 : decode cX9_judge 8 = .ok (.iconst 0, 1) := by decide +kernel
theorem dX9_judge_9 : decode cX9_judge 9 = .ok (.istore_n 1, 1) := by decide +kernel
theorem dX9_judge_10 : decode cX9_judge 10 = .ok (.iconst 0, 1) := by decide +kernel
theorem dX9_judge_11 : decode cX9_judge 11 = .ok (.istore_n 2, 1) := by decide +kernel
theorem dX9_judge_12 : decode cX9_judge 12 = .ok (.iload_n 2, 1) := by decide +kernel
theorem dX9_judge_13 : decode cX9_judge 13 = .ok (.aload_n 0, 1) := by decide +kernel
theorem dX9_judge_14 : decode cX9_judge 14 = .ok (.getfield 175, 3) := by decide +kernel
theorem dX9_judge_17 : decode cX9_judge 17 = .ok (.if_icmp .ge 83, 3) := by decide +kernel
theorem dX9_judge_20 : decode cX9_judge 20 = .ok (.aload_n 0, 1) := by decide +kernel
theorem dX9_judge_21 : decode cX9_judge 21 = .ok (.getfield 61, 3) := by decide +kernel
theorem dX9_judge_24 : decode cX9_judge 24 = .ok (.iload_n 2, 1) := by decide +kernel
theorem dX9_judge_25 : decode cX9_judge 25 = .ok (.iaload, 1) := by decide +kernel
theorem dX9_judge_26 : decode cX9_judge 26 = .ok (.istore_n 3, 1) := by decide +kernel
theorem dX9_judge_27 : decode cX9_judge 27 = .ok (.aload_n 0, 1) := by decide +kernel
theorem dX9_judge_28 : decode cX9_judge 28 = .ok (.getfield 46, 3) := by decide +kernel
theorem dX9_judge_31 : decode cX9_judge 31 = .ok (.iload_n 3, 1) := by decide +kernel
theorem dX9_judge_32 : decode cX9_judge 32 = .ok (.iaload, 1) := by decide +kernel
theorem dX9_judge_33 : decode cX9_judge 33 = .ok (.istore 4, 2) := by decide +kernel
theorem dX9_judge_35 : decode cX9_judge 35 = .ok (.aload_n 0, 1) := by decide +kernel
theorem dX9_judge_36 : decode cX9_judge 36 = .ok (.aload_n 0, 1) := by decide +kernel
theorem dX9_judge_37 : decode cX9_judge 37 = .ok (.getfield 22, 3) := by decide +kernel
theorem dX9_judge_40 : decode cX9_judge 40 = .ok (.iload 4, 2) := by decide +kernel
theorem dX9_judge_42 : decode cX9_judge 42 = .ok (.iaload, 1) := by decide +kernel
theorem dX9_judge_43 : decode cX9_judge 43 = .ok (.iload_n 3, 1) := by decide +kernel
theorem dX9_judge_44 : decode cX9_judge 44 = .ok (.aload_n 0, 1) := by decide +kernel
theorem dX9_judge_45 : decode cX9_judge 45 = .ok (.iload_n 3, 1) := by decide +kernel
theorem dX9_judge_46 : decode cX9_judge 46 = .ok (.invokevirtual 253, 3) := by decide +kernel
theorem dX9_judge_49 : decode cX9_judge 49 = .ok (.aload_n 0, 1) := by decide +kernel
theorem dX9_judge_50 : decode cX9_judge 50 = .ok (.getfield 25, 3) := by decide +kernel
theorem dX9_judge_53 : decode cX9_judge 53 = .ok (.iload 4, 2) := by decide +kernel
theorem dX9_judge_55 : decode cX9_judge 55 = .ok (.iaload, 1) := by decide +kernel
theorem dX9_judge_56 : decode cX9_judge 56 = .ok (.aload_n 0, 1) := by decide +kernel
theorem dX9_judge_57 : decode cX9_judge 57 = .ok (.aload_n 0, 1) := by decide +kernel
theorem dX9_judge_58 : decode cX9_judge 58 = .ok (.getfield 154, 3) := by decide +kernel
theorem dX9_judge_61 : decode cX9_judge 61 = .ok (.iload_n 1, 1) := by decide +kernel
theorem dX9_judge_62 : decode cX9_judge 62 = .ok (.invokevirtual 205, 3) := by decide +kernel
theorem dX9_judge_65 : decode cX9_judge 65 = .ok (.aload_n 0, 1) := by decide +kernel
theorem dX9_judge_66 : decode cX9_judge 66 = .ok (.getfield 175, 3) := by decide +kernel
theorem dX9_judge_69 : decode cX9_judge 69 = .ok (.iload_n 2, 1) := by decide +kernel
theorem dX9_judge_70 : decode cX9_judge 70 = .ok (.isub, 1) := by decide +kernel
theorem dX9_judge_71 : decode cX9_judge 71 = .ok (.invokevirtual 208, 3) := by decide +kernel
theorem dX9_judge_74 : decode cX9_judge 74 = .ok (.aload_n 0, 1) := by decide +kernel
theorem dX9_judge_75 : decode cX9_judge 75 = .ok (.getfield 55, 3) := by decide +kernel
theorem dX9_judge_78 : decode cX9_judge 78 = .ok (.iload_n 3, 1) := by decide +kernel
theorem dX9_judge_79 : decode cX9_judge 79 = .ok (.iaload, 1) := by decide +kernel
theorem dX9_judge_80 : decode cX9_judge 80 = .ok (.if_icmp .eq 5, 3) := by decide +kernel
theorem dX9_judge_83 : decode cX9_judge 83 = .ok (.iload_n 3, 1) := by decide +kernel
theorem dX9_judge_84 : decode cX9_judge 84 = .ok (.ireturn, 1) := by decide +kernel
theorem dX9_judge_85 : decode cX9_judge 85 = .ok (.iload_n 1, 1) := by decide +kernel
theorem dX9_judge_86 : decode cX9_judge 86 = .ok (.aload_n 0, 1) := by decide +kernel
theorem dX9_judge_87 : decode cX9_judge 87 = .ok (.getfield 55, 3) := by decide +kernel
theorem dX9_judge_90 : decode cX9_judge 90 = .ok (.iload_n 3, 1) := by decide +kernel
theorem dX9_judge_91 : decode cX9_judge 91 = .ok (.iaload, 1) := by decide +kernel
theorem dX9_judge_92 : decode cX9_judge 92 = .ok (.iadd, 1) := by decide +kernel
theorem dX9_judge_93 : decode cX9_judge 93 = .ok (.istore_n 1, 1) := by decide +kernel
theorem dX9_judge_94 : decode cX9_judge 94 = .ok (.iinc 2 1, 3) := by decide +kernel
theorem dX9_judge_97 : decode cX9_judge 97 = .ok (.goto (-85), 3) := by decide +kernel
theorem dX9_judge_100 : decode cX9_judge 100 = .ok (.bipush (-4), 2) := by decide +kernel
theorem dX9_judge_102 : decode cX9_judge 102 = .ok (.ireturn, 1) := by decide +kernel
theorem dX9_made_0 : decode cX9_made 0 = .ok (.iload_n 1, 1) := by decide +kernel
theorem dX9_made_1 : decode cX9_made 1 = .ok (.i2l, 1) := by decide +kernel
theorem dX9_made_2 : decode cX9_made 2 = .ok (.lconst 0, 1) := by decide +kernel
theorem dX9_made_3 : decode cX9_made 3 = .ok (.lconst 1, 1) := by decide +kernel
theorem dX9_made_4 : decode cX9_made 4 = .ok (.invokestatic 95, 3) := by decide +kernel
theorem dX9_made_7 : decode cX9_made 7 = .ok (.ifCond .ne 5, 3) := by decide +kernel
theorem dX9_made_10 : decode cX9_made 10 = .ok (.iconst (-1), 1) := by decide +kernel
theorem dX9_made_11 : decode cX9_made 11 = .ok (.ireturn, 1) := by decide +kernel
theorem dX9_made_12 : decode cX9_made 12 = .ok (.aload_n 0, 1) := by decide +kernel
theorem dX9_made_13 : decode cX9_made 13 = .ok (.invokevirtual 151, 3) := by decide +kernel
theorem dX9_made_16 : decode cX9_made 16 = .ok (.aload_n 0, 1) := by decide +kernel
theorem dX9_made_17 : decode cX9_made 17 = .ok (.invokevirtual 184, 3) := by decide +kernel
theorem dX9_made_20 : decode cX9_made 20 = .ok (.aload_n 0, 1) := by decide +kernel
theorem dX9_made_21 : decode cX9_made 21 = .ok (.iconst 0, 1) := by decide +kernel
theorem dX9_made_22 : decode cX9_made 22 = .ok (.putfield 196, 3) := by decide +kernel
theorem dX9_made_25 : decode cX9_made 25 = .ok (.aload_n 0, 1) := by decide +kernel
theorem dX9_made_26 : decode cX9_made 26 = .ok (.iconst 0, 1) := by decide +kernel
theorem dX9_made_27 : decode cX9_made 27 = .ok (.putfield 202, 3) := by decide +kernel
theorem dX9_made_30 : decode cX9_made 30 = .ok (.iconst 0, 1) := by decide +kernel
theorem dX9_made_31 : decode cX9_made 31 = .ok (.istore_n 2, 1) := by decide +kernel
theorem dX9_made_32 : decode cX9_made 32 = .ok (.iload_n 2, 1) := by decide +kernel
theorem dX9_made_33 : decode cX9_made 33 = .ok (.aload_n 0, 1) := by decide +kernel
theorem dX9_made_34 : decode cX9_made 34 = .ok (.getfield 175, 3) := by decide +kernel
theorem dX9_made_37 : decode cX9_made 37 = .ok (.if_icmp .ge 57, 3) := by decide +kernel
theorem dX9_made_40 : decode cX9_made 40 = .ok (.aload_n 0, 1) := by decide +kernel
theorem dX9_made_41 : decode cX9_made 41 = .ok (.dup, 1) := by decide +kernel
theorem dX9_made_42 : decode cX9_made 42 = .ok (.getfield 196, 3) := by decide +kernel
theorem dX9_made_45 : decode cX9_made 45 = .ok (.aload_n 0, 1) := by decide +kernel
theorem dX9_made_46 : decode cX9_made 46 = .ok (.getfield 55, 3) := by decide +kernel
theorem dX9_made_49 : decode cX9_made 49 = .ok (.aload_n 0, 1) := by decide +kernel
theorem dX9_made_50 : decode cX9_made 50 = .ok (.getfield 61, 3) := by decide +kernel
theorem dX9_made_53 : decode cX9_made 53 = .ok (.iload_n 2, 1) := by decide +kernel
theorem dX9_made_54 : decode cX9_made 54 = .ok (.iaload, 1) := by decide +kernel
theorem dX9_made_55 : decode cX9_made 55 = .ok (.iaload, 1) := by decide +kernel
theorem dX9_made_56 : decode cX9_made 56 = .ok (.iadd, 1) := by decide +kernel
theorem dX9_made_57 : decode cX9_made 57 = .ok (.putfield 196, 3) := by decide +kernel
theorem dX9_made_60 : decode cX9_made 60 = .ok (.aload_n 0, 1) := by decide +kernel
theorem dX9_made_61 : decode cX9_made 61 = .ok (.dup, 1) := by decide +kernel
theorem dX9_made_62 : decode cX9_made 62 = .ok (.getfield 202, 3) := by decide +kernel
theorem dX9_made_65 : decode cX9_made 65 = .ok (.aload_n 0, 1) := by decide +kernel
theorem dX9_made_66 : decode cX9_made 66 = .ok (.getfield 55, 3) := by decide +kernel
theorem dX9_made_69 : decode cX9_made 69 = .ok (.aload_n 0, 1) := by decide +kernel
theorem dX9_made_70 : decode cX9_made 70 = .ok (.getfield 61, 3) := by decide +kernel
theorem dX9_made_73 : decode cX9_made 73 = .ok (.iload_n 2, 1) := by decide +kernel
theorem dX9_made_74 : decode cX9_made 74 = .ok (.iaload, 1) := by decide +kernel
theorem dX9_made_75 : decode cX9_made 75 = .ok (.iaload, 1) := by decide +kernel
theorem dX9_made_76 : decode cX9_made 76 = .ok (.ifCond .le 7, 3) := by decide +kernel
theorem dX9_made_79 : decode cX9_made 79 = .ok (.iconst 1, 1) := by decide +kernel
theorem dX9_made_80 : decode cX9_made 80 = .ok (.goto 4, 3) := by decide +kernel
theorem dX9_made_83 : decode cX9_made 83 = .ok (.iconst 0, 1) := by decide +kernel
theorem dX9_made_84 : decode cX9_made 84 = .ok (.iadd, 1) := by decide +kernel
theorem dX9_made_85 : decode cX9_made 85 = .ok (.putfield 202, 3) := by decide +kernel
theorem dX9_made_88 : decode cX9_made 88 = .ok (.iinc 2 1, 3) := by decide +kernel
theorem dX9_made_91 : decode cX9_made 91 = .ok (.goto (-59), 3) := by decide +kernel
theorem dX9_made_94 : decode cX9_made 94 = .ok (.iload_n 1, 1) := by decide +kernel
theorem dX9_made_95 : decode cX9_made 95 = .ok (.ifCond .ne 10, 3) := by decide +kernel
theorem dX9_made_98 : decode cX9_made 98 = .ok (.aload_n 0, 1) := by decide +kernel
theorem dX9_made_99 : decode cX9_made 99 = .ok (.getfield 196, 3) := by decide +kernel
theorem dX9_made_102 : decode cX9_made 102 = .ok (.goto 15, 3) := by decide +kernel
theorem dX9_made_105 : decode cX9_made 105 = .ok (.aload_n 0, 1) := by decide +kernel
theorem dX9_made_106 : decode cX9_made 106 = .ok (.invokevirtual 212, 3) := by decide +kernel
theorem dX9_made_109 : decode cX9_made 109 = .ok (.ifCond .eq 7, 3) := by decide +kernel
theorem dX9_made_112 : decode cX9_made 112 = .ok (.iconst 1, 1) := by decide +kernel
theorem dX9_made_113 : decode cX9_made 113 = .ok (.goto 4, 3) := by decide +kernel
theorem dX9_made_116 : decode cX9_made 116 = .ok (.iconst 0, 1) := by decide +kernel
theorem dX9_made_117 : decode cX9_made 117 = .ok (.ireturn, 1) := by decide +kernel
theorem dX9_spot_0 : decode cX9_spot 0 = .ok (.bipush 100, 2) := by decide +kernel
theorem dX9_spot_2 : decode cX9_spot 2 = .ok (.iload_n 0, 1) := by decide +kernel
theorem dX9_spot_3 : decode cX9_spot 3 = .ok (.imul, 1) := by decide +kernel
theorem dX9_spot_4 : decode cX9_spot 4 = .ok (.iload_n 1, 1) := by decide +kernel
theorem dX9_spot_5 : decode cX9_spot 5 = .ok (.iadd, 1) := by decide +kernel
theorem dX9_spot_6 : decode cX9_spot 6 = .ok (.bipush 9, 2) := by decide +kernel
theorem dX9_spot_8 : decode cX9_spot 8 = .ok (.imul, 1) := by decide +kernel
theorem dX9_spot_9 : decode cX9_spot 9 = .ok (.iload_n 2, 1) := by decide +kernel
theorem dX9_spot_10 : decode cX9_spot 10 = .ok (.iadd, 1) := by decide +kernel
theorem dX9_spot_11 : decode cX9_spot 11 = .ok (.ireturn, 1) := by decide +kernel
theorem dX9_comes_0 : decode cX9_comes 0 = .ok (.aload_n 0, 1) := by decide +kernel
theorem dX9_comes_1 : decode cX9_comes 1 = .ok (.iload_n 1, 1) := by decide +kernel
theorem dX9_comes_2 : decode cX9_comes 2 = .ok (.invokevirtual 187, 3) := by decide +kernel
theorem dX9_comes_5 : decode cX9_comes 5 = .ok (.bipush (-4), 2) := by decide +kernel
theorem dX9_comes_7 : decode cX9_comes 7 = .ok (.if_icmp .eq 7, 3) := by decide +kernel
theorem dX9_comes_10 : decode cX9_comes 10 = .ok (.iconst 1, 1) := by decide +kernel
theorem dX9_comes_11 : decode cX9_comes 11 = .ok (.goto 4, 3) := by decide +kernel
theorem dX9_comes_14 : decode cX9_comes 14 = .ok (.iconst 0, 1) := by decide +kernel
theorem dX9_comes_15 : decode cX9_comes 15 = .ok (.ireturn, 1) := by decide +kernel
theorem dX9_mostGift_0 : decode cX9_mostGift 0 = .ok (.aload_n 0, 1) := by decide +kernel
theorem dX9_mostGift_1 : decode cX9_mostGift 1 = .ok (.iload_n 1, 1) := by decide +kernel
theorem dX9_mostGift_2 : decode cX9_mostGift 2 = .ok (.invokevirtual 256, 3) := by decide +kernel
theorem dX9_mostGift_5 : decode cX9_mostGift 5 = .ok (.ifCond .eq 25, 3) := by decide +kernel
theorem dX9_mostGift_8 : decode cX9_mostGift 8 = .ok (.aload_n 0, 1) := by decide +kernel
theorem dX9_mostGift_9 : decode cX9_mostGift 9 = .ok (.iload_n 1, 1) := by decide +kernel
theorem dX9_mostGift_10 : decode cX9_mostGift 10 = .ok (.invokevirtual 253, 3) := by decide +kernel
theorem dX9_mostGift_13 : decode cX9_mostGift 13 = .ok (.aload_n 0, 1) := by decide +kernel
theorem dX9_mostGift_14 : decode cX9_mostGift 14 = .ok (.getfield 25, 3) := by decide +kernel
theorem dX9_mostGift_17 : decode cX9_mostGift 17 = .ok (.aload_n 0, 1) := by decide +kernel
theorem dX9_mostGift_18 : decode cX9_mostGift 18 = .ok (.getfield 46, 3) := by decide +kernel
theorem dX9_mostGift_21 : decode cX9_mostGift 21 = .ok (.iload_n 1, 1) := by decide +kernel
theorem dX9_mostGift_22 : decode cX9_mostGift 22 = .ok (.iaload, 1) := by decide +kernel
theorem dX9_mostGift_23 : decode cX9_mostGift 23 = .ok (.iaload, 1) := by decide +kernel
theorem dX9_mostGift_24 : decode cX9_mostGift 24 = .ok (.invokestatic 192, 3) := by decide +kernel
theorem dX9_mostGift_27 : decode cX9_mostGift 27 = .ok (.goto 4, 3) := by decide +kernel
theorem dX9_mostGift_30 : decode cX9_mostGift 30 = .ok (.iconst 0, 1) := by decide +kernel
theorem dX9_mostGift_31 : decode cX9_mostGift 31 = .ok (.ireturn, 1) := by decide +kernel
theorem dX9_layLays_0 : decode cX9_layLays 0 = .ok (.aload_n 0, 1) := by decide +kernel
theorem dX9_layLays_1 : decode cX9_layLays 1 = .ok (.getfield 148, 3) := by decide +kernel
theorem dX9_layLays_4 : decode cX9_layLays 4 = .ok (.istore_n 1, 1) := by decide +kernel
theorem dX9_layLays_5 : decode cX9_layLays 5 = .ok (.iload_n 1, 1) := by decide +kernel
theorem dX9_layLays_6 : decode cX9_layLays 6 = .ok (.ifCond .lt 151, 3) := by decide +kernel
theorem dX9_layLays_9 : decode cX9_layLays 9 = .ok (.iconst 0, 1) := by decide +kernel
theorem dX9_layLays_10 : decode cX9_layLays 10 = .ok (.istore_n 2, 1) := by decide +kernel
theorem dX9_layLays_11 : decode cX9_layLays 11 = .ok (.iload_n 2, 1) := by decide +kernel
theorem dX9_layLays_12 : decode cX9_layLays 12 = .ok (.bipush 100, 2) := by decide +kernel
theorem dX9_layLays_14 : decode cX9_layLays 14 = .ok (.if_icmp .ge 137, 3) := by decide +kernel
theorem dX9_layLays_17 : decode cX9_layLays 17 = .ok (.iconst 0, 1) := by decide +kernel
theorem dX9_layLays_18 : decode cX9_layLays 18 = .ok (.istore_n 3, 1) := by decide +kernel
theorem dX9_layLays_19 : decode cX9_layLays 19 = .ok (.iload_n 3, 1) := by decide +kernel
theorem dX9_layLays_20 : decode cX9_layLays 20 = .ok (.bipush 9, 2) := by decide +kernel
theorem dX9_layLays_22 : decode cX9_layLays 22 = .ok (.if_icmp .ge 123, 3) := by decide +kernel
theorem dX9_layLays_25 : decode cX9_layLays 25 = .ok (.iload_n 1, 1) := by decide +kernel
theorem dX9_layLays_26 : decode cX9_layLays 26 = .ok (.aload_n 0, 1) := by decide +kernel
theorem dX9_layLays_27 : decode cX9_layLays 27 = .ok (.getfield 148, 3) := by decide +kernel
theorem dX9_layLays_30 : decode cX9_layLays 30 = .ok (.if_icmp .ne 15, 3) := by decide +kernel
theorem dX9_layLays_33 : decode cX9_layLays 33 = .ok (.iload_n 2, 1) := by decide +kernel
theorem dX9_layLays_34 : decode cX9_layLays 34 = .ok (.ifCond .ne 11, 3) := by decide +kernel
theorem dX9_layLays_37 : decode cX9_layLays 37 = .ok (.iload_n 3, 1) := by decide +kernel
theorem dX9_layLays_38 : decode cX9_layLays 38 = .ok (.ifCond .ne 7, 3) := by decide +kernel
theorem dX9_layLays_41 : decode cX9_layLays 41 = .ok (.lconst 1, 1) := by decide +kernel
theorem dX9_layLays_42 : decode cX9_layLays 42 = .ok (.goto 4, 3) := by decide +kernel
theorem dX9_layLays_45 : decode cX9_layLays 45 = .ok (.lconst 0, 1) := by decide +kernel
theorem dX9_layLays_46 : decode cX9_layLays 46 = .ok (.lstore 4, 2) := by decide +kernel
theorem dX9_layLays_48 : decode cX9_layLays 48 = .ok (.iconst 0, 1) := by decide +kernel
theorem dX9_layLays_49 : decode cX9_layLays 49 = .ok (.istore 6, 2) := by decide +kernel
theorem dX9_layLays_51 : decode cX9_layLays 51 = .ok (.iload_n 1, 1) := by decide +kernel
theorem dX9_layLays_52 : decode cX9_layLays 52 = .ok (.aload_n 0, 1) := by decide +kernel
theorem dX9_layLays_53 : decode cX9_layLays 53 = .ok (.getfield 148, 3) := by decide +kernel
theorem dX9_layLays_56 : decode cX9_layLays 56 = .ok (.if_icmp .ge 70, 3) := by decide +kernel
theorem dX9_layLays_59 : decode cX9_layLays 59 = .ok (.iload 6, 2) := by decide +kernel
theorem dX9_layLays_61 : decode cX9_layLays 61 = .ok (.aload_n 0, 1) := by decide +kernel
theorem dX9_layLays_62 : decode cX9_layLays 62 = .ok (.iload_n 1, 1) := by decide +kernel
theorem dX9_layLays_63 : decode cX9_layLays 63 = .ok (.invokevirtual 259, 3) := by decide +kernel
theorem dX9_layLays_66 : decode cX9_layLays 66 = .ok (.if_icmp .gt 60, 3) := by decide +kernel
theorem dX9_layLays_69 : decode cX9_layLays 69 = .ok (.iload 6, 2) := by decide +kernel
theorem dX9_layLays_71 : decode cX9_layLays 71 = .ok (.iload_n 2, 1) := by decide +kernel
theorem dX9_layLays_72 : decode cX9_layLays 72 = .ok (.if_icmp .gt 54, 3) := by decide +kernel
theorem dX9_layLays_75 : decode cX9_layLays 75 = .ok (.iload_n 3, 1) := by decide +kernel
theorem dX9_layLays_76 : decode cX9_layLays 76 = .ok (.iload 6, 2) := by decide +kernel
theorem dX9_layLays_78 : decode cX9_layLays 78 = .ok (.ifCond .le 7, 3) := by decide +kernel
theorem dX9_layLays_81 : decode cX9_layLays 81 = .ok (.iconst 1, 1) := by decide +kernel
theorem dX9_layLays_82 : decode cX9_layLays 82 = .ok (.goto 4, 3) := by decide +kernel
theorem dX9_layLays_85 : decode cX9_layLays 85 = .ok (.iconst 0, 1) := by decide +kernel
theorem dX9_layLays_86 : decode cX9_layLays 86 = .ok (.isub, 1) := by decide +kernel
theorem dX9_layLays_87 : decode cX9_layLays 87 = .ok (.istore 7, 2) := by decide +kernel
theorem dX9_layLays_89 : decode cX9_layLays 89 = .ok (.lload 4, 2) := by decide +kernel
theorem dX9_layLays_91 : decode cX9_layLays 91 = .ok (.iload 7, 2) := by decide +kernel
theorem dX9_layLays_93 : decode cX9_layLays 93 = .ok (.ifCond .ge 7, 3) := by decide +kernel
theorem dX9_layLays_96 : decode cX9_layLays 96 = .ok (.lconst 0, 1) := by decide +kernel
theorem dX9_layLays_97 : decode cX9_layLays 97 = .ok (.goto 20, 3) := by decide +kernel
theorem dX9_layLays_100 : decode cX9_layLays 100 = .ok (.aload_n 0, 1) := by decide +kernel
theorem dX9_layLays_101 : decode cX9_layLays 101 = .ok (.getfield 76, 3) := by decide +kernel
theorem dX9_layLays_104 : decode cX9_layLays 104 = .ok (.iload_n 1, 1) := by decide +kernel
theorem dX9_layLays_105 : decode cX9_layLays 105 = .ok (.iconst 1, 1) := by decide +kernel
theorem dX9_layLays_106 : decode cX9_layLays 106 = .ok (.iadd, 1) := by decide +kernel
theorem dX9_layLays_107 : decode cX9_layLays 107 = .ok (.iload_n 2, 1) := by decide +kernel
theorem dX9_layLays_108 : decode cX9_layLays 108 = .ok (.iload 6, 2) := by decide +kernel
theorem dX9_layLays_110 : decode cX9_layLays 110 = .ok (.isub, 1) := by decide +kernel
theorem dX9_layLays_111 : decode cX9_layLays 111 = .ok (.iload 7, 2) := by decide +kernel
theorem dX9_layLays_113 : decode cX9_layLays 113 = .ok (.invokestatic 262, 3) := by decide +kernel
theorem dX9_layLays_116 : decode cX9_layLays 116 = .ok (.laload, 1) := by decide +kernel
theorem dX9_layLays_117 : decode cX9_layLays 117 = .ok (.ladd, 1) := by decide +kernel
theorem dX9_layLays_118 : decode cX9_layLays 118 = .ok (.lstore 4, 2) := by decide +kernel
theorem dX9_layLays_120 : decode cX9_layLays 120 = .ok (.iinc 6 1, 3) := by decide +kernel
theorem dX9_layLays_123 : decode cX9_layLays 123 = .ok (.goto (-72), 3) := by decide +kernel
theorem dX9_layLays_126 : decode cX9_layLays 126 = .ok (.aload_n 0, 1) := by decide +kernel
theorem dX9_layLays_127 : decode cX9_layLays 127 = .ok (.getfield 76, 3) := by decide +kernel
theorem dX9_layLays_130 : decode cX9_layLays 130 = .ok (.iload_n 1, 1) := by decide +kernel
theorem dX9_layLays_131 : decode cX9_layLays 131 = .ok (.iload_n 2, 1) := by decide +kernel
theorem dX9_layLays_132 : decode cX9_layLays 132 = .ok (.iload_n 3, 1) := by decide +kernel
theorem dX9_layLays_133 : decode cX9_layLays 133 = .ok (.invokestatic 262, 3) := by decide +kernel
theorem dX9_layLays_136 : decode cX9_layLays 136 = .ok (.lload 4, 2) := by decide +kernel
theorem dX9_layLays_138 : decode cX9_layLays 138 = .ok (.lastore, 1) := by decide +kernel
theorem dX9_layLays_139 : decode cX9_layLays 139 = .ok (.iinc 3 1, 3) := by decide +kernel
theorem dX9_layLays_142 : decode cX9_layLays 142 = .ok (.goto (-123), 3) := by decide +kernel
theorem dX9_layLays_145 : decode cX9_layLays 145 = .ok (.iinc 2 1, 3) := by decide +kernel
theorem dX9_layLays_148 : decode cX9_layLays 148 = .ok (.goto (-137), 3) := by decide +kernel
theorem dX9_layLays_151 : decode cX9_layLays 151 = .ok (.iinc 1 (-1), 3) := by decide +kernel
theorem dX9_layLays_154 : decode cX9_layLays 154 = .ok (.goto (-149), 3) := by decide +kernel
theorem dX9_layLays_157 : decode cX9_layLays 157 = .ok (.return_, 1) := by decide +kernel
theorem dX9_laysFrom_0 : decode cX9_laysFrom 0 = .ok (.lconst 0, 1) := by decide +kernel
theorem dX9_laysFrom_1 : decode cX9_laysFrom 1 = .ok (.lstore 4, 2) := by decide +kernel
theorem dX9_laysFrom_3 : decode cX9_laysFrom 3 = .ok (.iload_n 3, 1) := by decide +kernel
theorem dX9_laysFrom_4 : decode cX9_laysFrom 4 = .ok (.ifCond .ge 7, 3) := by decide +kernel
theorem dX9_laysFrom_7 : decode cX9_laysFrom 7 = .ok (.iconst 0, 1) := by decide +kernel
theorem dX9_laysFrom_8 : decode cX9_laysFrom 8 = .ok (.goto 4, 3) := by decide +kernel
theorem dX9_laysFrom_11 : decode cX9_laysFrom 11 = .ok (.iload_n 3, 1) := by decide +kernel
theorem dX9_laysFrom_12 : decode cX9_laysFrom 12 = .ok (.istore 6, 2) := by decide +kernel
theorem dX9_laysFrom_14 : decode cX9_laysFrom 14 = .ok (.iload 6, 2) := by decide +kernel
theorem dX9_laysFrom_16 : decode cX9_laysFrom 16 = .ok (.bipush 9, 2) := by decide +kernel
theorem dX9_laysFrom_18 : decode cX9_laysFrom 18 = .ok (.if_icmp .ge 26, 3) := by decide +kernel
theorem dX9_laysFrom_21 : decode cX9_laysFrom 21 = .ok (.lload 4, 2) := by decide +kernel
theorem dX9_laysFrom_23 : decode cX9_laysFrom 23 = .ok (.aload_n 0, 1) := by decide +kernel
theorem dX9_laysFrom_24 : decode cX9_laysFrom 24 = .ok (.getfield 76, 3) := by decide +kernel
theorem dX9_laysFrom_27 : decode cX9_laysFrom 27 = .ok (.iload_n 1, 1) := by decide +kernel
theorem dX9_laysFrom_28 : decode cX9_laysFrom 28 = .ok (.iload_n 2, 1) := by decide +kernel
theorem dX9_laysFrom_29 : decode cX9_laysFrom 29 = .ok (.iload 6, 2) := by decide +kernel
theorem dX9_laysFrom_31 : decode cX9_laysFrom 31 = .ok (.invokestatic 262, 3) := by decide +kernel
theorem dX9_laysFrom_34 : decode cX9_laysFrom 34 = .ok (.laload, 1) := by decide +kernel
theorem dX9_laysFrom_35 : decode cX9_laysFrom 35 = .ok (.ladd, 1) := by decide +kernel
theorem dX9_laysFrom_36 : decode cX9_laysFrom 36 = .ok (.lstore 4, 2) := by decide +kernel
theorem dX9_laysFrom_38 : decode cX9_laysFrom 38 = .ok (.iinc 6 1, 3) := by decide +kernel
theorem dX9_laysFrom_41 : decode cX9_laysFrom 41 = .ok (.goto (-27), 3) := by decide +kernel
theorem dX9_laysFrom_44 : decode cX9_laysFrom 44 = .ok (.lload 4, 2) := by decide +kernel
theorem dX9_laysFrom_46 : decode cX9_laysFrom 46 = .ok (.lreturn, 1) := by decide +kernel
theorem dX9_just_0 : decode cX9_just 0 = .ok (.aload_n 0, 1) := by decide +kernel
theorem dX9_just_1 : decode cX9_just 1 = .ok (.invokevirtual 151, 3) := by decide +kernel
theorem dX9_just_4 : decode cX9_just 4 = .ok (.aload_n 0, 1) := by decide +kernel
theorem dX9_just_5 : decode cX9_just 5 = .ok (.invokevirtual 184, 3) := by decide +kernel
theorem dX9_just_8 : decode cX9_just 8 = .ok (.iload_n 1, 1) := by decide +kernel
theorem dX9_just_9 : decode cX9_just 9 = .ok (.iconst (-1), 1) := by decide +kernel
theorem dX9_just_10 : decode cX9_just 10 = .ok (.if_icmp .eq 23, 3) := by decide +kernel
theorem dX9_just_13 : decode cX9_just 13 = .ok (.aload_n 0, 1) := by decide +kernel
theorem dX9_just_14 : decode cX9_just 14 = .ok (.iload_n 1, 1) := by decide +kernel
theorem dX9_just_15 : decode cX9_just 15 = .ok (.invokevirtual 181, 3) := by decide +kernel
theorem dX9_just_18 : decode cX9_just 18 = .ok (.ifCond .eq 11, 3) := by decide +kernel
theorem dX9_just_21 : decode cX9_just 21 = .ok (.aload_n 0, 1) := by decide +kernel
theorem dX9_just_22 : decode cX9_just 22 = .ok (.iload_n 1, 1) := by decide +kernel
theorem dX9_just_23 : decode cX9_just 23 = .ok (.invokevirtual 256, 3) := by decide +kernel
theorem dX9_just_26 : decode cX9_just 26 = .ok (.ifCond .ne 7, 3) := by decide +kernel
theorem dX9_just_29 : decode cX9_just 29 = .ok (.ldc2_w 231, 3) := by decide +kernel
theorem dX9_just_32 : decode cX9_just 32 = .ok (.lreturn, 1) := by decide +kernel
theorem dX9_just_33 : decode cX9_just 33 = .ok (.aload_n 0, 1) := by decide +kernel
theorem dX9_just_34 : decode cX9_just 34 = .ok (.invokevirtual 266, 3) := by decide +kernel
theorem dX9_just_37 : decode cX9_just 37 = .ok (.aload_n 0, 1) := by decide +kernel
theorem dX9_just_38 : decode cX9_just 38 = .ok (.iconst 0, 1) := by decide +kernel
theorem dX9_just_39 : decode cX9_just 39 = .ok (.aload_n 0, 1) := by decide +kernel
theorem dX9_just_40 : decode cX9_just 40 = .ok (.getfield 154, 3) := by decide +kernel
theorem dX9_just_43 : decode cX9_just 43 = .ok (.aload_n 0, 1) := by decide +kernel
theorem dX9_just_44 : decode cX9_just 44 = .ok (.getfield 13, 3) := by decide +kernel
theorem dX9_just_47 : decode cX9_just 47 = .ok (.iconst 1, 1) := by decide +kernel
theorem dX9_just_48 : decode cX9_just 48 = .ok (.iaload, 1) := by decide +kernel
theorem dX9_just_49 : decode cX9_just 49 = .ok (.invokevirtual 269, 3) := by decide +kernel
theorem dX9_just_52 : decode cX9_just 52 = .ok (.lstore_n 2, 1) := by decide +kernel
theorem dX9_just_53 : decode cX9_just 53 = .ok (.iload_n 1, 1) := by decide +kernel
theorem dX9_just_54 : decode cX9_just 54 = .ok (.ifCond .lt 9, 3) := by decide +kernel
theorem dX9_just_57 : decode cX9_just 57 = .ok (.lload_n 2, 1) := by decide +kernel
theorem dX9_just_58 : decode cX9_just 58 = .ok (.lconst 0, 1) := by decide +kernel
theorem dX9_just_59 : decode cX9_just 59 = .ok (.lcmp, 1) := by decide +kernel
theorem dX9_just_60 : decode cX9_just 60 = .ok (.ifCond .ne 15, 3) := by decide +kernel
theorem dX9_just_63 : decode cX9_just 63 = .ok (.iload_n 1, 1) := by decide +kernel
theorem dX9_just_64 : decode cX9_just 64 = .ok (.ifCond .ge 7, 3) := by decide +kernel
theorem dX9_just_67 : decode cX9_just 67 = .ok (.lload_n 2, 1) := by decide +kernel
theorem dX9_just_68 : decode cX9_just 68 = .ok (.goto 6, 3) := by decide +kernel
theorem dX9_just_71 : decode cX9_just 71 = .ok (.ldc2_w 246, 3) := by decide +kernel
theorem dX9_just_74 : decode cX9_just 74 = .ok (.lreturn, 1) := by decide +kernel
theorem dX9_just_75 : decode cX9_just 75 = .ok (.aload_n 0, 1) := by decide +kernel
theorem dX9_just_76 : decode cX9_just 76 = .ok (.getfield 154, 3) := by decide +kernel
theorem dX9_just_79 : decode cX9_just 79 = .ok (.istore 4, 2) := by decide +kernel
theorem dX9_just_81 : decode cX9_just 81 = .ok (.aload_n 0, 1) := by decide +kernel
theorem dX9_just_82 : decode cX9_just 82 = .ok (.getfield 13, 3) := by decide +kernel
theorem dX9_just_85 : decode cX9_just 85 = .ok (.iconst 1, 1) := by decide +kernel
theorem dX9_just_86 : decode cX9_just 86 = .ok (.iaload, 1) := by decide +kernel
theorem dX9_just_87 : decode cX9_just 87 = .ok (.istore 5, 2) := by decide +kernel
theorem dX9_just_89 : decode cX9_just 89 = .ok (.iconst 0, 1) := by decide +kernel
theorem dX9_just_90 : decode cX9_just 90 = .ok (.istore 6, 2) := by decide +kernel
theorem dX9_just_92 : decode cX9_just 92 = .ok (.iconst 0, 1) := by decide +kernel
theorem dX9_just_93 : decode cX9_just 93 = .ok (.istore 7, 2) := by decide +kernel
theorem dX9_just_95 : decode cX9_just 95 = .ok (.iload 7, 2) := by decide +kernel
theorem dX9_just_97 : decode cX9_just 97 = .ok (.iload_n 1, 1) := by decide +kernel
theorem dX9_just_98 : decode cX9_just 98 = .ok (.if_icmp .gt 71, 3) := by decide +kernel
theorem dX9_just_101 : decode cX9_just 101 = .ok (.iconst 0, 1) := by decide +kernel
theorem dX9_just_102 : decode cX9_just 102 = .ok (.istore 6, 2) := by decide +kernel
theorem dX9_just_104 : decode cX9_just 104 = .ok (.aload_n 0, 1) := by decide +kernel
theorem dX9_just_105 : decode cX9_just 105 = .ok (.iload 7, 2) := by decide +kernel
theorem dX9_just_107 : decode cX9_just 107 = .ok (.iconst 1, 1) := by decide +kernel
theorem dX9_just_108 : decode cX9_just 108 = .ok (.iadd, 1) := by decide +kernel
theorem dX9_just_109 : decode cX9_just 109 = .ok (.iload 4, 2) := by decide +kernel
theorem dX9_just_111 : decode cX9_just 111 = .ok (.iload 6, 2) := by decide +kernel
theorem dX9_just_113 : decode cX9_just 113 = .ok (.isub, 1) := by decide +kernel
theorem dX9_just_114 : decode cX9_just 114 = .ok (.iload 5, 2) := by decide +kernel
theorem dX9_just_116 : decode cX9_just 116 = .ok (.iload 6, 2) := by decide +kernel
theorem dX9_just_118 : decode cX9_just 118 = .ok (.ifCond .le 7, 3) := by decide +kernel
theorem dX9_just_121 : decode cX9_just 121 = .ok (.iconst 1, 1) := by decide +kernel
theorem dX9_just_122 : decode cX9_just 122 = .ok (.goto 4, 3) := by decide +kernel
theorem dX9_just_125 : decode cX9_just 125 = .ok (.iconst 0, 1) := by decide +kernel
theorem dX9_just_126 : decode cX9_just 126 = .ok (.isub, 1) := by decide +kernel
theorem dX9_just_127 : decode cX9_just 127 = .ok (.invokevirtual 269, 3) := by decide +kernel
theorem dX9_just_130 : decode cX9_just 130 = .ok (.lconst 0, 1) := by decide +kernel
theorem dX9_just_131 : decode cX9_just 131 = .ok (.lcmp, 1) := by decide +kernel
theorem dX9_just_132 : decode cX9_just 132 = .ok (.ifCond .ne 9, 3) := by decide +kernel
theorem dX9_just_135 : decode cX9_just 135 = .ok (.iinc 6 1, 3) := by decide +kernel
theorem dX9_just_138 : decode cX9_just 138 = .ok (.goto (-34), 3) := by decide +kernel
theorem dX9_just_141 : decode cX9_just 141 = .ok (.iload 4, 2) := by decide +kernel
theorem dX9_just_143 : decode cX9_just 143 = .ok (.iload 6, 2) := by decide +kernel
theorem dX9_just_145 : decode cX9_just 145 = .ok (.isub, 1) := by decide +kernel
theorem dX9_just_146 : decode cX9_just 146 = .ok (.istore 4, 2) := by decide +kernel
theorem dX9_just_148 : decode cX9_just 148 = .ok (.iload 5, 2) := by decide +kernel
theorem dX9_just_150 : decode cX9_just 150 = .ok (.iload 6, 2) := by decide +kernel
theorem dX9_just_152 : decode cX9_just 152 = .ok (.ifCond .le 7, 3) := by decide +kernel
theorem dX9_just_155 : decode cX9_just 155 = .ok (.iconst 1, 1) := by decide +kernel
theorem dX9_just_156 : decode cX9_just 156 = .ok (.goto 4, 3) := by decide +kernel
theorem dX9_just_159 : decode cX9_just 159 = .ok (.iconst 0, 1) := by decide +kernel
theorem dX9_just_160 : decode cX9_just 160 = .ok (.isub, 1) := by decide +kernel
theorem dX9_just_161 : decode cX9_just 161 = .ok (.istore 5, 2) := by decide +kernel
theorem dX9_just_163 : decode cX9_just 163 = .ok (.iinc 7 1, 3) := by decide +kernel
theorem dX9_just_166 : decode cX9_just 166 = .ok (.goto (-71), 3) := by decide +kernel
theorem dX9_just_169 : decode cX9_just 169 = .ok (.iload 6, 2) := by decide +kernel
theorem dX9_just_171 : decode cX9_just 171 = .ok (.i2l, 1) := by decide +kernel
theorem dX9_just_172 : decode cX9_just 172 = .ok (.lreturn, 1) := by decide +kernel
theorem dX9_isRest_0 : decode cX9_isRest 0 = .ok (.iload_n 2, 1) := by decide +kernel
theorem dX9_isRest_1 : decode cX9_isRest 1 = .ok (.ifCond .le 12, 3) := by decide +kernel
theorem dX9_isRest_4 : decode cX9_isRest 4 = .ok (.aload_n 0, 1) := by decide +kernel
theorem dX9_isRest_5 : decode cX9_isRest 5 = .ok (.getfield 13, 3) := by decide +kernel
theorem dX9_isRest_8 : decode cX9_isRest 8 = .ok (.iconst 4, 1) := by decide +kernel
theorem dX9_isRest_9 : decode cX9_isRest 9 = .ok (.iaload, 1) := by decide +kernel
theorem dX9_isRest_10 : decode cX9_isRest 10 = .ok (.goto 4, 3) := by decide +kernel
theorem dX9_isRest_13 : decode cX9_isRest 13 = .ok (.iconst 0, 1) := by decide +kernel
theorem dX9_isRest_14 : decode cX9_isRest 14 = .ok (.istore 5, 2) := by decide +kernel
theorem dX9_isRest_16 : decode cX9_isRest 16 = .ok (.iconst 0, 1) := by decide +kernel
theorem dX9_isRest_17 : decode cX9_isRest 17 = .ok (.istore 6, 2) := by decide +kernel
theorem dX9_isRest_19 : decode cX9_isRest 19 = .ok (.iload 6, 2) := by decide +kernel
theorem dX9_isRest_21 : decode cX9_isRest 21 = .ok (.aload_n 0, 1) := by decide +kernel
theorem dX9_isRest_22 : decode cX9_isRest 22 = .ok (.iload_n 1, 1) := by decide +kernel
theorem dX9_isRest_23 : decode cX9_isRest 23 = .ok (.invokevirtual 259, 3) := by decide +kernel
theorem dX9_isRest_26 : decode cX9_isRest 26 = .ok (.if_icmp .gt 105, 3) := by decide +kernel
theorem dX9_isRest_29 : decode cX9_isRest 29 = .ok (.iload_n 3, 1) := by decide +kernel
theorem dX9_isRest_30 : decode cX9_isRest 30 = .ok (.iload_n 2, 1) := by decide +kernel
theorem dX9_isRest_31 : decode cX9_isRest 31 = .ok (.isub, 1) := by decide +kernel
theorem dX9_isRest_32 : decode cX9_isRest 32 = .ok (.iload 6, 2) := by decide +kernel
theorem dX9_isRest_34 : decode cX9_isRest 34 = .ok (.iadd, 1) := by decide +kernel
theorem dX9_isRest_35 : decode cX9_isRest 35 = .ok (.istore 7, 2) := by decide +kernel
theorem dX9_isRest_37 : decode cX9_isRest 37 = .ok (.iload 4, 2) := by decide +kernel
theorem dX9_isRest_39 : decode cX9_isRest 39 = .ok (.iload_n 2, 1) := by decide +kernel
theorem dX9_isRest_40 : decode cX9_isRest 40 = .ok (.ifCond .le 7, 3) := by decide +kernel
theorem dX9_isRest_43 : decode cX9_isRest 43 = .ok (.iconst 1, 1) := by decide +kernel
theorem dX9_isRest_44 : decode cX9_isRest 44 = .ok (.goto 4, 3) := by decide +kernel
theorem dX9_isRest_47 : decode cX9_isRest 47 = .ok (.iconst 0, 1) := by decide +kernel
theorem dX9_isRest_48 : decode cX9_isRest 48 = .ok (.isub, 1) := by decide +kernel
theorem dX9_isRest_49 : decode cX9_isRest 49 = .ok (.iload 6, 2) := by decide +kernel
theorem dX9_isRest_51 : decode cX9_isRest 51 = .ok (.ifCond .le 7, 3) := by decide +kernel
theorem dX9_isRest_54 : decode cX9_isRest 54 = .ok (.iconst 1, 1) := by decide +kernel
theorem dX9_isRest_55 : decode cX9_isRest 55 = .ok (.goto 4, 3) := by decide +kernel
theorem dX9_isRest_58 : decode cX9_isRest 58 = .ok (.iconst 0, 1) := by decide +kernel
theorem dX9_isRest_59 : decode cX9_isRest 59 = .ok (.iadd, 1) := by decide +kernel
theorem dX9_isRest_60 : decode cX9_isRest 60 = .ok (.istore 8, 2) := by decide +kernel
theorem dX9_isRest_62 : decode cX9_isRest 62 = .ok (.iload 7, 2) := by decide +kernel
theorem dX9_isRest_64 : decode cX9_isRest 64 = .ok (.aload_n 0, 1) := by decide +kernel
theorem dX9_isRest_65 : decode cX9_isRest 65 = .ok (.getfield 154, 3) := by decide +kernel
theorem dX9_isRest_68 : decode cX9_isRest 68 = .ok (.if_icmp .lt 25, 3) := by decide +kernel
theorem dX9_isRest_71 : decode cX9_isRest 71 = .ok (.iload 8, 2) := by decide +kernel
theorem dX9_isRest_73 : decode cX9_isRest 73 = .ok (.aload_n 0, 1) := by decide +kernel
theorem dX9_isRest_74 : decode cX9_isRest 74 = .ok (.getfield 13, 3) := by decide +kernel
theorem dX9_isRest_77 : decode cX9_isRest 77 = .ok (.iconst 1, 1) := by decide +kernel
theorem dX9_isRest_78 : decode cX9_isRest 78 = .ok (.iaload, 1) := by decide +kernel
theorem dX9_isRest_79 : decode cX9_isRest 79 = .ok (.if_icmp .lt 14, 3) := by decide +kernel
theorem dX9_isRest_82 : decode cX9_isRest 82 = .ok (.aload_n 0, 1) := by decide +kernel
theorem dX9_isRest_83 : decode cX9_isRest 83 = .ok (.iload_n 1, 1) := by decide +kernel
theorem dX9_isRest_84 : decode cX9_isRest 84 = .ok (.invokevirtual 253, 3) := by decide +kernel
theorem dX9_isRest_87 : decode cX9_isRest 87 = .ok (.iload 6, 2) := by decide +kernel
theorem dX9_isRest_89 : decode cX9_isRest 89 = .ok (.isub, 1) := by decide +kernel
theorem dX9_isRest_90 : decode cX9_isRest 90 = .ok (.goto 18, 3) := by decide +kernel
theorem dX9_isRest_93 : decode cX9_isRest 93 = .ok (.iload 6, 2) := by decide +kernel
theorem dX9_isRest_95 : decode cX9_isRest 95 = .ok (.ifCond .le 12, 3) := by decide +kernel
theorem dX9_isRest_98 : decode cX9_isRest 98 = .ok (.aload_n 0, 1) := by decide +kernel
theorem dX9_isRest_99 : decode cX9_isRest 99 = .ok (.getfield 13, 3) := by decide +kernel
theorem dX9_isRest_102 : decode cX9_isRest 102 = .ok (.iconst 4, 1) := by decide +kernel
theorem dX9_isRest_103 : decode cX9_isRest 103 = .ok (.iaload, 1) := by decide +kernel
theorem dX9_isRest_104 : decode cX9_isRest 104 = .ok (.goto 4, 3) := by decide +kernel
theorem dX9_isRest_107 : decode cX9_isRest 107 = .ok (.iconst 0, 1) := by decide +kernel
theorem dX9_isRest_108 : decode cX9_isRest 108 = .ok (.istore 9, 2) := by decide +kernel
theorem dX9_isRest_110 : decode cX9_isRest 110 = .ok (.iload 6, 2) := by decide +kernel
theorem dX9_isRest_112 : decode cX9_isRest 112 = .ok (.iload_n 2, 1) := by decide +kernel
theorem dX9_isRest_113 : decode cX9_isRest 113 = .ok (.if_icmp .eq 12, 3) := by decide +kernel
theorem dX9_isRest_116 : decode cX9_isRest 116 = .ok (.iload 9, 2) := by decide +kernel
theorem dX9_isRest_118 : decode cX9_isRest 118 = .ok (.iload 5, 2) := by decide +kernel
theorem dX9_isRest_120 : decode cX9_isRest 120 = .ok (.if_icmp .le 5, 3) := by decide +kernel
theorem dX9_isRest_123 : decode cX9_isRest 123 = .ok (.iconst 0, 1) := by decide +kernel
theorem dX9_isRest_124 : decode cX9_isRest 124 = .ok (.ireturn, 1) := by decide +kernel
theorem dX9_isRest_125 : decode cX9_isRest 125 = .ok (.iinc 6 1, 3) := by decide +kernel
theorem dX9_isRest_128 : decode cX9_isRest 128 = .ok (.goto (-109), 3) := by decide +kernel
theorem dX9_isRest_131 : decode cX9_isRest 131 = .ok (.iconst 1, 1) := by decide +kernel
theorem dX9_isRest_132 : decode cX9_isRest 132 = .ok (.ireturn, 1) := by decide +kernel
theorem dX9_restsOf_0 : decode cX9_restsOf 0 = .ok (.iconst 0, 1) := by decide +kernel
theorem dX9_restsOf_1 : decode cX9_restsOf 1 = .ok (.istore_n 3, 1) := by decide +kernel
theorem dX9_restsOf_2 : decode cX9_restsOf 2 = .ok (.iload_n 3, 1) := by decide +kernel
theorem dX9_restsOf_3 : decode cX9_restsOf 3 = .ok (.sipush 900, 3) := by decide +kernel
theorem dX9_restsOf_6 : decode cX9_restsOf 6 = .ok (.if_icmp .ge 24, 3) := by decide +kernel
theorem dX9_restsOf_9 : decode cX9_restsOf 9 = .ok (.aload_n 0, 1) := by decide +kernel
theorem dX9_restsOf_10 : decode cX9_restsOf 10 = .ok (.getfield 80, 3) := by decide +kernel
theorem dX9_restsOf_13 : decode cX9_restsOf 13 = .ok (.iload_n 3, 1) := by decide +kernel
theorem dX9_restsOf_14 : decode cX9_restsOf 14 = .ok (.iload_n 3, 1) := by decide +kernel
theorem dX9_restsOf_15 : decode cX9_restsOf 15 = .ok (.ifCond .ne 7, 3) := by decide +kernel
theorem dX9_restsOf_18 : decode cX9_restsOf 18 = .ok (.lconst 1, 1) := by decide +kernel
theorem dX9_restsOf_19 : decode cX9_restsOf 19 = .ok (.goto 4, 3) := by decide +kernel
theorem dX9_restsOf_22 : decode cX9_restsOf 22 = .ok (.lconst 0, 1) := by decide +kernel
theorem dX9_restsOf_23 : decode cX9_restsOf 23 = .ok (.lastore, 1) := by decide +kernel
theorem dX9_restsOf_24 : decode cX9_restsOf 24 = .ok (.iinc 3 1, 3) := by decide +kernel
theorem dX9_restsOf_27 : decode cX9_restsOf 27 = .ok (.goto (-25), 3) := by decide +kernel
theorem dX9_restsOf_30 : decode cX9_restsOf 30 = .ok (.iconst 0, 1) := by decide +kernel
theorem dX9_restsOf_31 : decode cX9_restsOf 31 = .ok (.istore_n 3, 1) := by decide +kernel
theorem dX9_restsOf_32 : decode cX9_restsOf 32 = .ok (.iload_n 3, 1) := by decide +kernel
theorem dX9_restsOf_33 : decode cX9_restsOf 33 = .ok (.aload_n 0, 1) := by decide +kernel
theorem dX9_restsOf_34 : decode cX9_restsOf 34 = .ok (.getfield 148, 3) := by decide +kernel
theorem dX9_restsOf_37 : decode cX9_restsOf 37 = .ok (.if_icmp .ge 205, 3) := by decide +kernel
theorem dX9_restsOf_40 : decode cX9_restsOf 40 = .ok (.iconst 0, 1) := by decide +kernel
theorem dX9_restsOf_41 : decode cX9_restsOf 41 = .ok (.istore 4, 2) := by decide +kernel
theorem dX9_restsOf_43 : decode cX9_restsOf 43 = .ok (.iload 4, 2) := by decide +kernel
theorem dX9_restsOf_45 : decode cX9_restsOf 45 = .ok (.sipush 900, 3) := by decide +kernel
theorem dX9_restsOf_48 : decode cX9_restsOf 48 = .ok (.if_icmp .ge 17, 3) := by decide +kernel
theorem dX9_restsOf_51 : decode cX9_restsOf 51 = .ok (.aload_n 0, 1) := by decide +kernel
theorem dX9_restsOf_52 : decode cX9_restsOf 52 = .ok (.getfield 83, 3) := by decide +kernel
theorem dX9_restsOf_55 : decode cX9_restsOf 55 = .ok (.iload 4, 2) := by decide +kernel
theorem dX9_restsOf_57 : decode cX9_restsOf 57 = .ok (.lconst 0, 1) := by decide +kernel
theorem dX9_restsOf_58 : decode cX9_restsOf 58 = .ok (.lastore, 1) := by decide +kernel
theorem dX9_restsOf_59 : decode cX9_restsOf 59 = .ok (.iinc 4 1, 3) := by decide +kernel
theorem dX9_restsOf_62 : decode cX9_restsOf 62 = .ok (.goto (-19), 3) := by decide +kernel
theorem dX9_restsOf_65 : decode cX9_restsOf 65 = .ok (.iconst 0, 1) := by decide +kernel
theorem dX9_restsOf_66 : decode cX9_restsOf 66 = .ok (.istore 4, 2) := by decide +kernel
theorem dX9_restsOf_68 : decode cX9_restsOf 68 = .ok (.iload 4, 2) := by decide +kernel
theorem dX9_restsOf_70 : decode cX9_restsOf 70 = .ok (.aload_n 0, 1) := by decide +kernel
theorem dX9_restsOf_71 : decode cX9_restsOf 71 = .ok (.iload_n 3, 1) := by decide +kernel
theorem dX9_restsOf_72 : decode cX9_restsOf 72 = .ok (.invokevirtual 259, 3) := by decide +kernel
theorem dX9_restsOf_75 : decode cX9_restsOf 75 = .ok (.if_icmp .gt 130, 3) := by decide +kernel
theorem dX9_restsOf_78 : decode cX9_restsOf 78 = .ok (.iload 4, 2) := by decide +kernel
theorem dX9_restsOf_80 : decode cX9_restsOf 80 = .ok (.iload_n 1, 1) := by decide +kernel
theorem dX9_restsOf_81 : decode cX9_restsOf 81 = .ok (.if_icmp .gt 124, 3) := by decide +kernel
theorem dX9_restsOf_84 : decode cX9_restsOf 84 = .ok (.aload_n 0, 1) := by decide +kernel
theorem dX9_restsOf_85 : decode cX9_restsOf 85 = .ok (.iload_n 3, 1) := by decide +kernel
theorem dX9_restsOf_86 : decode cX9_restsOf 86 = .ok (.invokevirtual 256, 3) := by decide +kernel
theorem dX9_restsOf_89 : decode cX9_restsOf 89 = .ok (.ifCond .eq 15, 3) := by decide +kernel
theorem dX9_restsOf_92 : decode cX9_restsOf 92 = .ok (.aload_n 0, 1) := by decide +kernel
theorem dX9_restsOf_93 : decode cX9_restsOf 93 = .ok (.iload_n 3, 1) := by decide +kernel
theorem dX9_restsOf_94 : decode cX9_restsOf 94 = .ok (.iload 4, 2) := by decide +kernel
theorem dX9_restsOf_96 : decode cX9_restsOf 96 = .ok (.iload_n 1, 1) := by decide +kernel
theorem dX9_restsOf_97 : decode cX9_restsOf 97 = .ok (.iload_n 2, 1) := by decide +kernel
theorem dX9_restsOf_98 : decode cX9_restsOf 98 = .ok (.invokevirtual 273, 3) := by decide +kernel
theorem dX9_restsOf_101 : decode cX9_restsOf 101 = .ok (.ifCond .eq 7, 3) := by decide +kernel
theorem dX9_restsOf_104 : decode cX9_restsOf 104 = .ok (.iconst 1, 1) := by decide +kernel
theorem dX9_restsOf_105 : decode cX9_restsOf 105 = .ok (.goto 4, 3) := by decide +kernel
theorem dX9_restsOf_108 : decode cX9_restsOf 108 = .ok (.iconst 0, 1) := by decide +kernel
theorem dX9_restsOf_109 : decode cX9_restsOf 109 = .ok (.istore 5, 2) := by decide +kernel
theorem dX9_restsOf_111 : decode cX9_restsOf 111 = .ok (.iload 4, 2) := by decide +kernel
theorem dX9_restsOf_113 : decode cX9_restsOf 113 = .ok (.ifCond .le 7, 3) := by decide +kernel
theorem dX9_restsOf_116 : decode cX9_restsOf 116 = .ok (.iconst 1, 1) := by decide +kernel
theorem dX9_restsOf_117 : decode cX9_restsOf 117 = .ok (.goto 4, 3) := by decide +kernel
theorem dX9_restsOf_120 : decode cX9_restsOf 120 = .ok (.iconst 0, 1) := by decide +kernel
theorem dX9_restsOf_121 : decode cX9_restsOf 121 = .ok (.istore 6, 2) := by decide +kernel
theorem dX9_restsOf_123 : decode cX9_restsOf 123 = .ok (.iconst 0, 1) := by decide +kernel
theorem dX9_restsOf_124 : decode cX9_restsOf 124 = .ok (.istore 7, 2) := by decide +kernel
theorem dX9_restsOf_126 : decode cX9_restsOf 126 = .ok (.iload 7, 2) := by decide +kernel
theorem dX9_restsOf_128 : decode cX9_restsOf 128 = .ok (.iload 4, 2) := by decide +kernel
theorem dX9_restsOf_130 : decode cX9_restsOf 130 = .ok (.iadd, 1) := by decide +kernel
theorem dX9_restsOf_131 : decode cX9_restsOf 131 = .ok (.iload_n 1, 1) := by decide +kernel
theorem dX9_restsOf_132 : decode cX9_restsOf 132 = .ok (.if_icmp .gt 67, 3) := by decide +kernel
theorem dX9_restsOf_135 : decode cX9_restsOf 135 = .ok (.iload 5, 2) := by decide +kernel
theorem dX9_restsOf_137 : decode cX9_restsOf 137 = .ok (.ifCond .eq 62, 3) := by decide +kernel
theorem dX9_restsOf_140 : decode cX9_restsOf 140 = .ok (.iconst 0, 1) := by decide +kernel
theorem dX9_restsOf_141 : decode cX9_restsOf 141 = .ok (.istore 8, 2) := by decide +kernel
theorem dX9_restsOf_143 : decode cX9_restsOf 143 = .ok (.iload 8, 2) := by decide +kernel
theorem dX9_restsOf_145 : decode cX9_restsOf 145 = .ok (.iload 6, 2) := by decide +kernel
theorem dX9_restsOf_147 : decode cX9_restsOf 147 = .ok (.iadd, 1) := by decide +kernel
theorem dX9_restsOf_148 : decode cX9_restsOf 148 = .ok (.iload_n 2, 1) := by decide +kernel
theorem dX9_restsOf_149 : decode cX9_restsOf 149 = .ok (.if_icmp .gt 44, 3) := by decide +kernel
theorem dX9_restsOf_152 : decode cX9_restsOf 152 = .ok (.aload_n 0, 1) := by decide +kernel
theorem dX9_restsOf_153 : decode cX9_restsOf 153 = .ok (.getfield 83, 3) := by decide +kernel
theorem dX9_restsOf_156 : decode cX9_restsOf 156 = .ok (.bipush 9, 2) := by decide +kernel
theorem dX9_restsOf_158 : decode cX9_restsOf 158 = .ok (.iload 7, 2) := by decide +kernel
theorem dX9_restsOf_160 : decode cX9_restsOf 160 = .ok (.iload 4, 2) := by decide +kernel
theorem dX9_restsOf_162 : decode cX9_restsOf 162 = .ok (.iadd, 1) := by decide +kernel
theorem dX9_restsOf_163 : decode cX9_restsOf 163 = .ok (.imul, 1) := by decide +kernel
theorem dX9_restsOf_164 : decode cX9_restsOf 164 = .ok (.iload 8, 2) := by decide +kernel
theorem dX9_restsOf_166 : decode cX9_restsOf 166 = .ok (.iadd, 1) := by decide +kernel
theorem dX9_restsOf_167 : decode cX9_restsOf 167 = .ok (.iload 6, 2) := by decide +kernel
theorem dX9_restsOf_169 : decode cX9_restsOf 169 = .ok (.iadd, 1) := by decide +kernel
theorem dX9_restsOf_170 : decode cX9_restsOf 170 = .ok (.dup2, 1) := by decide +kernel
theorem dX9_restsOf_171 : decode cX9_restsOf 171 = .ok (.laload, 1) := by decide +kernel
theorem dX9_restsOf_172 : decode cX9_restsOf 172 = .ok (.aload_n 0, 1) := by decide +kernel
theorem dX9_restsOf_173 : decode cX9_restsOf 173 = .ok (.getfield 80, 3) := by decide +kernel
theorem dX9_restsOf_176 : decode cX9_restsOf 176 = .ok (.bipush 9, 2) := by decide +kernel
theorem dX9_restsOf_178 : decode cX9_restsOf 178 = .ok (.iload 7, 2) := by decide +kernel
theorem dX9_restsOf_180 : decode cX9_restsOf 180 = .ok (.imul, 1) := by decide +kernel
theorem dX9_restsOf_181 : decode cX9_restsOf 181 = .ok (.iload 8, 2) := by decide +kernel
theorem dX9_restsOf_183 : decode cX9_restsOf 183 = .ok (.iadd, 1) := by decide +kernel
theorem dX9_restsOf_184 : decode cX9_restsOf 184 = .ok (.laload, 1) := by decide +kernel
theorem dX9_restsOf_185 : decode cX9_restsOf 185 = .ok (.ladd, 1) := by decide +kernel
theorem dX9_restsOf_186 : decode cX9_restsOf 186 = .ok (.lastore, 1) := by decide +kernel
theorem dX9_restsOf_187 : decode cX9_restsOf 187 = .ok (.iinc 8 1, 3) := by decide +kernel
theorem dX9_restsOf_190 : decode cX9_restsOf 190 = .ok (.goto (-47), 3) := by decide +kernel
theorem dX9_restsOf_193 : decode cX9_restsOf 193 = .ok (.iinc 7 1, 3) := by decide +kernel
theorem dX9_restsOf_196 : decode cX9_restsOf 196 = .ok (.goto (-70), 3) := by decide +kernel
theorem dX9_restsOf_199 : decode cX9_restsOf 199 = .ok (.iinc 4 1, 3) := by decide +kernel
theorem dX9_restsOf_202 : decode cX9_restsOf 202 = .ok (.goto (-134), 3) := by decide +kernel
theorem dX9_restsOf_205 : decode cX9_restsOf 205 = .ok (.iconst 0, 1) := by decide +kernel
theorem dX9_restsOf_206 : decode cX9_restsOf 206 = .ok (.istore 4, 2) := by decide +kernel
theorem dX9_restsOf_208 : decode cX9_restsOf 208 = .ok (.iload 4, 2) := by decide +kernel
theorem dX9_restsOf_210 : decode cX9_restsOf 210 = .ok (.sipush 900, 3) := by decide +kernel
theorem dX9_restsOf_213 : decode cX9_restsOf 213 = .ok (.if_icmp .ge 23, 3) := by decide +kernel
theorem dX9_restsOf_216 : decode cX9_restsOf 216 = .ok (.aload_n 0, 1) := by decide +kernel
theorem dX9_restsOf_217 : decode cX9_restsOf 217 = .ok (.getfield 80, 3) := by decide +kernel
theorem dX9_restsOf_220 : decode cX9_restsOf 220 = .ok (.iload 4, 2) := by decide +kernel
theorem dX9_restsOf_222 : decode cX9_restsOf 222 = .ok (.aload_n 0, 1) := by decide +kernel
theorem dX9_restsOf_223 : decode cX9_restsOf 223 = .ok (.getfield 83, 3) := by decide +kernel
theorem dX9_restsOf_226 : decode cX9_restsOf 226 = .ok (.iload 4, 2) := by decide +kernel
theorem dX9_restsOf_228 : decode cX9_restsOf 228 = .ok (.laload, 1) := by decide +kernel
theorem dX9_restsOf_229 : decode cX9_restsOf 229 = .ok (.lastore, 1) := by decide +kernel
theorem dX9_restsOf_230 : decode cX9_restsOf 230 = .ok (.iinc 4 1, 3) := by decide +kernel
theorem dX9_restsOf_233 : decode cX9_restsOf 233 = .ok (.goto (-25), 3) := by decide +kernel
theorem dX9_restsOf_236 : decode cX9_restsOf 236 = .ok (.iinc 3 1, 3) := by decide +kernel
theorem dX9_restsOf_239 : decode cX9_restsOf 239 = .ok (.goto (-207), 3) := by decide +kernel
theorem dX9_restsOf_242 : decode cX9_restsOf 242 = .ok (.aload_n 0, 1) := by decide +kernel
theorem dX9_restsOf_243 : decode cX9_restsOf 243 = .ok (.getfield 80, 3) := by decide +kernel
theorem dX9_restsOf_246 : decode cX9_restsOf 246 = .ok (.bipush 9, 2) := by decide +kernel
theorem dX9_restsOf_248 : decode cX9_restsOf 248 = .ok (.iload_n 1, 1) := by decide +kernel
theorem dX9_restsOf_249 : decode cX9_restsOf 249 = .ok (.imul, 1) := by decide +kernel
theorem dX9_restsOf_250 : decode cX9_restsOf 250 = .ok (.iload_n 2, 1) := by decide +kernel
theorem dX9_restsOf_251 : decode cX9_restsOf 251 = .ok (.iadd, 1) := by decide +kernel
theorem dX9_restsOf_252 : decode cX9_restsOf 252 = .ok (.laload, 1) := by decide +kernel
theorem dX9_restsOf_253 : decode cX9_restsOf 253 = .ok (.lreturn, 1) := by decide +kernel
theorem dX9_fails_0 : decode cX9_fails 0 = .ok (.aload_n 0, 1) := by decide +kernel
theorem dX9_fails_1 : decode cX9_fails 1 = .ok (.invokevirtual 151, 3) := by decide +kernel
theorem dX9_fails_4 : decode cX9_fails 4 = .ok (.aload_n 0, 1) := by decide +kernel
theorem dX9_fails_5 : decode cX9_fails 5 = .ok (.invokevirtual 184, 3) := by decide +kernel
theorem dX9_fails_8 : decode cX9_fails 8 = .ok (.lconst 0, 1) := by decide +kernel
theorem dX9_fails_9 : decode cX9_fails 9 = .ok (.lstore_n 1, 1) := by decide +kernel
theorem dX9_fails_10 : decode cX9_fails 10 = .ok (.iconst 0, 1) := by decide +kernel
theorem dX9_fails_11 : decode cX9_fails 11 = .ok (.istore_n 3, 1) := by decide +kernel
theorem dX9_fails_12 : decode cX9_fails 12 = .ok (.iload_n 3, 1) := by decide +kernel
theorem dX9_fails_13 : decode cX9_fails 13 = .ok (.aload_n 0, 1) := by decide +kernel
theorem dX9_fails_14 : decode cX9_fails 14 = .ok (.getfield 154, 3) := by decide +kernel
theorem dX9_fails_17 : decode cX9_fails 17 = .ok (.if_icmp .ge 37, 3) := by decide +kernel
theorem dX9_fails_20 : decode cX9_fails 20 = .ok (.iconst 0, 1) := by decide +kernel
theorem dX9_fails_21 : decode cX9_fails 21 = .ok (.istore 4, 2) := by decide +kernel
theorem dX9_fails_23 : decode cX9_fails 23 = .ok (.iload 4, 2) := by decide +kernel
theorem dX9_fails_25 : decode cX9_fails 25 = .ok (.aload_n 0, 1) := by decide +kernel
theorem dX9_fails_26 : decode cX9_fails 26 = .ok (.getfield 175, 3) := by decide +kernel
theorem dX9_fails_29 : decode cX9_fails 29 = .ok (.if_icmp .gt 19, 3) := by decide +kernel
theorem dX9_fails_32 : decode cX9_fails 32 = .ok (.lload_n 1, 1) := by decide +kernel
theorem dX9_fails_33 : decode cX9_fails 33 = .ok (.aload_n 0, 1) := by decide +kernel
theorem dX9_fails_34 : decode cX9_fails 34 = .ok (.iload_n 3, 1) := by decide +kernel
theorem dX9_fails_35 : decode cX9_fails 35 = .ok (.iload 4, 2) := by decide +kernel
theorem dX9_fails_37 : decode cX9_fails 37 = .ok (.invokevirtual 277, 3) := by decide +kernel
theorem dX9_fails_40 : decode cX9_fails 40 = .ok (.ladd, 1) := by decide +kernel
theorem dX9_fails_41 : decode cX9_fails 41 = .ok (.lstore_n 1, 1) := by decide +kernel
theorem dX9_fails_42 : decode cX9_fails 42 = .ok (.iinc 4 1, 3) := by decide +kernel
theorem dX9_fails_45 : decode cX9_fails 45 = .ok (.goto (-22), 3) := by decide +kernel
theorem dX9_fails_48 : decode cX9_fails 48 = .ok (.iinc 3 1, 3) := by decide +kernel
theorem dX9_fails_51 : decode cX9_fails 51 = .ok (.goto (-39), 3) := by decide +kernel
theorem dX9_fails_54 : decode cX9_fails 54 = .ok (.lload_n 1, 1) := by decide +kernel
theorem dX9_fails_55 : decode cX9_fails 55 = .ok (.lreturn, 1) := by decide +kernel
theorem dX9_bestBar_0 : decode cX9_bestBar 0 = .ok (.iload_n 1, 1) := by decide +kernel
theorem dX9_bestBar_1 : decode cX9_bestBar 1 = .ok (.i2l, 1) := by decide +kernel
theorem dX9_bestBar_2 : decode cX9_bestBar 2 = .ok (.lconst 0, 1) := by decide +kernel
theorem dX9_bestBar_3 : decode cX9_bestBar 3 = .ok (.lconst 1, 1) := by decide +kernel
theorem dX9_bestBar_4 : decode cX9_bestBar 4 = .ok (.invokestatic 95, 3) := by decide +kernel
theorem dX9_bestBar_7 : decode cX9_bestBar 7 = .ok (.ifCond .ne 7, 3) := by decide +kernel
theorem dX9_bestBar_10 : decode cX9_bestBar 10 = .ok (.ldc2_w 231, 3) := by decide +kernel
theorem dX9_bestBar_13 : decode cX9_bestBar 13 = .ok (.lreturn, 1) := by decide +kernel
theorem dX9_bestBar_14 : decode cX9_bestBar 14 = .ok (.aload_n 0, 1) := by decide +kernel
theorem dX9_bestBar_15 : decode cX9_bestBar 15 = .ok (.invokevirtual 151, 3) := by decide +kernel
theorem dX9_bestBar_18 : decode cX9_bestBar 18 = .ok (.iconst 0, 1) := by decide +kernel
theorem dX9_bestBar_19 : decode cX9_bestBar 19 = .ok (.istore_n 2, 1) := by decide +kernel
theorem dX9_bestBar_20 : decode cX9_bestBar 20 = .ok (.lconst 0, 1) := by decide +kernel
theorem dX9_bestBar_21 : decode cX9_bestBar 21 = .ok (.lstore_n 3, 1) := by decide +kernel
theorem dX9_bestBar_22 : decode cX9_bestBar 22 = .ok (.iconst 1, 1) := by decide +kernel
theorem dX9_bestBar_23 : decode cX9_bestBar 23 = .ok (.istore 5, 2) := by decide +kernel
theorem dX9_bestBar_25 : decode cX9_bestBar 25 = .ok (.iload 5, 2) := by decide +kernel
theorem dX9_bestBar_27 : decode cX9_bestBar 27 = .ok (.bipush 60, 2) := by decide +kernel
theorem dX9_bestBar_29 : decode cX9_bestBar 29 = .ok (.if_icmp .gt 39, 3) := by decide +kernel
theorem dX9_bestBar_32 : decode cX9_bestBar 32 = .ok (.aload_n 0, 1) := by decide +kernel
theorem dX9_bestBar_33 : decode cX9_bestBar 33 = .ok (.iload 5, 2) := by decide +kernel
theorem dX9_bestBar_35 : decode cX9_bestBar 35 = .ok (.putfield 154, 3) := by decide +kernel
theorem dX9_bestBar_38 : decode cX9_bestBar 38 = .ok (.aload_n 0, 1) := by decide +kernel
theorem dX9_bestBar_39 : decode cX9_bestBar 39 = .ok (.iconst 3, 1) := by decide +kernel
theorem dX9_bestBar_40 : decode cX9_bestBar 40 = .ok (.invokevirtual 233, 3) := by decide +kernel
theorem dX9_bestBar_43 : decode cX9_bestBar 43 = .ok (.lstore 6, 2) := by decide +kernel
theorem dX9_bestBar_45 : decode cX9_bestBar 45 = .ok (.iload_n 2, 1) := by decide +kernel
theorem dX9_bestBar_46 : decode cX9_bestBar 46 = .ok (.ifCond .eq 10, 3) := by decide +kernel
theorem dX9_bestBar_49 : decode cX9_bestBar 49 = .ok (.lload 6, 2) := by decide +kernel
theorem dX9_bestBar_51 : decode cX9_bestBar 51 = .ok (.lload_n 3, 1) := by decide +kernel
theorem dX9_bestBar_52 : decode cX9_bestBar 52 = .ok (.lcmp, 1) := by decide +kernel
theorem dX9_bestBar_53 : decode cX9_bestBar 53 = .ok (.ifCond .ge 9, 3) := by decide +kernel
theorem dX9_bestBar_56 : decode cX9_bestBar 56 = .ok (.iload 5, 2) := by decide +kernel
theorem dX9_bestBar_58 : decode cX9_bestBar 58 = .ok (.istore_n 2, 1) := by decide +kernel
theorem dX9_bestBar_59 : decode cX9_bestBar 59 = .ok (.lload 6, 2) := by decide +kernel
theorem dX9_bestBar_61 : decode cX9_bestBar 61 = .ok (.lstore_n 3, 1) := by decide +kernel
theorem dX9_bestBar_62 : decode cX9_bestBar 62 = .ok (.iinc 5 1, 3) := by decide +kernel
theorem dX9_bestBar_65 : decode cX9_bestBar 65 = .ok (.goto (-40), 3) := by decide +kernel
theorem dX9_bestBar_68 : decode cX9_bestBar 68 = .ok (.iload_n 1, 1) := by decide +kernel
theorem dX9_bestBar_69 : decode cX9_bestBar 69 = .ok (.ifCond .ne 8, 3) := by decide +kernel
theorem dX9_bestBar_72 : decode cX9_bestBar 72 = .ok (.iload_n 2, 1) := by decide +kernel
theorem dX9_bestBar_73 : decode cX9_bestBar 73 = .ok (.i2l, 1) := by decide +kernel
theorem dX9_bestBar_74 : decode cX9_bestBar 74 = .ok (.goto 4, 3) := by decide +kernel
theorem dX9_bestBar_77 : decode cX9_bestBar 77 = .ok (.lload_n 3, 1) := by decide +kernel
theorem dX9_bestBar_78 : decode cX9_bestBar 78 = .ok (.lreturn, 1) := by decide +kernel
theorem dX9_bestDay_0 : decode cX9_bestDay 0 = .ok (.aload_n 0, 1) := by decide +kernel
theorem dX9_bestDay_1 : decode cX9_bestDay 1 = .ok (.invokevirtual 151, 3) := by decide +kernel
theorem dX9_bestDay_4 : decode cX9_bestDay 4 = .ok (.bipush (-4), 2) := by decide +kernel
theorem dX9_bestDay_6 : decode cX9_bestDay 6 = .ok (.istore_n 1, 1) := by decide +kernel
theorem dX9_bestDay_7 : decode cX9_bestDay 7 = .ok (.lconst 0, 1) := by decide +kernel
theorem dX9_bestDay_8 : decode cX9_bestDay 8 = .ok (.lstore_n 2, 1) := by decide +kernel
theorem dX9_bestDay_9 : decode cX9_bestDay 9 = .ok (.lconst 1, 1) := by decide +kernel
theorem dX9_bestDay_10 : decode cX9_bestDay 10 = .ok (.lstore 4, 2) := by decide +kernel
theorem dX9_bestDay_12 : decode cX9_bestDay 12 = .ok (.iconst 0, 1) := by decide +kernel
theorem dX9_bestDay_13 : decode cX9_bestDay 13 = .ok (.istore 6, 2) := by decide +kernel
theorem dX9_bestDay_15 : decode cX9_bestDay 15 = .ok (.iload 6, 2) := by decide +kernel
theorem dX9_bestDay_17 : decode cX9_bestDay 17 = .ok (.bipush 30, 2) := by decide +kernel
theorem dX9_bestDay_19 : decode cX9_bestDay 19 = .ok (.if_icmp .gt 55, 3) := by decide +kernel
theorem dX9_bestDay_22 : decode cX9_bestDay 22 = .ok (.aload_n 0, 1) := by decide +kernel
theorem dX9_bestDay_23 : decode cX9_bestDay 23 = .ok (.iload 6, 2) := by decide +kernel
theorem dX9_bestDay_25 : decode cX9_bestDay 25 = .ok (.putfield 157, 3) := by decide +kernel
theorem dX9_bestDay_28 : decode cX9_bestDay 28 = .ok (.aload_n 0, 1) := by decide +kernel
theorem dX9_bestDay_29 : decode cX9_bestDay 29 = .ok (.iconst 0, 1) := by decide +kernel
theorem dX9_bestDay_30 : decode cX9_bestDay 30 = .ok (.invokevirtual 233, 3) := by decide +kernel
theorem dX9_bestDay_33 : decode cX9_bestDay 33 = .ok (.lstore 7, 2) := by decide +kernel
theorem dX9_bestDay_35 : decode cX9_bestDay 35 = .ok (.aload_n 0, 1) := by decide +kernel
theorem dX9_bestDay_36 : decode cX9_bestDay 36 = .ok (.invokevirtual 237, 3) := by decide +kernel
theorem dX9_bestDay_39 : decode cX9_bestDay 39 = .ok (.lstore 9, 2) := by decide +kernel
theorem dX9_bestDay_41 : decode cX9_bestDay 41 = .ok (.iload_n 1, 1) := by decide +kernel
theorem dX9_bestDay_42 : decode cX9_bestDay 42 = .ok (.ifCond .lt 16, 3) := by decide +kernel
theorem dX9_bestDay_45 : decode cX9_bestDay 45 = .ok (.lload 7, 2) := by decide +kernel
theorem dX9_bestDay_47 : decode cX9_bestDay 47 = .ok (.lload 4, 2) := by decide +kernel
theorem dX9_bestDay_49 : decode cX9_bestDay 49 = .ok (.lmul, 1) := by decide +kernel
theorem dX9_bestDay_50 : decode cX9_bestDay 50 = .ok (.lload_n 2, 1) := by decide +kernel
theorem dX9_bestDay_51 : decode cX9_bestDay 51 = .ok (.lload 9, 2) := by decide +kernel
theorem dX9_bestDay_53 : decode cX9_bestDay 53 = .ok (.lmul, 1) := by decide +kernel
theorem dX9_bestDay_54 : decode cX9_bestDay 54 = .ok (.lcmp, 1) := by decide +kernel
theorem dX9_bestDay_55 : decode cX9_bestDay 55 = .ok (.ifCond .le 13, 3) := by decide +kernel
theorem dX9_bestDay_58 : decode cX9_bestDay 58 = .ok (.iload 6, 2) := by decide +kernel
theorem dX9_bestDay_60 : decode cX9_bestDay 60 = .ok (.istore_n 1, 1) := by decide +kernel
theorem dX9_bestDay_61 : decode cX9_bestDay 61 = .ok (.lload 7, 2) := by decide +kernel
theorem dX9_bestDay_63 : decode cX9_bestDay 63 = .ok (.lstore_n 2, 1) := by decide +kernel
theorem dX9_bestDay_64 : decode cX9_bestDay 64 = .ok (.lload 9, 2) := by decide +kernel
theorem dX9_bestDay_66 : decode cX9_bestDay 66 = .ok (.lstore 4, 2) := by decide +kernel
theorem dX9_bestDay_68 : decode cX9_bestDay 68 = .ok (.iinc 6 1, 3) := by decide +kernel
theorem dX9_bestDay_71 : decode cX9_bestDay 71 = .ok (.goto (-56), 3) := by decide +kernel
theorem dX9_bestDay_74 : decode cX9_bestDay 74 = .ok (.iload_n 1, 1) := by decide +kernel
theorem dX9_bestDay_75 : decode cX9_bestDay 75 = .ok (.ireturn, 1) := by decide +kernel
theorem dX9_extra_0 : decode cX9_extra 0 = .ok (.iload_n 1, 1) := by decide +kernel
theorem dX9_extra_1 : decode cX9_extra 1 = .ok (.i2l, 1) := by decide +kernel
theorem dX9_extra_2 : decode cX9_extra 2 = .ok (.lconst 0, 1) := by decide +kernel
theorem dX9_extra_3 : decode cX9_extra 3 = .ok (.ldc2_w 126, 3) := by decide +kernel
theorem dX9_extra_6 : decode cX9_extra 6 = .ok (.invokestatic 95, 3) := by decide +kernel
theorem dX9_extra_9 : decode cX9_extra 9 = .ok (.ifCond .ne 5, 3) := by decide +kernel
theorem dX9_extra_12 : decode cX9_extra 12 = .ok (.iconst (-1), 1) := by decide +kernel
theorem dX9_extra_13 : decode cX9_extra 13 = .ok (.ireturn, 1) := by decide +kernel
theorem dX9_extra_14 : decode cX9_extra 14 = .ok (.aload_n 0, 1) := by decide +kernel
theorem dX9_extra_15 : decode cX9_extra 15 = .ok (.invokevirtual 151, 3) := by decide +kernel
theorem dX9_extra_18 : decode cX9_extra 18 = .ok (.iconst 0, 1) := by decide +kernel
theorem dX9_extra_19 : decode cX9_extra 19 = .ok (.istore_n 2, 1) := by decide +kernel
theorem dX9_extra_20 : decode cX9_extra 20 = .ok (.iload_n 2, 1) := by decide +kernel
theorem dX9_extra_21 : decode cX9_extra 21 = .ok (.bipush 9, 2) := by decide +kernel
theorem dX9_extra_23 : decode cX9_extra 23 = .ok (.if_icmp .gt 36, 3) := by decide +kernel
theorem dX9_extra_26 : decode cX9_extra 26 = .ok (.aload_n 0, 1) := by decide +kernel
theorem dX9_extra_27 : decode cX9_extra 27 = .ok (.iload_n 2, 1) := by decide +kernel
theorem dX9_extra_28 : decode cX9_extra 28 = .ok (.putfield 160, 3) := by decide +kernel
theorem dX9_extra_31 : decode cX9_extra 31 = .ok (.ldc2_w 126, 3) := by decide +kernel
theorem dX9_extra_34 : decode cX9_extra 34 = .ok (.aload_n 0, 1) := by decide +kernel
theorem dX9_extra_35 : decode cX9_extra 35 = .ok (.iconst 0, 1) := by decide +kernel
theorem dX9_extra_36 : decode cX9_extra 36 = .ok (.invokevirtual 233, 3) := by decide +kernel
theorem dX9_extra_39 : decode cX9_extra 39 = .ok (.lmul, 1) := by decide +kernel
theorem dX9_extra_40 : decode cX9_extra 40 = .ok (.iload_n 1, 1) := by decide +kernel
theorem dX9_extra_41 : decode cX9_extra 41 = .ok (.i2l, 1) := by decide +kernel
theorem dX9_extra_42 : decode cX9_extra 42 = .ok (.aload_n 0, 1) := by decide +kernel
theorem dX9_extra_43 : decode cX9_extra 43 = .ok (.invokevirtual 237, 3) := by decide +kernel
theorem dX9_extra_46 : decode cX9_extra 46 = .ok (.lmul, 1) := by decide +kernel
theorem dX9_extra_47 : decode cX9_extra 47 = .ok (.lcmp, 1) := by decide +kernel
theorem dX9_extra_48 : decode cX9_extra 48 = .ok (.ifCond .lt 5, 3) := by decide +kernel
theorem dX9_extra_51 : decode cX9_extra 51 = .ok (.iload_n 2, 1) := by decide +kernel
theorem dX9_extra_52 : decode cX9_extra 52 = .ok (.ireturn, 1) := by decide +kernel
theorem dX9_extra_53 : decode cX9_extra 53 = .ok (.iinc 2 1, 3) := by decide +kernel
theorem dX9_extra_56 : decode cX9_extra 56 = .ok (.goto (-36), 3) := by decide +kernel
theorem dX9_extra_59 : decode cX9_extra 59 = .ok (.bipush (-4), 2) := by decide +kernel
theorem dX9_extra_61 : decode cX9_extra 61 = .ok (.ireturn, 1) := by decide +kernel
theorem dX9_bestShow_0 : decode cX9_bestShow 0 = .ok (.aload_n 0, 1) := by decide +kernel
theorem dX9_bestShow_1 : decode cX9_bestShow 1 = .ok (.invokevirtual 151, 3) := by decide +kernel
theorem dX9_bestShow_4 : decode cX9_bestShow 4 = .ok (.iconst 0, 1) := by decide +kernel
theorem dX9_bestShow_5 : decode cX9_bestShow 5 = .ok (.istore_n 1, 1) := by decide +kernel
theorem dX9_bestShow_6 : decode cX9_bestShow 6 = .ok (.ldc2_w 231, 3) := by decide +kernel
theorem dX9_bestShow_9 : decode cX9_bestShow 9 = .ok (.lstore_n 2, 1) := by decide +kernel
theorem dX9_bestShow_10 : decode cX9_bestShow 10 = .ok (.iconst 0, 1) := by decide +kernel
theorem dX9_bestShow_11 : decode cX9_bestShow 11 = .ok (.istore 4, 2) := by decide +kernel
theorem dX9_bestShow_13 : decode cX9_bestShow 13 = .ok (.iload 4, 2) := by decide +kernel
theorem dX9_bestShow_15 : decode cX9_bestShow 15 = .ok (.iconst 3, 1) := by decide +kernel
theorem dX9_bestShow_16 : decode cX9_bestShow 16 = .ok (.if_icmp .ge 50, 3) := by decide +kernel
theorem dX9_bestShow_19 : decode cX9_bestShow 19 = .ok (.aload_n 0, 1) := by decide +kernel
theorem dX9_bestShow_20 : decode cX9_bestShow 20 = .ok (.iload 4, 2) := by decide +kernel
theorem dX9_bestShow_22 : decode cX9_bestShow 22 = .ok (.putfield 163, 3) := by decide +kernel
theorem dX9_bestShow_25 : decode cX9_bestShow 25 = .ok (.aload_n 0, 1) := by decide +kernel
theorem dX9_bestShow_26 : decode cX9_bestShow 26 = .ok (.iconst 0, 1) := by decide +kernel
theorem dX9_bestShow_27 : decode cX9_bestShow 27 = .ok (.invokevirtual 233, 3) := by decide +kernel
theorem dX9_bestShow_30 : decode cX9_bestShow 30 = .ok (.lstore 5, 2) := by decide +kernel
theorem dX9_bestShow_32 : decode cX9_bestShow 32 = .ok (.lload 5, 2) := by decide +kernel
theorem dX9_bestShow_34 : decode cX9_bestShow 34 = .ok (.lload_n 2, 1) := by decide +kernel
theorem dX9_bestShow_35 : decode cX9_bestShow 35 = .ok (.lcmp, 1) := by decide +kernel
theorem dX9_bestShow_36 : decode cX9_bestShow 36 = .ok (.ifCond .le 8, 3) := by decide +kernel
theorem dX9_bestShow_39 : decode cX9_bestShow 39 = .ok (.iload 4, 2) := by decide +kernel
theorem dX9_bestShow_41 : decode cX9_bestShow 41 = .ok (.goto 4, 3) := by decide +kernel
theorem dX9_bestShow_44 : decode cX9_bestShow 44 = .ok (.iload_n 1, 1) := by decide +kernel
theorem dX9_bestShow_45 : decode cX9_bestShow 45 = .ok (.istore_n 1, 1) := by decide +kernel
theorem dX9_bestShow_46 : decode cX9_bestShow 46 = .ok (.lload 5, 2) := by decide +kernel
theorem dX9_bestShow_48 : decode cX9_bestShow 48 = .ok (.lload_n 2, 1) := by decide +kernel
theorem dX9_bestShow_49 : decode cX9_bestShow 49 = .ok (.lcmp, 1) := by decide +kernel
theorem dX9_bestShow_50 : decode cX9_bestShow 50 = .ok (.ifCond .le 8, 3) := by decide +kernel
theorem dX9_bestShow_53 : decode cX9_bestShow 53 = .ok (.lload 5, 2) := by decide +kernel
theorem dX9_bestShow_55 : decode cX9_bestShow 55 = .ok (.goto 4, 3) := by decide +kernel
theorem dX9_bestShow_58 : decode cX9_bestShow 58 = .ok (.lload_n 2, 1) := by decide +kernel
theorem dX9_bestShow_59 : decode cX9_bestShow 59 = .ok (.lstore_n 2, 1) := by decide +kernel
theorem dX9_bestShow_60 : decode cX9_bestShow 60 = .ok (.iinc 4 1, 3) := by decide +kernel
theorem dX9_bestShow_63 : decode cX9_bestShow 63 = .ok (.goto (-50), 3) := by decide +kernel
theorem dX9_bestShow_66 : decode cX9_bestShow 66 = .ok (.iload_n 1, 1) := by decide +kernel
theorem dX9_bestShow_67 : decode cX9_bestShow 67 = .ok (.ireturn, 1) := by decide +kernel
theorem dX9_richWays_0 : decode cX9_richWays 0 = .ok (.aload_n 0, 1) := by decide +kernel
theorem dX9_richWays_1 : decode cX9_richWays 1 = .ok (.invokevirtual 151, 3) := by decide +kernel
theorem dX9_richWays_4 : decode cX9_richWays 4 = .ok (.aload_n 0, 1) := by decide +kernel
theorem dX9_richWays_5 : decode cX9_richWays 5 = .ok (.iload_n 1, 1) := by decide +kernel
theorem dX9_richWays_6 : decode cX9_richWays 6 = .ok (.putfield 166, 3) := by decide +kernel
theorem dX9_richWays_9 : decode cX9_richWays 9 = .ok (.aload_n 0, 1) := by decide +kernel
theorem dX9_richWays_10 : decode cX9_richWays 10 = .ok (.iload_n 2, 1) := by decide +kernel
theorem dX9_richWays_11 : decode cX9_richWays 11 = .ok (.putfield 169, 3) := by decide +kernel
theorem dX9_richWays_14 : decode cX9_richWays 14 = .ok (.aload_n 0, 1) := by decide +kernel
theorem dX9_richWays_15 : decode cX9_richWays 15 = .ok (.iconst 0, 1) := by decide +kernel
theorem dX9_richWays_16 : decode cX9_richWays 16 = .ok (.invokevirtual 233, 3) := by decide +kernel
theorem dX9_richWays_19 : decode cX9_richWays 19 = .ok (.lreturn, 1) := by decide +kernel
theorem dX9_rich_0 : decode cX9_rich 0 = .ok (.iload_n 1, 1) := by decide +kernel
theorem dX9_rich_1 : decode cX9_rich 1 = .ok (.i2l, 1) := by decide +kernel
theorem dX9_rich_2 : decode cX9_rich 2 = .ok (.lconst 0, 1) := by decide +kernel
theorem dX9_rich_3 : decode cX9_rich 3 = .ok (.ldc2_w 281, 3) := by decide +kernel
theorem dX9_rich_6 : decode cX9_rich 6 = .ok (.invokestatic 95, 3) := by decide +kernel
theorem dX9_rich_9 : decode cX9_rich 9 = .ok (.ifCond .eq 28, 3) := by decide +kernel
theorem dX9_rich_12 : decode cX9_rich 12 = .ok (.iload_n 2, 1) := by decide +kernel
theorem dX9_rich_13 : decode cX9_rich 13 = .ok (.i2l, 1) := by decide +kernel
theorem dX9_rich_14 : decode cX9_rich 14 = .ok (.lconst 0, 1) := by decide +kernel
theorem dX9_rich_15 : decode cX9_rich 15 = .ok (.aload_n 0, 1) := by decide +kernel
theorem dX9_rich_16 : decode cX9_rich 16 = .ok (.getfield 13, 3) := by decide +kernel
theorem dX9_rich_19 : decode cX9_rich 19 = .ok (.iconst 2, 1) := by decide +kernel
theorem dX9_rich_20 : decode cX9_rich 20 = .ok (.iaload, 1) := by decide +kernel
theorem dX9_rich_21 : decode cX9_rich 21 = .ok (.i2l, 1) := by decide +kernel
theorem dX9_rich_22 : decode cX9_rich 22 = .ok (.invokestatic 95, 3) := by decide +kernel
theorem dX9_rich_25 : decode cX9_rich 25 = .ok (.ifCond .eq 12, 3) := by decide +kernel
theorem dX9_rich_28 : decode cX9_rich 28 = .ok (.aload_n 0, 1) := by decide +kernel
theorem dX9_rich_29 : decode cX9_rich 29 = .ok (.iload_n 1, 1) := by decide +kernel
theorem dX9_rich_30 : decode cX9_rich 30 = .ok (.iload_n 2, 1) := by decide +kernel
theorem dX9_rich_31 : decode cX9_rich 31 = .ok (.invokevirtual 283, 3) := by decide +kernel
theorem dX9_rich_34 : decode cX9_rich 34 = .ok (.goto 6, 3) := by decide +kernel
theorem dX9_rich_37 : decode cX9_rich 37 = .ok (.ldc2_w 231, 3) := by decide +kernel
theorem dX9_rich_40 : decode cX9_rich 40 = .ok (.lreturn, 1) := by decide +kernel
theorem dX9_richDay_0 : decode cX9_richDay 0 = .ok (.iload_n 1, 1) := by decide +kernel
theorem dX9_richDay_1 : decode cX9_richDay 1 = .ok (.i2l, 1) := by decide +kernel
theorem dX9_richDay_2 : decode cX9_richDay 2 = .ok (.lconst 0, 1) := by decide +kernel
theorem dX9_richDay_3 : decode cX9_richDay 3 = .ok (.ldc2_w 281, 3) := by decide +kernel
theorem dX9_richDay_6 : decode cX9_richDay 6 = .ok (.invokestatic 95, 3) := by decide +kernel
theorem dX9_richDay_9 : decode cX9_richDay 9 = .ok (.ifCond .ne 5, 3) := by decide +kernel
theorem dX9_richDay_12 : decode cX9_richDay 12 = .ok (.iconst (-1), 1) := by decide +kernel
theorem dX9_richDay_13 : decode cX9_richDay 13 = .ok (.ireturn, 1) := by decide +kernel
theorem dX9_richDay_14 : decode cX9_richDay 14 = .ok (.iconst 0, 1) := by decide +kernel
theorem dX9_richDay_15 : decode cX9_richDay 15 = .ok (.istore_n 2, 1) := by decide +kernel
theorem dX9_richDay_16 : decode cX9_richDay 16 = .ok (.aload_n 0, 1) := by decide +kernel
theorem dX9_richDay_17 : decode cX9_richDay 17 = .ok (.iload_n 1, 1) := by decide +kernel
theorem dX9_richDay_18 : decode cX9_richDay 18 = .ok (.iconst 0, 1) := by decide +kernel
theorem dX9_richDay_19 : decode cX9_richDay 19 = .ok (.invokevirtual 283, 3) := by decide +kernel
theorem dX9_richDay_22 : decode cX9_richDay 22 = .ok (.lstore_n 3, 1) := by decide +kernel
theorem dX9_richDay_23 : decode cX9_richDay 23 = .ok (.iconst 1, 1) := by decide +kernel
theorem dX9_richDay_24 : decode cX9_richDay 24 = .ok (.istore 5, 2) := by decide +kernel
theorem dX9_richDay_26 : decode cX9_richDay 26 = .ok (.iload 5, 2) := by decide +kernel
theorem dX9_richDay_28 : decode cX9_richDay 28 = .ok (.aload_n 0, 1) := by decide +kernel
theorem dX9_richDay_29 : decode cX9_richDay 29 = .ok (.getfield 13, 3) := by decide +kernel
theorem dX9_richDay_32 : decode cX9_richDay 32 = .ok (.iconst 2, 1) := by decide +kernel
theorem dX9_richDay_33 : decode cX9_richDay 33 = .ok (.iaload, 1) := by decide +kernel
theorem dX9_richDay_34 : decode cX9_richDay 34 = .ok (.if_icmp .gt 46, 3) := by decide +kernel
theorem dX9_richDay_37 : decode cX9_richDay 37 = .ok (.aload_n 0, 1) := by decide +kernel
theorem dX9_richDay_38 : decode cX9_richDay 38 = .ok (.iload_n 1, 1) := by decide +kernel
theorem dX9_richDay_39 : decode cX9_richDay 39 = .ok (.iload 5, 2) := by decide +kernel
theorem dX9_richDay_41 : decode cX9_richDay 41 = .ok (.invokevirtual 283, 3) := by decide +kernel
theorem dX9_richDay_44 : decode cX9_richDay 44 = .ok (.lstore 6, 2) := by decide +kernel
theorem dX9_richDay_46 : decode cX9_richDay 46 = .ok (.lload 6, 2) := by decide +kernel
theorem dX9_richDay_48 : decode cX9_richDay 48 = .ok (.lload_n 3, 1) := by decide +kernel
theorem dX9_richDay_49 : decode cX9_richDay 49 = .ok (.lcmp, 1) := by decide +kernel
theorem dX9_richDay_50 : decode cX9_richDay 50 = .ok (.ifCond .le 8, 3) := by decide +kernel
theorem dX9_richDay_53 : decode cX9_richDay 53 = .ok (.iload 5, 2) := by decide +kernel
theorem dX9_richDay_55 : decode cX9_richDay 55 = .ok (.goto 4, 3) := by decide +kernel
theorem dX9_richDay_58 : decode cX9_richDay 58 = .ok (.iload_n 2, 1) := by decide +kernel
theorem dX9_richDay_59 : decode cX9_richDay 59 = .ok (.istore_n 2, 1) := by decide +kernel
theorem dX9_richDay_60 : decode cX9_richDay 60 = .ok (.lload 6, 2) := by decide +kernel
theorem dX9_richDay_62 : decode cX9_richDay 62 = .ok (.lload_n 3, 1) := by decide +kernel
theorem dX9_richDay_63 : decode cX9_richDay 63 = .ok (.lcmp, 1) := by decide +kernel
theorem dX9_richDay_64 : decode cX9_richDay 64 = .ok (.ifCond .le 8, 3) := by decide +kernel
theorem dX9_richDay_67 : decode cX9_richDay 67 = .ok (.lload 6, 2) := by decide +kernel
theorem dX9_richDay_69 : decode cX9_richDay 69 = .ok (.goto 4, 3) := by decide +kernel
theorem dX9_richDay_72 : decode cX9_richDay 72 = .ok (.lload_n 3, 1) := by decide +kernel
theorem dX9_richDay_73 : decode cX9_richDay 73 = .ok (.lstore_n 3, 1) := by decide +kernel
theorem dX9_richDay_74 : decode cX9_richDay 74 = .ok (.iinc 5 1, 3) := by decide +kernel
theorem dX9_richDay_77 : decode cX9_richDay 77 = .ok (.goto (-51), 3) := by decide +kernel
theorem dX9_richDay_80 : decode cX9_richDay 80 = .ok (.iload_n 2, 1) := by decide +kernel
theorem dX9_richDay_81 : decode cX9_richDay 81 = .ok (.ireturn, 1) := by decide +kernel
theorem dX9_two_0 : decode cX9_two 0 = .ok (.iload_n 1, 1) := by decide +kernel
theorem dX9_two_1 : decode cX9_two 1 = .ok (.i2l, 1) := by decide +kernel
theorem dX9_two_2 : decode cX9_two 2 = .ok (.lconst 0, 1) := by decide +kernel
theorem dX9_two_3 : decode cX9_two 3 = .ok (.ldc2_w 190, 3) := by decide +kernel
theorem dX9_two_6 : decode cX9_two 6 = .ok (.invokestatic 95, 3) := by decide +kernel
theorem dX9_two_9 : decode cX9_two 9 = .ok (.ifCond .ne 7, 3) := by decide +kernel
theorem dX9_two_12 : decode cX9_two 12 = .ok (.ldc2_w 231, 3) := by decide +kernel
theorem dX9_two_15 : decode cX9_two 15 = .ok (.lreturn, 1) := by decide +kernel
theorem dX9_two_16 : decode cX9_two 16 = .ok (.aload_n 0, 1) := by decide +kernel
theorem dX9_two_17 : decode cX9_two 17 = .ok (.getfield 13, 3) := by decide +kernel
theorem dX9_two_20 : decode cX9_two 20 = .ok (.bipush 8, 2) := by decide +kernel
theorem dX9_two_22 : decode cX9_two 22 = .ok (.iaload, 1) := by decide +kernel
theorem dX9_two_23 : decode cX9_two 23 = .ok (.ifCond .ne 7, 3) := by decide +kernel
theorem dX9_two_26 : decode cX9_two 26 = .ok (.ldc2_w 286, 3) := by decide +kernel
theorem dX9_two_29 : decode cX9_two 29 = .ok (.lreturn, 1) := by decide +kernel
theorem dX9_two_30 : decode cX9_two 30 = .ok (.aload_n 0, 1) := by decide +kernel
theorem dX9_two_31 : decode cX9_two 31 = .ok (.invokevirtual 151, 3) := by decide +kernel
theorem dX9_two_34 : decode cX9_two 34 = .ok (.aload_n 0, 1) := by decide +kernel
theorem dX9_two_35 : decode cX9_two 35 = .ok (.iload_n 1, 1) := by decide +kernel
theorem dX9_two_36 : decode cX9_two 36 = .ok (.ifCond .ne 7, 3) := by decide +kernel
theorem dX9_two_39 : decode cX9_two 39 = .ok (.iconst 0, 1) := by decide +kernel
theorem dX9_two_40 : decode cX9_two 40 = .ok (.goto 6, 3) := by decide +kernel
theorem dX9_two_43 : decode cX9_two 43 = .ok (.iconst 3, 1) := by decide +kernel
theorem dX9_two_44 : decode cX9_two 44 = .ok (.iload_n 1, 1) := by decide +kernel
theorem dX9_two_45 : decode cX9_two 45 = .ok (.iadd, 1) := by decide +kernel
theorem dX9_two_46 : decode cX9_two 46 = .ok (.invokevirtual 233, 3) := by decide +kernel
theorem dX9_two_49 : decode cX9_two 49 = .ok (.lreturn, 1) := by decide +kernel
theorem dX9_goEvening_0 : decode cX9_goEvening 0 = .ok (.aload_n 0, 1) := by decide +kernel
theorem dX9_goEvening_1 : decode cX9_goEvening 1 = .ok (.invokevirtual 151, 3) := by decide +kernel
theorem dX9_goEvening_4 : decode cX9_goEvening 4 = .ok (.aload_n 0, 1) := by decide +kernel
theorem dX9_goEvening_5 : decode cX9_goEvening 5 = .ok (.invokevirtual 184, 3) := by decide +kernel
theorem dX9_goEvening_8 : decode cX9_goEvening 8 = .ok (.iconst 0, 1) := by decide +kernel
theorem dX9_goEvening_9 : decode cX9_goEvening 9 = .ok (.istore_n 2, 1) := by decide +kernel
theorem dX9_goEvening_10 : decode cX9_goEvening 10 = .ok (.iload_n 2, 1) := by decide +kernel
theorem dX9_goEvening_11 : decode cX9_goEvening 11 = .ok (.aload_n 0, 1) := by decide +kernel
theorem dX9_goEvening_12 : decode cX9_goEvening 12 = .ok (.getfield 175, 3) := by decide +kernel
theorem dX9_goEvening_15 : decode cX9_goEvening 15 = .ok (.if_icmp .ge 106, 3) := by decide +kernel
theorem dX9_goEvening_18 : decode cX9_goEvening 18 = .ok (.aload_n 0, 1) := by decide +kernel
theorem dX9_goEvening_19 : decode cX9_goEvening 19 = .ok (.getfield 61, 3) := by decide +kernel
theorem dX9_goEvening_22 : decode cX9_goEvening 22 = .ok (.iload_n 2, 1) := by decide +kernel
theorem dX9_goEvening_23 : decode cX9_goEvening 23 = .ok (.iaload, 1) := by decide +kernel
theorem dX9_goEvening_24 : decode cX9_goEvening 24 = .ok (.istore_n 3, 1) := by decide +kernel
theorem dX9_goEvening_25 : decode cX9_goEvening 25 = .ok (.ldc2_w 288, 3) := by decide +kernel
theorem dX9_goEvening_28 : decode cX9_goEvening 28 = .ok (.iload_n 1, 1) := by decide +kernel
theorem dX9_goEvening_29 : decode cX9_goEvening 29 = .ok (.i2l, 1) := by decide +kernel
theorem dX9_goEvening_30 : decode cX9_goEvening 30 = .ok (.lmul, 1) := by decide +kernel
theorem dX9_goEvening_31 : decode cX9_goEvening 31 = .ok (.ldc2_w 290, 3) := by decide +kernel
theorem dX9_goEvening_34 : decode cX9_goEvening 34 = .ok (.iload_n 3, 1) := by decide +kernel
theorem dX9_goEvening_35 : decode cX9_goEvening 35 = .ok (.i2l, 1) := by decide +kernel
theorem dX9_goEvening_36 : decode cX9_goEvening 36 = .ok (.lmul, 1) := by decide +kernel
theorem dX9_goEvening_37 : decode cX9_goEvening 37 = .ok (.ladd, 1) := by decide +kernel
theorem dX9_goEvening_38 : decode cX9_goEvening 38 = .ok (.lconst 1, 1) := by decide +kernel
theorem dX9_goEvening_39 : decode cX9_goEvening 39 = .ok (.ladd, 1) := by decide +kernel
theorem dX9_goEvening_40 : decode cX9_goEvening 40 = .ok (.lstore 4, 2) := by decide +kernel
theorem dX9_goEvening_42 : decode cX9_goEvening 42 = .ok (.lload 4, 2) := by decide +kernel
theorem dX9_goEvening_44 : decode cX9_goEvening 44 = .ok (.lload 4, 2) := by decide +kernel
theorem dX9_goEvening_46 : decode cX9_goEvening 46 = .ok (.lmul, 1) := by decide +kernel
theorem dX9_goEvening_47 : decode cX9_goEvening 47 = .ok (.ldc2_w 292, 3) := by decide +kernel
theorem dX9_goEvening_50 : decode cX9_goEvening 50 = .ok (.lrem, 1) := by decide +kernel
theorem dX9_goEvening_51 : decode cX9_goEvening 51 = .ok (.ldc2_w 126, 3) := by decide +kernel
theorem dX9_goEvening_54 : decode cX9_goEvening 54 = .ok (.lrem, 1) := by decide +kernel
theorem dX9_goEvening_55 : decode cX9_goEvening 55 = .ok (.l2i, 1) := by decide +kernel
theorem dX9_goEvening_56 : decode cX9_goEvening 56 = .ok (.istore 6, 2) := by decide +kernel
theorem dX9_goEvening_58 : decode cX9_goEvening 58 = .ok (.iconst 3, 1) := by decide +kernel
theorem dX9_goEvening_59 : decode cX9_goEvening 59 = .ok (.aload_n 0, 1) := by decide +kernel
theorem dX9_goEvening_60 : decode cX9_goEvening 60 = .ok (.getfield 46, 3) := by decide +kernel
theorem dX9_goEvening_63 : decode cX9_goEvening 63 = .ok (.iload_n 3, 1) := by decide +kernel
theorem dX9_goEvening_64 : decode cX9_goEvening 64 = .ok (.iaload, 1) := by decide +kernel
theorem dX9_goEvening_65 : decode cX9_goEvening 65 = .ok (.imul, 1) := by decide +kernel
theorem dX9_goEvening_66 : decode cX9_goEvening 66 = .ok (.istore 7, 2) := by decide +kernel
theorem dX9_goEvening_68 : decode cX9_goEvening 68 = .ok (.aload_n 0, 1) := by decide +kernel
theorem dX9_goEvening_69 : decode cX9_goEvening 69 = .ok (.getfield 43, 3) := by decide +kernel
theorem dX9_goEvening_72 : decode cX9_goEvening 72 = .ok (.iload 7, 2) := by decide +kernel
theorem dX9_goEvening_74 : decode cX9_goEvening 74 = .ok (.iaload, 1) := by decide +kernel
theorem dX9_goEvening_75 : decode cX9_goEvening 75 = .ok (.istore 8, 2) := by decide +kernel
theorem dX9_goEvening_77 : decode cX9_goEvening 77 = .ok (.iload 8, 2) := by decide +kernel
theorem dX9_goEvening_79 : decode cX9_goEvening 79 = .ok (.iload 6, 2) := by decide +kernel
theorem dX9_goEvening_81 : decode cX9_goEvening 81 = .ok (.if_icmp .gt 21, 3) := by decide +kernel
theorem dX9_goEvening_84 : decode cX9_goEvening 84 = .ok (.iinc 7 1, 3) := by decide +kernel
theorem dX9_goEvening_87 : decode cX9_goEvening 87 = .ok (.iload 8, 2) := by decide +kernel
theorem dX9_goEvening_89 : decode cX9_goEvening 89 = .ok (.aload_n 0, 1) := by decide +kernel
theorem dX9_goEvening_90 : decode cX9_goEvening 90 = .ok (.getfield 43, 3) := by decide +kernel
theorem dX9_goEvening_93 : decode cX9_goEvening 93 = .ok (.iload 7, 2) := by decide +kernel
theorem dX9_goEvening_95 : decode cX9_goEvening 95 = .ok (.iaload, 1) := by decide +kernel
theorem dX9_goEvening_96 : decode cX9_goEvening 96 = .ok (.iadd, 1) := by decide +kernel
theorem dX9_goEvening_97 : decode cX9_goEvening 97 = .ok (.istore 8, 2) := by decide +kernel
theorem dX9_goEvening_99 : decode cX9_goEvening 99 = .ok (.goto (-22), 3) := by decide +kernel
theorem dX9_goEvening_102 : decode cX9_goEvening 102 = .ok (.aload_n 0, 1) := by decide +kernel
theorem dX9_goEvening_103 : decode cX9_goEvening 103 = .ok (.getfield 64, 3) := by decide +kernel
theorem dX9_goEvening_106 : decode cX9_goEvening 106 = .ok (.iload_n 3, 1) := by decide +kernel
theorem dX9_goEvening_107 : decode cX9_goEvening 107 = .ok (.aload_n 0, 1) := by decide +kernel
theorem dX9_goEvening_108 : decode cX9_goEvening 108 = .ok (.getfield 40, 3) := by decide +kernel
theorem dX9_goEvening_111 : decode cX9_goEvening 111 = .ok (.iload 7, 2) := by decide +kernel
theorem dX9_goEvening_113 : decode cX9_goEvening 113 = .ok (.iaload, 1) := by decide +kernel
theorem dX9_goEvening_114 : decode cX9_goEvening 114 = .ok (.iastore, 1) := by decide +kernel
theorem dX9_goEvening_115 : decode cX9_goEvening 115 = .ok (.iinc 2 1, 3) := by decide +kernel
theorem dX9_goEvening_118 : decode cX9_goEvening 118 = .ok (.goto (-108), 3) := by decide +kernel
theorem dX9_goEvening_121 : decode cX9_goEvening 121 = .ok (.aload_n 0, 1) := by decide +kernel
theorem dX9_goEvening_122 : decode cX9_goEvening 122 = .ok (.invokevirtual 215, 3) := by decide +kernel
theorem dX9_goEvening_125 : decode cX9_goEvening 125 = .ok (.return_, 1) := by decide +kernel
theorem dX9_evening_0 : decode cX9_evening 0 = .ok (.iload_n 1, 1) := by decide +kernel
theorem dX9_evening_1 : decode cX9_evening 1 = .ok (.i2l, 1) := by decide +kernel
theorem dX9_evening_2 : decode cX9_evening 2 = .ok (.lconst 0, 1) := by decide +kernel
theorem dX9_evening_3 : decode cX9_evening 3 = .ok (.ldc2_w 294, 3) := by decide +kernel
theorem dX9_evening_6 : decode cX9_evening 6 = .ok (.invokestatic 95, 3) := by decide +kernel
theorem dX9_evening_9 : decode cX9_evening 9 = .ok (.ifCond .eq 21, 3) := by decide +kernel
theorem dX9_evening_12 : decode cX9_evening 12 = .ok (.aload_n 0, 1) := by decide +kernel
theorem dX9_evening_13 : decode cX9_evening 13 = .ok (.iload_n 2, 1) := by decide +kernel
theorem dX9_evening_14 : decode cX9_evening 14 = .ok (.invokevirtual 181, 3) := by decide +kernel
theorem dX9_evening_17 : decode cX9_evening 17 = .ok (.ifCond .eq 13, 3) := by decide +kernel
theorem dX9_evening_20 : decode cX9_evening 20 = .ok (.iload_n 3, 1) := by decide +kernel
theorem dX9_evening_21 : decode cX9_evening 21 = .ok (.i2l, 1) := by decide +kernel
theorem dX9_evening_22 : decode cX9_evening 22 = .ok (.lconst 0, 1) := by decide +kernel
theorem dX9_evening_23 : decode cX9_evening 23 = .ok (.lconst 1, 1) := by decide +kernel
theorem dX9_evening_24 : decode cX9_evening 24 = .ok (.invokestatic 95, 3) := by decide +kernel
theorem dX9_evening_27 : decode cX9_evening 27 = .ok (.ifCond .ne 7, 3) := by decide +kernel
theorem dX9_evening_30 : decode cX9_evening 30 = .ok (.sipush (-1001), 3) := by decide +kernel
theorem dX9_evening_33 : decode cX9_evening 33 = .ok (.ireturn, 1) := by decide +kernel
theorem dX9_evening_34 : decode cX9_evening 34 = .ok (.aload_n 0, 1) := by decide +kernel
theorem dX9_evening_35 : decode cX9_evening 35 = .ok (.iload_n 1, 1) := by decide +kernel
theorem dX9_evening_36 : decode cX9_evening 36 = .ok (.invokevirtual 296, 3) := by decide +kernel
theorem dX9_evening_39 : decode cX9_evening 39 = .ok (.aload_n 0, 1) := by decide +kernel
theorem dX9_evening_40 : decode cX9_evening 40 = .ok (.iload_n 2, 1) := by decide +kernel
theorem dX9_evening_41 : decode cX9_evening 41 = .ok (.invokevirtual 187, 3) := by decide +kernel
theorem dX9_evening_44 : decode cX9_evening 44 = .ok (.bipush (-4), 2) := by decide +kernel
theorem dX9_evening_46 : decode cX9_evening 46 = .ok (.if_icmp .ne 7, 3) := by decide +kernel
theorem dX9_evening_49 : decode cX9_evening 49 = .ok (.sipush (-1004), 3) := by decide +kernel
theorem dX9_evening_52 : decode cX9_evening 52 = .ok (.ireturn, 1) := by decide +kernel
theorem dX9_evening_53 : decode cX9_evening 53 = .ok (.iload_n 3, 1) := by decide +kernel
theorem dX9_evening_54 : decode cX9_evening 54 = .ok (.ifCond .ne 12, 3) := by decide +kernel
theorem dX9_evening_57 : decode cX9_evening 57 = .ok (.aload_n 0, 1) := by decide +kernel
theorem dX9_evening_58 : decode cX9_evening 58 = .ok (.getfield 67, 3) := by decide +kernel
theorem dX9_evening_61 : decode cX9_evening 61 = .ok (.iload_n 2, 1) := by decide +kernel
theorem dX9_evening_62 : decode cX9_evening 62 = .ok (.iaload, 1) := by decide +kernel
theorem dX9_evening_63 : decode cX9_evening 63 = .ok (.goto 8, 3) := by decide +kernel
theorem dX9_evening_66 : decode cX9_evening 66 = .ok (.aload_n 0, 1) := by decide +kernel
theorem dX9_evening_67 : decode cX9_evening 67 = .ok (.iload_n 2, 1) := by decide +kernel
theorem dX9_evening_68 : decode cX9_evening 68 = .ok (.invokevirtual 248, 3) := by decide +kernel
theorem dX9_evening_71 : decode cX9_evening 71 = .ok (.ireturn, 1) := by decide +kernel
theorem dX9_whole_0 : decode cX9_whole 0 = .ok (.iload_n 1, 1) := by decide +kernel
theorem dX9_whole_1 : decode cX9_whole 1 = .ok (.i2l, 1) := by decide +kernel
theorem dX9_whole_2 : decode cX9_whole 2 = .ok (.lconst 0, 1) := by decide +kernel
theorem dX9_whole_3 : decode cX9_whole 3 = .ok (.ldc2_w 294, 3) := by decide +kernel
theorem dX9_whole_6 : decode cX9_whole 6 = .ok (.invokestatic 95, 3) := by decide +kernel
theorem dX9_whole_9 : decode cX9_whole 9 = .ok (.ifCond .eq 13, 3) := by decide +kernel
theorem dX9_whole_12 : decode cX9_whole 12 = .ok (.iload_n 2, 1) := by decide +kernel
theorem dX9_whole_13 : decode cX9_whole 13 = .ok (.i2l, 1) := by decide +kernel
theorem dX9_whole_14 : decode cX9_whole 14 = .ok (.lconst 0, 1) := by decide +kernel
theorem dX9_whole_15 : decode cX9_whole 15 = .ok (.lconst 1, 1) := by decide +kernel
theorem dX9_whole_16 : decode cX9_whole 16 = .ok (.invokestatic 95, 3) := by decide +kernel
theorem dX9_whole_19 : decode cX9_whole 19 = .ok (.ifCond .ne 5, 3) := by decide +kernel
theorem dX9_whole_22 : decode cX9_whole 22 = .ok (.iconst (-1), 1) := by decide +kernel
theorem dX9_whole_23 : decode cX9_whole 23 = .ok (.ireturn, 1) := by decide +kernel
theorem dX9_whole_24 : decode cX9_whole 24 = .ok (.aload_n 0, 1) := by decide +kernel
theorem dX9_whole_25 : decode cX9_whole 25 = .ok (.iload_n 1, 1) := by decide +kernel
theorem dX9_whole_26 : decode cX9_whole 26 = .ok (.invokevirtual 296, 3) := by decide +kernel
theorem dX9_whole_29 : decode cX9_whole 29 = .ok (.iload_n 2, 1) := by decide +kernel
theorem dX9_whole_30 : decode cX9_whole 30 = .ok (.ifCond .ne 10, 3) := by decide +kernel
theorem dX9_whole_33 : decode cX9_whole 33 = .ok (.aload_n 0, 1) := by decide +kernel
theorem dX9_whole_34 : decode cX9_whole 34 = .ok (.getfield 196, 3) := by decide +kernel
theorem dX9_whole_37 : decode cX9_whole 37 = .ok (.goto 15, 3) := by decide +kernel
theorem dX9_whole_40 : decode cX9_whole 40 = .ok (.aload_n 0, 1) := by decide +kernel
theorem dX9_whole_41 : decode cX9_whole 41 = .ok (.invokevirtual 212, 3) := by decide +kernel
theorem dX9_whole_44 : decode cX9_whole 44 = .ok (.ifCond .eq 7, 3) := by decide +kernel
theorem dX9_whole_47 : decode cX9_whole 47 = .ok (.iconst 1, 1) := by decide +kernel
theorem dX9_whole_48 : decode cX9_whole 48 = .ok (.goto 4, 3) := by decide +kernel
theorem dX9_whole_51 : decode cX9_whole 51 = .ok (.iconst 0, 1) := by decide +kernel
theorem dX9_whole_52 : decode cX9_whole 52 = .ok (.ireturn, 1) := by decide +kernel
theorem dX9_keep_0 : decode cX9_keep 0 = .ok (.aload_n 0, 1) := by decide +kernel
theorem dX9_keep_1 : decode cX9_keep 1 = .ok (.getfield 172, 3) := by decide +kernel
theorem dX9_keep_4 : decode cX9_keep 4 = .ok (.iconst 2, 1) := by decide +kernel
theorem dX9_keep_5 : decode cX9_keep 5 = .ok (.if_icmp .ne 6, 3) := by decide +kernel
theorem dX9_keep_8 : decode cX9_keep 8 = .ok (.bipush (-3), 2) := by decide +kernel
theorem dX9_keep_10 : decode cX9_keep 10 = .ok (.ireturn, 1) := by decide +kernel
theorem dX9_keep_11 : decode cX9_keep 11 = .ok (.aload_n 0, 1) := by decide +kernel
theorem dX9_keep_12 : decode cX9_keep 12 = .ok (.dup, 1) := by decide +kernel
theorem dX9_keep_13 : decode cX9_keep 13 = .ok (.getfield 172, 3) := by decide +kernel
theorem dX9_keep_16 : decode cX9_keep 16 = .ok (.iconst 1, 1) := by decide +kernel
theorem dX9_keep_17 : decode cX9_keep 17 = .ok (.iadd, 1) := by decide +kernel
theorem dX9_keep_18 : decode cX9_keep 18 = .ok (.putfield 172, 3) := by decide +kernel
theorem dX9_keep_21 : decode cX9_keep 21 = .ok (.aload_n 0, 1) := by decide +kernel
theorem dX9_keep_22 : decode cX9_keep 22 = .ok (.getfield 52, 3) := by decide +kernel
theorem dX9_keep_25 : decode cX9_keep 25 = .ok (.aload_n 0, 1) := by decide +kernel
theorem dX9_keep_26 : decode cX9_keep 26 = .ok (.getfield 172, 3) := by decide +kernel
theorem dX9_keep_29 : decode cX9_keep 29 = .ok (.aload_n 0, 1) := by decide +kernel
theorem dX9_keep_30 : decode cX9_keep 30 = .ok (.getfield 52, 3) := by decide +kernel
theorem dX9_keep_33 : decode cX9_keep 33 = .ok (.iconst 0, 1) := by decide +kernel
theorem dX9_keep_34 : decode cX9_keep 34 = .ok (.iaload, 1) := by decide +kernel
theorem dX9_keep_35 : decode cX9_keep 35 = .ok (.iastore, 1) := by decide +kernel
theorem dX9_keep_36 : decode cX9_keep 36 = .ok (.iconst 0, 1) := by decide +kernel
theorem dX9_keep_37 : decode cX9_keep 37 = .ok (.istore_n 1, 1) := by decide +kernel
theorem dX9_keep_38 : decode cX9_keep 38 = .ok (.iload_n 1, 1) := by decide +kernel
theorem dX9_keep_39 : decode cX9_keep 39 = .ok (.bipush 8, 2) := by decide +kernel
theorem dX9_keep_41 : decode cX9_keep 41 = .ok (.if_icmp .ge 29, 3) := by decide +kernel
theorem dX9_keep_44 : decode cX9_keep 44 = .ok (.aload_n 0, 1) := by decide +kernel
theorem dX9_keep_45 : decode cX9_keep 45 = .ok (.getfield 55, 3) := by decide +kernel
theorem dX9_keep_48 : decode cX9_keep 48 = .ok (.bipush 8, 2) := by decide +kernel
theorem dX9_keep_50 : decode cX9_keep 50 = .ok (.aload_n 0, 1) := by decide +kernel
theorem dX9_keep_51 : decode cX9_keep 51 = .ok (.getfield 172, 3) := by decide +kernel
theorem dX9_keep_54 : decode cX9_keep 54 = .ok (.imul, 1) := by decide +kernel
theorem dX9_keep_55 : decode cX9_keep 55 = .ok (.iload_n 1, 1) := by decide +kernel
theorem dX9_keep_56 : decode cX9_keep 56 = .ok (.iadd, 1) := by decide +kernel
theorem dX9_keep_57 : decode cX9_keep 57 = .ok (.aload_n 0, 1) := by decide +kernel
theorem dX9_keep_58 : decode cX9_keep 58 = .ok (.getfield 55, 3) := by decide +kernel
theorem dX9_keep_61 : decode cX9_keep 61 = .ok (.iload_n 1, 1) := by decide +kernel
theorem dX9_keep_62 : decode cX9_keep 62 = .ok (.iaload, 1) := by decide +kernel
theorem dX9_keep_63 : decode cX9_keep 63 = .ok (.iastore, 1) := by decide +kernel
theorem dX9_keep_64 : decode cX9_keep 64 = .ok (.iinc 1 1, 3) := by decide +kernel
theorem dX9_keep_67 : decode cX9_keep 67 = .ok (.goto (-29), 3) := by decide +kernel
theorem dX9_keep_70 : decode cX9_keep 70 = .ok (.aload_n 0, 1) := by decide +kernel
theorem dX9_keep_71 : decode cX9_keep 71 = .ok (.getfield 172, 3) := by decide +kernel
theorem dX9_keep_74 : decode cX9_keep 74 = .ok (.ireturn, 1) := by decide +kernel
theorem dX9_back_0 : decode cX9_back 0 = .ok (.aload_n 0, 1) := by decide +kernel
theorem dX9_back_1 : decode cX9_back 1 = .ok (.getfield 172, 3) := by decide +kernel
theorem dX9_back_4 : decode cX9_back 4 = .ok (.ifCond .ne 6, 3) := by decide +kernel
theorem dX9_back_7 : decode cX9_back 7 = .ok (.bipush (-2), 2) := by decide +kernel
theorem dX9_back_9 : decode cX9_back 9 = .ok (.ireturn, 1) := by decide +kernel
theorem dX9_back_10 : decode cX9_back 10 = .ok (.aload_n 0, 1) := by decide +kernel
theorem dX9_back_11 : decode cX9_back 11 = .ok (.getfield 52, 3) := by decide +kernel
theorem dX9_back_14 : decode cX9_back 14 = .ok (.iconst 0, 1) := by decide +kernel
theorem dX9_back_15 : decode cX9_back 15 = .ok (.aload_n 0, 1) := by decide +kernel
theorem dX9_back_16 : decode cX9_back 16 = .ok (.getfield 52, 3) := by decide +kernel
theorem dX9_back_19 : decode cX9_back 19 = .ok (.aload_n 0, 1) := by decide +kernel
theorem dX9_back_20 : decode cX9_back 20 = .ok (.getfield 172, 3) := by decide +kernel
theorem dX9_back_23 : decode cX9_back 23 = .ok (.iaload, 1) := by decide +kernel
theorem dX9_back_24 : decode cX9_back 24 = .ok (.iastore, 1) := by decide +kernel
theorem dX9_back_25 : decode cX9_back 25 = .ok (.iconst 0, 1) := by decide +kernel
theorem dX9_back_26 : decode cX9_back 26 = .ok (.istore_n 1, 1) := by decide +kernel
theorem dX9_back_27 : decode cX9_back 27 = .ok (.iload_n 1, 1) := by decide +kernel
theorem dX9_back_28 : decode cX9_back 28 = .ok (.bipush 8, 2) := by decide +kernel
theorem dX9_back_30 : decode cX9_back 30 = .ok (.if_icmp .ge 29, 3) := by decide +kernel
theorem dX9_back_33 : decode cX9_back 33 = .ok (.aload_n 0, 1) := by decide +kernel
theorem dX9_back_34 : decode cX9_back 34 = .ok (.getfield 55, 3) := by decide +kernel
theorem dX9_back_37 : decode cX9_back 37 = .ok (.iload_n 1, 1) := by decide +kernel
theorem dX9_back_38 : decode cX9_back 38 = .ok (.aload_n 0, 1) := by decide +kernel
theorem dX9_back_39 : decode cX9_back 39 = .ok (.getfield 55, 3) := by decide +kernel
theorem dX9_back_42 : decode cX9_back 42 = .ok (.bipush 8, 2) := by decide +kernel
theorem dX9_back_44 : decode cX9_back 44 = .ok (.aload_n 0, 1) := by decide +kernel
theorem dX9_back_45 : decode cX9_back 45 = .ok (.getfield 172, 3) := by decide +kernel
theorem dX9_back_48 : decode cX9_back 48 = .ok (.imul, 1) := by decide +kernel
theorem dX9_back_49 : decode cX9_back 49 = .ok (.iload_n 1, 1) := by decide +kernel
theorem dX9_back_50 : decode cX9_back 50 = .ok (.iadd, 1) := by decide +kernel
theorem dX9_back_51 : decode cX9_back 51 = .ok (.iaload, 1) := by decide +kernel
theorem dX9_back_52 : decode cX9_back 52 = .ok (.iastore, 1) := by decide +kernel
theorem dX9_back_53 : decode cX9_back 53 = .ok (.iinc 1 1, 3) := by decide +kernel
theorem dX9_back_56 : decode cX9_back 56 = .ok (.goto (-29), 3) := by decide +kernel
theorem dX9_back_59 : decode cX9_back 59 = .ok (.aload_n 0, 1) := by decide +kernel
theorem dX9_back_60 : decode cX9_back 60 = .ok (.dup, 1) := by decide +kernel
theorem dX9_back_61 : decode cX9_back 61 = .ok (.getfield 172, 3) := by decide +kernel
theorem dX9_back_64 : decode cX9_back 64 = .ok (.iconst 1, 1) := by decide +kernel
theorem dX9_back_65 : decode cX9_back 65 = .ok (.isub, 1) := by decide +kernel
theorem dX9_back_66 : decode cX9_back 66 = .ok (.putfield 172, 3) := by decide +kernel
theorem dX9_back_69 : decode cX9_back 69 = .ok (.aload_n 0, 1) := by decide +kernel
theorem dX9_back_70 : decode cX9_back 70 = .ok (.getfield 172, 3) := by decide +kernel
theorem dX9_back_73 : decode cX9_back 73 = .ok (.ireturn, 1) := by decide +kernel
theorem dX9_count_0 : decode cX9_count 0 = .ok (.iload_n 1, 1) := by decide +kernel
theorem dX9_count_1 : decode cX9_count 1 = .ok (.tableswitch 92 0 6 #[43, 48, 61, 68, 73, 78, 85], 43) := by decide +kernel
theorem dX9_count_44 : decode cX9_count 44 = .ok (.aload_n 0, 1) := by decide +kernel
theorem dX9_count_45 : decode cX9_count 45 = .ok (.getfield 148, 3) := by decide +kernel
theorem dX9_count_48 : decode cX9_count 48 = .ok (.ireturn, 1) := by decide +kernel
theorem dX9_count_49 : decode cX9_count 49 = .ok (.aload_n 0, 1) := by decide +kernel
theorem dX9_count_50 : decode cX9_count 50 = .ok (.invokevirtual 151, 3) := by decide +kernel
theorem dX9_count_53 : decode cX9_count 53 = .ok (.aload_n 0, 1) := by decide +kernel
theorem dX9_count_54 : decode cX9_count 54 = .ok (.invokevirtual 184, 3) := by decide +kernel
theorem dX9_count_57 : decode cX9_count 57 = .ok (.aload_n 0, 1) := by decide +kernel
theorem dX9_count_58 : decode cX9_count 58 = .ok (.getfield 175, 3) := by decide +kernel
theorem dX9_count_61 : decode cX9_count 61 = .ok (.ireturn, 1) := by decide +kernel
theorem dX9_count_62 : decode cX9_count 62 = .ok (.aload_n 0, 1) := by decide +kernel
theorem dX9_count_63 : decode cX9_count 63 = .ok (.getfield 16, 3) := by decide +kernel
theorem dX9_count_66 : decode cX9_count 66 = .ok (.iconst 0, 1) := by decide +kernel
theorem dX9_count_67 : decode cX9_count 67 = .ok (.iaload, 1) := by decide +kernel
theorem dX9_count_68 : decode cX9_count 68 = .ok (.ireturn, 1) := by decide +kernel
theorem dX9_count_69 : decode cX9_count 69 = .ok (.aload_n 0, 1) := by decide +kernel
theorem dX9_count_70 : decode cX9_count 70 = .ok (.getfield 99, 3) := by decide +kernel
theorem dX9_count_73 : decode cX9_count 73 = .ok (.ireturn, 1) := by decide +kernel
theorem dX9_count_74 : decode cX9_count 74 = .ok (.aload_n 0, 1) := by decide +kernel
theorem dX9_count_75 : decode cX9_count 75 = .ok (.getfield 172, 3) := by decide +kernel
theorem dX9_count_78 : decode cX9_count 78 = .ok (.ireturn, 1) := by decide +kernel
theorem dX9_count_79 : decode cX9_count 79 = .ok (.aload_n 0, 1) := by decide +kernel
theorem dX9_count_80 : decode cX9_count 80 = .ok (.getfield 13, 3) := by decide +kernel
theorem dX9_count_83 : decode cX9_count 83 = .ok (.iconst 0, 1) := by decide +kernel
theorem dX9_count_84 : decode cX9_count 84 = .ok (.iaload, 1) := by decide +kernel
theorem dX9_count_85 : decode cX9_count 85 = .ok (.ireturn, 1) := by decide +kernel
theorem dX9_count_86 : decode cX9_count 86 = .ok (.aload_n 0, 1) := by decide +kernel
theorem dX9_count_87 : decode cX9_count 87 = .ok (.getfield 13, 3) := by decide +kernel
theorem dX9_count_90 : decode cX9_count 90 = .ok (.iconst 2, 1) := by decide +kernel
theorem dX9_count_91 : decode cX9_count 91 = .ok (.iaload, 1) := by decide +kernel
theorem dX9_count_92 : decode cX9_count 92 = .ok (.ireturn, 1) := by decide +kernel
theorem dX9_count_93 : decode cX9_count 93 = .ok (.iconst (-1), 1) := by decide +kernel
theorem dX9_count_94 : decode cX9_count 94 = .ok (.ireturn, 1) := by decide +kernel
end
