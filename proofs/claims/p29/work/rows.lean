section
-- ===== PART A: goes FIRST, ahead of the names: the tables' words, and 'selects' of the private methods out of them =====
/-- a private method of a class that the tables say can be made, by its rows of tables_1 -/
def lw_okq (q : MethodName × Nat) : Prop := (q.1.cls ≠ "java/lang/invoke/MethodHandle" ∧ q.1.cls ≠ "java/lang/invoke/VarHandle") ∧ Cond.instantiable q.1.cls q.2 ∈ tables_1 ∧ Cond.privateMethod q.1 ∈ tables_1 ∧ Cond.instanceMethod q.1 ∈ tables_1
theorem lw_p0 : lw_okq (⟨"EnoughGive$Coming", "seat", "(LEnoughGive$Sorts;II)V"⟩, 11) := ⟨⟨by decide +kernel, by decide +kernel⟩, List.mem_of_getElem? (i := 164) (by decide +kernel), List.mem_of_getElem? (i := 385) (by decide +kernel), List.mem_of_getElem? (i := 386) (by decide +kernel)⟩
theorem lw_p1 : lw_okq (⟨"EnoughGive", "isGiver", "(I)Z"⟩, 19) := ⟨⟨by decide +kernel, by decide +kernel⟩, List.mem_of_getElem? (i := 15) (by decide +kernel), List.mem_of_getElem? (i := 469) (by decide +kernel), List.mem_of_getElem? (i := 470) (by decide +kernel)⟩
theorem lw_p2 : lw_okq (⟨"EnoughGive", "forgetWays", "()V"⟩, 19) := ⟨⟨by decide +kernel, by decide +kernel⟩, List.mem_of_getElem? (i := 15) (by decide +kernel), List.mem_of_getElem? (i := 482) (by decide +kernel), List.mem_of_getElem? (i := 483) (by decide +kernel)⟩
theorem lw_p3 : lw_okq (⟨"EnoughGive", "waysAsTheyStand", "()LEnoughGive$Ways;"⟩, 19) := ⟨⟨by decide +kernel, by decide +kernel⟩, List.mem_of_getElem? (i := 15) (by decide +kernel), List.mem_of_getElem? (i := 491) (by decide +kernel), List.mem_of_getElem? (i := 492) (by decide +kernel)⟩
theorem lw_p4 : lw_okq (⟨"EnoughGive", "setGame", "()V"⟩, 19) := ⟨⟨by decide +kernel, by decide +kernel⟩, List.mem_of_getElem? (i := 15) (by decide +kernel), List.mem_of_getElem? (i := 495) (by decide +kernel), List.mem_of_getElem? (i := 496) (by decide +kernel)⟩
theorem lw_p5 : lw_okq (⟨"EnoughGive$Ways", "clear", "()V"⟩, 10) := ⟨⟨by decide +kernel, by decide +kernel⟩, List.mem_of_getElem? (i := 272) (by decide +kernel), List.mem_of_getElem? (i := 507) (by decide +kernel), List.mem_of_getElem? (i := 508) (by decide +kernel)⟩
theorem lw_p6 : lw_okq (⟨"EnoughGive$Game", "lackOf", "(II)I"⟩, 11) := ⟨⟨by decide +kernel, by decide +kernel⟩, List.mem_of_getElem? (i := 221) (by decide +kernel), List.mem_of_getElem? (i := 532) (by decide +kernel), List.mem_of_getElem? (i := 533) (by decide +kernel)⟩
theorem lw_p7 : lw_okq (⟨"EnoughGive$Game", "secondGiftAt", "(III)I"⟩, 11) := ⟨⟨by decide +kernel, by decide +kernel⟩, List.mem_of_getElem? (i := 221) (by decide +kernel), List.mem_of_getElem? (i := 540) (by decide +kernel), List.mem_of_getElem? (i := 541) (by decide +kernel)⟩
theorem lw_p8 : lw_okq (⟨"EnoughGive$Ways", "add", "(LEnoughGive$Game;I)V"⟩, 10) := ⟨⟨by decide +kernel, by decide +kernel⟩, List.mem_of_getElem? (i := 272) (by decide +kernel), List.mem_of_getElem? (i := 544) (by decide +kernel), List.mem_of_getElem? (i := 545) (by decide +kernel)⟩
theorem lw_p9 : lw_okq (⟨"EnoughGive$Ways", "addMeans", "(LEnoughGive$Game;LEnoughGive$Coming;)V"⟩, 10) := ⟨⟨by decide +kernel, by decide +kernel⟩, List.mem_of_getElem? (i := 272) (by decide +kernel), List.mem_of_getElem? (i := 560) (by decide +kernel), List.mem_of_getElem? (i := 561) (by decide +kernel)⟩
theorem lw_p10 : lw_okq (⟨"EnoughGive$Ways", "nextWay", "(LEnoughGive$Coming;)I"⟩, 10) := ⟨⟨by decide +kernel, by decide +kernel⟩, List.mem_of_getElem? (i := 272) (by decide +kernel), List.mem_of_getElem? (i := 569) (by decide +kernel), List.mem_of_getElem? (i := 570) (by decide +kernel)⟩
theorem lw_p11 : lw_okq (⟨"EnoughGive$Rest", "clearTable", "()V"⟩, 6) := ⟨⟨by decide +kernel, by decide +kernel⟩, List.mem_of_getElem? (i := 317) (by decide +kernel), List.mem_of_getElem? (i := 620) (by decide +kernel), List.mem_of_getElem? (i := 621) (by decide +kernel)⟩
theorem lw_p12 : lw_okq (⟨"EnoughGive$Rest", "join", "(IIZII)V"⟩, 6) := ⟨⟨by decide +kernel, by decide +kernel⟩, List.mem_of_getElem? (i := 317) (by decide +kernel), List.mem_of_getElem? (i := 625) (by decide +kernel), List.mem_of_getElem? (i := 626) (by decide +kernel)⟩
theorem lw_p13 : lw_okq (⟨"EnoughGive$Rest", "lowestGift", "(IIII)I"⟩, 6) := ⟨⟨by decide +kernel, by decide +kernel⟩, List.mem_of_getElem? (i := 317) (by decide +kernel), List.mem_of_getElem? (i := 634) (by decide +kernel), List.mem_of_getElem? (i := 635) (by decide +kernel)⟩
theorem lw_p14 : lw_okq (⟨"EnoughGive", "findBestBar", "()V"⟩, 19) := ⟨⟨by decide +kernel, by decide +kernel⟩, List.mem_of_getElem? (i := 15) (by decide +kernel), List.mem_of_getElem? (i := 642) (by decide +kernel), List.mem_of_getElem? (i := 643) (by decide +kernel)⟩
theorem lw_p15 : lw_okq (⟨"EnoughGive", "richWays", "(II)J"⟩, 19) := ⟨⟨by decide +kernel, by decide +kernel⟩, List.mem_of_getElem? (i := 15) (by decide +kernel), List.mem_of_getElem? (i := 659) (by decide +kernel), List.mem_of_getElem? (i := 660) (by decide +kernel)⟩
def lw_privs_1 : List (MethodName × Nat) := [(⟨"EnoughGive$Coming", "seat", "(LEnoughGive$Sorts;II)V"⟩, 11), (⟨"EnoughGive", "isGiver", "(I)Z"⟩, 19), (⟨"EnoughGive", "forgetWays", "()V"⟩, 19), (⟨"EnoughGive", "waysAsTheyStand", "()LEnoughGive$Ways;"⟩, 19), (⟨"EnoughGive", "setGame", "()V"⟩, 19), (⟨"EnoughGive$Ways", "clear", "()V"⟩, 10), (⟨"EnoughGive$Game", "lackOf", "(II)I"⟩, 11), (⟨"EnoughGive$Game", "secondGiftAt", "(III)I"⟩, 11), (⟨"EnoughGive$Ways", "add", "(LEnoughGive$Game;I)V"⟩, 10), (⟨"EnoughGive$Ways", "addMeans", "(LEnoughGive$Game;LEnoughGive$Coming;)V"⟩, 10), (⟨"EnoughGive$Ways", "nextWay", "(LEnoughGive$Coming;)I"⟩, 10), (⟨"EnoughGive$Rest", "clearTable", "()V"⟩, 6), (⟨"EnoughGive$Rest", "join", "(IIZII)V"⟩, 6), (⟨"EnoughGive$Rest", "lowestGift", "(IIII)I"⟩, 6), (⟨"EnoughGive", "findBestBar", "()V"⟩, 19), (⟨"EnoughGive", "richWays", "(II)J"⟩, 19)]
theorem lw_r1 : ∀ q ∈ lw_privs_1, lw_okq q := List.forall_mem_cons.mpr ⟨lw_p0, List.forall_mem_cons.mpr ⟨lw_p1, List.forall_mem_cons.mpr ⟨lw_p2, List.forall_mem_cons.mpr ⟨lw_p3, List.forall_mem_cons.mpr ⟨lw_p4, List.forall_mem_cons.mpr ⟨lw_p5, List.forall_mem_cons.mpr ⟨lw_p6, List.forall_mem_cons.mpr ⟨lw_p7, List.forall_mem_cons.mpr ⟨lw_p8, List.forall_mem_cons.mpr ⟨lw_p9, List.forall_mem_cons.mpr ⟨lw_p10, List.forall_mem_cons.mpr ⟨lw_p11, List.forall_mem_cons.mpr ⟨lw_p12, List.forall_mem_cons.mpr ⟨lw_p13, List.forall_mem_cons.mpr ⟨lw_p14, List.forall_mem_cons.mpr ⟨lw_p15, fun _ h => absurd h List.not_mem_nil⟩⟩⟩⟩⟩⟩⟩⟩⟩⟩⟩⟩⟩⟩⟩⟩
theorem lw_p16 : lw_okq (⟨"EnoughGive", "playEvening", "(I)V"⟩, 19) := ⟨⟨by decide +kernel, by decide +kernel⟩, List.mem_of_getElem? (i := 15) (by decide +kernel), List.mem_of_getElem? (i := 676) (by decide +kernel), List.mem_of_getElem? (i := 677) (by decide +kernel)⟩
theorem lw_p17 : lw_okq (⟨"EnoughGive", "drawnWorth", "(II)I"⟩, 19) := ⟨⟨by decide +kernel, by decide +kernel⟩, List.mem_of_getElem? (i := 15) (by decide +kernel), List.mem_of_getElem? (i := 680) (by decide +kernel), List.mem_of_getElem? (i := 681) (by decide +kernel)⟩
theorem lw_p18 : lw_okq (⟨"EnoughGive$Reader", "readNumbers", "(LEnoughGive$Text;I)Z"⟩, 2) := ⟨⟨by decide +kernel, by decide +kernel⟩, List.mem_of_getElem? (i := 39) (by decide +kernel), List.mem_of_getElem? (i := 740) (by decide +kernel), List.mem_of_getElem? (i := 741) (by decide +kernel)⟩
theorem lw_p19 : lw_okq (⟨"EnoughGive$Reader", "readNumber", "(LEnoughGive$Text;)I"⟩, 2) := ⟨⟨by decide +kernel, by decide +kernel⟩, List.mem_of_getElem? (i := 39) (by decide +kernel), List.mem_of_getElem? (i := 744) (by decide +kernel), List.mem_of_getElem? (i := 745) (by decide +kernel)⟩
theorem lw_p20 : lw_okq (⟨"EnoughGive$Reader", "take", "(ILEnoughGive$Plan;)Z"⟩, 2) := ⟨⟨by decide +kernel, by decide +kernel⟩, List.mem_of_getElem? (i := 39) (by decide +kernel), List.mem_of_getElem? (i := 749) (by decide +kernel), List.mem_of_getElem? (i := 750) (by decide +kernel)⟩
theorem lw_p21 : lw_okq (⟨"EnoughGive$Reader", "upTo", "(II)Z"⟩, 2) := ⟨⟨by decide +kernel, by decide +kernel⟩, List.mem_of_getElem? (i := 39) (by decide +kernel), List.mem_of_getElem? (i := 753) (by decide +kernel), List.mem_of_getElem? (i := 754) (by decide +kernel)⟩
theorem lw_p22 : lw_okq (⟨"EnoughGive$Reader", "takeSort", "(ILEnoughGive$Sorts;)Z"⟩, 2) := ⟨⟨by decide +kernel, by decide +kernel⟩, List.mem_of_getElem? (i := 39) (by decide +kernel), List.mem_of_getElem? (i := 769) (by decide +kernel), List.mem_of_getElem? (i := 770) (by decide +kernel)⟩
theorem lw_p23 : lw_okq (⟨"EnoughGive$Rest", "failingWays", "(II)J"⟩, 6) := ⟨⟨by decide +kernel, by decide +kernel⟩, List.mem_of_getElem? (i := 317) (by decide +kernel), List.mem_of_getElem? (i := 800) (by decide +kernel), List.mem_of_getElem? (i := 801) (by decide +kernel)⟩
theorem lw_p24 : lw_okq (⟨"EnoughGive$Rest", "lowestAtRest", "(III)I"⟩, 6) := ⟨⟨by decide +kernel, by decide +kernel⟩, List.mem_of_getElem? (i := 317) (by decide +kernel), List.mem_of_getElem? (i := 804) (by decide +kernel), List.mem_of_getElem? (i := 805) (by decide +kernel)⟩
theorem lw_p25 : lw_okq (⟨"EnoughGive$Rest", "isNoneAtRest", "(III)Z"⟩, 6) := ⟨⟨by decide +kernel, by decide +kernel⟩, List.mem_of_getElem? (i := 317) (by decide +kernel), List.mem_of_getElem? (i := 809) (by decide +kernel), List.mem_of_getElem? (i := 810) (by decide +kernel)⟩
def lw_privs_2 : List (MethodName × Nat) := [(⟨"EnoughGive", "playEvening", "(I)V"⟩, 19), (⟨"EnoughGive", "drawnWorth", "(II)I"⟩, 19), (⟨"EnoughGive$Reader", "readNumbers", "(LEnoughGive$Text;I)Z"⟩, 2), (⟨"EnoughGive$Reader", "readNumber", "(LEnoughGive$Text;)I"⟩, 2), (⟨"EnoughGive$Reader", "take", "(ILEnoughGive$Plan;)Z"⟩, 2), (⟨"EnoughGive$Reader", "upTo", "(II)Z"⟩, 2), (⟨"EnoughGive$Reader", "takeSort", "(ILEnoughGive$Sorts;)Z"⟩, 2), (⟨"EnoughGive$Rest", "failingWays", "(II)J"⟩, 6), (⟨"EnoughGive$Rest", "lowestAtRest", "(III)I"⟩, 6), (⟨"EnoughGive$Rest", "isNoneAtRest", "(III)Z"⟩, 6)]
theorem lw_r2 : ∀ q ∈ lw_privs_2, lw_okq q := List.forall_mem_cons.mpr ⟨lw_p16, List.forall_mem_cons.mpr ⟨lw_p17, List.forall_mem_cons.mpr ⟨lw_p18, List.forall_mem_cons.mpr ⟨lw_p19, List.forall_mem_cons.mpr ⟨lw_p20, List.forall_mem_cons.mpr ⟨lw_p21, List.forall_mem_cons.mpr ⟨lw_p22, List.forall_mem_cons.mpr ⟨lw_p23, List.forall_mem_cons.mpr ⟨lw_p24, List.forall_mem_cons.mpr ⟨lw_p25, fun _ h => absurd h List.not_mem_nil⟩⟩⟩⟩⟩⟩⟩⟩⟩⟩
def lw_privs : List (MethodName × Nat) := lw_privs_1 ++ (lw_privs_2)
def lw_tbl : List Cond := k2_sels lw_privs ++ tables_1
theorem lw_privs_ok : ∀ q ∈ lw_privs, lw_okq q := by
  show ∀ q ∈ lw_privs_1 ++ (lw_privs_2), lw_okq q
  exact List.forall_mem_append.mpr ⟨lw_r1, lw_r2⟩
end
section
def RX0 : String := "EnoughGive$Coming"
def TX0 : u_T := fun k => match k with
  | 0 => ("EnoughGive$Coming", "count", "I", false)
  | 1 => ("EnoughGive$Coming", "giver", "[I", true)
  | 2 => ("EnoughGive$Coming", "day", "[I", true)
  | 3 => ("EnoughGive$Coming", "kind", "[I", true)
  | 4 => ("EnoughGive$Coming", "purse", "[I", true)
  | 5 => ("EnoughGive$Coming", "told", "[I", true)
  | 6 => ("EnoughGive$Coming", "greatest", "[I", true)
  | 7 => ("EnoughGive$Coming", "worths", "[I", true)
  | 8 => ("EnoughGive$Coming", "worth", "[I", true)
  | 9 => ("EnoughGive$Coming", "tenths", "[I", true)
  | _ => ("EnoughGive$Coming", "comes", "[I", true)
def tyX0 : Nat → FieldType := fun k => match k with
  | 0 => .int
  | 1 => .array .int
  | 2 => .array .int
  | 3 => .array .int
  | 4 => .array .int
  | 5 => .array .int
  | 6 => .array .int
  | 7 => .array .int
  | 8 => .array .int
  | 9 => .array .int
  | _ => .array .int
theorem nmX0 : ∀ a, a < 11 → ∀ b, b < 11 → a ≠ b → (TX0 a).2.1 ≠ (TX0 b).2.1 := by decide +kernel
theorem tyX0_ok : ∀ k, k < 11 → parseFieldDescriptor (TX0 k).2.2.1 = some (tyX0 k) := by decide +kernel
abbrev cX0_init : ByteArray := prog_2_method_1_code
def yX0_init : MethodName := ⟨RX0, "<init>", "()V"⟩
abbrev cX0_arrange : ByteArray := prog_2_method_2_code
def yX0_arrange : MethodName := ⟨RX0, "arrange", "(LEnoughGive$Plan;I)Z"⟩
abbrev cX0_seat : ByteArray := prog_2_method_3_code
def yX0_seat : MethodName := ⟨RX0, "seat", "(LEnoughGive$Sorts;II)V"⟩
abbrev cX0_placeOf : ByteArray := prog_2_method_4_code
def yX0_placeOf : MethodName := ⟨RX0, "placeOf", "(I)I"⟩
abbrev cX0_comeBy : ByteArray := prog_2_method_5_code
def yX0_comeBy : MethodName := ⟨RX0, "comeBy", "(I)I"⟩
abbrev cX0_allWays : ByteArray := prog_2_method_6_code
def yX0_allWays : MethodName := ⟨RX0, "allWays", "()J"⟩
abbrev cX0_waysOfAbsent : ByteArray := prog_2_method_7_code
def yX0_waysOfAbsent : MethodName := ⟨RX0, "waysOfAbsent", "()J"⟩
abbrev cX0_power : ByteArray := prog_2_method_8_code
def yX0_power : MethodName := ⟨RX0, "power", "(I)J"⟩
abbrev cX0_worthBy : ByteArray := prog_2_method_9_code
def yX0_worthBy : MethodName := ⟨RX0, "worthBy", "(II)I"⟩
def RX1 : String := "EnoughGive$Game"
def TX1 : u_T := fun k => match k with
  | 0 => ("EnoughGive$Game", "plan", "LEnoughGive$Plan;", false)
  | 1 => ("EnoughGive$Game", "coming", "LEnoughGive$Coming;", false)
  | 2 => ("EnoughGive$Game", "shown", "I", false)
  | 3 => ("EnoughGive$Game", "bar", "I", false)
  | 4 => ("EnoughGive$Game", "extra", "I", false)
  | 5 => ("EnoughGive$Game", "richMost", "I", false)
  | 6 => ("EnoughGive$Game", "richBehind", "I", false)
  | 7 => ("EnoughGive$Game", "gift", "[I", true)
  | 8 => ("EnoughGive$Game", "given", "[I", true)
  | 9 => ("EnoughGive$Game", "who", "[I", true)
  | _ => ("EnoughGive$Game", "second", "[I", true)
def tyX1 : Nat → FieldType := fun k => match k with
  | 0 => .object "EnoughGive$Plan"
  | 1 => .object "EnoughGive$Coming"
  | 2 => .int
  | 3 => .int
  | 4 => .int
  | 5 => .int
  | 6 => .int
  | 7 => .array .int
  | 8 => .array .int
  | 9 => .array .int
  | _ => .array .int
theorem nmX1 : ∀ a, a < 11 → ∀ b, b < 11 → a ≠ b → (TX1 a).2.1 ≠ (TX1 b).2.1 := by decide +kernel
theorem tyX1_ok : ∀ k, k < 11 → parseFieldDescriptor (TX1 k).2.2.1 = some (tyX1 k) := by decide +kernel
abbrev cX1_init : ByteArray := prog_3_method_1_code
def yX1_init : MethodName := ⟨RX1, "<init>", "()V"⟩
abbrev cX1_set : ByteArray := prog_3_method_2_code
def yX1_set : MethodName := ⟨RX1, "set", "(LEnoughGive$Plan;LEnoughGive$Coming;I)V"⟩
abbrev cX1_whoCome : ByteArray := prog_3_method_3_code
def yX1_whoCome : MethodName := ⟨RX1, "whoCome", "()LEnoughGive$Coming;"⟩
abbrev cX1_cost : ByteArray := prog_3_method_4_code
def yX1_cost : MethodName := ⟨RX1, "cost", "()I"⟩
abbrev cX1_play : ByteArray := prog_3_method_5_code
def yX1_play : MethodName := ⟨RX1, "play", "(II)V"⟩
abbrev cX1_giftAt : ByteArray := prog_3_method_6_code
def yX1_giftAt : MethodName := ⟨RX1, "giftAt", "(III)I"⟩
abbrev cX1_secondGiftAt : ByteArray := prog_3_method_7_code
def yX1_secondGiftAt : MethodName := ⟨RX1, "secondGiftAt", "(III)I"⟩
abbrev cX1_lackOf : ByteArray := prog_3_method_8_code
def yX1_lackOf : MethodName := ⟨RX1, "lackOf", "(II)I"⟩
abbrev cX1_giftByKind : ByteArray := prog_3_method_9_code
def yX1_giftByKind : MethodName := ⟨RX1, "giftByKind", "(IIII)I"⟩
abbrev cX1_isBuilt : ByteArray := prog_3_method_10_code
def yX1_isBuilt : MethodName := ⟨RX1, "isBuilt", "()Z"⟩
abbrev cX1_isSecondBuilt : ByteArray := prog_3_method_11_code
def yX1_isSecondBuilt : MethodName := ⟨RX1, "isSecondBuilt", "()Z"⟩
abbrev cX1_hasAt : ByteArray := prog_3_method_12_code
def yX1_hasAt : MethodName := ⟨RX1, "hasAt", "(II)I"⟩
def RX2 : String := "EnoughGive$Plan"
def TX2 : u_T := fun k => match k with
  | 0 => ("EnoughGive$Plan", "bar", "I", false)
  | 1 => ("EnoughGive$Plan", "need", "I", false)
  | 2 => ("EnoughGive$Plan", "lastDay", "I", false)
  | 3 => ("EnoughGive$Plan", "cost", "I", false)
  | 4 => ("EnoughGive$Plan", "penny", "I", false)
  | 5 => ("EnoughGive$Plan", "extra", "I", false)
  | 6 => ("EnoughGive$Plan", "extraDay", "I", false)
  | 7 => ("EnoughGive$Plan", "secondBar", "I", false)
  | 8 => ("EnoughGive$Plan", "secondShare", "I", false)
  | 9 => ("EnoughGive$Plan", "parts", "Z", false)
  | _ => ("EnoughGive$Plan", "sorts", "LEnoughGive$Sorts;", true)
def tyX2 : Nat → FieldType := fun k => match k with
  | 0 => .int
  | 1 => .int
  | 2 => .int
  | 3 => .int
  | 4 => .int
  | 5 => .int
  | 6 => .int
  | 7 => .int
  | 8 => .int
  | 9 => .boolean
  | _ => .object "EnoughGive$Sorts"
theorem nmX2 : ∀ a, a < 11 → ∀ b, b < 11 → a ≠ b → (TX2 a).2.1 ≠ (TX2 b).2.1 := by decide +kernel
theorem tyX2_ok : ∀ k, k < 11 → parseFieldDescriptor (TX2 k).2.2.1 = some (tyX2 k) := by decide +kernel
abbrev cX2_init : ByteArray := prog_4_method_1_code
def yX2_init : MethodName := ⟨RX2, "<init>", "()V"⟩
abbrev cX2_clear : ByteArray := prog_4_method_2_code
def yX2_clear : MethodName := ⟨RX2, "clear", "()V"⟩
abbrev cX2_setBar : ByteArray := prog_4_method_3_code
def yX2_setBar : MethodName := ⟨RX2, "setBar", "(II)V"⟩
abbrev cX2_setExtra : ByteArray := prog_4_method_4_code
def yX2_setExtra : MethodName := ⟨RX2, "setExtra", "(II)V"⟩
abbrev cX2_setSecond : ByteArray := prog_4_method_5_code
def yX2_setSecond : MethodName := ⟨RX2, "setSecond", "(II)V"⟩
def RX3 : String := "EnoughGive$Reader"
def TX3 : u_T := fun k => match k with
  | 0 => ("EnoughGive$Reader", "numbers", "[I", true)
  | _ => ("EnoughGive$Reader", "at", "I", false)
def tyX3 : Nat → FieldType := fun k => match k with
  | 0 => .array .int
  | _ => .int
theorem nmX3 : ∀ a, a < 2 → ∀ b, b < 2 → a ≠ b → (TX3 a).2.1 ≠ (TX3 b).2.1 := by decide +kernel
theorem tyX3_ok : ∀ k, k < 2 → parseFieldDescriptor (TX3 k).2.2.1 = some (tyX3 k) := by decide +kernel
abbrev cX3_init : ByteArray := prog_5_method_1_code
def yX3_init : MethodName := ⟨RX3, "<init>", "()V"⟩
abbrev cX3_read : ByteArray := prog_5_method_2_code
def yX3_read : MethodName := ⟨RX3, "read", "(LEnoughGive$Text;LEnoughGive$Plan;)I"⟩
abbrev cX3_numbersOf : ByteArray := prog_5_method_3_code
def yX3_numbersOf : MethodName := ⟨RX3, "numbersOf", "(I)I"⟩
abbrev cX3_readNumbers : ByteArray := prog_5_method_4_code
def yX3_readNumbers : MethodName := ⟨RX3, "readNumbers", "(LEnoughGive$Text;I)Z"⟩
abbrev cX3_readNumber : ByteArray := prog_5_method_5_code
def yX3_readNumber : MethodName := ⟨RX3, "readNumber", "(LEnoughGive$Text;)I"⟩
abbrev cX3_upTo : ByteArray := prog_5_method_6_code
def yX3_upTo : MethodName := ⟨RX3, "upTo", "(II)Z"⟩
abbrev cX3_take : ByteArray := prog_5_method_7_code
def yX3_take : MethodName := ⟨RX3, "take", "(ILEnoughGive$Plan;)Z"⟩
abbrev cX3_takeSort : ByteArray := prog_5_method_8_code
def yX3_takeSort : MethodName := ⟨RX3, "takeSort", "(ILEnoughGive$Sorts;)Z"⟩
def RX4 : String := "EnoughGive$Rest"
def TX4 : u_T := fun k => match k with
  | 0 => ("EnoughGive$Rest", "coming", "LEnoughGive$Coming;", false)
  | 1 => ("EnoughGive$Rest", "bar", "I", false)
  | 2 => ("EnoughGive$Rest", "need", "I", false)
  | 3 => ("EnoughGive$Rest", "penny", "I", false)
  | 4 => ("EnoughGive$Rest", "most", "[I", true)
  | _ => ("EnoughGive$Rest", "table", "[J", true)
def tyX4 : Nat → FieldType := fun k => match k with
  | 0 => .object "EnoughGive$Coming"
  | 1 => .int
  | 2 => .int
  | 3 => .int
  | 4 => .array .int
  | _ => .array .long
theorem nmX4 : ∀ a, a < 6 → ∀ b, b < 6 → a ≠ b → (TX4 a).2.1 ≠ (TX4 b).2.1 := by decide +kernel
theorem tyX4_ok : ∀ k, k < 6 → parseFieldDescriptor (TX4 k).2.2.1 = some (tyX4 k) := by decide +kernel
abbrev cX4_init : ByteArray := prog_6_method_1_code
def yX4_init : MethodName := ⟨RX4, "<init>", "()V"⟩
abbrev cX4_take : ByteArray := prog_6_method_2_code
def yX4_take : MethodName := ⟨RX4, "take", "(LEnoughGive$Plan;LEnoughGive$Coming;)V"⟩
abbrev cX4_clearTable : ByteArray := prog_6_method_3_code
def yX4_clearTable : MethodName := ⟨RX4, "clearTable", "()V"⟩
abbrev cX4_join : ByteArray := prog_6_method_4_code
def yX4_join : MethodName := ⟨RX4, "join", "(IIZII)V"⟩
abbrev cX4_justWays : ByteArray := prog_6_method_5_code
def yX4_justWays : MethodName := ⟨RX4, "justWays", "()J"⟩
abbrev cX4_firstGift : ByteArray := prog_6_method_6_code
def yX4_firstGift : MethodName := ⟨RX4, "firstGift", "(I)I"⟩
abbrev cX4_lowestGift : ByteArray := prog_6_method_7_code
def yX4_lowestGift : MethodName := ⟨RX4, "lowestGift", "(IIII)I"⟩
abbrev cX4_failingWays : ByteArray := prog_6_method_8_code
def yX4_failingWays : MethodName := ⟨RX4, "failingWays", "()J"⟩
abbrev cX4_failingWays_ : ByteArray := prog_6_method_9_code
def yX4_failingWays_ : MethodName := ⟨RX4, "failingWays", "(II)J"⟩
abbrev cX4_lowestAtRest : ByteArray := prog_6_method_10_code
def yX4_lowestAtRest : MethodName := ⟨RX4, "lowestAtRest", "(III)I"⟩
abbrev cX4_isNoneAtRest : ByteArray := prog_6_method_11_code
def yX4_isNoneAtRest : MethodName := ⟨RX4, "isNoneAtRest", "(III)Z"⟩
def RX5 : String := "EnoughGive$Shelf"
def TX5 : u_T := fun k => match k with
  | 0 => ("EnoughGive$Shelf", "count", "I", false)
  | 1 => ("EnoughGive$Shelf", "rows", "[I", true)
  | _ => ("EnoughGive$Shelf", "shown", "[I", true)
def tyX5 : Nat → FieldType := fun k => match k with
  | 0 => .int
  | 1 => .array .int
  | _ => .array .int
theorem nmX5 : ∀ a, a < 3 → ∀ b, b < 3 → a ≠ b → (TX5 a).2.1 ≠ (TX5 b).2.1 := by decide +kernel
theorem tyX5_ok : ∀ k, k < 3 → parseFieldDescriptor (TX5 k).2.2.1 = some (tyX5 k) := by decide +kernel
abbrev cX5_init : ByteArray := prog_7_method_1_code
def yX5_init : MethodName := ⟨RX5, "<init>", "()V"⟩
abbrev cX5_put : ByteArray := prog_7_method_2_code
def yX5_put : MethodName := ⟨RX5, "put", "([II)Z"⟩
abbrev cX5_takeInto : ByteArray := prog_7_method_3_code
def yX5_takeInto : MethodName := ⟨RX5, "takeInto", "([I)I"⟩
def RX6 : String := "EnoughGive$Sorts"
def TX6 : u_T := fun k => match k with
  | 0 => ("EnoughGive$Sorts", "sorts", "I", false)
  | 1 => ("EnoughGive$Sorts", "givers", "I", false)
  | 2 => ("EnoughGive$Sorts", "kind", "[I", true)
  | 3 => ("EnoughGive$Sorts", "purse", "[I", true)
  | 4 => ("EnoughGive$Sorts", "told", "[I", true)
  | 5 => ("EnoughGive$Sorts", "worths", "[I", true)
  | 6 => ("EnoughGive$Sorts", "worth", "[I", true)
  | 7 => ("EnoughGive$Sorts", "tenths", "[I", true)
  | 8 => ("EnoughGive$Sorts", "sort", "[I", true)
  | _ => ("EnoughGive$Sorts", "wouldCome", "[I", true)
def tyX6 : Nat → FieldType := fun k => match k with
  | 0 => .int
  | 1 => .int
  | 2 => .array .int
  | 3 => .array .int
  | 4 => .array .int
  | 5 => .array .int
  | 6 => .array .int
  | 7 => .array .int
  | 8 => .array .int
  | _ => .array .int
theorem nmX6 : ∀ a, a < 10 → ∀ b, b < 10 → a ≠ b → (TX6 a).2.1 ≠ (TX6 b).2.1 := by decide +kernel
theorem tyX6_ok : ∀ k, k < 10 → parseFieldDescriptor (TX6 k).2.2.1 = some (tyX6 k) := by decide +kernel
abbrev cX6_init : ByteArray := prog_8_method_1_code
def yX6_init : MethodName := ⟨RX6, "<init>", "()V"⟩
abbrev cX6_clear : ByteArray := prog_8_method_2_code
def yX6_clear : MethodName := ⟨RX6, "clear", "()V"⟩
abbrev cX6_has : ByteArray := prog_8_method_3_code
def yX6_has : MethodName := ⟨RX6, "has", "(I)Z"⟩
abbrev cX6_add : ByteArray := prog_8_method_4_code
def yX6_add : MethodName := ⟨RX6, "add", "(IIIII)Z"⟩
abbrev cX6_addWorth : ByteArray := prog_8_method_5_code
def yX6_addWorth : MethodName := ⟨RX6, "addWorth", "(III)Z"⟩
abbrev cX6_tell : ByteArray := prog_8_method_6_code
def yX6_tell : MethodName := ⟨RX6, "tell", "(II)Z"⟩
abbrev cX6_areWhole : ByteArray := prog_8_method_7_code
def yX6_areWhole : MethodName := ⟨RX6, "areWhole", "()Z"⟩
abbrev cX6_sortOf : ByteArray := prog_8_method_8_code
def yX6_sortOf : MethodName := ⟨RX6, "sortOf", "(I)I"⟩
def RX7 : String := "EnoughGive$Text"
def TX7 : u_T := fun k => match k with
  | 0 => ("EnoughGive$Text", "bytes", "[I", true)
  | _ => ("EnoughGive$Text", "length", "I", false)
def tyX7 : Nat → FieldType := fun k => match k with
  | 0 => .array .int
  | _ => .int
theorem nmX7 : ∀ a, a < 2 → ∀ b, b < 2 → a ≠ b → (TX7 a).2.1 ≠ (TX7 b).2.1 := by decide +kernel
theorem tyX7_ok : ∀ k, k < 2 → parseFieldDescriptor (TX7 k).2.2.1 = some (tyX7 k) := by decide +kernel
abbrev cX7_init : ByteArray := prog_9_method_1_code
def yX7_init : MethodName := ⟨RX7, "<init>", "()V"⟩
abbrev cX7_put : ByteArray := prog_9_method_2_code
def yX7_put : MethodName := ⟨RX7, "put", "(IJ)Z"⟩
abbrev cX7_byteAt : ByteArray := prog_9_method_3_code
def yX7_byteAt : MethodName := ⟨RX7, "byteAt", "(I)I"⟩
def RX8 : String := "EnoughGive$Ways"
def TX8 : u_T := fun k => match k with
  | 0 => ("EnoughGive$Ways", "built", "J", false)
  | 1 => ("EnoughGive$Ways", "needless", "J", false)
  | 2 => ("EnoughGive$Ways", "missed", "J", false)
  | 3 => ("EnoughGive$Ways", "secondBuilt", "J", false)
  | 4 => ("EnoughGive$Ways", "bothBuilt", "J", false)
  | 5 => ("EnoughGive$Ways", "gives", "[J", true)
  | 6 => ("EnoughGive$Ways", "has", "[J", true)
  | 7 => ("EnoughGive$Ways", "pick", "[I", true)
  | 8 => ("EnoughGive$Ways", "weight", "[J", true)
  | _ => ("EnoughGive$Ways", "together", "[I", true)
def tyX8 : Nat → FieldType := fun k => match k with
  | 0 => .long
  | 1 => .long
  | 2 => .long
  | 3 => .long
  | 4 => .long
  | 5 => .array .long
  | 6 => .array .long
  | 7 => .array .int
  | 8 => .array .long
  | _ => .array .int
theorem nmX8 : ∀ a, a < 10 → ∀ b, b < 10 → a ≠ b → (TX8 a).2.1 ≠ (TX8 b).2.1 := by decide +kernel
theorem tyX8_ok : ∀ k, k < 10 → parseFieldDescriptor (TX8 k).2.2.1 = some (tyX8 k) := by decide +kernel
abbrev cX8_init : ByteArray := prog_10_method_1_code
def yX8_init : MethodName := ⟨RX8, "<init>", "()V"⟩
abbrev cX8_goThrough : ByteArray := prog_10_method_2_code
def yX8_goThrough : MethodName := ⟨RX8, "goThrough", "(LEnoughGive$Game;Z)V"⟩
abbrev cX8_clear : ByteArray := prog_10_method_3_code
def yX8_clear : MethodName := ⟨RX8, "clear", "()V"⟩
abbrev cX8_add : ByteArray := prog_10_method_4_code
def yX8_add : MethodName := ⟨RX8, "add", "(LEnoughGive$Game;I)V"⟩
abbrev cX8_addMeans : ByteArray := prog_10_method_5_code
def yX8_addMeans : MethodName := ⟨RX8, "addMeans", "(LEnoughGive$Game;LEnoughGive$Coming;)V"⟩
abbrev cX8_nextWay : ByteArray := prog_10_method_6_code
def yX8_nextWay : MethodName := ⟨RX8, "nextWay", "(LEnoughGive$Coming;)I"⟩
def RX9 : String := "EnoughGive"
def TX9 : u_T := fun k => match k with
  | 0 => ("EnoughGive", "text", "LEnoughGive$Text;", true)
  | 1 => ("EnoughGive", "reader", "LEnoughGive$Reader;", true)
  | 2 => ("EnoughGive", "plan", "LEnoughGive$Plan;", false)
  | 3 => ("EnoughGive", "draft", "LEnoughGive$Plan;", false)
  | 4 => ("EnoughGive", "coming", "LEnoughGive$Coming;", true)
  | 5 => ("EnoughGive", "otherComing", "LEnoughGive$Coming;", true)
  | 6 => ("EnoughGive", "game", "LEnoughGive$Game;", true)
  | 7 => ("EnoughGive", "standing", "LEnoughGive$Ways;", true)
  | 8 => ("EnoughGive", "trial", "LEnoughGive$Ways;", true)
  | 9 => ("EnoughGive", "rest", "LEnoughGive$Rest;", true)
  | 10 => ("EnoughGive", "told", "[I", true)
  | 11 => ("EnoughGive", "shown", "I", false)
  | 12 => ("EnoughGive", "kept", "LEnoughGive$Shelf;", true)
  | 13 => ("EnoughGive", "standingKnown", "Z", false)
  | 14 => ("EnoughGive", "barKnown", "Z", false)
  | 15 => ("EnoughGive", "failsKnown", "Z", false)
  | 16 => ("EnoughGive", "barFound", "I", false)
  | 17 => ("EnoughGive", "barWrong", "J", false)
  | _ => ("EnoughGive", "failsFound", "J", false)
def tyX9 : Nat → FieldType := fun k => match k with
  | 0 => .object "EnoughGive$Text"
  | 1 => .object "EnoughGive$Reader"
  | 2 => .object "EnoughGive$Plan"
  | 3 => .object "EnoughGive$Plan"
  | 4 => .object "EnoughGive$Coming"
  | 5 => .object "EnoughGive$Coming"
  | 6 => .object "EnoughGive$Game"
  | 7 => .object "EnoughGive$Ways"
  | 8 => .object "EnoughGive$Ways"
  | 9 => .object "EnoughGive$Rest"
  | 10 => .array .int
  | 11 => .int
  | 12 => .object "EnoughGive$Shelf"
  | 13 => .boolean
  | 14 => .boolean
  | 15 => .boolean
  | 16 => .int
  | 17 => .long
  | _ => .long
theorem nmX9 : ∀ a, a < 19 → ∀ b, b < 19 → a ≠ b → (TX9 a).2.1 ≠ (TX9 b).2.1 := by decide +kernel
theorem tyX9_ok : ∀ k, k < 19 → parseFieldDescriptor (TX9 k).2.2.1 = some (tyX9 k) := by decide +kernel
abbrev cX9_init : ByteArray := prog_1_method_1_code
def yX9_init : MethodName := ⟨RX9, "<init>", "()V"⟩
abbrev cX9_write : ByteArray := prog_1_method_2_code
def yX9_write : MethodName := ⟨RX9, "write", "(IJ)I"⟩
abbrev cX9_wipe : ByteArray := prog_1_method_3_code
def yX9_wipe : MethodName := ⟨RX9, "wipe", "()I"⟩
abbrev cX9_fault : ByteArray := prog_1_method_4_code
def yX9_fault : MethodName := ⟨RX9, "fault", "()I"⟩
abbrev cX9_lay : ByteArray := prog_1_method_5_code
def yX9_lay : MethodName := ⟨RX9, "lay", "()I"⟩
abbrev cX9_giver : ByteArray := prog_1_method_6_code
def yX9_giver : MethodName := ⟨RX9, "giver", "(II)I"⟩
abbrev cX9_show : ByteArray := prog_1_method_7_code
def yX9_show : MethodName := ⟨RX9, "show", "(I)I"⟩
abbrev cX9_odds : ByteArray := prog_1_method_8_code
def yX9_odds : MethodName := ⟨RX9, "odds", "(I)J"⟩
abbrev cX9_mean : ByteArray := prog_1_method_9_code
def yX9_mean : MethodName := ⟨RX9, "mean", "(II)J"⟩
abbrev cX9_wrong : ByteArray := prog_1_method_10_code
def yX9_wrong : MethodName := ⟨RX9, "wrong", "(I)J"⟩
abbrev cX9_row : ByteArray := prog_1_method_11_code
def yX9_row : MethodName := ⟨RX9, "row", "(II)I"⟩
abbrev cX9_judge : ByteArray := prog_1_method_12_code
def yX9_judge : MethodName := ⟨RX9, "judge", "()I"⟩
abbrev cX9_made : ByteArray := prog_1_method_13_code
def yX9_made : MethodName := ⟨RX9, "made", "(I)I"⟩
abbrev cX9_just : ByteArray := prog_1_method_14_code
def yX9_just : MethodName := ⟨RX9, "just", "(I)J"⟩
abbrev cX9_fails : ByteArray := prog_1_method_15_code
def yX9_fails : MethodName := ⟨RX9, "fails", "()J"⟩
abbrev cX9_bestBar : ByteArray := prog_1_method_16_code
def yX9_bestBar : MethodName := ⟨RX9, "bestBar", "(I)J"⟩
abbrev cX9_bestDay : ByteArray := prog_1_method_17_code
def yX9_bestDay : MethodName := ⟨RX9, "bestDay", "()I"⟩
abbrev cX9_extra : ByteArray := prog_1_method_18_code
def yX9_extra : MethodName := ⟨RX9, "extra", "(I)I"⟩
abbrev cX9_bestShow : ByteArray := prog_1_method_19_code
def yX9_bestShow : MethodName := ⟨RX9, "bestShow", "()I"⟩
abbrev cX9_rich : ByteArray := prog_1_method_20_code
def yX9_rich : MethodName := ⟨RX9, "rich", "(II)J"⟩
abbrev cX9_richDay : ByteArray := prog_1_method_21_code
def yX9_richDay : MethodName := ⟨RX9, "richDay", "(I)I"⟩
abbrev cX9_two : ByteArray := prog_1_method_22_code
def yX9_two : MethodName := ⟨RX9, "two", "(I)J"⟩
abbrev cX9_evening : ByteArray := prog_1_method_23_code
def yX9_evening : MethodName := ⟨RX9, "evening", "(III)I"⟩
abbrev cX9_whole : ByteArray := prog_1_method_24_code
def yX9_whole : MethodName := ⟨RX9, "whole", "(II)I"⟩
abbrev cX9_keep : ByteArray := prog_1_method_25_code
def yX9_keep : MethodName := ⟨RX9, "keep", "()I"⟩
abbrev cX9_back : ByteArray := prog_1_method_26_code
def yX9_back : MethodName := ⟨RX9, "back", "()I"⟩
abbrev cX9_count : ByteArray := prog_1_method_27_code
def yX9_count : MethodName := ⟨RX9, "count", "(I)I"⟩
abbrev cX9_isWithin : ByteArray := prog_1_method_28_code
def yX9_isWithin : MethodName := ⟨RX9, "isWithin", "(III)Z"⟩
abbrev cX9_isGiver : ByteArray := prog_1_method_29_code
def yX9_isGiver : MethodName := ⟨RX9, "isGiver", "(I)Z"⟩
abbrev cX9_greatestPart : ByteArray := prog_1_method_30_code
def yX9_greatestPart : MethodName := ⟨RX9, "greatestPart", "(JJ)J"⟩
abbrev cX9_forgetWays : ByteArray := prog_1_method_31_code
def yX9_forgetWays : MethodName := ⟨RX9, "forgetWays", "()V"⟩
abbrev cX9_setGame : ByteArray := prog_1_method_32_code
def yX9_setGame : MethodName := ⟨RX9, "setGame", "()V"⟩
abbrev cX9_waysAsTheyStand : ByteArray := prog_1_method_33_code
def yX9_waysAsTheyStand : MethodName := ⟨RX9, "waysAsTheyStand", "()LEnoughGive$Ways;"⟩
abbrev cX9_findBestBar : ByteArray := prog_1_method_34_code
def yX9_findBestBar : MethodName := ⟨RX9, "findBestBar", "()V"⟩
abbrev cX9_richWays : ByteArray := prog_1_method_35_code
def yX9_richWays : MethodName := ⟨RX9, "richWays", "(II)J"⟩
abbrev cX9_playEvening : ByteArray := prog_1_method_36_code
def yX9_playEvening : MethodName := ⟨RX9, "playEvening", "(I)V"⟩
abbrev cX9_drawnWorth : ByteArray := prog_1_method_37_code
def yX9_drawnWorth : MethodName := ⟨RX9, "drawnWorth", "(II)I"⟩
def RX10 : String := "EnoughGiveModel"
def TX10 : u_T := fun k => match k with
  | _ => ("", "", "", false)
def tyX10 : Nat → FieldType := fun k => match k with
  | _ => .int
theorem nmX10 : ∀ a, a < 0 → ∀ b, b < 0 → a ≠ b → (TX10 a).2.1 ≠ (TX10 b).2.1 := by decide +kernel
theorem tyX10_ok : ∀ k, k < 0 → parseFieldDescriptor (TX10 k).2.2.1 = some (tyX10 k) := by decide +kernel
def RJ9 : String := "java/lang/Math"
abbrev cJ9_max_7cf53 : ByteArray := prog_13_method_65_code
def yJ9_max_7cf53 : MethodName := ⟨RJ9, "max", "(II)I"⟩
abbrev cJ9_min_7cf53 : ByteArray := prog_13_method_69_code
def yJ9_min_7cf53 : MethodName := ⟨RJ9, "min", "(II)I"⟩
def RJ10 : String := "java/lang/System"
def RJ7 : String := "java/util/Arrays"
abbrev cJ7_fill_d0a16 : ByteArray := prog_15_method_101_code
def yJ7_fill_d0a16 : MethodName := ⟨RJ7, "fill", "([JJ)V"⟩
abbrev cJ7_fill_53178 : ByteArray := prog_15_method_103_code
def yJ7_fill_53178 : MethodName := ⟨RJ7, "fill", "([II)V"⟩
def RL : String := "EnoughGiveLaw"
abbrev cL_cell : ByteArray := method_2_code
def yL_cell : MethodName := ⟨RL, "cell", "([II)I"⟩
abbrev cL_some : ByteArray := method_3_code
def yL_some : MethodName := ⟨RL, "some", "(II)I"⟩
abbrev cL_number : ByteArray := method_4_code
def yL_number : MethodName := ⟨RL, "number", "(LEnoughGive;II)Z"⟩
abbrev cL_item : ByteArray := method_5_code
def yL_item : MethodName := ⟨RL, "item", "(LEnoughGive;IIIIIII)Z"⟩
abbrev cL_board : ByteArray := method_6_code
def yL_board : MethodName := ⟨RL, "board", "(LEnoughGive;[II[I[I)Z"⟩
abbrev cL_act : ByteArray := method_15_code
def yL_act : MethodName := ⟨RL, "act", "(LEnoughGive;IIII)J"⟩
abbrev cL_law : ByteArray := code
def yL_law : MethodName := ⟨RL, "law", "([I)Z"⟩
abbrev vwCl : List vw_C := [(RX0, TX0, 11), (RX1, TX1, 11), (RX2, TX2, 11), (RX3, TX3, 2), (RX4, TX4, 6), (RX5, TX5, 3), (RX6, TX6, 10), (RX7, TX7, 2), (RX8, TX8, 10), (RX9, TX9, 19)]
end
section
theorem dJ7_fill_d0a16_0 : decode cJ7_fill_d0a16 0 = .ok (.iconst 0, 1) := by decide +kernel
theorem dJ7_fill_d0a16_1 : decode cJ7_fill_d0a16 1 = .ok (.istore_n 3, 1) := by decide +kernel
theorem dJ7_fill_d0a16_2 : decode cJ7_fill_d0a16 2 = .ok (.aload_n 0, 1) := by decide +kernel
theorem dJ7_fill_d0a16_3 : decode cJ7_fill_d0a16 3 = .ok (.arraylength, 1) := by decide +kernel
theorem dJ7_fill_d0a16_4 : decode cJ7_fill_d0a16 4 = .ok (.istore 4, 2) := by decide +kernel
theorem dJ7_fill_d0a16_6 : decode cJ7_fill_d0a16 6 = .ok (.iload_n 3, 1) := by decide +kernel
theorem dJ7_fill_d0a16_7 : decode cJ7_fill_d0a16 7 = .ok (.iload 4, 2) := by decide +kernel
theorem dJ7_fill_d0a16_9 : decode cJ7_fill_d0a16 9 = .ok (.if_icmp .ge 13, 3) := by decide +kernel
theorem dJ7_fill_d0a16_12 : decode cJ7_fill_d0a16 12 = .ok (.aload_n 0, 1) := by decide +kernel
theorem dJ7_fill_d0a16_13 : decode cJ7_fill_d0a16 13 = .ok (.iload_n 3, 1) := by decide +kernel
theorem dJ7_fill_d0a16_14 : decode cJ7_fill_d0a16 14 = .ok (.lload_n 1, 1) := by decide +kernel
theorem dJ7_fill_d0a16_15 : decode cJ7_fill_d0a16 15 = .ok (.lastore, 1) := by decide +kernel
theorem dJ7_fill_d0a16_16 : decode cJ7_fill_d0a16 16 = .ok (.iinc 3 1, 3) := by decide +kernel
theorem dJ7_fill_d0a16_19 : decode cJ7_fill_d0a16 19 = .ok (.goto (-13), 3) := by decide +kernel
theorem dJ7_fill_d0a16_22 : decode cJ7_fill_d0a16 22 = .ok (.return_, 1) := by decide +kernel
theorem dJ7_fill_53178_0 : decode cJ7_fill_53178 0 = .ok (.iconst 0, 1) := by decide +kernel
theorem dJ7_fill_53178_1 : decode cJ7_fill_53178 1 = .ok (.istore_n 2, 1) := by decide +kernel
theorem dJ7_fill_53178_2 : decode cJ7_fill_53178 2 = .ok (.aload_n 0, 1) := by decide +kernel
theorem dJ7_fill_53178_3 : decode cJ7_fill_53178 3 = .ok (.arraylength, 1) := by decide +kernel
theorem dJ7_fill_53178_4 : decode cJ7_fill_53178 4 = .ok (.istore_n 3, 1) := by decide +kernel
theorem dJ7_fill_53178_5 : decode cJ7_fill_53178 5 = .ok (.iload_n 2, 1) := by decide +kernel
theorem dJ7_fill_53178_6 : decode cJ7_fill_53178 6 = .ok (.iload_n 3, 1) := by decide +kernel
theorem dJ7_fill_53178_7 : decode cJ7_fill_53178 7 = .ok (.if_icmp .ge 13, 3) := by decide +kernel
theorem dJ7_fill_53178_10 : decode cJ7_fill_53178 10 = .ok (.aload_n 0, 1) := by decide +kernel
theorem dJ7_fill_53178_11 : decode cJ7_fill_53178 11 = .ok (.iload_n 2, 1) := by decide +kernel
theorem dJ7_fill_53178_12 : decode cJ7_fill_53178 12 = .ok (.iload_n 1, 1) := by decide +kernel
theorem dJ7_fill_53178_13 : decode cJ7_fill_53178 13 = .ok (.iastore, 1) := by decide +kernel
theorem dJ7_fill_53178_14 : decode cJ7_fill_53178 14 = .ok (.iinc 2 1, 3) := by decide +kernel
theorem dJ7_fill_53178_17 : decode cJ7_fill_53178 17 = .ok (.goto (-12), 3) := by decide +kernel
theorem dJ7_fill_53178_20 : decode cJ7_fill_53178 20 = .ok (.return_, 1) := by decide +kernel
theorem dJ9_max_7cf53_0 : decode cJ9_max_7cf53 0 = .ok (.iload_n 0, 1) := by decide +kernel
theorem dJ9_max_7cf53_1 : decode cJ9_max_7cf53 1 = .ok (.iload_n 1, 1) := by decide +kernel
theorem dJ9_max_7cf53_2 : decode cJ9_max_7cf53 2 = .ok (.if_icmp .lt 7, 3) := by decide +kernel
theorem dJ9_max_7cf53_5 : decode cJ9_max_7cf53 5 = .ok (.iload_n 0, 1) := by decide +kernel
theorem dJ9_max_7cf53_6 : decode cJ9_max_7cf53 6 = .ok (.goto 4, 3) := by decide +kernel
theorem dJ9_max_7cf53_9 : decode cJ9_max_7cf53 9 = .ok (.iload_n 1, 1) := by decide +kernel
theorem dJ9_max_7cf53_10 : decode cJ9_max_7cf53 10 = .ok (.ireturn, 1) := by decide +kernel
theorem dJ9_min_7cf53_0 : decode cJ9_min_7cf53 0 = .ok (.iload_n 0, 1) := by decide +kernel
theorem dJ9_min_7cf53_1 : decode cJ9_min_7cf53 1 = .ok (.iload_n 1, 1) := by decide +kernel
theorem dJ9_min_7cf53_2 : decode cJ9_min_7cf53 2 = .ok (.if_icmp .gt 7, 3) := by decide +kernel
theorem dJ9_min_7cf53_5 : decode cJ9_min_7cf53 5 = .ok (.iload_n 0, 1) := by decide +kernel
theorem dJ9_min_7cf53_6 : decode cJ9_min_7cf53 6 = .ok (.goto 4, 3) := by decide +kernel
theorem dJ9_min_7cf53_9 : decode cJ9_min_7cf53 9 = .ok (.iload_n 1, 1) := by decide +kernel
theorem dJ9_min_7cf53_10 : decode cJ9_min_7cf53 10 = .ok (.ireturn, 1) := by decide +kernel
theorem dX0_init_0 : decode cX0_init 0 = .ok (.aload_n 0, 1) := by decide +kernel
theorem dX0_init_1 : decode cX0_init 1 = .ok (.invokespecial 3, 3) := by decide +kernel
theorem dX0_init_4 : decode cX0_init 4 = .ok (.aload_n 0, 1) := by decide +kernel
theorem dX0_init_5 : decode cX0_init 5 = .ok (.bipush 8, 2) := by decide +kernel
theorem dX0_init_7 : decode cX0_init 7 = .ok (.newarray .int, 2) := by decide +kernel
theorem dX0_init_9 : decode cX0_init 9 = .ok (.putfield 11, 3) := by decide +kernel
theorem dX0_init_12 : decode cX0_init 12 = .ok (.aload_n 0, 1) := by decide +kernel
theorem dX0_init_13 : decode cX0_init 13 = .ok (.bipush 8, 2) := by decide +kernel
theorem dX0_init_15 : decode cX0_init 15 = .ok (.newarray .int, 2) := by decide +kernel
theorem dX0_init_17 : decode cX0_init 17 = .ok (.putfield 17, 3) := by decide +kernel
theorem dX0_init_20 : decode cX0_init 20 = .ok (.aload_n 0, 1) := by decide +kernel
theorem dX0_init_21 : decode cX0_init 21 = .ok (.bipush 8, 2) := by decide +kernel
theorem dX0_init_23 : decode cX0_init 23 = .ok (.newarray .int, 2) := by decide +kernel
theorem dX0_init_25 : decode cX0_init 25 = .ok (.putfield 20, 3) := by decide +kernel
theorem dX0_init_28 : decode cX0_init 28 = .ok (.aload_n 0, 1) := by decide +kernel
theorem dX0_init_29 : decode cX0_init 29 = .ok (.bipush 8, 2) := by decide +kernel
theorem dX0_init_31 : decode cX0_init 31 = .ok (.newarray .int, 2) := by decide +kernel
theorem dX0_init_33 : decode cX0_init 33 = .ok (.putfield 23, 3) := by decide +kernel
theorem dX0_init_36 : decode cX0_init 36 = .ok (.aload_n 0, 1) := by decide +kernel
theorem dX0_init_37 : decode cX0_init 37 = .ok (.bipush 8, 2) := by decide +kernel
theorem dX0_init_39 : decode cX0_init 39 = .ok (.newarray .int, 2) := by decide +kernel
theorem dX0_init_41 : decode cX0_init 41 = .ok (.putfield 26, 3) := by decide +kernel
theorem dX0_init_44 : decode cX0_init 44 = .ok (.aload_n 0, 1) := by decide +kernel
theorem dX0_init_45 : decode cX0_init 45 = .ok (.bipush 8, 2) := by decide +kernel
theorem dX0_init_47 : decode cX0_init 47 = .ok (.newarray .int, 2) := by decide +kernel
theorem dX0_init_49 : decode cX0_init 49 = .ok (.putfield 29, 3) := by decide +kernel
theorem dX0_init_52 : decode cX0_init 52 = .ok (.aload_n 0, 1) := by decide +kernel
theorem dX0_init_53 : decode cX0_init 53 = .ok (.bipush 8, 2) := by decide +kernel
theorem dX0_init_55 : decode cX0_init 55 = .ok (.newarray .int, 2) := by decide +kernel
theorem dX0_init_57 : decode cX0_init 57 = .ok (.putfield 32, 3) := by decide +kernel
theorem dX0_init_60 : decode cX0_init 60 = .ok (.aload_n 0, 1) := by decide +kernel
theorem dX0_init_61 : decode cX0_init 61 = .ok (.bipush 24, 2) := by decide +kernel
theorem dX0_init_63 : decode cX0_init 63 = .ok (.newarray .int, 2) := by decide +kernel
theorem dX0_init_65 : decode cX0_init 65 = .ok (.putfield 35, 3) := by decide +kernel
theorem dX0_init_68 : decode cX0_init 68 = .ok (.aload_n 0, 1) := by decide +kernel
theorem dX0_init_69 : decode cX0_init 69 = .ok (.bipush 24, 2) := by decide +kernel
theorem dX0_init_71 : decode cX0_init 71 = .ok (.newarray .int, 2) := by decide +kernel
theorem dX0_init_73 : decode cX0_init 73 = .ok (.putfield 38, 3) := by decide +kernel
theorem dX0_init_76 : decode cX0_init 76 = .ok (.aload_n 0, 1) := by decide +kernel
theorem dX0_init_77 : decode cX0_init 77 = .ok (.bipush 8, 2) := by decide +kernel
theorem dX0_init_79 : decode cX0_init 79 = .ok (.newarray .int, 2) := by decide +kernel
theorem dX0_init_81 : decode cX0_init 81 = .ok (.putfield 41, 3) := by decide +kernel
theorem dX0_init_84 : decode cX0_init 84 = .ok (.return_, 1) := by decide +kernel
theorem dX0_arrange_0 : decode cX0_arrange 0 = .ok (.aload_n 1, 1) := by decide +kernel
theorem dX0_arrange_1 : decode cX0_arrange 1 = .ok (.getfield 44, 3) := by decide +kernel
theorem dX0_arrange_4 : decode cX0_arrange 4 = .ok (.astore_n 3, 1) := by decide +kernel
theorem dX0_arrange_5 : decode cX0_arrange 5 = .ok (.iconst 0, 1) := by decide +kernel
theorem dX0_arrange_6 : decode cX0_arrange 6 = .ok (.istore 4, 2) := by decide +kernel
theorem dX0_arrange_8 : decode cX0_arrange 8 = .ok (.iload 4, 2) := by decide +kernel
theorem dX0_arrange_10 : decode cX0_arrange 10 = .ok (.aload_n 3, 1) := by decide +kernel
theorem dX0_arrange_11 : decode cX0_arrange 11 = .ok (.getfield 50, 3) := by decide +kernel
theorem dX0_arrange_14 : decode cX0_arrange 14 = .ok (.if_icmp .ge 78, 3) := by decide +kernel
theorem dX0_arrange_17 : decode cX0_arrange 17 = .ok (.aload_n 3, 1) := by decide +kernel
theorem dX0_arrange_18 : decode cX0_arrange 18 = .ok (.getfield 54, 3) := by decide +kernel
theorem dX0_arrange_21 : decode cX0_arrange 21 = .ok (.aload_n 3, 1) := by decide +kernel
theorem dX0_arrange_22 : decode cX0_arrange 22 = .ok (.getfield 55, 3) := by decide +kernel
theorem dX0_arrange_25 : decode cX0_arrange 25 = .ok (.iload 4, 2) := by decide +kernel
theorem dX0_arrange_27 : decode cX0_arrange 27 = .ok (.iaload, 1) := by decide +kernel
theorem dX0_arrange_28 : decode cX0_arrange 28 = .ok (.iaload, 1) := by decide +kernel
theorem dX0_arrange_29 : decode cX0_arrange 29 = .ok (.iconst 4, 1) := by decide +kernel
theorem dX0_arrange_30 : decode cX0_arrange 30 = .ok (.if_icmp .ne 7, 3) := by decide +kernel
theorem dX0_arrange_33 : decode cX0_arrange 33 = .ok (.iconst 1, 1) := by decide +kernel
theorem dX0_arrange_34 : decode cX0_arrange 34 = .ok (.goto 4, 3) := by decide +kernel
theorem dX0_arrange_37 : decode cX0_arrange 37 = .ok (.iconst 0, 1) := by decide +kernel
theorem dX0_arrange_38 : decode cX0_arrange 38 = .ok (.istore 5, 2) := by decide +kernel
theorem dX0_arrange_40 : decode cX0_arrange 40 = .ok (.iload 5, 2) := by decide +kernel
theorem dX0_arrange_42 : decode cX0_arrange 42 = .ok (.ifCond .eq 14, 3) := by decide +kernel
theorem dX0_arrange_45 : decode cX0_arrange 45 = .ok (.aload_n 0, 1) := by decide +kernel
theorem dX0_arrange_46 : decode cX0_arrange 46 = .ok (.getfield 41, 3) := by decide +kernel
theorem dX0_arrange_49 : decode cX0_arrange 49 = .ok (.iload 4, 2) := by decide +kernel
theorem dX0_arrange_51 : decode cX0_arrange 51 = .ok (.iload_n 2, 1) := by decide +kernel
theorem dX0_arrange_52 : decode cX0_arrange 52 = .ok (.iastore, 1) := by decide +kernel
theorem dX0_arrange_53 : decode cX0_arrange 53 = .ok (.goto 33, 3) := by decide +kernel
theorem dX0_arrange_56 : decode cX0_arrange 56 = .ok (.aload_n 0, 1) := by decide +kernel
theorem dX0_arrange_57 : decode cX0_arrange 57 = .ok (.getfield 41, 3) := by decide +kernel
theorem dX0_arrange_60 : decode cX0_arrange 60 = .ok (.iload 4, 2) := by decide +kernel
theorem dX0_arrange_62 : decode cX0_arrange 62 = .ok (.aload_n 3, 1) := by decide +kernel
theorem dX0_arrange_63 : decode cX0_arrange 63 = .ok (.getfield 58, 3) := by decide +kernel
theorem dX0_arrange_66 : decode cX0_arrange 66 = .ok (.iload 4, 2) := by decide +kernel
theorem dX0_arrange_68 : decode cX0_arrange 68 = .ok (.iaload, 1) := by decide +kernel
theorem dX0_arrange_69 : decode cX0_arrange 69 = .ok (.iload_n 2, 1) := by decide +kernel
theorem dX0_arrange_70 : decode cX0_arrange 70 = .ok (.if_icmp .gt 13, 3) := by decide +kernel
theorem dX0_arrange_73 : decode cX0_arrange 73 = .ok (.aload_n 3, 1) := by decide +kernel
theorem dX0_arrange_74 : decode cX0_arrange 74 = .ok (.getfield 58, 3) := by decide +kernel
theorem dX0_arrange_77 : decode cX0_arrange 77 = .ok (.iload 4, 2) := by decide +kernel
theorem dX0_arrange_79 : decode cX0_arrange 79 = .ok (.iaload, 1) := by decide +kernel
theorem dX0_arrange_80 : decode cX0_arrange 80 = .ok (.goto 5, 3) := by decide +kernel
theorem dX0_arrange_83 : decode cX0_arrange 83 = .ok (.bipush (-4), 2) := by decide +kernel
theorem dX0_arrange_85 : decode cX0_arrange 85 = .ok (.iastore, 1) := by decide +kernel
theorem dX0_arrange_86 : decode cX0_arrange 86 = .ok (.iinc 4 1, 3) := by decide +kernel
theorem dX0_arrange_89 : decode cX0_arrange 89 = .ok (.goto (-81), 3) := by decide +kernel
theorem dX0_arrange_92 : decode cX0_arrange 92 = .ok (.aload_n 0, 1) := by decide +kernel
theorem dX0_arrange_93 : decode cX0_arrange 93 = .ok (.getfield 61, 3) := by decide +kernel
theorem dX0_arrange_96 : decode cX0_arrange 96 = .ok (.istore 4, 2) := by decide +kernel
theorem dX0_arrange_98 : decode cX0_arrange 98 = .ok (.aload_n 0, 1) := by decide +kernel
theorem dX0_arrange_99 : decode cX0_arrange 99 = .ok (.iconst 0, 1) := by decide +kernel
theorem dX0_arrange_100 : decode cX0_arrange 100 = .ok (.putfield 61, 3) := by decide +kernel
theorem dX0_arrange_103 : decode cX0_arrange 103 = .ok (.iconst 0, 1) := by decide +kernel
theorem dX0_arrange_104 : decode cX0_arrange 104 = .ok (.istore 5, 2) := by decide +kernel
theorem dX0_arrange_106 : decode cX0_arrange 106 = .ok (.iconst 0, 1) := by decide +kernel
theorem dX0_arrange_107 : decode cX0_arrange 107 = .ok (.istore 6, 2) := by decide +kernel
theorem dX0_arrange_109 : decode cX0_arrange 109 = .ok (.iload 6, 2) := by decide +kernel
theorem dX0_arrange_111 : decode cX0_arrange 111 = .ok (.iload_n 2, 1) := by decide +kernel
theorem dX0_arrange_112 : decode cX0_arrange 112 = .ok (.if_icmp .gt 86, 3) := by decide +kernel
theorem dX0_arrange_115 : decode cX0_arrange 115 = .ok (.iconst 0, 1) := by decide +kernel
theorem dX0_arrange_116 : decode cX0_arrange 116 = .ok (.istore 7, 2) := by decide +kernel
theorem dX0_arrange_118 : decode cX0_arrange 118 = .ok (.iload 7, 2) := by decide +kernel
theorem dX0_arrange_120 : decode cX0_arrange 120 = .ok (.aload_n 3, 1) := by decide +kernel
theorem dX0_arrange_121 : decode cX0_arrange 121 = .ok (.getfield 50, 3) := by decide +kernel
theorem dX0_arrange_124 : decode cX0_arrange 124 = .ok (.if_icmp .ge 68, 3) := by decide +kernel
theorem dX0_arrange_127 : decode cX0_arrange 127 = .ok (.aload_n 0, 1) := by decide +kernel
theorem dX0_arrange_128 : decode cX0_arrange 128 = .ok (.getfield 41, 3) := by decide +kernel
theorem dX0_arrange_131 : decode cX0_arrange 131 = .ok (.iload 7, 2) := by decide +kernel
theorem dX0_arrange_133 : decode cX0_arrange 133 = .ok (.iaload, 1) := by decide +kernel
theorem dX0_arrange_134 : decode cX0_arrange 134 = .ok (.iload 6, 2) := by decide +kernel
theorem dX0_arrange_136 : decode cX0_arrange 136 = .ok (.if_icmp .ne 50, 3) := by decide +kernel
theorem dX0_arrange_139 : decode cX0_arrange 139 = .ok (.aload_n 0, 1) := by decide +kernel
theorem dX0_arrange_140 : decode cX0_arrange 140 = .ok (.getfield 61, 3) := by decide +kernel
theorem dX0_arrange_143 : decode cX0_arrange 143 = .ok (.bipush 8, 2) := by decide +kernel
theorem dX0_arrange_145 : decode cX0_arrange 145 = .ok (.if_icmp .lt 6, 3) := by decide +kernel
theorem dX0_arrange_148 : decode cX0_arrange 148 = .ok (.goto 38, 3) := by decide +kernel
theorem dX0_arrange_151 : decode cX0_arrange 151 = .ok (.aload_n 0, 1) := by decide +kernel
theorem dX0_arrange_152 : decode cX0_arrange 152 = .ok (.getfield 61, 3) := by decide +kernel
theorem dX0_arrange_155 : decode cX0_arrange 155 = .ok (.iload 4, 2) := by decide +kernel
theorem dX0_arrange_157 : decode cX0_arrange 157 = .ok (.if_icmp .ge 17, 3) := by decide +kernel
theorem dX0_arrange_160 : decode cX0_arrange 160 = .ok (.aload_n 0, 1) := by decide +kernel
theorem dX0_arrange_161 : decode cX0_arrange 161 = .ok (.getfield 11, 3) := by decide +kernel
theorem dX0_arrange_164 : decode cX0_arrange 164 = .ok (.aload_n 0, 1) := by decide +kernel
theorem dX0_arrange_165 : decode cX0_arrange 165 = .ok (.getfield 61, 3) := by decide +kernel
theorem dX0_arrange_168 : decode cX0_arrange 168 = .ok (.iaload, 1) := by decide +kernel
theorem dX0_arrange_169 : decode cX0_arrange 169 = .ok (.iload 7, 2) := by decide +kernel
theorem dX0_arrange_171 : decode cX0_arrange 171 = .ok (.if_icmp .eq 6, 3) := by decide +kernel
theorem dX0_arrange_174 : decode cX0_arrange 174 = .ok (.iconst 1, 1) := by decide +kernel
theorem dX0_arrange_175 : decode cX0_arrange 175 = .ok (.istore 5, 2) := by decide +kernel
theorem dX0_arrange_177 : decode cX0_arrange 177 = .ok (.aload_n 0, 1) := by decide +kernel
theorem dX0_arrange_178 : decode cX0_arrange 178 = .ok (.aload_n 3, 1) := by decide +kernel
theorem dX0_arrange_179 : decode cX0_arrange 179 = .ok (.iload 7, 2) := by decide +kernel
theorem dX0_arrange_181 : decode cX0_arrange 181 = .ok (.iload 6, 2) := by decide +kernel
theorem dX0_arrange_183 : decode cX0_arrange 183 = .ok (.invokevirtual 64, 3) := by decide +kernel
theorem dX0_arrange_186 : decode cX0_arrange 186 = .ok (.iinc 7 1, 3) := by decide +kernel
theorem dX0_arrange_189 : decode cX0_arrange 189 = .ok (.goto (-71), 3) := by decide +kernel
theorem dX0_arrange_192 : decode cX0_arrange 192 = .ok (.iinc 6 1, 3) := by decide +kernel
theorem dX0_arrange_195 : decode cX0_arrange 195 = .ok (.goto (-86), 3) := by decide +kernel
theorem dX0_arrange_198 : decode cX0_arrange 198 = .ok (.iload 5, 2) := by decide +kernel
theorem dX0_arrange_200 : decode cX0_arrange 200 = .ok (.ifCond .ne 12, 3) := by decide +kernel
theorem dX0_arrange_203 : decode cX0_arrange 203 = .ok (.aload_n 0, 1) := by decide +kernel
theorem dX0_arrange_204 : decode cX0_arrange 204 = .ok (.getfield 61, 3) := by decide +kernel
theorem dX0_arrange_207 : decode cX0_arrange 207 = .ok (.iload 4, 2) := by decide +kernel
theorem dX0_arrange_209 : decode cX0_arrange 209 = .ok (.if_icmp .eq 7, 3) := by decide +kernel
theorem dX0_arrange_212 : decode cX0_arrange 212 = .ok (.iconst 1, 1) := by decide +kernel
theorem dX0_arrange_213 : decode cX0_arrange 213 = .ok (.goto 4, 3) := by decide +kernel
theorem dX0_arrange_216 : decode cX0_arrange 216 = .ok (.iconst 0, 1) := by decide +kernel
theorem dX0_arrange_217 : decode cX0_arrange 217 = .ok (.ireturn, 1) := by decide +kernel
theorem dX0_seat_0 : decode cX0_seat 0 = .ok (.aload_n 1, 1) := by decide +kernel
theorem dX0_seat_1 : decode cX0_seat 1 = .ok (.iload_n 2, 1) := by decide +kernel
theorem dX0_seat_2 : decode cX0_seat 2 = .ok (.invokevirtual 68, 3) := by decide +kernel
theorem dX0_seat_5 : decode cX0_seat 5 = .ok (.istore 4, 2) := by decide +kernel
theorem dX0_seat_7 : decode cX0_seat 7 = .ok (.aload_n 0, 1) := by decide +kernel
theorem dX0_seat_8 : decode cX0_seat 8 = .ok (.getfield 11, 3) := by decide +kernel
theorem dX0_seat_11 : decode cX0_seat 11 = .ok (.aload_n 0, 1) := by decide +kernel
theorem dX0_seat_12 : decode cX0_seat 12 = .ok (.getfield 61, 3) := by decide +kernel
theorem dX0_seat_15 : decode cX0_seat 15 = .ok (.iload_n 2, 1) := by decide +kernel
theorem dX0_seat_16 : decode cX0_seat 16 = .ok (.iastore, 1) := by decide +kernel
theorem dX0_seat_17 : decode cX0_seat 17 = .ok (.aload_n 0, 1) := by decide +kernel
theorem dX0_seat_18 : decode cX0_seat 18 = .ok (.getfield 17, 3) := by decide +kernel
theorem dX0_seat_21 : decode cX0_seat 21 = .ok (.aload_n 0, 1) := by decide +kernel
theorem dX0_seat_22 : decode cX0_seat 22 = .ok (.getfield 61, 3) := by decide +kernel
theorem dX0_seat_25 : decode cX0_seat 25 = .ok (.iload_n 3, 1) := by decide +kernel
theorem dX0_seat_26 : decode cX0_seat 26 = .ok (.iastore, 1) := by decide +kernel
theorem dX0_seat_27 : decode cX0_seat 27 = .ok (.aload_n 0, 1) := by decide +kernel
theorem dX0_seat_28 : decode cX0_seat 28 = .ok (.getfield 20, 3) := by decide +kernel
theorem dX0_seat_31 : decode cX0_seat 31 = .ok (.aload_n 0, 1) := by decide +kernel
theorem dX0_seat_32 : decode cX0_seat 32 = .ok (.getfield 61, 3) := by decide +kernel
theorem dX0_seat_35 : decode cX0_seat 35 = .ok (.aload_n 1, 1) := by decide +kernel
theorem dX0_seat_36 : decode cX0_seat 36 = .ok (.getfield 54, 3) := by decide +kernel
theorem dX0_seat_39 : decode cX0_seat 39 = .ok (.iload 4, 2) := by decide +kernel
theorem dX0_seat_41 : decode cX0_seat 41 = .ok (.iaload, 1) := by decide +kernel
theorem dX0_seat_42 : decode cX0_seat 42 = .ok (.iastore, 1) := by decide +kernel
theorem dX0_seat_43 : decode cX0_seat 43 = .ok (.aload_n 0, 1) := by decide +kernel
theorem dX0_seat_44 : decode cX0_seat 44 = .ok (.getfield 23, 3) := by decide +kernel
theorem dX0_seat_47 : decode cX0_seat 47 = .ok (.aload_n 0, 1) := by decide +kernel
theorem dX0_seat_48 : decode cX0_seat 48 = .ok (.getfield 61, 3) := by decide +kernel
theorem dX0_seat_51 : decode cX0_seat 51 = .ok (.aload_n 1, 1) := by decide +kernel
theorem dX0_seat_52 : decode cX0_seat 52 = .ok (.getfield 72, 3) := by decide +kernel
theorem dX0_seat_55 : decode cX0_seat 55 = .ok (.iload 4, 2) := by decide +kernel
theorem dX0_seat_57 : decode cX0_seat 57 = .ok (.iaload, 1) := by decide +kernel
theorem dX0_seat_58 : decode cX0_seat 58 = .ok (.iastore, 1) := by decide +kernel
theorem dX0_seat_59 : decode cX0_seat 59 = .ok (.aload_n 0, 1) := by decide +kernel
theorem dX0_seat_60 : decode cX0_seat 60 = .ok (.getfield 26, 3) := by decide +kernel
theorem dX0_seat_63 : decode cX0_seat 63 = .ok (.aload_n 0, 1) := by decide +kernel
theorem dX0_seat_64 : decode cX0_seat 64 = .ok (.getfield 61, 3) := by decide +kernel
theorem dX0_seat_67 : decode cX0_seat 67 = .ok (.aload_n 1, 1) := by decide +kernel
theorem dX0_seat_68 : decode cX0_seat 68 = .ok (.getfield 73, 3) := by decide +kernel
theorem dX0_seat_71 : decode cX0_seat 71 = .ok (.iload 4, 2) := by decide +kernel
theorem dX0_seat_73 : decode cX0_seat 73 = .ok (.iaload, 1) := by decide +kernel
theorem dX0_seat_74 : decode cX0_seat 74 = .ok (.iastore, 1) := by decide +kernel
theorem dX0_seat_75 : decode cX0_seat 75 = .ok (.aload_n 0, 1) := by decide +kernel
theorem dX0_seat_76 : decode cX0_seat 76 = .ok (.getfield 32, 3) := by decide +kernel
theorem dX0_seat_79 : decode cX0_seat 79 = .ok (.aload_n 0, 1) := by decide +kernel
theorem dX0_seat_80 : decode cX0_seat 80 = .ok (.getfield 61, 3) := by decide +kernel
theorem dX0_seat_83 : decode cX0_seat 83 = .ok (.aload_n 1, 1) := by decide +kernel
theorem dX0_seat_84 : decode cX0_seat 84 = .ok (.getfield 74, 3) := by decide +kernel
theorem dX0_seat_87 : decode cX0_seat 87 = .ok (.iload 4, 2) := by decide +kernel
theorem dX0_seat_89 : decode cX0_seat 89 = .ok (.iaload, 1) := by decide +kernel
theorem dX0_seat_90 : decode cX0_seat 90 = .ok (.iastore, 1) := by decide +kernel
theorem dX0_seat_91 : decode cX0_seat 91 = .ok (.aload_n 0, 1) := by decide +kernel
theorem dX0_seat_92 : decode cX0_seat 92 = .ok (.getfield 29, 3) := by decide +kernel
theorem dX0_seat_95 : decode cX0_seat 95 = .ok (.aload_n 0, 1) := by decide +kernel
theorem dX0_seat_96 : decode cX0_seat 96 = .ok (.getfield 61, 3) := by decide +kernel
theorem dX0_seat_99 : decode cX0_seat 99 = .ok (.iconst 0, 1) := by decide +kernel
theorem dX0_seat_100 : decode cX0_seat 100 = .ok (.iastore, 1) := by decide +kernel
theorem dX0_seat_101 : decode cX0_seat 101 = .ok (.iconst 0, 1) := by decide +kernel
theorem dX0_seat_102 : decode cX0_seat 102 = .ok (.istore 5, 2) := by decide +kernel
theorem dX0_seat_104 : decode cX0_seat 104 = .ok (.iload 5, 2) := by decide +kernel
theorem dX0_seat_106 : decode cX0_seat 106 = .ok (.aload_n 1, 1) := by decide +kernel
theorem dX0_seat_107 : decode cX0_seat 107 = .ok (.getfield 74, 3) := by decide +kernel
theorem dX0_seat_110 : decode cX0_seat 110 = .ok (.iload 4, 2) := by decide +kernel
theorem dX0_seat_112 : decode cX0_seat 112 = .ok (.iaload, 1) := by decide +kernel
theorem dX0_seat_113 : decode cX0_seat 113 = .ok (.if_icmp .ge 88, 3) := by decide +kernel
theorem dX0_seat_116 : decode cX0_seat 116 = .ok (.aload_n 1, 1) := by decide +kernel
theorem dX0_seat_117 : decode cX0_seat 117 = .ok (.getfield 75, 3) := by decide +kernel
theorem dX0_seat_120 : decode cX0_seat 120 = .ok (.iload 4, 2) := by decide +kernel
theorem dX0_seat_122 : decode cX0_seat 122 = .ok (.iconst 3, 1) := by decide +kernel
theorem dX0_seat_123 : decode cX0_seat 123 = .ok (.imul, 1) := by decide +kernel
theorem dX0_seat_124 : decode cX0_seat 124 = .ok (.iload 5, 2) := by decide +kernel
theorem dX0_seat_126 : decode cX0_seat 126 = .ok (.iadd, 1) := by decide +kernel
theorem dX0_seat_127 : decode cX0_seat 127 = .ok (.iaload, 1) := by decide +kernel
theorem dX0_seat_128 : decode cX0_seat 128 = .ok (.istore 6, 2) := by decide +kernel
theorem dX0_seat_130 : decode cX0_seat 130 = .ok (.aload_n 0, 1) := by decide +kernel
theorem dX0_seat_131 : decode cX0_seat 131 = .ok (.getfield 35, 3) := by decide +kernel
theorem dX0_seat_134 : decode cX0_seat 134 = .ok (.aload_n 0, 1) := by decide +kernel
theorem dX0_seat_135 : decode cX0_seat 135 = .ok (.getfield 61, 3) := by decide +kernel
theorem dX0_seat_138 : decode cX0_seat 138 = .ok (.iconst 3, 1) := by decide +kernel
theorem dX0_seat_139 : decode cX0_seat 139 = .ok (.imul, 1) := by decide +kernel
theorem dX0_seat_140 : decode cX0_seat 140 = .ok (.iload 5, 2) := by decide +kernel
theorem dX0_seat_142 : decode cX0_seat 142 = .ok (.iadd, 1) := by decide +kernel
theorem dX0_seat_143 : decode cX0_seat 143 = .ok (.iload 6, 2) := by decide +kernel
theorem dX0_seat_145 : decode cX0_seat 145 = .ok (.iastore, 1) := by decide +kernel
theorem dX0_seat_146 : decode cX0_seat 146 = .ok (.aload_n 0, 1) := by decide +kernel
theorem dX0_seat_147 : decode cX0_seat 147 = .ok (.getfield 38, 3) := by decide +kernel
theorem dX0_seat_150 : decode cX0_seat 150 = .ok (.aload_n 0, 1) := by decide +kernel
theorem dX0_seat_151 : decode cX0_seat 151 = .ok (.getfield 61, 3) := by decide +kernel
theorem dX0_seat_154 : decode cX0_seat 154 = .ok (.iconst 3, 1) := by decide +kernel
theorem dX0_seat_155 : decode cX0_seat 155 = .ok (.imul, 1) := by decide +kernel
theorem dX0_seat_156 : decode cX0_seat 156 = .ok (.iload 5, 2) := by decide +kernel
theorem dX0_seat_158 : decode cX0_seat 158 = .ok (.iadd, 1) := by decide +kernel
theorem dX0_seat_159 : decode cX0_seat 159 = .ok (.aload_n 1, 1) := by decide +kernel
theorem dX0_seat_160 : decode cX0_seat 160 = .ok (.getfield 76, 3) := by decide +kernel
theorem dX0_seat_163 : decode cX0_seat 163 = .ok (.iload 4, 2) := by decide +kernel
theorem dX0_seat_165 : decode cX0_seat 165 = .ok (.iconst 3, 1) := by decide +kernel
theorem dX0_seat_166 : decode cX0_seat 166 = .ok (.imul, 1) := by decide +kernel
theorem dX0_seat_167 : decode cX0_seat 167 = .ok (.iload 5, 2) := by decide +kernel
theorem dX0_seat_169 : decode cX0_seat 169 = .ok (.iadd, 1) := by decide +kernel
theorem dX0_seat_170 : decode cX0_seat 170 = .ok (.iaload, 1) := by decide +kernel
theorem dX0_seat_171 : decode cX0_seat 171 = .ok (.iastore, 1) := by decide +kernel
theorem dX0_seat_172 : decode cX0_seat 172 = .ok (.aload_n 0, 1) := by decide +kernel
theorem dX0_seat_173 : decode cX0_seat 173 = .ok (.getfield 29, 3) := by decide +kernel
theorem dX0_seat_176 : decode cX0_seat 176 = .ok (.aload_n 0, 1) := by decide +kernel
theorem dX0_seat_177 : decode cX0_seat 177 = .ok (.getfield 61, 3) := by decide +kernel
theorem dX0_seat_180 : decode cX0_seat 180 = .ok (.aload_n 0, 1) := by decide +kernel
theorem dX0_seat_181 : decode cX0_seat 181 = .ok (.getfield 29, 3) := by decide +kernel
theorem dX0_seat_184 : decode cX0_seat 184 = .ok (.aload_n 0, 1) := by decide +kernel
theorem dX0_seat_185 : decode cX0_seat 185 = .ok (.getfield 61, 3) := by decide +kernel
theorem dX0_seat_188 : decode cX0_seat 188 = .ok (.iaload, 1) := by decide +kernel
theorem dX0_seat_189 : decode cX0_seat 189 = .ok (.iload 6, 2) := by decide +kernel
theorem dX0_seat_191 : decode cX0_seat 191 = .ok (.invokestatic 77, 3) := by decide +kernel
theorem dX0_seat_194 : decode cX0_seat 194 = .ok (.iastore, 1) := by decide +kernel
theorem dX0_seat_195 : decode cX0_seat 195 = .ok (.iinc 5 1, 3) := by decide +kernel
theorem dX0_seat_198 : decode cX0_seat 198 = .ok (.goto (-94), 3) := by decide +kernel
theorem dX0_seat_201 : decode cX0_seat 201 = .ok (.aload_n 0, 1) := by decide +kernel
theorem dX0_seat_202 : decode cX0_seat 202 = .ok (.dup, 1) := by decide +kernel
theorem dX0_seat_203 : decode cX0_seat 203 = .ok (.getfield 61, 3) := by decide +kernel
theorem dX0_seat_206 : decode cX0_seat 206 = .ok (.iconst 1, 1) := by decide +kernel
theorem dX0_seat_207 : decode cX0_seat 207 = .ok (.iadd, 1) := by decide +kernel
theorem dX0_seat_208 : decode cX0_seat 208 = .ok (.putfield 61, 3) := by decide +kernel
theorem dX0_seat_211 : decode cX0_seat 211 = .ok (.return_, 1) := by decide +kernel
theorem dX0_placeOf_0 : decode cX0_placeOf 0 = .ok (.iconst 0, 1) := by decide +kernel
theorem dX0_placeOf_1 : decode cX0_placeOf 1 = .ok (.istore_n 2, 1) := by decide +kernel
theorem dX0_placeOf_2 : decode cX0_placeOf 2 = .ok (.iload_n 2, 1) := by decide +kernel
theorem dX0_placeOf_3 : decode cX0_placeOf 3 = .ok (.aload_n 0, 1) := by decide +kernel
theorem dX0_placeOf_4 : decode cX0_placeOf 4 = .ok (.getfield 61, 3) := by decide +kernel
theorem dX0_placeOf_7 : decode cX0_placeOf 7 = .ok (.if_icmp .ge 21, 3) := by decide +kernel
theorem dX0_placeOf_10 : decode cX0_placeOf 10 = .ok (.aload_n 0, 1) := by decide +kernel
theorem dX0_placeOf_11 : decode cX0_placeOf 11 = .ok (.getfield 11, 3) := by decide +kernel
theorem dX0_placeOf_14 : decode cX0_placeOf 14 = .ok (.iload_n 2, 1) := by decide +kernel
theorem dX0_placeOf_15 : decode cX0_placeOf 15 = .ok (.iaload, 1) := by decide +kernel
theorem dX0_placeOf_16 : decode cX0_placeOf 16 = .ok (.iload_n 1, 1) := by decide +kernel
theorem dX0_placeOf_17 : decode cX0_placeOf 17 = .ok (.if_icmp .ne 5, 3) := by decide +kernel
theorem dX0_placeOf_20 : decode cX0_placeOf 20 = .ok (.iload_n 2, 1) := by decide +kernel
theorem dX0_placeOf_21 : decode cX0_placeOf 21 = .ok (.ireturn, 1) := by decide +kernel
theorem dX0_placeOf_22 : decode cX0_placeOf 22 = .ok (.iinc 2 1, 3) := by decide +kernel
theorem dX0_placeOf_25 : decode cX0_placeOf 25 = .ok (.goto (-23), 3) := by decide +kernel
theorem dX0_placeOf_28 : decode cX0_placeOf 28 = .ok (.bipush (-4), 2) := by decide +kernel
theorem dX0_placeOf_30 : decode cX0_placeOf 30 = .ok (.ireturn, 1) := by decide +kernel
theorem dX0_comeBy_0 : decode cX0_comeBy 0 = .ok (.iconst 0, 1) := by decide +kernel
theorem dX0_comeBy_1 : decode cX0_comeBy 1 = .ok (.istore_n 2, 1) := by decide +kernel
theorem dX0_comeBy_2 : decode cX0_comeBy 2 = .ok (.iconst 0, 1) := by decide +kernel
theorem dX0_comeBy_3 : decode cX0_comeBy 3 = .ok (.istore_n 3, 1) := by decide +kernel
theorem dX0_comeBy_4 : decode cX0_comeBy 4 = .ok (.iload_n 3, 1) := by decide +kernel
theorem dX0_comeBy_5 : decode cX0_comeBy 5 = .ok (.aload_n 0, 1) := by decide +kernel
theorem dX0_comeBy_6 : decode cX0_comeBy 6 = .ok (.getfield 61, 3) := by decide +kernel
theorem dX0_comeBy_9 : decode cX0_comeBy 9 = .ok (.if_icmp .ge 22, 3) := by decide +kernel
theorem dX0_comeBy_12 : decode cX0_comeBy 12 = .ok (.aload_n 0, 1) := by decide +kernel
theorem dX0_comeBy_13 : decode cX0_comeBy 13 = .ok (.getfield 17, 3) := by decide +kernel
theorem dX0_comeBy_16 : decode cX0_comeBy 16 = .ok (.iload_n 3, 1) := by decide +kernel
theorem dX0_comeBy_17 : decode cX0_comeBy 17 = .ok (.iaload, 1) := by decide +kernel
theorem dX0_comeBy_18 : decode cX0_comeBy 18 = .ok (.iload_n 1, 1) := by decide +kernel
theorem dX0_comeBy_19 : decode cX0_comeBy 19 = .ok (.if_icmp .gt 6, 3) := by decide +kernel
theorem dX0_comeBy_22 : decode cX0_comeBy 22 = .ok (.iinc 2 1, 3) := by decide +kernel
theorem dX0_comeBy_25 : decode cX0_comeBy 25 = .ok (.iinc 3 1, 3) := by decide +kernel
theorem dX0_comeBy_28 : decode cX0_comeBy 28 = .ok (.goto (-24), 3) := by decide +kernel
theorem dX0_comeBy_31 : decode cX0_comeBy 31 = .ok (.iload_n 2, 1) := by decide +kernel
theorem dX0_comeBy_32 : decode cX0_comeBy 32 = .ok (.ireturn, 1) := by decide +kernel
theorem dX0_allWays_0 : decode cX0_allWays 0 = .ok (.aload_n 0, 1) := by decide +kernel
theorem dX0_allWays_1 : decode cX0_allWays 1 = .ok (.getfield 61, 3) := by decide +kernel
theorem dX0_allWays_4 : decode cX0_allWays 4 = .ok (.invokestatic 83, 3) := by decide +kernel
theorem dX0_allWays_7 : decode cX0_allWays 7 = .ok (.lreturn, 1) := by decide +kernel
theorem dX0_waysOfAbsent_0 : decode cX0_waysOfAbsent 0 = .ok (.bipush 8, 2) := by decide +kernel
theorem dX0_waysOfAbsent_2 : decode cX0_waysOfAbsent 2 = .ok (.aload_n 0, 1) := by decide +kernel
theorem dX0_waysOfAbsent_3 : decode cX0_waysOfAbsent 3 = .ok (.getfield 61, 3) := by decide +kernel
theorem dX0_waysOfAbsent_6 : decode cX0_waysOfAbsent 6 = .ok (.isub, 1) := by decide +kernel
theorem dX0_waysOfAbsent_7 : decode cX0_waysOfAbsent 7 = .ok (.invokestatic 83, 3) := by decide +kernel
theorem dX0_waysOfAbsent_10 : decode cX0_waysOfAbsent 10 = .ok (.lreturn, 1) := by decide +kernel
theorem dX0_power_0 : decode cX0_power 0 = .ok (.lconst 1, 1) := by decide +kernel
theorem dX0_power_1 : decode cX0_power 1 = .ok (.lstore_n 1, 1) := by decide +kernel
theorem dX0_power_2 : decode cX0_power 2 = .ok (.iconst 0, 1) := by decide +kernel
theorem dX0_power_3 : decode cX0_power 3 = .ok (.istore_n 3, 1) := by decide +kernel
theorem dX0_power_4 : decode cX0_power 4 = .ok (.iload_n 3, 1) := by decide +kernel
theorem dX0_power_5 : decode cX0_power 5 = .ok (.iload_n 0, 1) := by decide +kernel
theorem dX0_power_6 : decode cX0_power 6 = .ok (.if_icmp .ge 15, 3) := by decide +kernel
theorem dX0_power_9 : decode cX0_power 9 = .ok (.lload_n 1, 1) := by decide +kernel
theorem dX0_power_10 : decode cX0_power 10 = .ok (.ldc2_w 87, 3) := by decide +kernel
theorem dX0_power_13 : decode cX0_power 13 = .ok (.lmul, 1) := by decide +kernel
theorem dX0_power_14 : decode cX0_power 14 = .ok (.lstore_n 1, 1) := by decide +kernel
theorem dX0_power_15 : decode cX0_power 15 = .ok (.iinc 3 1, 3) := by decide +kernel
theorem dX0_power_18 : decode cX0_power 18 = .ok (.goto (-14), 3) := by decide +kernel
theorem dX0_power_21 : decode cX0_power 21 = .ok (.lload_n 1, 1) := by decide +kernel
theorem dX0_power_22 : decode cX0_power 22 = .ok (.lreturn, 1) := by decide +kernel
theorem dX0_worthBy_0 : decode cX0_worthBy 0 = .ok (.iload_n 1, 1) := by decide +kernel
theorem dX0_worthBy_1 : decode cX0_worthBy 1 = .ok (.ifCond .lt 11, 3) := by decide +kernel
theorem dX0_worthBy_4 : decode cX0_worthBy 4 = .ok (.iload_n 1, 1) := by decide +kernel
theorem dX0_worthBy_5 : decode cX0_worthBy 5 = .ok (.aload_n 0, 1) := by decide +kernel
theorem dX0_worthBy_6 : decode cX0_worthBy 6 = .ok (.getfield 61, 3) := by decide +kernel
theorem dX0_worthBy_9 : decode cX0_worthBy 9 = .ok (.if_icmp .lt 5, 3) := by decide +kernel
theorem dX0_worthBy_12 : decode cX0_worthBy 12 = .ok (.iconst 0, 1) := by decide +kernel
theorem dX0_worthBy_13 : decode cX0_worthBy 13 = .ok (.ireturn, 1) := by decide +kernel
theorem dX0_worthBy_14 : decode cX0_worthBy 14 = .ok (.iconst 0, 1) := by decide +kernel
theorem dX0_worthBy_15 : decode cX0_worthBy 15 = .ok (.istore_n 3, 1) := by decide +kernel
theorem dX0_worthBy_16 : decode cX0_worthBy 16 = .ok (.iconst 0, 1) := by decide +kernel
theorem dX0_worthBy_17 : decode cX0_worthBy 17 = .ok (.istore 4, 2) := by decide +kernel
theorem dX0_worthBy_19 : decode cX0_worthBy 19 = .ok (.iload 4, 2) := by decide +kernel
theorem dX0_worthBy_21 : decode cX0_worthBy 21 = .ok (.aload_n 0, 1) := by decide +kernel
theorem dX0_worthBy_22 : decode cX0_worthBy 22 = .ok (.getfield 32, 3) := by decide +kernel
theorem dX0_worthBy_25 : decode cX0_worthBy 25 = .ok (.iload_n 1, 1) := by decide +kernel
theorem dX0_worthBy_26 : decode cX0_worthBy 26 = .ok (.iaload, 1) := by decide +kernel
theorem dX0_worthBy_27 : decode cX0_worthBy 27 = .ok (.if_icmp .ge 40, 3) := by decide +kernel
theorem dX0_worthBy_30 : decode cX0_worthBy 30 = .ok (.iload_n 3, 1) := by decide +kernel
theorem dX0_worthBy_31 : decode cX0_worthBy 31 = .ok (.aload_n 0, 1) := by decide +kernel
theorem dX0_worthBy_32 : decode cX0_worthBy 32 = .ok (.getfield 38, 3) := by decide +kernel
theorem dX0_worthBy_35 : decode cX0_worthBy 35 = .ok (.iload_n 1, 1) := by decide +kernel
theorem dX0_worthBy_36 : decode cX0_worthBy 36 = .ok (.iconst 3, 1) := by decide +kernel
theorem dX0_worthBy_37 : decode cX0_worthBy 37 = .ok (.imul, 1) := by decide +kernel
theorem dX0_worthBy_38 : decode cX0_worthBy 38 = .ok (.iload 4, 2) := by decide +kernel
theorem dX0_worthBy_40 : decode cX0_worthBy 40 = .ok (.iadd, 1) := by decide +kernel
theorem dX0_worthBy_41 : decode cX0_worthBy 41 = .ok (.iaload, 1) := by decide +kernel
theorem dX0_worthBy_42 : decode cX0_worthBy 42 = .ok (.iadd, 1) := by decide +kernel
theorem dX0_worthBy_43 : decode cX0_worthBy 43 = .ok (.istore_n 3, 1) := by decide +kernel
theorem dX0_worthBy_44 : decode cX0_worthBy 44 = .ok (.iload_n 2, 1) := by decide +kernel
theorem dX0_worthBy_45 : decode cX0_worthBy 45 = .ok (.iload_n 3, 1) := by decide +kernel
theorem dX0_worthBy_46 : decode cX0_worthBy 46 = .ok (.if_icmp .ge 15, 3) := by decide +kernel
theorem dX0_worthBy_49 : decode cX0_worthBy 49 = .ok (.aload_n 0, 1) := by decide +kernel
theorem dX0_worthBy_50 : decode cX0_worthBy 50 = .ok (.getfield 35, 3) := by decide +kernel
theorem dX0_worthBy_53 : decode cX0_worthBy 53 = .ok (.iload_n 1, 1) := by decide +kernel
theorem dX0_worthBy_54 : decode cX0_worthBy 54 = .ok (.iconst 3, 1) := by decide +kernel
theorem dX0_worthBy_55 : decode cX0_worthBy 55 = .ok (.imul, 1) := by decide +kernel
theorem dX0_worthBy_56 : decode cX0_worthBy 56 = .ok (.iload 4, 2) := by decide +kernel
theorem dX0_worthBy_58 : decode cX0_worthBy 58 = .ok (.iadd, 1) := by decide +kernel
theorem dX0_worthBy_59 : decode cX0_worthBy 59 = .ok (.iaload, 1) := by decide +kernel
theorem dX0_worthBy_60 : decode cX0_worthBy 60 = .ok (.ireturn, 1) := by decide +kernel
theorem dX0_worthBy_61 : decode cX0_worthBy 61 = .ok (.iinc 4 1, 3) := by decide +kernel
theorem dX0_worthBy_64 : decode cX0_worthBy 64 = .ok (.goto (-45), 3) := by decide +kernel
theorem dX0_worthBy_67 : decode cX0_worthBy 67 = .ok (.iconst 0, 1) := by decide +kernel
theorem dX0_worthBy_68 : decode cX0_worthBy 68 = .ok (.ireturn, 1) := by decide +kernel
theorem dX1_init_0 : decode cX1_init 0 = .ok (.aload_n 0, 1) := by decide +kernel
theorem dX1_init_1 : decode cX1_init 1 = .ok (.invokespecial 1, 3) := by decide +kernel
theorem dX1_init_4 : decode cX1_init 4 = .ok (.aload_n 0, 1) := by decide +kernel
theorem dX1_init_5 : decode cX1_init 5 = .ok (.new 7, 3) := by decide +kernel
theorem dX1_init_8 : decode cX1_init 8 = .ok (.dup, 1) := by decide +kernel
theorem dX1_init_9 : decode cX1_init 9 = .ok (.invokespecial 9, 3) := by decide +kernel
theorem dX1_init_12 : decode cX1_init 12 = .ok (.putfield 10, 3) := by decide +kernel
theorem dX1_init_15 : decode cX1_init 15 = .ok (.aload_n 0, 1) := by decide +kernel
theorem dX1_init_16 : decode cX1_init 16 = .ok (.new 16, 3) := by decide +kernel
theorem dX1_init_19 : decode cX1_init 19 = .ok (.dup, 1) := by decide +kernel
theorem dX1_init_20 : decode cX1_init 20 = .ok (.invokespecial 18, 3) := by decide +kernel
theorem dX1_init_23 : decode cX1_init 23 = .ok (.putfield 19, 3) := by decide +kernel
theorem dX1_init_26 : decode cX1_init 26 = .ok (.aload_n 0, 1) := by decide +kernel
theorem dX1_init_27 : decode cX1_init 27 = .ok (.bipush 8, 2) := by decide +kernel
theorem dX1_init_29 : decode cX1_init 29 = .ok (.newarray .int, 2) := by decide +kernel
theorem dX1_init_31 : decode cX1_init 31 = .ok (.putfield 25, 3) := by decide +kernel
theorem dX1_init_34 : decode cX1_init 34 = .ok (.aload_n 0, 1) := by decide +kernel
theorem dX1_init_35 : decode cX1_init 35 = .ok (.bipush 9, 2) := by decide +kernel
theorem dX1_init_37 : decode cX1_init 37 = .ok (.newarray .int, 2) := by decide +kernel
theorem dX1_init_39 : decode cX1_init 39 = .ok (.putfield 29, 3) := by decide +kernel
theorem dX1_init_42 : decode cX1_init 42 = .ok (.aload_n 0, 1) := by decide +kernel
theorem dX1_init_43 : decode cX1_init 43 = .ok (.bipush 9, 2) := by decide +kernel
theorem dX1_init_45 : decode cX1_init 45 = .ok (.newarray .int, 2) := by decide +kernel
theorem dX1_init_47 : decode cX1_init 47 = .ok (.putfield 32, 3) := by decide +kernel
theorem dX1_init_50 : decode cX1_init 50 = .ok (.aload_n 0, 1) := by decide +kernel
theorem dX1_init_51 : decode cX1_init 51 = .ok (.bipush 9, 2) := by decide +kernel
theorem dX1_init_53 : decode cX1_init 53 = .ok (.newarray .int, 2) := by decide +kernel
theorem dX1_init_55 : decode cX1_init 55 = .ok (.putfield 35, 3) := by decide +kernel
theorem dX1_init_58 : decode cX1_init 58 = .ok (.return_, 1) := by decide +kernel
theorem dX1_set_0 : decode cX1_set 0 = .ok (.aload_n 0, 1) := by decide +kernel
theorem dX1_set_1 : decode cX1_set 1 = .ok (.aload_n 1, 1) := by decide +kernel
theorem dX1_set_2 : decode cX1_set 2 = .ok (.putfield 10, 3) := by decide +kernel
theorem dX1_set_5 : decode cX1_set 5 = .ok (.aload_n 0, 1) := by decide +kernel
theorem dX1_set_6 : decode cX1_set 6 = .ok (.aload_n 2, 1) := by decide +kernel
theorem dX1_set_7 : decode cX1_set 7 = .ok (.putfield 19, 3) := by decide +kernel
theorem dX1_set_10 : decode cX1_set 10 = .ok (.aload_n 0, 1) := by decide +kernel
theorem dX1_set_11 : decode cX1_set 11 = .ok (.iload_n 3, 1) := by decide +kernel
theorem dX1_set_12 : decode cX1_set 12 = .ok (.putfield 38, 3) := by decide +kernel
theorem dX1_set_15 : decode cX1_set 15 = .ok (.aload_n 0, 1) := by decide +kernel
theorem dX1_set_16 : decode cX1_set 16 = .ok (.aload_n 0, 1) := by decide +kernel
theorem dX1_set_17 : decode cX1_set 17 = .ok (.getfield 10, 3) := by decide +kernel
theorem dX1_set_20 : decode cX1_set 20 = .ok (.getfield 42, 3) := by decide +kernel
theorem dX1_set_23 : decode cX1_set 23 = .ok (.putfield 45, 3) := by decide +kernel
theorem dX1_set_26 : decode cX1_set 26 = .ok (.aload_n 0, 1) := by decide +kernel
theorem dX1_set_27 : decode cX1_set 27 = .ok (.aload_n 0, 1) := by decide +kernel
theorem dX1_set_28 : decode cX1_set 28 = .ok (.getfield 10, 3) := by decide +kernel
theorem dX1_set_31 : decode cX1_set 31 = .ok (.getfield 46, 3) := by decide +kernel
theorem dX1_set_34 : decode cX1_set 34 = .ok (.putfield 49, 3) := by decide +kernel
theorem dX1_set_37 : decode cX1_set 37 = .ok (.aload_n 0, 1) := by decide +kernel
theorem dX1_set_38 : decode cX1_set 38 = .ok (.iconst 0, 1) := by decide +kernel
theorem dX1_set_39 : decode cX1_set 39 = .ok (.putfield 50, 3) := by decide +kernel
theorem dX1_set_42 : decode cX1_set 42 = .ok (.aload_n 0, 1) := by decide +kernel
theorem dX1_set_43 : decode cX1_set 43 = .ok (.iconst (-1), 1) := by decide +kernel
theorem dX1_set_44 : decode cX1_set 44 = .ok (.putfield 53, 3) := by decide +kernel
theorem dX1_set_47 : decode cX1_set 47 = .ok (.return_, 1) := by decide +kernel
theorem dX1_whoCome_0 : decode cX1_whoCome 0 = .ok (.aload_n 0, 1) := by decide +kernel
theorem dX1_whoCome_1 : decode cX1_whoCome 1 = .ok (.getfield 19, 3) := by decide +kernel
theorem dX1_whoCome_4 : decode cX1_whoCome 4 = .ok (.areturn, 1) := by decide +kernel
theorem dX1_cost_0 : decode cX1_cost 0 = .ok (.aload_n 0, 1) := by decide +kernel
theorem dX1_cost_1 : decode cX1_cost 1 = .ok (.getfield 10, 3) := by decide +kernel
theorem dX1_cost_4 : decode cX1_cost 4 = .ok (.getfield 56, 3) := by decide +kernel
theorem dX1_cost_7 : decode cX1_cost 7 = .ok (.ireturn, 1) := by decide +kernel
theorem dX1_play_0 : decode cX1_play 0 = .ok (.iload_n 1, 1) := by decide +kernel
theorem dX1_play_1 : decode cX1_play 1 = .ok (.ifCond .lt 14, 3) := by decide +kernel
theorem dX1_play_4 : decode cX1_play 4 = .ok (.iload_n 1, 1) := by decide +kernel
theorem dX1_play_5 : decode cX1_play 5 = .ok (.aload_n 0, 1) := by decide +kernel
theorem dX1_play_6 : decode cX1_play 6 = .ok (.getfield 19, 3) := by decide +kernel
theorem dX1_play_9 : decode cX1_play 9 = .ok (.getfield 59, 3) := by decide +kernel
theorem dX1_play_12 : decode cX1_play 12 = .ok (.if_icmp .lt 4, 3) := by decide +kernel
theorem dX1_play_15 : decode cX1_play 15 = .ok (.return_, 1) := by decide +kernel
theorem dX1_play_16 : decode cX1_play 16 = .ok (.aload_n 0, 1) := by decide +kernel
theorem dX1_play_17 : decode cX1_play 17 = .ok (.iload_n 1, 1) := by decide +kernel
theorem dX1_play_18 : decode cX1_play 18 = .ok (.iload_n 2, 1) := by decide +kernel
theorem dX1_play_19 : decode cX1_play 19 = .ok (.aload_n 0, 1) := by decide +kernel
theorem dX1_play_20 : decode cX1_play 20 = .ok (.getfield 29, 3) := by decide +kernel
theorem dX1_play_23 : decode cX1_play 23 = .ok (.iload_n 1, 1) := by decide +kernel
theorem dX1_play_24 : decode cX1_play 24 = .ok (.iaload, 1) := by decide +kernel
theorem dX1_play_25 : decode cX1_play 25 = .ok (.invokevirtual 62, 3) := by decide +kernel
theorem dX1_play_28 : decode cX1_play 28 = .ok (.istore_n 3, 1) := by decide +kernel
theorem dX1_play_29 : decode cX1_play 29 = .ok (.aload_n 0, 1) := by decide +kernel
theorem dX1_play_30 : decode cX1_play 30 = .ok (.getfield 25, 3) := by decide +kernel
theorem dX1_play_33 : decode cX1_play 33 = .ok (.iload_n 1, 1) := by decide +kernel
theorem dX1_play_34 : decode cX1_play 34 = .ok (.iload_n 3, 1) := by decide +kernel
theorem dX1_play_35 : decode cX1_play 35 = .ok (.iastore, 1) := by decide +kernel
theorem dX1_play_36 : decode cX1_play 36 = .ok (.aload_n 0, 1) := by decide +kernel
theorem dX1_play_37 : decode cX1_play 37 = .ok (.getfield 29, 3) := by decide +kernel
theorem dX1_play_40 : decode cX1_play 40 = .ok (.iload_n 1, 1) := by decide +kernel
theorem dX1_play_41 : decode cX1_play 41 = .ok (.iconst 1, 1) := by decide +kernel
theorem dX1_play_42 : decode cX1_play 42 = .ok (.iadd, 1) := by decide +kernel
theorem dX1_play_43 : decode cX1_play 43 = .ok (.aload_n 0, 1) := by decide +kernel
theorem dX1_play_44 : decode cX1_play 44 = .ok (.getfield 29, 3) := by decide +kernel
theorem dX1_play_47 : decode cX1_play 47 = .ok (.iload_n 1, 1) := by decide +kernel
theorem dX1_play_48 : decode cX1_play 48 = .ok (.iaload, 1) := by decide +kernel
theorem dX1_play_49 : decode cX1_play 49 = .ok (.iload_n 3, 1) := by decide +kernel
theorem dX1_play_50 : decode cX1_play 50 = .ok (.iadd, 1) := by decide +kernel
theorem dX1_play_51 : decode cX1_play 51 = .ok (.iastore, 1) := by decide +kernel
theorem dX1_play_52 : decode cX1_play 52 = .ok (.iload_n 1, 1) := by decide +kernel
theorem dX1_play_53 : decode cX1_play 53 = .ok (.aload_n 0, 1) := by decide +kernel
theorem dX1_play_54 : decode cX1_play 54 = .ok (.getfield 53, 3) := by decide +kernel
theorem dX1_play_57 : decode cX1_play 57 = .ok (.if_icmp .ne 29, 3) := by decide +kernel
theorem dX1_play_60 : decode cX1_play 60 = .ok (.aload_n 0, 1) := by decide +kernel
theorem dX1_play_61 : decode cX1_play 61 = .ok (.getfield 29, 3) := by decide +kernel
theorem dX1_play_64 : decode cX1_play 64 = .ok (.iload_n 1, 1) := by decide +kernel
theorem dX1_play_65 : decode cX1_play 65 = .ok (.iconst 1, 1) := by decide +kernel
theorem dX1_play_66 : decode cX1_play 66 = .ok (.iadd, 1) := by decide +kernel
theorem dX1_play_67 : decode cX1_play 67 = .ok (.dup2, 1) := by decide +kernel
theorem dX1_play_68 : decode cX1_play 68 = .ok (.iaload, 1) := by decide +kernel
theorem dX1_play_69 : decode cX1_play 69 = .ok (.aload_n 0, 1) := by decide +kernel
theorem dX1_play_70 : decode cX1_play 70 = .ok (.getfield 29, 3) := by decide +kernel
theorem dX1_play_73 : decode cX1_play 73 = .ok (.iload_n 1, 1) := by decide +kernel
theorem dX1_play_74 : decode cX1_play 74 = .ok (.iconst 1, 1) := by decide +kernel
theorem dX1_play_75 : decode cX1_play 75 = .ok (.iadd, 1) := by decide +kernel
theorem dX1_play_76 : decode cX1_play 76 = .ok (.iaload, 1) := by decide +kernel
theorem dX1_play_77 : decode cX1_play 77 = .ok (.aload_n 0, 1) := by decide +kernel
theorem dX1_play_78 : decode cX1_play 78 = .ok (.getfield 50, 3) := by decide +kernel
theorem dX1_play_81 : decode cX1_play 81 = .ok (.invokestatic 66, 3) := by decide +kernel
theorem dX1_play_84 : decode cX1_play 84 = .ok (.iadd, 1) := by decide +kernel
theorem dX1_play_85 : decode cX1_play 85 = .ok (.iastore, 1) := by decide +kernel
theorem dX1_play_86 : decode cX1_play 86 = .ok (.aload_n 0, 1) := by decide +kernel
theorem dX1_play_87 : decode cX1_play 87 = .ok (.getfield 32, 3) := by decide +kernel
theorem dX1_play_90 : decode cX1_play 90 = .ok (.iload_n 1, 1) := by decide +kernel
theorem dX1_play_91 : decode cX1_play 91 = .ok (.iconst 1, 1) := by decide +kernel
theorem dX1_play_92 : decode cX1_play 92 = .ok (.iadd, 1) := by decide +kernel
theorem dX1_play_93 : decode cX1_play 93 = .ok (.aload_n 0, 1) := by decide +kernel
theorem dX1_play_94 : decode cX1_play 94 = .ok (.getfield 32, 3) := by decide +kernel
theorem dX1_play_97 : decode cX1_play 97 = .ok (.iload_n 1, 1) := by decide +kernel
theorem dX1_play_98 : decode cX1_play 98 = .ok (.iaload, 1) := by decide +kernel
theorem dX1_play_99 : decode cX1_play 99 = .ok (.iload_n 3, 1) := by decide +kernel
theorem dX1_play_100 : decode cX1_play 100 = .ok (.ifCond .le 7, 3) := by decide +kernel
theorem dX1_play_103 : decode cX1_play 103 = .ok (.iconst 1, 1) := by decide +kernel
theorem dX1_play_104 : decode cX1_play 104 = .ok (.goto 4, 3) := by decide +kernel
theorem dX1_play_107 : decode cX1_play 107 = .ok (.iconst 0, 1) := by decide +kernel
theorem dX1_play_108 : decode cX1_play 108 = .ok (.iadd, 1) := by decide +kernel
theorem dX1_play_109 : decode cX1_play 109 = .ok (.iastore, 1) := by decide +kernel
theorem dX1_play_110 : decode cX1_play 110 = .ok (.aload_n 0, 1) := by decide +kernel
theorem dX1_play_111 : decode cX1_play 111 = .ok (.getfield 10, 3) := by decide +kernel
theorem dX1_play_114 : decode cX1_play 114 = .ok (.getfield 72, 3) := by decide +kernel
theorem dX1_play_117 : decode cX1_play 117 = .ok (.ifCond .le 30, 3) := by decide +kernel
theorem dX1_play_120 : decode cX1_play 120 = .ok (.aload_n 0, 1) := by decide +kernel
theorem dX1_play_121 : decode cX1_play 121 = .ok (.getfield 35, 3) := by decide +kernel
theorem dX1_play_124 : decode cX1_play 124 = .ok (.iload_n 1, 1) := by decide +kernel
theorem dX1_play_125 : decode cX1_play 125 = .ok (.iconst 1, 1) := by decide +kernel
theorem dX1_play_126 : decode cX1_play 126 = .ok (.iadd, 1) := by decide +kernel
theorem dX1_play_127 : decode cX1_play 127 = .ok (.aload_n 0, 1) := by decide +kernel
theorem dX1_play_128 : decode cX1_play 128 = .ok (.getfield 35, 3) := by decide +kernel
theorem dX1_play_131 : decode cX1_play 131 = .ok (.iload_n 1, 1) := by decide +kernel
theorem dX1_play_132 : decode cX1_play 132 = .ok (.iaload, 1) := by decide +kernel
theorem dX1_play_133 : decode cX1_play 133 = .ok (.aload_n 0, 1) := by decide +kernel
theorem dX1_play_134 : decode cX1_play 134 = .ok (.iload_n 1, 1) := by decide +kernel
theorem dX1_play_135 : decode cX1_play 135 = .ok (.iload_n 2, 1) := by decide +kernel
theorem dX1_play_136 : decode cX1_play 136 = .ok (.aload_n 0, 1) := by decide +kernel
theorem dX1_play_137 : decode cX1_play 137 = .ok (.getfield 35, 3) := by decide +kernel
theorem dX1_play_140 : decode cX1_play 140 = .ok (.iload_n 1, 1) := by decide +kernel
theorem dX1_play_141 : decode cX1_play 141 = .ok (.iaload, 1) := by decide +kernel
theorem dX1_play_142 : decode cX1_play 142 = .ok (.invokevirtual 75, 3) := by decide +kernel
theorem dX1_play_145 : decode cX1_play 145 = .ok (.iadd, 1) := by decide +kernel
theorem dX1_play_146 : decode cX1_play 146 = .ok (.iastore, 1) := by decide +kernel
theorem dX1_play_147 : decode cX1_play 147 = .ok (.return_, 1) := by decide +kernel
theorem dX1_giftAt_0 : decode cX1_giftAt 0 = .ok (.iload_n 1, 1) := by decide +kernel
theorem dX1_giftAt_1 : decode cX1_giftAt 1 = .ok (.ifCond .lt 14, 3) := by decide +kernel
theorem dX1_giftAt_4 : decode cX1_giftAt 4 = .ok (.iload_n 1, 1) := by decide +kernel
theorem dX1_giftAt_5 : decode cX1_giftAt 5 = .ok (.aload_n 0, 1) := by decide +kernel
theorem dX1_giftAt_6 : decode cX1_giftAt 6 = .ok (.getfield 19, 3) := by decide +kernel
theorem dX1_giftAt_9 : decode cX1_giftAt 9 = .ok (.getfield 59, 3) := by decide +kernel
theorem dX1_giftAt_12 : decode cX1_giftAt 12 = .ok (.if_icmp .lt 5, 3) := by decide +kernel
theorem dX1_giftAt_15 : decode cX1_giftAt 15 = .ok (.iconst 0, 1) := by decide +kernel
theorem dX1_giftAt_16 : decode cX1_giftAt 16 = .ok (.ireturn, 1) := by decide +kernel
theorem dX1_giftAt_17 : decode cX1_giftAt 17 = .ok (.aload_n 0, 1) := by decide +kernel
theorem dX1_giftAt_18 : decode cX1_giftAt 18 = .ok (.getfield 19, 3) := by decide +kernel
theorem dX1_giftAt_21 : decode cX1_giftAt 21 = .ok (.getfield 78, 3) := by decide +kernel
theorem dX1_giftAt_24 : decode cX1_giftAt 24 = .ok (.iload_n 1, 1) := by decide +kernel
theorem dX1_giftAt_25 : decode cX1_giftAt 25 = .ok (.iaload, 1) := by decide +kernel
theorem dX1_giftAt_26 : decode cX1_giftAt 26 = .ok (.istore 4, 2) := by decide +kernel
theorem dX1_giftAt_28 : decode cX1_giftAt 28 = .ok (.iload_n 2, 1) := by decide +kernel
theorem dX1_giftAt_29 : decode cX1_giftAt 29 = .ok (.iload 4, 2) := by decide +kernel
theorem dX1_giftAt_31 : decode cX1_giftAt 31 = .ok (.invokestatic 66, 3) := by decide +kernel
theorem dX1_giftAt_34 : decode cX1_giftAt 34 = .ok (.istore 5, 2) := by decide +kernel
theorem dX1_giftAt_36 : decode cX1_giftAt 36 = .ok (.aload_n 0, 1) := by decide +kernel
theorem dX1_giftAt_37 : decode cX1_giftAt 37 = .ok (.aload_n 0, 1) := by decide +kernel
theorem dX1_giftAt_38 : decode cX1_giftAt 38 = .ok (.getfield 45, 3) := by decide +kernel
theorem dX1_giftAt_41 : decode cX1_giftAt 41 = .ok (.iload_n 3, 1) := by decide +kernel
theorem dX1_giftAt_42 : decode cX1_giftAt 42 = .ok (.invokevirtual 81, 3) := by decide +kernel
theorem dX1_giftAt_45 : decode cX1_giftAt 45 = .ok (.istore 6, 2) := by decide +kernel
theorem dX1_giftAt_47 : decode cX1_giftAt 47 = .ok (.aload_n 0, 1) := by decide +kernel
theorem dX1_giftAt_48 : decode cX1_giftAt 48 = .ok (.getfield 19, 3) := by decide +kernel
theorem dX1_giftAt_51 : decode cX1_giftAt 51 = .ok (.getfield 84, 3) := by decide +kernel
theorem dX1_giftAt_54 : decode cX1_giftAt 54 = .ok (.iload_n 1, 1) := by decide +kernel
theorem dX1_giftAt_55 : decode cX1_giftAt 55 = .ok (.iaload, 1) := by decide +kernel
theorem dX1_giftAt_56 : decode cX1_giftAt 56 = .ok (.istore 7, 2) := by decide +kernel
theorem dX1_giftAt_58 : decode cX1_giftAt 58 = .ok (.iload 7, 2) := by decide +kernel
theorem dX1_giftAt_60 : decode cX1_giftAt 60 = .ok (.iconst 5, 1) := by decide +kernel
theorem dX1_giftAt_61 : decode cX1_giftAt 61 = .ok (.if_icmp .ne 18, 3) := by decide +kernel
theorem dX1_giftAt_64 : decode cX1_giftAt 64 = .ok (.aload_n 0, 1) := by decide +kernel
theorem dX1_giftAt_65 : decode cX1_giftAt 65 = .ok (.getfield 19, 3) := by decide +kernel
theorem dX1_giftAt_68 : decode cX1_giftAt 68 = .ok (.getfield 87, 3) := by decide +kernel
theorem dX1_giftAt_71 : decode cX1_giftAt 71 = .ok (.iload_n 1, 1) := by decide +kernel
theorem dX1_giftAt_72 : decode cX1_giftAt 72 = .ok (.iaload, 1) := by decide +kernel
theorem dX1_giftAt_73 : decode cX1_giftAt 73 = .ok (.iload 4, 2) := by decide +kernel
theorem dX1_giftAt_75 : decode cX1_giftAt 75 = .ok (.invokestatic 66, 3) := by decide +kernel
theorem dX1_giftAt_78 : decode cX1_giftAt 78 = .ok (.ireturn, 1) := by decide +kernel
theorem dX1_giftAt_79 : decode cX1_giftAt 79 = .ok (.iload 7, 2) := by decide +kernel
theorem dX1_giftAt_81 : decode cX1_giftAt 81 = .ok (.iconst 3, 1) := by decide +kernel
theorem dX1_giftAt_82 : decode cX1_giftAt 82 = .ok (.if_icmp .ne 40, 3) := by decide +kernel
theorem dX1_giftAt_85 : decode cX1_giftAt 85 = .ok (.aload_n 0, 1) := by decide +kernel
theorem dX1_giftAt_86 : decode cX1_giftAt 86 = .ok (.getfield 19, 3) := by decide +kernel
theorem dX1_giftAt_89 : decode cX1_giftAt 89 = .ok (.getfield 90, 3) := by decide +kernel
theorem dX1_giftAt_92 : decode cX1_giftAt 92 = .ok (.iload_n 1, 1) := by decide +kernel
theorem dX1_giftAt_93 : decode cX1_giftAt 93 = .ok (.iaload, 1) := by decide +kernel
theorem dX1_giftAt_94 : decode cX1_giftAt 94 = .ok (.aload_n 0, 1) := by decide +kernel
theorem dX1_giftAt_95 : decode cX1_giftAt 95 = .ok (.getfield 10, 3) := by decide +kernel
theorem dX1_giftAt_98 : decode cX1_giftAt 98 = .ok (.getfield 93, 3) := by decide +kernel
theorem dX1_giftAt_101 : decode cX1_giftAt 101 = .ok (.if_icmp .gt 21, 3) := by decide +kernel
theorem dX1_giftAt_104 : decode cX1_giftAt 104 = .ok (.iload 6, 2) := by decide +kernel
theorem dX1_giftAt_106 : decode cX1_giftAt 106 = .ok (.iload 5, 2) := by decide +kernel
theorem dX1_giftAt_108 : decode cX1_giftAt 108 = .ok (.aload_n 0, 1) := by decide +kernel
theorem dX1_giftAt_109 : decode cX1_giftAt 109 = .ok (.getfield 49, 3) := by decide +kernel
theorem dX1_giftAt_112 : decode cX1_giftAt 112 = .ok (.iadd, 1) := by decide +kernel
theorem dX1_giftAt_113 : decode cX1_giftAt 113 = .ok (.iload 4, 2) := by decide +kernel
theorem dX1_giftAt_115 : decode cX1_giftAt 115 = .ok (.invokestatic 66, 3) := by decide +kernel
theorem dX1_giftAt_118 : decode cX1_giftAt 118 = .ok (.invokestatic 66, 3) := by decide +kernel
theorem dX1_giftAt_121 : decode cX1_giftAt 121 = .ok (.ireturn, 1) := by decide +kernel
theorem dX1_giftAt_122 : decode cX1_giftAt 122 = .ok (.iload 7, 2) := by decide +kernel
theorem dX1_giftAt_124 : decode cX1_giftAt 124 = .ok (.iload 5, 2) := by decide +kernel
theorem dX1_giftAt_126 : decode cX1_giftAt 126 = .ok (.iload 6, 2) := by decide +kernel
theorem dX1_giftAt_128 : decode cX1_giftAt 128 = .ok (.aload_n 0, 1) := by decide +kernel
theorem dX1_giftAt_129 : decode cX1_giftAt 129 = .ok (.getfield 19, 3) := by decide +kernel
theorem dX1_giftAt_132 : decode cX1_giftAt 132 = .ok (.getfield 59, 3) := by decide +kernel
theorem dX1_giftAt_135 : decode cX1_giftAt 135 = .ok (.iload_n 1, 1) := by decide +kernel
theorem dX1_giftAt_136 : decode cX1_giftAt 136 = .ok (.isub, 1) := by decide +kernel
theorem dX1_giftAt_137 : decode cX1_giftAt 137 = .ok (.invokestatic 96, 3) := by decide +kernel
theorem dX1_giftAt_140 : decode cX1_giftAt 140 = .ok (.ireturn, 1) := by decide +kernel
theorem dX1_secondGiftAt_0 : decode cX1_secondGiftAt 0 = .ok (.iload_n 2, 1) := by decide +kernel
theorem dX1_secondGiftAt_1 : decode cX1_secondGiftAt 1 = .ok (.aload_n 0, 1) := by decide +kernel
theorem dX1_secondGiftAt_2 : decode cX1_secondGiftAt 2 = .ok (.getfield 10, 3) := by decide +kernel
theorem dX1_secondGiftAt_5 : decode cX1_secondGiftAt 5 = .ok (.getfield 100, 3) := by decide +kernel
theorem dX1_secondGiftAt_8 : decode cX1_secondGiftAt 8 = .ok (.imul, 1) := by decide +kernel
theorem dX1_secondGiftAt_9 : decode cX1_secondGiftAt 9 = .ok (.bipush 100, 2) := by decide +kernel
theorem dX1_secondGiftAt_11 : decode cX1_secondGiftAt 11 = .ok (.idiv, 1) := by decide +kernel
theorem dX1_secondGiftAt_12 : decode cX1_secondGiftAt 12 = .ok (.aload_n 0, 1) := by decide +kernel
theorem dX1_secondGiftAt_13 : decode cX1_secondGiftAt 13 = .ok (.getfield 19, 3) := by decide +kernel
theorem dX1_secondGiftAt_16 : decode cX1_secondGiftAt 16 = .ok (.getfield 78, 3) := by decide +kernel
theorem dX1_secondGiftAt_19 : decode cX1_secondGiftAt 19 = .ok (.iload_n 1, 1) := by decide +kernel
theorem dX1_secondGiftAt_20 : decode cX1_secondGiftAt 20 = .ok (.iaload, 1) := by decide +kernel
theorem dX1_secondGiftAt_21 : decode cX1_secondGiftAt 21 = .ok (.aload_n 0, 1) := by decide +kernel
theorem dX1_secondGiftAt_22 : decode cX1_secondGiftAt 22 = .ok (.getfield 25, 3) := by decide +kernel
theorem dX1_secondGiftAt_25 : decode cX1_secondGiftAt 25 = .ok (.iload_n 1, 1) := by decide +kernel
theorem dX1_secondGiftAt_26 : decode cX1_secondGiftAt 26 = .ok (.iaload, 1) := by decide +kernel
theorem dX1_secondGiftAt_27 : decode cX1_secondGiftAt 27 = .ok (.isub, 1) := by decide +kernel
theorem dX1_secondGiftAt_28 : decode cX1_secondGiftAt 28 = .ok (.invokestatic 66, 3) := by decide +kernel
theorem dX1_secondGiftAt_31 : decode cX1_secondGiftAt 31 = .ok (.istore 4, 2) := by decide +kernel
theorem dX1_secondGiftAt_33 : decode cX1_secondGiftAt 33 = .ok (.aload_n 0, 1) := by decide +kernel
theorem dX1_secondGiftAt_34 : decode cX1_secondGiftAt 34 = .ok (.getfield 19, 3) := by decide +kernel
theorem dX1_secondGiftAt_37 : decode cX1_secondGiftAt 37 = .ok (.getfield 84, 3) := by decide +kernel
theorem dX1_secondGiftAt_40 : decode cX1_secondGiftAt 40 = .ok (.iload_n 1, 1) := by decide +kernel
theorem dX1_secondGiftAt_41 : decode cX1_secondGiftAt 41 = .ok (.iaload, 1) := by decide +kernel
theorem dX1_secondGiftAt_42 : decode cX1_secondGiftAt 42 = .ok (.iload 4, 2) := by decide +kernel
theorem dX1_secondGiftAt_44 : decode cX1_secondGiftAt 44 = .ok (.aload_n 0, 1) := by decide +kernel
theorem dX1_secondGiftAt_45 : decode cX1_secondGiftAt 45 = .ok (.aload_n 0, 1) := by decide +kernel
theorem dX1_secondGiftAt_46 : decode cX1_secondGiftAt 46 = .ok (.getfield 10, 3) := by decide +kernel
theorem dX1_secondGiftAt_49 : decode cX1_secondGiftAt 49 = .ok (.getfield 72, 3) := by decide +kernel
theorem dX1_secondGiftAt_52 : decode cX1_secondGiftAt 52 = .ok (.iload_n 3, 1) := by decide +kernel
theorem dX1_secondGiftAt_53 : decode cX1_secondGiftAt 53 = .ok (.invokevirtual 81, 3) := by decide +kernel
theorem dX1_secondGiftAt_56 : decode cX1_secondGiftAt 56 = .ok (.aload_n 0, 1) := by decide +kernel
theorem dX1_secondGiftAt_57 : decode cX1_secondGiftAt 57 = .ok (.getfield 19, 3) := by decide +kernel
theorem dX1_secondGiftAt_60 : decode cX1_secondGiftAt 60 = .ok (.getfield 59, 3) := by decide +kernel
theorem dX1_secondGiftAt_63 : decode cX1_secondGiftAt 63 = .ok (.iload_n 1, 1) := by decide +kernel
theorem dX1_secondGiftAt_64 : decode cX1_secondGiftAt 64 = .ok (.isub, 1) := by decide +kernel
theorem dX1_secondGiftAt_65 : decode cX1_secondGiftAt 65 = .ok (.invokestatic 96, 3) := by decide +kernel
theorem dX1_secondGiftAt_68 : decode cX1_secondGiftAt 68 = .ok (.ireturn, 1) := by decide +kernel
theorem dX1_lackOf_0 : decode cX1_lackOf 0 = .ok (.iload_n 2, 1) := by decide +kernel
theorem dX1_lackOf_1 : decode cX1_lackOf 1 = .ok (.istore_n 3, 1) := by decide +kernel
theorem dX1_lackOf_2 : decode cX1_lackOf 2 = .ok (.aload_n 0, 1) := by decide +kernel
theorem dX1_lackOf_3 : decode cX1_lackOf 3 = .ok (.getfield 38, 3) := by decide +kernel
theorem dX1_lackOf_6 : decode cX1_lackOf 6 = .ok (.iconst 1, 1) := by decide +kernel
theorem dX1_lackOf_7 : decode cX1_lackOf 7 = .ok (.if_icmp .ne 5, 3) := by decide +kernel
theorem dX1_lackOf_10 : decode cX1_lackOf 10 = .ok (.iconst 0, 1) := by decide +kernel
theorem dX1_lackOf_11 : decode cX1_lackOf 11 = .ok (.istore_n 3, 1) := by decide +kernel
theorem dX1_lackOf_12 : decode cX1_lackOf 12 = .ok (.aload_n 0, 1) := by decide +kernel
theorem dX1_lackOf_13 : decode cX1_lackOf 13 = .ok (.getfield 38, 3) := by decide +kernel
theorem dX1_lackOf_16 : decode cX1_lackOf 16 = .ok (.iconst 2, 1) := by decide +kernel
theorem dX1_lackOf_17 : decode cX1_lackOf 17 = .ok (.if_icmp .ne 11, 3) := by decide +kernel
theorem dX1_lackOf_20 : decode cX1_lackOf 20 = .ok (.iload_n 2, 1) := by decide +kernel
theorem dX1_lackOf_21 : decode cX1_lackOf 21 = .ok (.bipush 10, 2) := by decide +kernel
theorem dX1_lackOf_23 : decode cX1_lackOf 23 = .ok (.idiv, 1) := by decide +kernel
theorem dX1_lackOf_24 : decode cX1_lackOf 24 = .ok (.bipush 10, 2) := by decide +kernel
theorem dX1_lackOf_26 : decode cX1_lackOf 26 = .ok (.imul, 1) := by decide +kernel
theorem dX1_lackOf_27 : decode cX1_lackOf 27 = .ok (.istore_n 3, 1) := by decide +kernel
theorem dX1_lackOf_28 : decode cX1_lackOf 28 = .ok (.iconst 0, 1) := by decide +kernel
theorem dX1_lackOf_29 : decode cX1_lackOf 29 = .ok (.iload_n 1, 1) := by decide +kernel
theorem dX1_lackOf_30 : decode cX1_lackOf 30 = .ok (.iload_n 3, 1) := by decide +kernel
theorem dX1_lackOf_31 : decode cX1_lackOf 31 = .ok (.isub, 1) := by decide +kernel
theorem dX1_lackOf_32 : decode cX1_lackOf 32 = .ok (.invokestatic 103, 3) := by decide +kernel
theorem dX1_lackOf_35 : decode cX1_lackOf 35 = .ok (.ireturn, 1) := by decide +kernel
theorem dX1_giftByKind_0 : decode cX1_giftByKind 0 = .ok (.iload_n 0, 1) := by decide +kernel
theorem dX1_giftByKind_1 : decode cX1_giftByKind 1 = .ok (.tableswitch 68 0 4 #[35, 68, 51, 68, 57], 35) := by decide +kernel
theorem dX1_giftByKind_36 : decode cX1_giftByKind 36 = .ok (.iload_n 3, 1) := by decide +kernel
theorem dX1_giftByKind_37 : decode cX1_giftByKind 37 = .ok (.iconst 1, 1) := by decide +kernel
theorem dX1_giftByKind_38 : decode cX1_giftByKind 38 = .ok (.if_icmp .ne 12, 3) := by decide +kernel
theorem dX1_giftByKind_41 : decode cX1_giftByKind 41 = .ok (.iload_n 2, 1) := by decide +kernel
theorem dX1_giftByKind_42 : decode cX1_giftByKind 42 = .ok (.iload_n 1, 1) := by decide +kernel
theorem dX1_giftByKind_43 : decode cX1_giftByKind 43 = .ok (.if_icmp .gt 7, 3) := by decide +kernel
theorem dX1_giftByKind_46 : decode cX1_giftByKind 46 = .ok (.iload_n 2, 1) := by decide +kernel
theorem dX1_giftByKind_47 : decode cX1_giftByKind 47 = .ok (.goto 4, 3) := by decide +kernel
theorem dX1_giftByKind_50 : decode cX1_giftByKind 50 = .ok (.iconst 0, 1) := by decide +kernel
theorem dX1_giftByKind_51 : decode cX1_giftByKind 51 = .ok (.ireturn, 1) := by decide +kernel
theorem dX1_giftByKind_52 : decode cX1_giftByKind 52 = .ok (.iload_n 1, 1) := by decide +kernel
theorem dX1_giftByKind_53 : decode cX1_giftByKind 53 = .ok (.iconst 1, 1) := by decide +kernel
theorem dX1_giftByKind_54 : decode cX1_giftByKind 54 = .ok (.iadd, 1) := by decide +kernel
theorem dX1_giftByKind_55 : decode cX1_giftByKind 55 = .ok (.iconst 2, 1) := by decide +kernel
theorem dX1_giftByKind_56 : decode cX1_giftByKind 56 = .ok (.idiv, 1) := by decide +kernel
theorem dX1_giftByKind_57 : decode cX1_giftByKind 57 = .ok (.ireturn, 1) := by decide +kernel
theorem dX1_giftByKind_58 : decode cX1_giftByKind 58 = .ok (.iload_n 2, 1) := by decide +kernel
theorem dX1_giftByKind_59 : decode cX1_giftByKind 59 = .ok (.iload_n 1, 1) := by decide +kernel
theorem dX1_giftByKind_60 : decode cX1_giftByKind 60 = .ok (.if_icmp .gt 7, 3) := by decide +kernel
theorem dX1_giftByKind_63 : decode cX1_giftByKind 63 = .ok (.iload_n 2, 1) := by decide +kernel
theorem dX1_giftByKind_64 : decode cX1_giftByKind 64 = .ok (.goto 4, 3) := by decide +kernel
theorem dX1_giftByKind_67 : decode cX1_giftByKind 67 = .ok (.iconst 0, 1) := by decide +kernel
theorem dX1_giftByKind_68 : decode cX1_giftByKind 68 = .ok (.ireturn, 1) := by decide +kernel
theorem dX1_giftByKind_69 : decode cX1_giftByKind 69 = .ok (.iload_n 3, 1) := by decide +kernel
theorem dX1_giftByKind_70 : decode cX1_giftByKind 70 = .ok (.iconst 1, 1) := by decide +kernel
theorem dX1_giftByKind_71 : decode cX1_giftByKind 71 = .ok (.if_icmp .ge 7, 3) := by decide +kernel
theorem dX1_giftByKind_74 : decode cX1_giftByKind 74 = .ok (.iconst 0, 1) := by decide +kernel
theorem dX1_giftByKind_75 : decode cX1_giftByKind 75 = .ok (.goto 14, 3) := by decide +kernel
theorem dX1_giftByKind_78 : decode cX1_giftByKind 78 = .ok (.iload_n 2, 1) := by decide +kernel
theorem dX1_giftByKind_79 : decode cX1_giftByKind 79 = .ok (.iload_n 3, 1) := by decide +kernel
theorem dX1_giftByKind_80 : decode cX1_giftByKind 80 = .ok (.iadd, 1) := by decide +kernel
theorem dX1_giftByKind_81 : decode cX1_giftByKind 81 = .ok (.iconst 1, 1) := by decide +kernel
theorem dX1_giftByKind_82 : decode cX1_giftByKind 82 = .ok (.isub, 1) := by decide +kernel
theorem dX1_giftByKind_83 : decode cX1_giftByKind 83 = .ok (.iload_n 3, 1) := by decide +kernel
theorem dX1_giftByKind_84 : decode cX1_giftByKind 84 = .ok (.idiv, 1) := by decide +kernel
theorem dX1_giftByKind_85 : decode cX1_giftByKind 85 = .ok (.iload_n 1, 1) := by decide +kernel
theorem dX1_giftByKind_86 : decode cX1_giftByKind 86 = .ok (.invokestatic 66, 3) := by decide +kernel
theorem dX1_giftByKind_89 : decode cX1_giftByKind 89 = .ok (.ireturn, 1) := by decide +kernel
theorem dX1_isBuilt_0 : decode cX1_isBuilt 0 = .ok (.aload_n 0, 1) := by decide +kernel
theorem dX1_isBuilt_1 : decode cX1_isBuilt 1 = .ok (.getfield 29, 3) := by decide +kernel
theorem dX1_isBuilt_4 : decode cX1_isBuilt 4 = .ok (.aload_n 0, 1) := by decide +kernel
theorem dX1_isBuilt_5 : decode cX1_isBuilt 5 = .ok (.getfield 19, 3) := by decide +kernel
theorem dX1_isBuilt_8 : decode cX1_isBuilt 8 = .ok (.getfield 59, 3) := by decide +kernel
theorem dX1_isBuilt_11 : decode cX1_isBuilt 11 = .ok (.iaload, 1) := by decide +kernel
theorem dX1_isBuilt_12 : decode cX1_isBuilt 12 = .ok (.aload_n 0, 1) := by decide +kernel
theorem dX1_isBuilt_13 : decode cX1_isBuilt 13 = .ok (.getfield 45, 3) := by decide +kernel
theorem dX1_isBuilt_16 : decode cX1_isBuilt 16 = .ok (.if_icmp .lt 29, 3) := by decide +kernel
theorem dX1_isBuilt_19 : decode cX1_isBuilt 19 = .ok (.aload_n 0, 1) := by decide +kernel
theorem dX1_isBuilt_20 : decode cX1_isBuilt 20 = .ok (.getfield 32, 3) := by decide +kernel
theorem dX1_isBuilt_23 : decode cX1_isBuilt 23 = .ok (.aload_n 0, 1) := by decide +kernel
theorem dX1_isBuilt_24 : decode cX1_isBuilt 24 = .ok (.getfield 19, 3) := by decide +kernel
theorem dX1_isBuilt_27 : decode cX1_isBuilt 27 = .ok (.getfield 59, 3) := by decide +kernel
theorem dX1_isBuilt_30 : decode cX1_isBuilt 30 = .ok (.iaload, 1) := by decide +kernel
theorem dX1_isBuilt_31 : decode cX1_isBuilt 31 = .ok (.aload_n 0, 1) := by decide +kernel
theorem dX1_isBuilt_32 : decode cX1_isBuilt 32 = .ok (.getfield 10, 3) := by decide +kernel
theorem dX1_isBuilt_35 : decode cX1_isBuilt 35 = .ok (.getfield 106, 3) := by decide +kernel
theorem dX1_isBuilt_38 : decode cX1_isBuilt 38 = .ok (.if_icmp .lt 7, 3) := by decide +kernel
theorem dX1_isBuilt_41 : decode cX1_isBuilt 41 = .ok (.iconst 1, 1) := by decide +kernel
theorem dX1_isBuilt_42 : decode cX1_isBuilt 42 = .ok (.goto 4, 3) := by decide +kernel
theorem dX1_isBuilt_45 : decode cX1_isBuilt 45 = .ok (.iconst 0, 1) := by decide +kernel
theorem dX1_isBuilt_46 : decode cX1_isBuilt 46 = .ok (.ireturn, 1) := by decide +kernel
theorem dX1_isSecondBuilt_0 : decode cX1_isSecondBuilt 0 = .ok (.aload_n 0, 1) := by decide +kernel
theorem dX1_isSecondBuilt_1 : decode cX1_isSecondBuilt 1 = .ok (.getfield 10, 3) := by decide +kernel
theorem dX1_isSecondBuilt_4 : decode cX1_isSecondBuilt 4 = .ok (.getfield 72, 3) := by decide +kernel
theorem dX1_isSecondBuilt_7 : decode cX1_isSecondBuilt 7 = .ok (.ifCond .le 29, 3) := by decide +kernel
theorem dX1_isSecondBuilt_10 : decode cX1_isSecondBuilt 10 = .ok (.aload_n 0, 1) := by decide +kernel
theorem dX1_isSecondBuilt_11 : decode cX1_isSecondBuilt 11 = .ok (.getfield 35, 3) := by decide +kernel
theorem dX1_isSecondBuilt_14 : decode cX1_isSecondBuilt 14 = .ok (.aload_n 0, 1) := by decide +kernel
theorem dX1_isSecondBuilt_15 : decode cX1_isSecondBuilt 15 = .ok (.getfield 19, 3) := by decide +kernel
theorem dX1_isSecondBuilt_18 : decode cX1_isSecondBuilt 18 = .ok (.getfield 59, 3) := by decide +kernel
theorem dX1_isSecondBuilt_21 : decode cX1_isSecondBuilt 21 = .ok (.iaload, 1) := by decide +kernel
theorem dX1_isSecondBuilt_22 : decode cX1_isSecondBuilt 22 = .ok (.aload_n 0, 1) := by decide +kernel
theorem dX1_isSecondBuilt_23 : decode cX1_isSecondBuilt 23 = .ok (.getfield 10, 3) := by decide +kernel
theorem dX1_isSecondBuilt_26 : decode cX1_isSecondBuilt 26 = .ok (.getfield 72, 3) := by decide +kernel
theorem dX1_isSecondBuilt_29 : decode cX1_isSecondBuilt 29 = .ok (.if_icmp .lt 7, 3) := by decide +kernel
theorem dX1_isSecondBuilt_32 : decode cX1_isSecondBuilt 32 = .ok (.iconst 1, 1) := by decide +kernel
theorem dX1_isSecondBuilt_33 : decode cX1_isSecondBuilt 33 = .ok (.goto 4, 3) := by decide +kernel
theorem dX1_isSecondBuilt_36 : decode cX1_isSecondBuilt 36 = .ok (.iconst 0, 1) := by decide +kernel
theorem dX1_isSecondBuilt_37 : decode cX1_isSecondBuilt 37 = .ok (.ireturn, 1) := by decide +kernel
theorem dX1_hasAt_0 : decode cX1_hasAt 0 = .ok (.iload_n 1, 1) := by decide +kernel
theorem dX1_hasAt_1 : decode cX1_hasAt 1 = .ok (.ifCond .lt 14, 3) := by decide +kernel
theorem dX1_hasAt_4 : decode cX1_hasAt 4 = .ok (.iload_n 1, 1) := by decide +kernel
theorem dX1_hasAt_5 : decode cX1_hasAt 5 = .ok (.aload_n 0, 1) := by decide +kernel
theorem dX1_hasAt_6 : decode cX1_hasAt 6 = .ok (.getfield 19, 3) := by decide +kernel
theorem dX1_hasAt_9 : decode cX1_hasAt 9 = .ok (.getfield 59, 3) := by decide +kernel
theorem dX1_hasAt_12 : decode cX1_hasAt 12 = .ok (.if_icmp .lt 5, 3) := by decide +kernel
theorem dX1_hasAt_15 : decode cX1_hasAt 15 = .ok (.iconst 0, 1) := by decide +kernel
theorem dX1_hasAt_16 : decode cX1_hasAt 16 = .ok (.ireturn, 1) := by decide +kernel
theorem dX1_hasAt_17 : decode cX1_hasAt 17 = .ok (.aload_n 0, 1) := by decide +kernel
theorem dX1_hasAt_18 : decode cX1_hasAt 18 = .ok (.getfield 25, 3) := by decide +kernel
theorem dX1_hasAt_21 : decode cX1_hasAt 21 = .ok (.iload_n 1, 1) := by decide +kernel
theorem dX1_hasAt_22 : decode cX1_hasAt 22 = .ok (.iaload, 1) := by decide +kernel
theorem dX1_hasAt_23 : decode cX1_hasAt 23 = .ok (.istore_n 3, 1) := by decide +kernel
theorem dX1_hasAt_24 : decode cX1_hasAt 24 = .ok (.aload_n 0, 1) := by decide +kernel
theorem dX1_hasAt_25 : decode cX1_hasAt 25 = .ok (.invokevirtual 109, 3) := by decide +kernel
theorem dX1_hasAt_28 : decode cX1_hasAt 28 = .ok (.ifCond .ne 19, 3) := by decide +kernel
theorem dX1_hasAt_31 : decode cX1_hasAt 31 = .ok (.iload_n 3, 1) := by decide +kernel
theorem dX1_hasAt_32 : decode cX1_hasAt 32 = .ok (.ifCond .le 13, 3) := by decide +kernel
theorem dX1_hasAt_35 : decode cX1_hasAt 35 = .ok (.aload_n 0, 1) := by decide +kernel
theorem dX1_hasAt_36 : decode cX1_hasAt 36 = .ok (.getfield 10, 3) := by decide +kernel
theorem dX1_hasAt_39 : decode cX1_hasAt 39 = .ok (.getfield 113, 3) := by decide +kernel
theorem dX1_hasAt_42 : decode cX1_hasAt 42 = .ok (.goto 4, 3) := by decide +kernel
theorem dX1_hasAt_45 : decode cX1_hasAt 45 = .ok (.iconst 0, 1) := by decide +kernel
theorem dX1_hasAt_46 : decode cX1_hasAt 46 = .ok (.ireturn, 1) := by decide +kernel
theorem dX1_hasAt_47 : decode cX1_hasAt 47 = .ok (.iload_n 2, 1) := by decide +kernel
theorem dX1_hasAt_48 : decode cX1_hasAt 48 = .ok (.iload_n 3, 1) := by decide +kernel
theorem dX1_hasAt_49 : decode cX1_hasAt 49 = .ok (.isub, 1) := by decide +kernel
theorem dX1_hasAt_50 : decode cX1_hasAt 50 = .ok (.istore 4, 2) := by decide +kernel
theorem dX1_hasAt_52 : decode cX1_hasAt 52 = .ok (.iload_n 3, 1) := by decide +kernel
theorem dX1_hasAt_53 : decode cX1_hasAt 53 = .ok (.ifCond .le 31, 3) := by decide +kernel
theorem dX1_hasAt_56 : decode cX1_hasAt 56 = .ok (.aload_n 0, 1) := by decide +kernel
theorem dX1_hasAt_57 : decode cX1_hasAt 57 = .ok (.getfield 19, 3) := by decide +kernel
theorem dX1_hasAt_60 : decode cX1_hasAt 60 = .ok (.getfield 90, 3) := by decide +kernel
theorem dX1_hasAt_63 : decode cX1_hasAt 63 = .ok (.iload_n 1, 1) := by decide +kernel
theorem dX1_hasAt_64 : decode cX1_hasAt 64 = .ok (.iaload, 1) := by decide +kernel
theorem dX1_hasAt_65 : decode cX1_hasAt 65 = .ok (.aload_n 0, 1) := by decide +kernel
theorem dX1_hasAt_66 : decode cX1_hasAt 66 = .ok (.getfield 10, 3) := by decide +kernel
theorem dX1_hasAt_69 : decode cX1_hasAt 69 = .ok (.getfield 93, 3) := by decide +kernel
theorem dX1_hasAt_72 : decode cX1_hasAt 72 = .ok (.if_icmp .gt 12, 3) := by decide +kernel
theorem dX1_hasAt_75 : decode cX1_hasAt 75 = .ok (.iload 4, 2) := by decide +kernel
theorem dX1_hasAt_77 : decode cX1_hasAt 77 = .ok (.aload_n 0, 1) := by decide +kernel
theorem dX1_hasAt_78 : decode cX1_hasAt 78 = .ok (.getfield 49, 3) := by decide +kernel
theorem dX1_hasAt_81 : decode cX1_hasAt 81 = .ok (.iadd, 1) := by decide +kernel
theorem dX1_hasAt_82 : decode cX1_hasAt 82 = .ok (.istore 4, 2) := by decide +kernel
theorem dX1_hasAt_84 : decode cX1_hasAt 84 = .ok (.aload_n 0, 1) := by decide +kernel
theorem dX1_hasAt_85 : decode cX1_hasAt 85 = .ok (.getfield 29, 3) := by decide +kernel
theorem dX1_hasAt_88 : decode cX1_hasAt 88 = .ok (.aload_n 0, 1) := by decide +kernel
theorem dX1_hasAt_89 : decode cX1_hasAt 89 = .ok (.getfield 19, 3) := by decide +kernel
theorem dX1_hasAt_92 : decode cX1_hasAt 92 = .ok (.getfield 59, 3) := by decide +kernel
theorem dX1_hasAt_95 : decode cX1_hasAt 95 = .ok (.iaload, 1) := by decide +kernel
theorem dX1_hasAt_96 : decode cX1_hasAt 96 = .ok (.istore 5, 2) := by decide +kernel
theorem dX1_hasAt_98 : decode cX1_hasAt 98 = .ok (.aload_n 0, 1) := by decide +kernel
theorem dX1_hasAt_99 : decode cX1_hasAt 99 = .ok (.getfield 10, 3) := by decide +kernel
theorem dX1_hasAt_102 : decode cX1_hasAt 102 = .ok (.getfield 116, 3) := by decide +kernel
theorem dX1_hasAt_105 : decode cX1_hasAt 105 = .ok (.ifCond .eq 25, 3) := by decide +kernel
theorem dX1_hasAt_108 : decode cX1_hasAt 108 = .ok (.iload 5, 2) := by decide +kernel
theorem dX1_hasAt_110 : decode cX1_hasAt 110 = .ok (.ifCond .le 20, 3) := by decide +kernel
theorem dX1_hasAt_113 : decode cX1_hasAt 113 = .ok (.iload 4, 2) := by decide +kernel
theorem dX1_hasAt_115 : decode cX1_hasAt 115 = .ok (.iload_n 3, 1) := by decide +kernel
theorem dX1_hasAt_116 : decode cX1_hasAt 116 = .ok (.iload 5, 2) := by decide +kernel
theorem dX1_hasAt_118 : decode cX1_hasAt 118 = .ok (.aload_n 0, 1) := by decide +kernel
theorem dX1_hasAt_119 : decode cX1_hasAt 119 = .ok (.getfield 45, 3) := by decide +kernel
theorem dX1_hasAt_122 : decode cX1_hasAt 122 = .ok (.isub, 1) := by decide +kernel
theorem dX1_hasAt_123 : decode cX1_hasAt 123 = .ok (.imul, 1) := by decide +kernel
theorem dX1_hasAt_124 : decode cX1_hasAt 124 = .ok (.iload 5, 2) := by decide +kernel
theorem dX1_hasAt_126 : decode cX1_hasAt 126 = .ok (.idiv, 1) := by decide +kernel
theorem dX1_hasAt_127 : decode cX1_hasAt 127 = .ok (.iadd, 1) := by decide +kernel
theorem dX1_hasAt_128 : decode cX1_hasAt 128 = .ok (.istore 4, 2) := by decide +kernel
theorem dX1_hasAt_130 : decode cX1_hasAt 130 = .ok (.iload 4, 2) := by decide +kernel
theorem dX1_hasAt_132 : decode cX1_hasAt 132 = .ok (.ireturn, 1) := by decide +kernel
theorem dX2_init_0 : decode cX2_init 0 = .ok (.aload_n 0, 1) := by decide +kernel
theorem dX2_init_1 : decode cX2_init 1 = .ok (.invokespecial 1, 3) := by decide +kernel
theorem dX2_init_4 : decode cX2_init 4 = .ok (.aload_n 0, 1) := by decide +kernel
theorem dX2_init_5 : decode cX2_init 5 = .ok (.new 7, 3) := by decide +kernel
theorem dX2_init_8 : decode cX2_init 8 = .ok (.dup, 1) := by decide +kernel
theorem dX2_init_9 : decode cX2_init 9 = .ok (.invokespecial 9, 3) := by decide +kernel
theorem dX2_init_12 : decode cX2_init 12 = .ok (.putfield 10, 3) := by decide +kernel
theorem dX2_init_15 : decode cX2_init 15 = .ok (.return_, 1) := by decide +kernel
theorem dX2_clear_0 : decode cX2_clear 0 = .ok (.aload_n 0, 1) := by decide +kernel
theorem dX2_clear_1 : decode cX2_clear 1 = .ok (.bipush 20, 2) := by decide +kernel
theorem dX2_clear_3 : decode cX2_clear 3 = .ok (.putfield 16, 3) := by decide +kernel
theorem dX2_clear_6 : decode cX2_clear 6 = .ok (.aload_n 0, 1) := by decide +kernel
theorem dX2_clear_7 : decode cX2_clear 7 = .ok (.iconst 0, 1) := by decide +kernel
theorem dX2_clear_8 : decode cX2_clear 8 = .ok (.putfield 20, 3) := by decide +kernel
theorem dX2_clear_11 : decode cX2_clear 11 = .ok (.aload_n 0, 1) := by decide +kernel
theorem dX2_clear_12 : decode cX2_clear 12 = .ok (.bipush 9, 2) := by decide +kernel
theorem dX2_clear_14 : decode cX2_clear 14 = .ok (.putfield 23, 3) := by decide +kernel
theorem dX2_clear_17 : decode cX2_clear 17 = .ok (.aload_n 0, 1) := by decide +kernel
theorem dX2_clear_18 : decode cX2_clear 18 = .ok (.bipush 20, 2) := by decide +kernel
theorem dX2_clear_20 : decode cX2_clear 20 = .ok (.putfield 26, 3) := by decide +kernel
theorem dX2_clear_23 : decode cX2_clear 23 = .ok (.aload_n 0, 1) := by decide +kernel
theorem dX2_clear_24 : decode cX2_clear 24 = .ok (.iconst 0, 1) := by decide +kernel
theorem dX2_clear_25 : decode cX2_clear 25 = .ok (.putfield 29, 3) := by decide +kernel
theorem dX2_clear_28 : decode cX2_clear 28 = .ok (.aload_n 0, 1) := by decide +kernel
theorem dX2_clear_29 : decode cX2_clear 29 = .ok (.iconst 0, 1) := by decide +kernel
theorem dX2_clear_30 : decode cX2_clear 30 = .ok (.putfield 32, 3) := by decide +kernel
theorem dX2_clear_33 : decode cX2_clear 33 = .ok (.aload_n 0, 1) := by decide +kernel
theorem dX2_clear_34 : decode cX2_clear 34 = .ok (.iconst 0, 1) := by decide +kernel
theorem dX2_clear_35 : decode cX2_clear 35 = .ok (.putfield 35, 3) := by decide +kernel
theorem dX2_clear_38 : decode cX2_clear 38 = .ok (.aload_n 0, 1) := by decide +kernel
theorem dX2_clear_39 : decode cX2_clear 39 = .ok (.iconst 0, 1) := by decide +kernel
theorem dX2_clear_40 : decode cX2_clear 40 = .ok (.putfield 38, 3) := by decide +kernel
theorem dX2_clear_43 : decode cX2_clear 43 = .ok (.aload_n 0, 1) := by decide +kernel
theorem dX2_clear_44 : decode cX2_clear 44 = .ok (.iconst 0, 1) := by decide +kernel
theorem dX2_clear_45 : decode cX2_clear 45 = .ok (.putfield 42, 3) := by decide +kernel
theorem dX2_clear_48 : decode cX2_clear 48 = .ok (.aload_n 0, 1) := by decide +kernel
theorem dX2_clear_49 : decode cX2_clear 49 = .ok (.iconst 0, 1) := by decide +kernel
theorem dX2_clear_50 : decode cX2_clear 50 = .ok (.putfield 45, 3) := by decide +kernel
theorem dX2_clear_53 : decode cX2_clear 53 = .ok (.aload_n 0, 1) := by decide +kernel
theorem dX2_clear_54 : decode cX2_clear 54 = .ok (.getfield 10, 3) := by decide +kernel
theorem dX2_clear_57 : decode cX2_clear 57 = .ok (.invokevirtual 48, 3) := by decide +kernel
theorem dX2_clear_60 : decode cX2_clear 60 = .ok (.return_, 1) := by decide +kernel
theorem dX2_setBar_0 : decode cX2_setBar 0 = .ok (.aload_n 0, 1) := by decide +kernel
theorem dX2_setBar_1 : decode cX2_setBar 1 = .ok (.iload_n 1, 1) := by decide +kernel
theorem dX2_setBar_2 : decode cX2_setBar 2 = .ok (.putfield 16, 3) := by decide +kernel
theorem dX2_setBar_5 : decode cX2_setBar 5 = .ok (.aload_n 0, 1) := by decide +kernel
theorem dX2_setBar_6 : decode cX2_setBar 6 = .ok (.iload_n 2, 1) := by decide +kernel
theorem dX2_setBar_7 : decode cX2_setBar 7 = .ok (.putfield 20, 3) := by decide +kernel
theorem dX2_setBar_10 : decode cX2_setBar 10 = .ok (.return_, 1) := by decide +kernel
theorem dX2_setExtra_0 : decode cX2_setExtra 0 = .ok (.aload_n 0, 1) := by decide +kernel
theorem dX2_setExtra_1 : decode cX2_setExtra 1 = .ok (.iload_n 1, 1) := by decide +kernel
theorem dX2_setExtra_2 : decode cX2_setExtra 2 = .ok (.putfield 32, 3) := by decide +kernel
theorem dX2_setExtra_5 : decode cX2_setExtra 5 = .ok (.aload_n 0, 1) := by decide +kernel
theorem dX2_setExtra_6 : decode cX2_setExtra 6 = .ok (.iload_n 2, 1) := by decide +kernel
theorem dX2_setExtra_7 : decode cX2_setExtra 7 = .ok (.putfield 35, 3) := by decide +kernel
theorem dX2_setExtra_10 : decode cX2_setExtra 10 = .ok (.return_, 1) := by decide +kernel
theorem dX2_setSecond_0 : decode cX2_setSecond 0 = .ok (.aload_n 0, 1) := by decide +kernel
theorem dX2_setSecond_1 : decode cX2_setSecond 1 = .ok (.iload_n 1, 1) := by decide +kernel
theorem dX2_setSecond_2 : decode cX2_setSecond 2 = .ok (.putfield 42, 3) := by decide +kernel
theorem dX2_setSecond_5 : decode cX2_setSecond 5 = .ok (.aload_n 0, 1) := by decide +kernel
theorem dX2_setSecond_6 : decode cX2_setSecond 6 = .ok (.iload_n 2, 1) := by decide +kernel
theorem dX2_setSecond_7 : decode cX2_setSecond 7 = .ok (.putfield 45, 3) := by decide +kernel
theorem dX2_setSecond_10 : decode cX2_setSecond 10 = .ok (.return_, 1) := by decide +kernel
theorem dX3_init_0 : decode cX3_init 0 = .ok (.aload_n 0, 1) := by decide +kernel
theorem dX3_init_1 : decode cX3_init 1 = .ok (.invokespecial 3, 3) := by decide +kernel
theorem dX3_init_4 : decode cX3_init 4 = .ok (.aload_n 0, 1) := by decide +kernel
theorem dX3_init_5 : decode cX3_init 5 = .ok (.iconst 5, 1) := by decide +kernel
theorem dX3_init_6 : decode cX3_init 6 = .ok (.newarray .int, 2) := by decide +kernel
theorem dX3_init_8 : decode cX3_init 8 = .ok (.putfield 11, 3) := by decide +kernel
theorem dX3_init_11 : decode cX3_init 11 = .ok (.return_, 1) := by decide +kernel
theorem dX3_read_0 : decode cX3_read 0 = .ok (.aload_n 2, 1) := by decide +kernel
theorem dX3_read_1 : decode cX3_read 1 = .ok (.invokevirtual 15, 3) := by decide +kernel
theorem dX3_read_4 : decode cX3_read 4 = .ok (.aload_n 0, 1) := by decide +kernel
theorem dX3_read_5 : decode cX3_read 5 = .ok (.iconst 0, 1) := by decide +kernel
theorem dX3_read_6 : decode cX3_read 6 = .ok (.putfield 20, 3) := by decide +kernel
theorem dX3_read_9 : decode cX3_read 9 = .ok (.iconst 0, 1) := by decide +kernel
theorem dX3_read_10 : decode cX3_read 10 = .ok (.istore_n 3, 1) := by decide +kernel
theorem dX3_read_11 : decode cX3_read 11 = .ok (.iload_n 3, 1) := by decide +kernel
theorem dX3_read_12 : decode cX3_read 12 = .ok (.sipush 300, 3) := by decide +kernel
theorem dX3_read_15 : decode cX3_read 15 = .ok (.if_icmp .ge 70, 3) := by decide +kernel
theorem dX3_read_18 : decode cX3_read 18 = .ok (.aload_n 0, 1) := by decide +kernel
theorem dX3_read_19 : decode cX3_read 19 = .ok (.getfield 20, 3) := by decide +kernel
theorem dX3_read_22 : decode cX3_read 22 = .ok (.aload_n 1, 1) := by decide +kernel
theorem dX3_read_23 : decode cX3_read 23 = .ok (.getfield 26, 3) := by decide +kernel
theorem dX3_read_26 : decode cX3_read 26 = .ok (.if_icmp .ge 59, 3) := by decide +kernel
theorem dX3_read_29 : decode cX3_read 29 = .ok (.aload_n 0, 1) := by decide +kernel
theorem dX3_read_30 : decode cX3_read 30 = .ok (.getfield 20, 3) := by decide +kernel
theorem dX3_read_33 : decode cX3_read 33 = .ok (.istore 4, 2) := by decide +kernel
theorem dX3_read_35 : decode cX3_read 35 = .ok (.aload_n 1, 1) := by decide +kernel
theorem dX3_read_36 : decode cX3_read 36 = .ok (.iload 4, 2) := by decide +kernel
theorem dX3_read_38 : decode cX3_read 38 = .ok (.invokevirtual 29, 3) := by decide +kernel
theorem dX3_read_41 : decode cX3_read 41 = .ok (.istore 5, 2) := by decide +kernel
theorem dX3_read_43 : decode cX3_read 43 = .ok (.aload_n 0, 1) := by decide +kernel
theorem dX3_read_44 : decode cX3_read 44 = .ok (.dup, 1) := by decide +kernel
theorem dX3_read_45 : decode cX3_read 45 = .ok (.getfield 20, 3) := by decide +kernel
theorem dX3_read_48 : decode cX3_read 48 = .ok (.iconst 1, 1) := by decide +kernel
theorem dX3_read_49 : decode cX3_read 49 = .ok (.iadd, 1) := by decide +kernel
theorem dX3_read_50 : decode cX3_read 50 = .ok (.putfield 20, 3) := by decide +kernel
theorem dX3_read_53 : decode cX3_read 53 = .ok (.aload_n 0, 1) := by decide +kernel
theorem dX3_read_54 : decode cX3_read 54 = .ok (.aload_n 1, 1) := by decide +kernel
theorem dX3_read_55 : decode cX3_read 55 = .ok (.iload 5, 2) := by decide +kernel
theorem dX3_read_57 : decode cX3_read 57 = .ok (.invokestatic 33, 3) := by decide +kernel
theorem dX3_read_60 : decode cX3_read 60 = .ok (.invokevirtual 36, 3) := by decide +kernel
theorem dX3_read_63 : decode cX3_read 63 = .ok (.ifCond .eq 13, 3) := by decide +kernel
theorem dX3_read_66 : decode cX3_read 66 = .ok (.aload_n 0, 1) := by decide +kernel
theorem dX3_read_67 : decode cX3_read 67 = .ok (.iload 5, 2) := by decide +kernel
theorem dX3_read_69 : decode cX3_read 69 = .ok (.aload_n 2, 1) := by decide +kernel
theorem dX3_read_70 : decode cX3_read 70 = .ok (.invokevirtual 40, 3) := by decide +kernel
theorem dX3_read_73 : decode cX3_read 73 = .ok (.ifCond .ne 6, 3) := by decide +kernel
theorem dX3_read_76 : decode cX3_read 76 = .ok (.iload 4, 2) := by decide +kernel
theorem dX3_read_78 : decode cX3_read 78 = .ok (.ireturn, 1) := by decide +kernel
theorem dX3_read_79 : decode cX3_read 79 = .ok (.iinc 3 1, 3) := by decide +kernel
theorem dX3_read_82 : decode cX3_read 82 = .ok (.goto (-71), 3) := by decide +kernel
theorem dX3_read_85 : decode cX3_read 85 = .ok (.aload_n 2, 1) := by decide +kernel
theorem dX3_read_86 : decode cX3_read 86 = .ok (.getfield 44, 3) := by decide +kernel
theorem dX3_read_89 : decode cX3_read 89 = .ok (.invokevirtual 48, 3) := by decide +kernel
theorem dX3_read_92 : decode cX3_read 92 = .ok (.ifCond .eq 8, 3) := by decide +kernel
theorem dX3_read_95 : decode cX3_read 95 = .ok (.bipush (-4), 2) := by decide +kernel
theorem dX3_read_97 : decode cX3_read 97 = .ok (.goto 7, 3) := by decide +kernel
theorem dX3_read_100 : decode cX3_read 100 = .ok (.aload_n 1, 1) := by decide +kernel
theorem dX3_read_101 : decode cX3_read 101 = .ok (.getfield 26, 3) := by decide +kernel
theorem dX3_read_104 : decode cX3_read 104 = .ok (.ireturn, 1) := by decide +kernel
theorem dX3_numbersOf_0 : decode cX3_numbersOf 0 = .ok (.iload_n 0, 1) := by decide +kernel
theorem dX3_numbersOf_1 : decode cX3_numbersOf 1 = .ok (.tableswitch 111 98 119 #[105, 103, 103, 105, 111, 109, 111, 111, 111, 111, 111, 111, 111, 103, 103, 111, 111, 105, 105, 111, 111, 107], 103) := by decide +kernel
theorem dX3_numbersOf_104 : decode cX3_numbersOf 104 = .ok (.iconst 1, 1) := by decide +kernel
theorem dX3_numbersOf_105 : decode cX3_numbersOf 105 = .ok (.ireturn, 1) := by decide +kernel
theorem dX3_numbersOf_106 : decode cX3_numbersOf 106 = .ok (.iconst 2, 1) := by decide +kernel
theorem dX3_numbersOf_107 : decode cX3_numbersOf 107 = .ok (.ireturn, 1) := by decide +kernel
theorem dX3_numbersOf_108 : decode cX3_numbersOf 108 = .ok (.iconst 3, 1) := by decide +kernel
theorem dX3_numbersOf_109 : decode cX3_numbersOf 109 = .ok (.ireturn, 1) := by decide +kernel
theorem dX3_numbersOf_110 : decode cX3_numbersOf 110 = .ok (.iconst 5, 1) := by decide +kernel
theorem dX3_numbersOf_111 : decode cX3_numbersOf 111 = .ok (.ireturn, 1) := by decide +kernel
theorem dX3_numbersOf_112 : decode cX3_numbersOf 112 = .ok (.iconst 0, 1) := by decide +kernel
theorem dX3_numbersOf_113 : decode cX3_numbersOf 113 = .ok (.ireturn, 1) := by decide +kernel
theorem dX3_readNumbers_0 : decode cX3_readNumbers 0 = .ok (.iload_n 2, 1) := by decide +kernel
theorem dX3_readNumbers_1 : decode cX3_readNumbers 1 = .ok (.iconst 1, 1) := by decide +kernel
theorem dX3_readNumbers_2 : decode cX3_readNumbers 2 = .ok (.if_icmp .lt 8, 3) := by decide +kernel
theorem dX3_readNumbers_5 : decode cX3_readNumbers 5 = .ok (.iload_n 2, 1) := by decide +kernel
theorem dX3_readNumbers_6 : decode cX3_readNumbers 6 = .ok (.iconst 5, 1) := by decide +kernel
theorem dX3_readNumbers_7 : decode cX3_readNumbers 7 = .ok (.if_icmp .le 5, 3) := by decide +kernel
theorem dX3_readNumbers_10 : decode cX3_readNumbers 10 = .ok (.iconst 0, 1) := by decide +kernel
theorem dX3_readNumbers_11 : decode cX3_readNumbers 11 = .ok (.ireturn, 1) := by decide +kernel
theorem dX3_readNumbers_12 : decode cX3_readNumbers 12 = .ok (.iconst 0, 1) := by decide +kernel
theorem dX3_readNumbers_13 : decode cX3_readNumbers 13 = .ok (.istore_n 3, 1) := by decide +kernel
theorem dX3_readNumbers_14 : decode cX3_readNumbers 14 = .ok (.iload_n 3, 1) := by decide +kernel
theorem dX3_readNumbers_15 : decode cX3_readNumbers 15 = .ok (.iload_n 2, 1) := by decide +kernel
theorem dX3_readNumbers_16 : decode cX3_readNumbers 16 = .ok (.if_icmp .ge 66, 3) := by decide +kernel
theorem dX3_readNumbers_19 : decode cX3_readNumbers 19 = .ok (.aload_n 0, 1) := by decide +kernel
theorem dX3_readNumbers_20 : decode cX3_readNumbers 20 = .ok (.getfield 11, 3) := by decide +kernel
theorem dX3_readNumbers_23 : decode cX3_readNumbers 23 = .ok (.iload_n 3, 1) := by decide +kernel
theorem dX3_readNumbers_24 : decode cX3_readNumbers 24 = .ok (.aload_n 0, 1) := by decide +kernel
theorem dX3_readNumbers_25 : decode cX3_readNumbers 25 = .ok (.aload_n 1, 1) := by decide +kernel
theorem dX3_readNumbers_26 : decode cX3_readNumbers 26 = .ok (.invokevirtual 54, 3) := by decide +kernel
theorem dX3_readNumbers_29 : decode cX3_readNumbers 29 = .ok (.iastore, 1) := by decide +kernel
theorem dX3_readNumbers_30 : decode cX3_readNumbers 30 = .ok (.aload_n 0, 1) := by decide +kernel
theorem dX3_readNumbers_31 : decode cX3_readNumbers 31 = .ok (.getfield 11, 3) := by decide +kernel
theorem dX3_readNumbers_34 : decode cX3_readNumbers 34 = .ok (.iload_n 3, 1) := by decide +kernel
theorem dX3_readNumbers_35 : decode cX3_readNumbers 35 = .ok (.iaload, 1) := by decide +kernel
theorem dX3_readNumbers_36 : decode cX3_readNumbers 36 = .ok (.ifCond .lt 28, 3) := by decide +kernel
theorem dX3_readNumbers_39 : decode cX3_readNumbers 39 = .ok (.aload_n 1, 1) := by decide +kernel
theorem dX3_readNumbers_40 : decode cX3_readNumbers 40 = .ok (.aload_n 0, 1) := by decide +kernel
theorem dX3_readNumbers_41 : decode cX3_readNumbers 41 = .ok (.getfield 20, 3) := by decide +kernel
theorem dX3_readNumbers_44 : decode cX3_readNumbers 44 = .ok (.invokevirtual 29, 3) := by decide +kernel
theorem dX3_readNumbers_47 : decode cX3_readNumbers 47 = .ok (.iload_n 3, 1) := by decide +kernel
theorem dX3_readNumbers_48 : decode cX3_readNumbers 48 = .ok (.iload_n 2, 1) := by decide +kernel
theorem dX3_readNumbers_49 : decode cX3_readNumbers 49 = .ok (.iconst 1, 1) := by decide +kernel
theorem dX3_readNumbers_50 : decode cX3_readNumbers 50 = .ok (.isub, 1) := by decide +kernel
theorem dX3_readNumbers_51 : decode cX3_readNumbers 51 = .ok (.if_icmp .ge 8, 3) := by decide +kernel
theorem dX3_readNumbers_54 : decode cX3_readNumbers 54 = .ok (.bipush 44, 2) := by decide +kernel
theorem dX3_readNumbers_56 : decode cX3_readNumbers 56 = .ok (.goto 5, 3) := by decide +kernel
theorem dX3_readNumbers_59 : decode cX3_readNumbers 59 = .ok (.bipush 59, 2) := by decide +kernel
theorem dX3_readNumbers_61 : decode cX3_readNumbers 61 = .ok (.if_icmp .eq 5, 3) := by decide +kernel
theorem dX3_readNumbers_64 : decode cX3_readNumbers 64 = .ok (.iconst 0, 1) := by decide +kernel
theorem dX3_readNumbers_65 : decode cX3_readNumbers 65 = .ok (.ireturn, 1) := by decide +kernel
theorem dX3_readNumbers_66 : decode cX3_readNumbers 66 = .ok (.aload_n 0, 1) := by decide +kernel
theorem dX3_readNumbers_67 : decode cX3_readNumbers 67 = .ok (.dup, 1) := by decide +kernel
theorem dX3_readNumbers_68 : decode cX3_readNumbers 68 = .ok (.getfield 20, 3) := by decide +kernel
theorem dX3_readNumbers_71 : decode cX3_readNumbers 71 = .ok (.iconst 1, 1) := by decide +kernel
theorem dX3_readNumbers_72 : decode cX3_readNumbers 72 = .ok (.iadd, 1) := by decide +kernel
theorem dX3_readNumbers_73 : decode cX3_readNumbers 73 = .ok (.putfield 20, 3) := by decide +kernel
theorem dX3_readNumbers_76 : decode cX3_readNumbers 76 = .ok (.iinc 3 1, 3) := by decide +kernel
theorem dX3_readNumbers_79 : decode cX3_readNumbers 79 = .ok (.goto (-65), 3) := by decide +kernel
theorem dX3_readNumbers_82 : decode cX3_readNumbers 82 = .ok (.iconst 1, 1) := by decide +kernel
theorem dX3_readNumbers_83 : decode cX3_readNumbers 83 = .ok (.ireturn, 1) := by decide +kernel
theorem dX3_readNumber_0 : decode cX3_readNumber 0 = .ok (.iconst 0, 1) := by decide +kernel
theorem dX3_readNumber_1 : decode cX3_readNumber 1 = .ok (.istore_n 2, 1) := by decide +kernel
theorem dX3_readNumber_2 : decode cX3_readNumber 2 = .ok (.iconst 0, 1) := by decide +kernel
theorem dX3_readNumber_3 : decode cX3_readNumber 3 = .ok (.istore_n 3, 1) := by decide +kernel
theorem dX3_readNumber_4 : decode cX3_readNumber 4 = .ok (.iload_n 3, 1) := by decide +kernel
theorem dX3_readNumber_5 : decode cX3_readNumber 5 = .ok (.iconst 3, 1) := by decide +kernel
theorem dX3_readNumber_6 : decode cX3_readNumber 6 = .ok (.if_icmp .gt 54, 3) := by decide +kernel
theorem dX3_readNumber_9 : decode cX3_readNumber 9 = .ok (.aload_n 1, 1) := by decide +kernel
theorem dX3_readNumber_10 : decode cX3_readNumber 10 = .ok (.aload_n 0, 1) := by decide +kernel
theorem dX3_readNumber_11 : decode cX3_readNumber 11 = .ok (.getfield 20, 3) := by decide +kernel
theorem dX3_readNumber_14 : decode cX3_readNumber 14 = .ok (.invokevirtual 29, 3) := by decide +kernel
theorem dX3_readNumber_17 : decode cX3_readNumber 17 = .ok (.bipush 48, 2) := by decide +kernel
theorem dX3_readNumber_19 : decode cX3_readNumber 19 = .ok (.bipush 57, 2) := by decide +kernel
theorem dX3_readNumber_21 : decode cX3_readNumber 21 = .ok (.invokestatic 58, 3) := by decide +kernel
theorem dX3_readNumber_24 : decode cX3_readNumber 24 = .ok (.ifCond .eq 36, 3) := by decide +kernel
theorem dX3_readNumber_27 : decode cX3_readNumber 27 = .ok (.iload_n 2, 1) := by decide +kernel
theorem dX3_readNumber_28 : decode cX3_readNumber 28 = .ok (.bipush 10, 2) := by decide +kernel
theorem dX3_readNumber_30 : decode cX3_readNumber 30 = .ok (.imul, 1) := by decide +kernel
theorem dX3_readNumber_31 : decode cX3_readNumber 31 = .ok (.aload_n 1, 1) := by decide +kernel
theorem dX3_readNumber_32 : decode cX3_readNumber 32 = .ok (.aload_n 0, 1) := by decide +kernel
theorem dX3_readNumber_33 : decode cX3_readNumber 33 = .ok (.getfield 20, 3) := by decide +kernel
theorem dX3_readNumber_36 : decode cX3_readNumber 36 = .ok (.invokevirtual 29, 3) := by decide +kernel
theorem dX3_readNumber_39 : decode cX3_readNumber 39 = .ok (.iadd, 1) := by decide +kernel
theorem dX3_readNumber_40 : decode cX3_readNumber 40 = .ok (.bipush 48, 2) := by decide +kernel
theorem dX3_readNumber_42 : decode cX3_readNumber 42 = .ok (.isub, 1) := by decide +kernel
theorem dX3_readNumber_43 : decode cX3_readNumber 43 = .ok (.istore_n 2, 1) := by decide +kernel
theorem dX3_readNumber_44 : decode cX3_readNumber 44 = .ok (.iinc 3 1, 3) := by decide +kernel
theorem dX3_readNumber_47 : decode cX3_readNumber 47 = .ok (.aload_n 0, 1) := by decide +kernel
theorem dX3_readNumber_48 : decode cX3_readNumber 48 = .ok (.dup, 1) := by decide +kernel
theorem dX3_readNumber_49 : decode cX3_readNumber 49 = .ok (.getfield 20, 3) := by decide +kernel
theorem dX3_readNumber_52 : decode cX3_readNumber 52 = .ok (.iconst 1, 1) := by decide +kernel
theorem dX3_readNumber_53 : decode cX3_readNumber 53 = .ok (.iadd, 1) := by decide +kernel
theorem dX3_readNumber_54 : decode cX3_readNumber 54 = .ok (.putfield 20, 3) := by decide +kernel
theorem dX3_readNumber_57 : decode cX3_readNumber 57 = .ok (.goto (-53), 3) := by decide +kernel
theorem dX3_readNumber_60 : decode cX3_readNumber 60 = .ok (.iload_n 3, 1) := by decide +kernel
theorem dX3_readNumber_61 : decode cX3_readNumber 61 = .ok (.iconst 1, 1) := by decide +kernel
theorem dX3_readNumber_62 : decode cX3_readNumber 62 = .ok (.if_icmp .lt 12, 3) := by decide +kernel
theorem dX3_readNumber_65 : decode cX3_readNumber 65 = .ok (.iload_n 3, 1) := by decide +kernel
theorem dX3_readNumber_66 : decode cX3_readNumber 66 = .ok (.iconst 3, 1) := by decide +kernel
theorem dX3_readNumber_67 : decode cX3_readNumber 67 = .ok (.if_icmp .gt 7, 3) := by decide +kernel
theorem dX3_readNumber_70 : decode cX3_readNumber 70 = .ok (.iload_n 2, 1) := by decide +kernel
theorem dX3_readNumber_71 : decode cX3_readNumber 71 = .ok (.goto 4, 3) := by decide +kernel
theorem dX3_readNumber_74 : decode cX3_readNumber 74 = .ok (.iconst (-1), 1) := by decide +kernel
theorem dX3_readNumber_75 : decode cX3_readNumber 75 = .ok (.ireturn, 1) := by decide +kernel
theorem dX3_upTo_0 : decode cX3_upTo 0 = .ok (.iload_n 1, 1) := by decide +kernel
theorem dX3_upTo_1 : decode cX3_upTo 1 = .ok (.ifCond .lt 22, 3) := by decide +kernel
theorem dX3_upTo_4 : decode cX3_upTo 4 = .ok (.iload_n 1, 1) := by decide +kernel
theorem dX3_upTo_5 : decode cX3_upTo 5 = .ok (.iconst 5, 1) := by decide +kernel
theorem dX3_upTo_6 : decode cX3_upTo 6 = .ok (.if_icmp .ge 17, 3) := by decide +kernel
theorem dX3_upTo_9 : decode cX3_upTo 9 = .ok (.aload_n 0, 1) := by decide +kernel
theorem dX3_upTo_10 : decode cX3_upTo 10 = .ok (.getfield 11, 3) := by decide +kernel
theorem dX3_upTo_13 : decode cX3_upTo 13 = .ok (.iload_n 1, 1) := by decide +kernel
theorem dX3_upTo_14 : decode cX3_upTo 14 = .ok (.iaload, 1) := by decide +kernel
theorem dX3_upTo_15 : decode cX3_upTo 15 = .ok (.iload_n 2, 1) := by decide +kernel
theorem dX3_upTo_16 : decode cX3_upTo 16 = .ok (.if_icmp .gt 7, 3) := by decide +kernel
theorem dX3_upTo_19 : decode cX3_upTo 19 = .ok (.iconst 1, 1) := by decide +kernel
theorem dX3_upTo_20 : decode cX3_upTo 20 = .ok (.goto 4, 3) := by decide +kernel
theorem dX3_upTo_23 : decode cX3_upTo 23 = .ok (.iconst 0, 1) := by decide +kernel
theorem dX3_upTo_24 : decode cX3_upTo 24 = .ok (.ireturn, 1) := by decide +kernel
theorem dX3_take_0 : decode cX3_take 0 = .ok (.iload_n 1, 1) := by decide +kernel
theorem dX3_take_1 : decode cX3_take 1 = .ok (.tableswitch 312 98 115 #[87, 155, 137, 192, 312, 312, 312, 312, 312, 312, 312, 312, 312, 234, 174, 312, 312, 260], 87) := by decide +kernel
theorem dX3_take_88 : decode cX3_take 88 = .ok (.aload_n 0, 1) := by decide +kernel
theorem dX3_take_89 : decode cX3_take 89 = .ok (.getfield 11, 3) := by decide +kernel
theorem dX3_take_92 : decode cX3_take 92 = .ok (.iconst 0, 1) := by decide +kernel
theorem dX3_take_93 : decode cX3_take 93 = .ok (.iaload, 1) := by decide +kernel
theorem dX3_take_94 : decode cX3_take 94 = .ok (.iconst 1, 1) := by decide +kernel
theorem dX3_take_95 : decode cX3_take 95 = .ok (.if_icmp .lt 23, 3) := by decide +kernel
theorem dX3_take_98 : decode cX3_take 98 = .ok (.aload_n 0, 1) := by decide +kernel
theorem dX3_take_99 : decode cX3_take 99 = .ok (.iconst 0, 1) := by decide +kernel
theorem dX3_take_100 : decode cX3_take 100 = .ok (.bipush 60, 2) := by decide +kernel
theorem dX3_take_102 : decode cX3_take 102 = .ok (.invokevirtual 62, 3) := by decide +kernel
theorem dX3_take_105 : decode cX3_take 105 = .ok (.ifCond .eq 13, 3) := by decide +kernel
theorem dX3_take_108 : decode cX3_take 108 = .ok (.aload_n 0, 1) := by decide +kernel
theorem dX3_take_109 : decode cX3_take 109 = .ok (.iconst 1, 1) := by decide +kernel
theorem dX3_take_110 : decode cX3_take 110 = .ok (.bipush 8, 2) := by decide +kernel
theorem dX3_take_112 : decode cX3_take 112 = .ok (.invokevirtual 62, 3) := by decide +kernel
theorem dX3_take_115 : decode cX3_take 115 = .ok (.ifCond .ne 5, 3) := by decide +kernel
theorem dX3_take_118 : decode cX3_take 118 = .ok (.iconst 0, 1) := by decide +kernel
theorem dX3_take_119 : decode cX3_take 119 = .ok (.ireturn, 1) := by decide +kernel
theorem dX3_take_120 : decode cX3_take 120 = .ok (.aload_n 2, 1) := by decide +kernel
theorem dX3_take_121 : decode cX3_take 121 = .ok (.aload_n 0, 1) := by decide +kernel
theorem dX3_take_122 : decode cX3_take 122 = .ok (.getfield 11, 3) := by decide +kernel
theorem dX3_take_125 : decode cX3_take 125 = .ok (.iconst 0, 1) := by decide +kernel
theorem dX3_take_126 : decode cX3_take 126 = .ok (.iaload, 1) := by decide +kernel
theorem dX3_take_127 : decode cX3_take 127 = .ok (.aload_n 0, 1) := by decide +kernel
theorem dX3_take_128 : decode cX3_take 128 = .ok (.getfield 11, 3) := by decide +kernel
theorem dX3_take_131 : decode cX3_take 131 = .ok (.iconst 1, 1) := by decide +kernel
theorem dX3_take_132 : decode cX3_take 132 = .ok (.iaload, 1) := by decide +kernel
theorem dX3_take_133 : decode cX3_take 133 = .ok (.invokevirtual 66, 3) := by decide +kernel
theorem dX3_take_136 : decode cX3_take 136 = .ok (.iconst 1, 1) := by decide +kernel
theorem dX3_take_137 : decode cX3_take 137 = .ok (.ireturn, 1) := by decide +kernel
theorem dX3_take_138 : decode cX3_take 138 = .ok (.aload_n 2, 1) := by decide +kernel
theorem dX3_take_139 : decode cX3_take 139 = .ok (.aload_n 0, 1) := by decide +kernel
theorem dX3_take_140 : decode cX3_take 140 = .ok (.getfield 11, 3) := by decide +kernel
theorem dX3_take_143 : decode cX3_take 143 = .ok (.iconst 0, 1) := by decide +kernel
theorem dX3_take_144 : decode cX3_take 144 = .ok (.iaload, 1) := by decide +kernel
theorem dX3_take_145 : decode cX3_take 145 = .ok (.putfield 70, 3) := by decide +kernel
theorem dX3_take_148 : decode cX3_take 148 = .ok (.aload_n 0, 1) := by decide +kernel
theorem dX3_take_149 : decode cX3_take 149 = .ok (.iconst 0, 1) := by decide +kernel
theorem dX3_take_150 : decode cX3_take 150 = .ok (.bipush 30, 2) := by decide +kernel
theorem dX3_take_152 : decode cX3_take 152 = .ok (.invokevirtual 62, 3) := by decide +kernel
theorem dX3_take_155 : decode cX3_take 155 = .ok (.ireturn, 1) := by decide +kernel
theorem dX3_take_156 : decode cX3_take 156 = .ok (.aload_n 2, 1) := by decide +kernel
theorem dX3_take_157 : decode cX3_take 157 = .ok (.aload_n 0, 1) := by decide +kernel
theorem dX3_take_158 : decode cX3_take 158 = .ok (.getfield 11, 3) := by decide +kernel
theorem dX3_take_161 : decode cX3_take 161 = .ok (.iconst 0, 1) := by decide +kernel
theorem dX3_take_162 : decode cX3_take 162 = .ok (.iaload, 1) := by decide +kernel
theorem dX3_take_163 : decode cX3_take 163 = .ok (.putfield 73, 3) := by decide +kernel
theorem dX3_take_166 : decode cX3_take 166 = .ok (.aload_n 0, 1) := by decide +kernel
theorem dX3_take_167 : decode cX3_take 167 = .ok (.iconst 0, 1) := by decide +kernel
theorem dX3_take_168 : decode cX3_take 168 = .ok (.sipush 199, 3) := by decide +kernel
theorem dX3_take_171 : decode cX3_take 171 = .ok (.invokevirtual 62, 3) := by decide +kernel
theorem dX3_take_174 : decode cX3_take 174 = .ok (.ireturn, 1) := by decide +kernel
theorem dX3_take_175 : decode cX3_take 175 = .ok (.aload_n 2, 1) := by decide +kernel
theorem dX3_take_176 : decode cX3_take 176 = .ok (.aload_n 0, 1) := by decide +kernel
theorem dX3_take_177 : decode cX3_take 177 = .ok (.getfield 11, 3) := by decide +kernel
theorem dX3_take_180 : decode cX3_take 180 = .ok (.iconst 0, 1) := by decide +kernel
theorem dX3_take_181 : decode cX3_take 181 = .ok (.iaload, 1) := by decide +kernel
theorem dX3_take_182 : decode cX3_take 182 = .ok (.putfield 76, 3) := by decide +kernel
theorem dX3_take_185 : decode cX3_take 185 = .ok (.aload_n 0, 1) := by decide +kernel
theorem dX3_take_186 : decode cX3_take 186 = .ok (.iconst 0, 1) := by decide +kernel
theorem dX3_take_187 : decode cX3_take 187 = .ok (.bipush 9, 2) := by decide +kernel
theorem dX3_take_189 : decode cX3_take 189 = .ok (.invokevirtual 62, 3) := by decide +kernel
theorem dX3_take_192 : decode cX3_take 192 = .ok (.ireturn, 1) := by decide +kernel
theorem dX3_take_193 : decode cX3_take 193 = .ok (.aload_n 2, 1) := by decide +kernel
theorem dX3_take_194 : decode cX3_take 194 = .ok (.aload_n 0, 1) := by decide +kernel
theorem dX3_take_195 : decode cX3_take 195 = .ok (.getfield 11, 3) := by decide +kernel
theorem dX3_take_198 : decode cX3_take 198 = .ok (.iconst 0, 1) := by decide +kernel
theorem dX3_take_199 : decode cX3_take 199 = .ok (.iaload, 1) := by decide +kernel
theorem dX3_take_200 : decode cX3_take 200 = .ok (.aload_n 0, 1) := by decide +kernel
theorem dX3_take_201 : decode cX3_take 201 = .ok (.getfield 11, 3) := by decide +kernel
theorem dX3_take_204 : decode cX3_take 204 = .ok (.iconst 1, 1) := by decide +kernel
theorem dX3_take_205 : decode cX3_take 205 = .ok (.iaload, 1) := by decide +kernel
theorem dX3_take_206 : decode cX3_take 206 = .ok (.invokevirtual 79, 3) := by decide +kernel
theorem dX3_take_209 : decode cX3_take 209 = .ok (.aload_n 0, 1) := by decide +kernel
theorem dX3_take_210 : decode cX3_take 210 = .ok (.iconst 0, 1) := by decide +kernel
theorem dX3_take_211 : decode cX3_take 211 = .ok (.bipush 9, 2) := by decide +kernel
theorem dX3_take_213 : decode cX3_take 213 = .ok (.invokevirtual 62, 3) := by decide +kernel
theorem dX3_take_216 : decode cX3_take 216 = .ok (.ifCond .eq 17, 3) := by decide +kernel
theorem dX3_take_219 : decode cX3_take 219 = .ok (.aload_n 0, 1) := by decide +kernel
theorem dX3_take_220 : decode cX3_take 220 = .ok (.iconst 1, 1) := by decide +kernel
theorem dX3_take_221 : decode cX3_take 221 = .ok (.bipush 30, 2) := by decide +kernel
theorem dX3_take_223 : decode cX3_take 223 = .ok (.invokevirtual 62, 3) := by decide +kernel
theorem dX3_take_226 : decode cX3_take 226 = .ok (.ifCond .eq 7, 3) := by decide +kernel
theorem dX3_take_229 : decode cX3_take 229 = .ok (.iconst 1, 1) := by decide +kernel
theorem dX3_take_230 : decode cX3_take 230 = .ok (.goto 4, 3) := by decide +kernel
theorem dX3_take_233 : decode cX3_take 233 = .ok (.iconst 0, 1) := by decide +kernel
theorem dX3_take_234 : decode cX3_take 234 = .ok (.ireturn, 1) := by decide +kernel
theorem dX3_take_235 : decode cX3_take 235 = .ok (.aload_n 2, 1) := by decide +kernel
theorem dX3_take_236 : decode cX3_take 236 = .ok (.aload_n 0, 1) := by decide +kernel
theorem dX3_take_237 : decode cX3_take 237 = .ok (.getfield 11, 3) := by decide +kernel
theorem dX3_take_240 : decode cX3_take 240 = .ok (.iconst 0, 1) := by decide +kernel
theorem dX3_take_241 : decode cX3_take 241 = .ok (.iaload, 1) := by decide +kernel
theorem dX3_take_242 : decode cX3_take 242 = .ok (.iconst 1, 1) := by decide +kernel
theorem dX3_take_243 : decode cX3_take 243 = .ok (.if_icmp .ne 7, 3) := by decide +kernel
theorem dX3_take_246 : decode cX3_take 246 = .ok (.iconst 1, 1) := by decide +kernel
theorem dX3_take_247 : decode cX3_take 247 = .ok (.goto 4, 3) := by decide +kernel
theorem dX3_take_250 : decode cX3_take 250 = .ok (.iconst 0, 1) := by decide +kernel
theorem dX3_take_251 : decode cX3_take 251 = .ok (.putfield 82, 3) := by decide +kernel
theorem dX3_take_254 : decode cX3_take 254 = .ok (.aload_n 0, 1) := by decide +kernel
theorem dX3_take_255 : decode cX3_take 255 = .ok (.iconst 0, 1) := by decide +kernel
theorem dX3_take_256 : decode cX3_take 256 = .ok (.iconst 1, 1) := by decide +kernel
theorem dX3_take_257 : decode cX3_take 257 = .ok (.invokevirtual 62, 3) := by decide +kernel
theorem dX3_take_260 : decode cX3_take 260 = .ok (.ireturn, 1) := by decide +kernel
theorem dX3_take_261 : decode cX3_take 261 = .ok (.aload_n 2, 1) := by decide +kernel
theorem dX3_take_262 : decode cX3_take 262 = .ok (.aload_n 0, 1) := by decide +kernel
theorem dX3_take_263 : decode cX3_take 263 = .ok (.getfield 11, 3) := by decide +kernel
theorem dX3_take_266 : decode cX3_take 266 = .ok (.iconst 0, 1) := by decide +kernel
theorem dX3_take_267 : decode cX3_take 267 = .ok (.iaload, 1) := by decide +kernel
theorem dX3_take_268 : decode cX3_take 268 = .ok (.aload_n 0, 1) := by decide +kernel
theorem dX3_take_269 : decode cX3_take 269 = .ok (.getfield 11, 3) := by decide +kernel
theorem dX3_take_272 : decode cX3_take 272 = .ok (.iconst 1, 1) := by decide +kernel
theorem dX3_take_273 : decode cX3_take 273 = .ok (.iaload, 1) := by decide +kernel
theorem dX3_take_274 : decode cX3_take 274 = .ok (.invokevirtual 86, 3) := by decide +kernel
theorem dX3_take_277 : decode cX3_take 277 = .ok (.aload_n 0, 1) := by decide +kernel
theorem dX3_take_278 : decode cX3_take 278 = .ok (.getfield 11, 3) := by decide +kernel
theorem dX3_take_281 : decode cX3_take 281 = .ok (.iconst 0, 1) := by decide +kernel
theorem dX3_take_282 : decode cX3_take 282 = .ok (.iaload, 1) := by decide +kernel
theorem dX3_take_283 : decode cX3_take 283 = .ok (.iconst 1, 1) := by decide +kernel
theorem dX3_take_284 : decode cX3_take 284 = .ok (.if_icmp .lt 27, 3) := by decide +kernel
theorem dX3_take_287 : decode cX3_take 287 = .ok (.aload_n 0, 1) := by decide +kernel
theorem dX3_take_288 : decode cX3_take 288 = .ok (.iconst 0, 1) := by decide +kernel
theorem dX3_take_289 : decode cX3_take 289 = .ok (.bipush 60, 2) := by decide +kernel
theorem dX3_take_291 : decode cX3_take 291 = .ok (.invokevirtual 62, 3) := by decide +kernel
theorem dX3_take_294 : decode cX3_take 294 = .ok (.ifCond .eq 17, 3) := by decide +kernel
theorem dX3_take_297 : decode cX3_take 297 = .ok (.aload_n 0, 1) := by decide +kernel
theorem dX3_take_298 : decode cX3_take 298 = .ok (.iconst 1, 1) := by decide +kernel
theorem dX3_take_299 : decode cX3_take 299 = .ok (.bipush 99, 2) := by decide +kernel
theorem dX3_take_301 : decode cX3_take 301 = .ok (.invokevirtual 62, 3) := by decide +kernel
theorem dX3_take_304 : decode cX3_take 304 = .ok (.ifCond .eq 7, 3) := by decide +kernel
theorem dX3_take_307 : decode cX3_take 307 = .ok (.iconst 1, 1) := by decide +kernel
theorem dX3_take_308 : decode cX3_take 308 = .ok (.goto 4, 3) := by decide +kernel
theorem dX3_take_311 : decode cX3_take 311 = .ok (.iconst 0, 1) := by decide +kernel
theorem dX3_take_312 : decode cX3_take 312 = .ok (.ireturn, 1) := by decide +kernel
theorem dX3_take_313 : decode cX3_take 313 = .ok (.aload_n 0, 1) := by decide +kernel
theorem dX3_take_314 : decode cX3_take 314 = .ok (.iload_n 1, 1) := by decide +kernel
theorem dX3_take_315 : decode cX3_take 315 = .ok (.aload_n 2, 1) := by decide +kernel
theorem dX3_take_316 : decode cX3_take 316 = .ok (.getfield 44, 3) := by decide +kernel
theorem dX3_take_319 : decode cX3_take 319 = .ok (.invokevirtual 89, 3) := by decide +kernel
theorem dX3_take_322 : decode cX3_take 322 = .ok (.ireturn, 1) := by decide +kernel
theorem dX3_takeSort_0 : decode cX3_takeSort 0 = .ok (.iload_n 1, 1) := by decide +kernel
theorem dX3_takeSort_1 : decode cX3_takeSort 1 = .ok (.lookupswitch 213 #[(103, 35), (116, 178), (119, 117)], 35) := by decide +kernel
theorem dX3_takeSort_36 : decode cX3_takeSort 36 = .ok (.aload_n 0, 1) := by decide +kernel
theorem dX3_takeSort_37 : decode cX3_takeSort 37 = .ok (.iconst 1, 1) := by decide +kernel
theorem dX3_takeSort_38 : decode cX3_takeSort 38 = .ok (.iconst 5, 1) := by decide +kernel
theorem dX3_takeSort_39 : decode cX3_takeSort 39 = .ok (.invokevirtual 62, 3) := by decide +kernel
theorem dX3_takeSort_42 : decode cX3_takeSort 42 = .ok (.ifCond .eq 74, 3) := by decide +kernel
theorem dX3_takeSort_45 : decode cX3_takeSort 45 = .ok (.aload_n 0, 1) := by decide +kernel
theorem dX3_takeSort_46 : decode cX3_takeSort 46 = .ok (.iconst 2, 1) := by decide +kernel
theorem dX3_takeSort_47 : decode cX3_takeSort 47 = .ok (.bipush 30, 2) := by decide +kernel
theorem dX3_takeSort_49 : decode cX3_takeSort 49 = .ok (.invokevirtual 62, 3) := by decide +kernel
theorem dX3_takeSort_52 : decode cX3_takeSort 52 = .ok (.ifCond .eq 64, 3) := by decide +kernel
theorem dX3_takeSort_55 : decode cX3_takeSort 55 = .ok (.aload_n 0, 1) := by decide +kernel
theorem dX3_takeSort_56 : decode cX3_takeSort 56 = .ok (.iconst 3, 1) := by decide +kernel
theorem dX3_takeSort_57 : decode cX3_takeSort 57 = .ok (.bipush 30, 2) := by decide +kernel
theorem dX3_takeSort_59 : decode cX3_takeSort 59 = .ok (.invokevirtual 62, 3) := by decide +kernel
theorem dX3_takeSort_62 : decode cX3_takeSort 62 = .ok (.ifCond .eq 54, 3) := by decide +kernel
theorem dX3_takeSort_65 : decode cX3_takeSort 65 = .ok (.aload_n 0, 1) := by decide +kernel
theorem dX3_takeSort_66 : decode cX3_takeSort 66 = .ok (.iconst 4, 1) := by decide +kernel
theorem dX3_takeSort_67 : decode cX3_takeSort 67 = .ok (.bipush 9, 2) := by decide +kernel
theorem dX3_takeSort_69 : decode cX3_takeSort 69 = .ok (.invokevirtual 62, 3) := by decide +kernel
theorem dX3_takeSort_72 : decode cX3_takeSort 72 = .ok (.ifCond .eq 44, 3) := by decide +kernel
theorem dX3_takeSort_75 : decode cX3_takeSort 75 = .ok (.aload_n 2, 1) := by decide +kernel
theorem dX3_takeSort_76 : decode cX3_takeSort 76 = .ok (.aload_n 0, 1) := by decide +kernel
theorem dX3_takeSort_77 : decode cX3_takeSort 77 = .ok (.getfield 11, 3) := by decide +kernel
theorem dX3_takeSort_80 : decode cX3_takeSort 80 = .ok (.iconst 0, 1) := by decide +kernel
theorem dX3_takeSort_81 : decode cX3_takeSort 81 = .ok (.iaload, 1) := by decide +kernel
theorem dX3_takeSort_82 : decode cX3_takeSort 82 = .ok (.aload_n 0, 1) := by decide +kernel
theorem dX3_takeSort_83 : decode cX3_takeSort 83 = .ok (.getfield 11, 3) := by decide +kernel
theorem dX3_takeSort_86 : decode cX3_takeSort 86 = .ok (.iconst 1, 1) := by decide +kernel
theorem dX3_takeSort_87 : decode cX3_takeSort 87 = .ok (.iaload, 1) := by decide +kernel
theorem dX3_takeSort_88 : decode cX3_takeSort 88 = .ok (.aload_n 0, 1) := by decide +kernel
theorem dX3_takeSort_89 : decode cX3_takeSort 89 = .ok (.getfield 11, 3) := by decide +kernel
theorem dX3_takeSort_92 : decode cX3_takeSort 92 = .ok (.iconst 2, 1) := by decide +kernel
theorem dX3_takeSort_93 : decode cX3_takeSort 93 = .ok (.iaload, 1) := by decide +kernel
theorem dX3_takeSort_94 : decode cX3_takeSort 94 = .ok (.aload_n 0, 1) := by decide +kernel
theorem dX3_takeSort_95 : decode cX3_takeSort 95 = .ok (.getfield 11, 3) := by decide +kernel
theorem dX3_takeSort_98 : decode cX3_takeSort 98 = .ok (.iconst 3, 1) := by decide +kernel
theorem dX3_takeSort_99 : decode cX3_takeSort 99 = .ok (.iaload, 1) := by decide +kernel
theorem dX3_takeSort_100 : decode cX3_takeSort 100 = .ok (.aload_n 0, 1) := by decide +kernel
theorem dX3_takeSort_101 : decode cX3_takeSort 101 = .ok (.getfield 11, 3) := by decide +kernel
theorem dX3_takeSort_104 : decode cX3_takeSort 104 = .ok (.iconst 4, 1) := by decide +kernel
theorem dX3_takeSort_105 : decode cX3_takeSort 105 = .ok (.iaload, 1) := by decide +kernel
theorem dX3_takeSort_106 : decode cX3_takeSort 106 = .ok (.invokevirtual 93, 3) := by decide +kernel
theorem dX3_takeSort_109 : decode cX3_takeSort 109 = .ok (.ifCond .eq 7, 3) := by decide +kernel
theorem dX3_takeSort_112 : decode cX3_takeSort 112 = .ok (.iconst 1, 1) := by decide +kernel
theorem dX3_takeSort_113 : decode cX3_takeSort 113 = .ok (.goto 4, 3) := by decide +kernel
theorem dX3_takeSort_116 : decode cX3_takeSort 116 = .ok (.iconst 0, 1) := by decide +kernel
theorem dX3_takeSort_117 : decode cX3_takeSort 117 = .ok (.ireturn, 1) := by decide +kernel
theorem dX3_takeSort_118 : decode cX3_takeSort 118 = .ok (.aload_n 0, 1) := by decide +kernel
theorem dX3_takeSort_119 : decode cX3_takeSort 119 = .ok (.iconst 1, 1) := by decide +kernel
theorem dX3_takeSort_120 : decode cX3_takeSort 120 = .ok (.bipush 30, 2) := by decide +kernel
theorem dX3_takeSort_122 : decode cX3_takeSort 122 = .ok (.invokevirtual 62, 3) := by decide +kernel
theorem dX3_takeSort_125 : decode cX3_takeSort 125 = .ok (.ifCond .eq 52, 3) := by decide +kernel
theorem dX3_takeSort_128 : decode cX3_takeSort 128 = .ok (.aload_n 0, 1) := by decide +kernel
theorem dX3_takeSort_129 : decode cX3_takeSort 129 = .ok (.getfield 11, 3) := by decide +kernel
theorem dX3_takeSort_132 : decode cX3_takeSort 132 = .ok (.iconst 2, 1) := by decide +kernel
theorem dX3_takeSort_133 : decode cX3_takeSort 133 = .ok (.iaload, 1) := by decide +kernel
theorem dX3_takeSort_134 : decode cX3_takeSort 134 = .ok (.iconst 1, 1) := by decide +kernel
theorem dX3_takeSort_135 : decode cX3_takeSort 135 = .ok (.if_icmp .lt 42, 3) := by decide +kernel
theorem dX3_takeSort_138 : decode cX3_takeSort 138 = .ok (.aload_n 0, 1) := by decide +kernel
theorem dX3_takeSort_139 : decode cX3_takeSort 139 = .ok (.iconst 2, 1) := by decide +kernel
theorem dX3_takeSort_140 : decode cX3_takeSort 140 = .ok (.bipush 10, 2) := by decide +kernel
theorem dX3_takeSort_142 : decode cX3_takeSort 142 = .ok (.invokevirtual 62, 3) := by decide +kernel
theorem dX3_takeSort_145 : decode cX3_takeSort 145 = .ok (.ifCond .eq 32, 3) := by decide +kernel
theorem dX3_takeSort_148 : decode cX3_takeSort 148 = .ok (.aload_n 2, 1) := by decide +kernel
theorem dX3_takeSort_149 : decode cX3_takeSort 149 = .ok (.aload_n 0, 1) := by decide +kernel
theorem dX3_takeSort_150 : decode cX3_takeSort 150 = .ok (.getfield 11, 3) := by decide +kernel
theorem dX3_takeSort_153 : decode cX3_takeSort 153 = .ok (.iconst 0, 1) := by decide +kernel
theorem dX3_takeSort_154 : decode cX3_takeSort 154 = .ok (.iaload, 1) := by decide +kernel
theorem dX3_takeSort_155 : decode cX3_takeSort 155 = .ok (.aload_n 0, 1) := by decide +kernel
theorem dX3_takeSort_156 : decode cX3_takeSort 156 = .ok (.getfield 11, 3) := by decide +kernel
theorem dX3_takeSort_159 : decode cX3_takeSort 159 = .ok (.iconst 1, 1) := by decide +kernel
theorem dX3_takeSort_160 : decode cX3_takeSort 160 = .ok (.iaload, 1) := by decide +kernel
theorem dX3_takeSort_161 : decode cX3_takeSort 161 = .ok (.aload_n 0, 1) := by decide +kernel
theorem dX3_takeSort_162 : decode cX3_takeSort 162 = .ok (.getfield 11, 3) := by decide +kernel
theorem dX3_takeSort_165 : decode cX3_takeSort 165 = .ok (.iconst 2, 1) := by decide +kernel
theorem dX3_takeSort_166 : decode cX3_takeSort 166 = .ok (.iaload, 1) := by decide +kernel
theorem dX3_takeSort_167 : decode cX3_takeSort 167 = .ok (.invokevirtual 97, 3) := by decide +kernel
theorem dX3_takeSort_170 : decode cX3_takeSort 170 = .ok (.ifCond .eq 7, 3) := by decide +kernel
theorem dX3_takeSort_173 : decode cX3_takeSort 173 = .ok (.iconst 1, 1) := by decide +kernel
theorem dX3_takeSort_174 : decode cX3_takeSort 174 = .ok (.goto 4, 3) := by decide +kernel
theorem dX3_takeSort_177 : decode cX3_takeSort 177 = .ok (.iconst 0, 1) := by decide +kernel
theorem dX3_takeSort_178 : decode cX3_takeSort 178 = .ok (.ireturn, 1) := by decide +kernel
theorem dX3_takeSort_179 : decode cX3_takeSort 179 = .ok (.aload_n 0, 1) := by decide +kernel
theorem dX3_takeSort_180 : decode cX3_takeSort 180 = .ok (.iconst 1, 1) := by decide +kernel
theorem dX3_takeSort_181 : decode cX3_takeSort 181 = .ok (.bipush 30, 2) := by decide +kernel
theorem dX3_takeSort_183 : decode cX3_takeSort 183 = .ok (.invokevirtual 62, 3) := by decide +kernel
theorem dX3_takeSort_186 : decode cX3_takeSort 186 = .ok (.ifCond .eq 26, 3) := by decide +kernel
theorem dX3_takeSort_189 : decode cX3_takeSort 189 = .ok (.aload_n 2, 1) := by decide +kernel
theorem dX3_takeSort_190 : decode cX3_takeSort 190 = .ok (.aload_n 0, 1) := by decide +kernel
theorem dX3_takeSort_191 : decode cX3_takeSort 191 = .ok (.getfield 11, 3) := by decide +kernel
theorem dX3_takeSort_194 : decode cX3_takeSort 194 = .ok (.iconst 0, 1) := by decide +kernel
theorem dX3_takeSort_195 : decode cX3_takeSort 195 = .ok (.iaload, 1) := by decide +kernel
theorem dX3_takeSort_196 : decode cX3_takeSort 196 = .ok (.aload_n 0, 1) := by decide +kernel
theorem dX3_takeSort_197 : decode cX3_takeSort 197 = .ok (.getfield 11, 3) := by decide +kernel
theorem dX3_takeSort_200 : decode cX3_takeSort 200 = .ok (.iconst 1, 1) := by decide +kernel
theorem dX3_takeSort_201 : decode cX3_takeSort 201 = .ok (.iaload, 1) := by decide +kernel
theorem dX3_takeSort_202 : decode cX3_takeSort 202 = .ok (.invokevirtual 100, 3) := by decide +kernel
theorem dX3_takeSort_205 : decode cX3_takeSort 205 = .ok (.ifCond .eq 7, 3) := by decide +kernel
theorem dX3_takeSort_208 : decode cX3_takeSort 208 = .ok (.iconst 1, 1) := by decide +kernel
theorem dX3_takeSort_209 : decode cX3_takeSort 209 = .ok (.goto 4, 3) := by decide +kernel
theorem dX3_takeSort_212 : decode cX3_takeSort 212 = .ok (.iconst 0, 1) := by decide +kernel
theorem dX3_takeSort_213 : decode cX3_takeSort 213 = .ok (.ireturn, 1) := by decide +kernel
theorem dX3_takeSort_214 : decode cX3_takeSort 214 = .ok (.iconst 0, 1) := by decide +kernel
theorem dX3_takeSort_215 : decode cX3_takeSort 215 = .ok (.ireturn, 1) := by decide +kernel
theorem dX4_init_0 : decode cX4_init 0 = .ok (.aload_n 0, 1) := by decide +kernel
theorem dX4_init_1 : decode cX4_init 1 = .ok (.invokespecial 3, 3) := by decide +kernel
theorem dX4_init_4 : decode cX4_init 4 = .ok (.aload_n 0, 1) := by decide +kernel
theorem dX4_init_5 : decode cX4_init 5 = .ok (.new 9, 3) := by decide +kernel
theorem dX4_init_8 : decode cX4_init 8 = .ok (.dup, 1) := by decide +kernel
theorem dX4_init_9 : decode cX4_init 9 = .ok (.invokespecial 11, 3) := by decide +kernel
theorem dX4_init_12 : decode cX4_init 12 = .ok (.putfield 12, 3) := by decide +kernel
theorem dX4_init_15 : decode cX4_init 15 = .ok (.aload_n 0, 1) := by decide +kernel
theorem dX4_init_16 : decode cX4_init 16 = .ok (.bipush 8, 2) := by decide +kernel
theorem dX4_init_18 : decode cX4_init 18 = .ok (.newarray .int, 2) := by decide +kernel
theorem dX4_init_20 : decode cX4_init 20 = .ok (.putfield 20, 3) := by decide +kernel
theorem dX4_init_23 : decode cX4_init 23 = .ok (.aload_n 0, 1) := by decide +kernel
theorem dX4_init_24 : decode cX4_init 24 = .ok (.sipush 549, 3) := by decide +kernel
theorem dX4_init_27 : decode cX4_init 27 = .ok (.newarray .long, 2) := by decide +kernel
theorem dX4_init_29 : decode cX4_init 29 = .ok (.putfield 24, 3) := by decide +kernel
theorem dX4_init_32 : decode cX4_init 32 = .ok (.return_, 1) := by decide +kernel
theorem dX4_take_0 : decode cX4_take 0 = .ok (.aload_n 0, 1) := by decide +kernel
theorem dX4_take_1 : decode cX4_take 1 = .ok (.aload_n 2, 1) := by decide +kernel
theorem dX4_take_2 : decode cX4_take 2 = .ok (.putfield 12, 3) := by decide +kernel
theorem dX4_take_5 : decode cX4_take 5 = .ok (.aload_n 0, 1) := by decide +kernel
theorem dX4_take_6 : decode cX4_take 6 = .ok (.aload_n 1, 1) := by decide +kernel
theorem dX4_take_7 : decode cX4_take 7 = .ok (.getfield 28, 3) := by decide +kernel
theorem dX4_take_10 : decode cX4_take 10 = .ok (.putfield 34, 3) := by decide +kernel
theorem dX4_take_13 : decode cX4_take 13 = .ok (.aload_n 0, 1) := by decide +kernel
theorem dX4_take_14 : decode cX4_take 14 = .ok (.aload_n 1, 1) := by decide +kernel
theorem dX4_take_15 : decode cX4_take 15 = .ok (.getfield 35, 3) := by decide +kernel
theorem dX4_take_18 : decode cX4_take 18 = .ok (.putfield 38, 3) := by decide +kernel
theorem dX4_take_21 : decode cX4_take 21 = .ok (.aload_n 0, 1) := by decide +kernel
theorem dX4_take_22 : decode cX4_take 22 = .ok (.aload_n 1, 1) := by decide +kernel
theorem dX4_take_23 : decode cX4_take 23 = .ok (.getfield 39, 3) := by decide +kernel
theorem dX4_take_26 : decode cX4_take 26 = .ok (.putfield 42, 3) := by decide +kernel
theorem dX4_take_29 : decode cX4_take 29 = .ok (.iconst 0, 1) := by decide +kernel
theorem dX4_take_30 : decode cX4_take 30 = .ok (.istore_n 3, 1) := by decide +kernel
theorem dX4_take_31 : decode cX4_take 31 = .ok (.iload_n 3, 1) := by decide +kernel
theorem dX4_take_32 : decode cX4_take 32 = .ok (.aload_n 0, 1) := by decide +kernel
theorem dX4_take_33 : decode cX4_take 33 = .ok (.getfield 12, 3) := by decide +kernel
theorem dX4_take_36 : decode cX4_take 36 = .ok (.getfield 43, 3) := by decide +kernel
theorem dX4_take_39 : decode cX4_take 39 = .ok (.if_icmp .ge 36, 3) := by decide +kernel
theorem dX4_take_42 : decode cX4_take 42 = .ok (.aload_n 0, 1) := by decide +kernel
theorem dX4_take_43 : decode cX4_take 43 = .ok (.getfield 20, 3) := by decide +kernel
theorem dX4_take_46 : decode cX4_take 46 = .ok (.iload_n 3, 1) := by decide +kernel
theorem dX4_take_47 : decode cX4_take 47 = .ok (.aload_n 0, 1) := by decide +kernel
theorem dX4_take_48 : decode cX4_take 48 = .ok (.getfield 12, 3) := by decide +kernel
theorem dX4_take_51 : decode cX4_take 51 = .ok (.getfield 46, 3) := by decide +kernel
theorem dX4_take_54 : decode cX4_take 54 = .ok (.iload_n 3, 1) := by decide +kernel
theorem dX4_take_55 : decode cX4_take 55 = .ok (.iaload, 1) := by decide +kernel
theorem dX4_take_56 : decode cX4_take 56 = .ok (.aload_n 0, 1) := by decide +kernel
theorem dX4_take_57 : decode cX4_take 57 = .ok (.getfield 12, 3) := by decide +kernel
theorem dX4_take_60 : decode cX4_take 60 = .ok (.getfield 49, 3) := by decide +kernel
theorem dX4_take_63 : decode cX4_take 63 = .ok (.iload_n 3, 1) := by decide +kernel
theorem dX4_take_64 : decode cX4_take 64 = .ok (.iaload, 1) := by decide +kernel
theorem dX4_take_65 : decode cX4_take 65 = .ok (.invokestatic 52, 3) := by decide +kernel
theorem dX4_take_68 : decode cX4_take 68 = .ok (.iastore, 1) := by decide +kernel
theorem dX4_take_69 : decode cX4_take 69 = .ok (.iinc 3 1, 3) := by decide +kernel
theorem dX4_take_72 : decode cX4_take 72 = .ok (.goto (-41), 3) := by decide +kernel
theorem dX4_take_75 : decode cX4_take 75 = .ok (.return_, 1) := by decide +kernel
theorem dX4_clearTable_0 : decode cX4_clearTable 0 = .ok (.aload_n 0, 1) := by decide +kernel
theorem dX4_clearTable_1 : decode cX4_clearTable 1 = .ok (.getfield 24, 3) := by decide +kernel
theorem dX4_clearTable_4 : decode cX4_clearTable 4 = .ok (.lconst 0, 1) := by decide +kernel
theorem dX4_clearTable_5 : decode cX4_clearTable 5 = .ok (.invokestatic 58, 3) := by decide +kernel
theorem dX4_clearTable_8 : decode cX4_clearTable 8 = .ok (.aload_n 0, 1) := by decide +kernel
theorem dX4_clearTable_9 : decode cX4_clearTable 9 = .ok (.getfield 24, 3) := by decide +kernel
theorem dX4_clearTable_12 : decode cX4_clearTable 12 = .ok (.iconst 0, 1) := by decide +kernel
theorem dX4_clearTable_13 : decode cX4_clearTable 13 = .ok (.lconst 1, 1) := by decide +kernel
theorem dX4_clearTable_14 : decode cX4_clearTable 14 = .ok (.lastore, 1) := by decide +kernel
theorem dX4_clearTable_15 : decode cX4_clearTable 15 = .ok (.return_, 1) := by decide +kernel
theorem dX4_join_0 : decode cX4_join 0 = .ok (.iload_n 1, 1) := by decide +kernel
theorem dX4_join_1 : decode cX4_join 1 = .ok (.iconst 1, 1) := by decide +kernel
theorem dX4_join_2 : decode cX4_join 2 = .ok (.if_icmp .lt 24, 3) := by decide +kernel
theorem dX4_join_5 : decode cX4_join 5 = .ok (.iload_n 2, 1) := by decide +kernel
theorem dX4_join_6 : decode cX4_join 6 = .ok (.iload_n 1, 1) := by decide +kernel
theorem dX4_join_7 : decode cX4_join 7 = .ok (.iconst 1, 1) := by decide +kernel
theorem dX4_join_8 : decode cX4_join 8 = .ok (.isub, 1) := by decide +kernel
theorem dX4_join_9 : decode cX4_join 9 = .ok (.if_icmp .lt 17, 3) := by decide +kernel
theorem dX4_join_12 : decode cX4_join 12 = .ok (.iload 4, 2) := by decide +kernel
theorem dX4_join_14 : decode cX4_join 14 = .ok (.bipush 61, 2) := by decide +kernel
theorem dX4_join_16 : decode cX4_join 16 = .ok (.if_icmp .ge 10, 3) := by decide +kernel
theorem dX4_join_19 : decode cX4_join 19 = .ok (.iload 5, 2) := by decide +kernel
theorem dX4_join_21 : decode cX4_join 21 = .ok (.bipush 8, 2) := by decide +kernel
theorem dX4_join_23 : decode cX4_join 23 = .ok (.if_icmp .le 4, 3) := by decide +kernel
theorem dX4_join_26 : decode cX4_join 26 = .ok (.return_, 1) := by decide +kernel
theorem dX4_join_27 : decode cX4_join 27 = .ok (.iload 5, 2) := by decide +kernel
theorem dX4_join_29 : decode cX4_join 29 = .ok (.istore 6, 2) := by decide +kernel
theorem dX4_join_31 : decode cX4_join 31 = .ok (.iload 6, 2) := by decide +kernel
theorem dX4_join_33 : decode cX4_join 33 = .ok (.ifCond .lt 130, 3) := by decide +kernel
theorem dX4_join_36 : decode cX4_join 36 = .ok (.iload 6, 2) := by decide +kernel
theorem dX4_join_38 : decode cX4_join 38 = .ok (.bipush 61, 2) := by decide +kernel
theorem dX4_join_40 : decode cX4_join 40 = .ok (.imul, 1) := by decide +kernel
theorem dX4_join_41 : decode cX4_join 41 = .ok (.istore 7, 2) := by decide +kernel
theorem dX4_join_43 : decode cX4_join 43 = .ok (.lconst 0, 1) := by decide +kernel
theorem dX4_join_44 : decode cX4_join 44 = .ok (.lstore 8, 2) := by decide +kernel
theorem dX4_join_46 : decode cX4_join 46 = .ok (.iconst 0, 1) := by decide +kernel
theorem dX4_join_47 : decode cX4_join 47 = .ok (.istore 10, 2) := by decide +kernel
theorem dX4_join_49 : decode cX4_join 49 = .ok (.iload 10, 2) := by decide +kernel
theorem dX4_join_51 : decode cX4_join 51 = .ok (.iload 4, 2) := by decide +kernel
theorem dX4_join_53 : decode cX4_join 53 = .ok (.if_icmp .gt 104, 3) := by decide +kernel
theorem dX4_join_56 : decode cX4_join 56 = .ok (.iload 6, 2) := by decide +kernel
theorem dX4_join_58 : decode cX4_join 58 = .ok (.ifCond .le 29, 3) := by decide +kernel
theorem dX4_join_61 : decode cX4_join 61 = .ok (.iload 10, 2) := by decide +kernel
theorem dX4_join_63 : decode cX4_join 63 = .ok (.iload_n 1, 1) := by decide +kernel
theorem dX4_join_64 : decode cX4_join 64 = .ok (.if_icmp .lt 23, 3) := by decide +kernel
theorem dX4_join_67 : decode cX4_join 67 = .ok (.lload 8, 2) := by decide +kernel
theorem dX4_join_69 : decode cX4_join 69 = .ok (.aload_n 0, 1) := by decide +kernel
theorem dX4_join_70 : decode cX4_join 70 = .ok (.getfield 24, 3) := by decide +kernel
theorem dX4_join_73 : decode cX4_join 73 = .ok (.iload 7, 2) := by decide +kernel
theorem dX4_join_75 : decode cX4_join 75 = .ok (.bipush 61, 2) := by decide +kernel
theorem dX4_join_77 : decode cX4_join 77 = .ok (.isub, 1) := by decide +kernel
theorem dX4_join_78 : decode cX4_join 78 = .ok (.iload 10, 2) := by decide +kernel
theorem dX4_join_80 : decode cX4_join 80 = .ok (.iadd, 1) := by decide +kernel
theorem dX4_join_81 : decode cX4_join 81 = .ok (.iload_n 1, 1) := by decide +kernel
theorem dX4_join_82 : decode cX4_join 82 = .ok (.isub, 1) := by decide +kernel
theorem dX4_join_83 : decode cX4_join 83 = .ok (.laload, 1) := by decide +kernel
theorem dX4_join_84 : decode cX4_join 84 = .ok (.ladd, 1) := by decide +kernel
theorem dX4_join_85 : decode cX4_join 85 = .ok (.lstore 8, 2) := by decide +kernel
theorem dX4_join_87 : decode cX4_join 87 = .ok (.iload 6, 2) := by decide +kernel
theorem dX4_join_89 : decode cX4_join 89 = .ok (.ifCond .le 31, 3) := by decide +kernel
theorem dX4_join_92 : decode cX4_join 92 = .ok (.iload 10, 2) := by decide +kernel
theorem dX4_join_94 : decode cX4_join 94 = .ok (.iload_n 2, 1) := by decide +kernel
theorem dX4_join_95 : decode cX4_join 95 = .ok (.if_icmp .le 25, 3) := by decide +kernel
theorem dX4_join_98 : decode cX4_join 98 = .ok (.lload 8, 2) := by decide +kernel
theorem dX4_join_100 : decode cX4_join 100 = .ok (.aload_n 0, 1) := by decide +kernel
theorem dX4_join_101 : decode cX4_join 101 = .ok (.getfield 24, 3) := by decide +kernel
theorem dX4_join_104 : decode cX4_join 104 = .ok (.iload 7, 2) := by decide +kernel
theorem dX4_join_106 : decode cX4_join 106 = .ok (.bipush 61, 2) := by decide +kernel
theorem dX4_join_108 : decode cX4_join 108 = .ok (.isub, 1) := by decide +kernel
theorem dX4_join_109 : decode cX4_join 109 = .ok (.iload 10, 2) := by decide +kernel
theorem dX4_join_111 : decode cX4_join 111 = .ok (.iadd, 1) := by decide +kernel
theorem dX4_join_112 : decode cX4_join 112 = .ok (.iload_n 2, 1) := by decide +kernel
theorem dX4_join_113 : decode cX4_join 113 = .ok (.isub, 1) := by decide +kernel
theorem dX4_join_114 : decode cX4_join 114 = .ok (.iconst 1, 1) := by decide +kernel
theorem dX4_join_115 : decode cX4_join 115 = .ok (.isub, 1) := by decide +kernel
theorem dX4_join_116 : decode cX4_join 116 = .ok (.laload, 1) := by decide +kernel
theorem dX4_join_117 : decode cX4_join 117 = .ok (.lsub, 1) := by decide +kernel
theorem dX4_join_118 : decode cX4_join 118 = .ok (.lstore 8, 2) := by decide +kernel
theorem dX4_join_120 : decode cX4_join 120 = .ok (.aload_n 0, 1) := by decide +kernel
theorem dX4_join_121 : decode cX4_join 121 = .ok (.getfield 24, 3) := by decide +kernel
theorem dX4_join_124 : decode cX4_join 124 = .ok (.iload 7, 2) := by decide +kernel
theorem dX4_join_126 : decode cX4_join 126 = .ok (.iload 10, 2) := by decide +kernel
theorem dX4_join_128 : decode cX4_join 128 = .ok (.iadd, 1) := by decide +kernel
theorem dX4_join_129 : decode cX4_join 129 = .ok (.lload 8, 2) := by decide +kernel
theorem dX4_join_131 : decode cX4_join 131 = .ok (.iload_n 3, 1) := by decide +kernel
theorem dX4_join_132 : decode cX4_join 132 = .ok (.ifCond .eq 16, 3) := by decide +kernel
theorem dX4_join_135 : decode cX4_join 135 = .ok (.aload_n 0, 1) := by decide +kernel
theorem dX4_join_136 : decode cX4_join 136 = .ok (.getfield 24, 3) := by decide +kernel
theorem dX4_join_139 : decode cX4_join 139 = .ok (.iload 7, 2) := by decide +kernel
theorem dX4_join_141 : decode cX4_join 141 = .ok (.iload 10, 2) := by decide +kernel
theorem dX4_join_143 : decode cX4_join 143 = .ok (.iadd, 1) := by decide +kernel
theorem dX4_join_144 : decode cX4_join 144 = .ok (.laload, 1) := by decide +kernel
theorem dX4_join_145 : decode cX4_join 145 = .ok (.goto 4, 3) := by decide +kernel
theorem dX4_join_148 : decode cX4_join 148 = .ok (.lconst 0, 1) := by decide +kernel
theorem dX4_join_149 : decode cX4_join 149 = .ok (.ladd, 1) := by decide +kernel
theorem dX4_join_150 : decode cX4_join 150 = .ok (.lastore, 1) := by decide +kernel
theorem dX4_join_151 : decode cX4_join 151 = .ok (.iinc 10 1, 3) := by decide +kernel
theorem dX4_join_154 : decode cX4_join 154 = .ok (.goto (-105), 3) := by decide +kernel
theorem dX4_join_157 : decode cX4_join 157 = .ok (.iinc 6 (-1), 3) := by decide +kernel
theorem dX4_join_160 : decode cX4_join 160 = .ok (.goto (-129), 3) := by decide +kernel
theorem dX4_join_163 : decode cX4_join 163 = .ok (.return_, 1) := by decide +kernel
theorem dX4_justWays_0 : decode cX4_justWays 0 = .ok (.aload_n 0, 1) := by decide +kernel
theorem dX4_justWays_1 : decode cX4_justWays 1 = .ok (.invokevirtual 64, 3) := by decide +kernel
theorem dX4_justWays_4 : decode cX4_justWays 4 = .ok (.iconst 0, 1) := by decide +kernel
theorem dX4_justWays_5 : decode cX4_justWays 5 = .ok (.istore_n 1, 1) := by decide +kernel
theorem dX4_justWays_6 : decode cX4_justWays 6 = .ok (.iload_n 1, 1) := by decide +kernel
theorem dX4_justWays_7 : decode cX4_justWays 7 = .ok (.aload_n 0, 1) := by decide +kernel
theorem dX4_justWays_8 : decode cX4_justWays 8 = .ok (.getfield 12, 3) := by decide +kernel
theorem dX4_justWays_11 : decode cX4_justWays 11 = .ok (.getfield 43, 3) := by decide +kernel
theorem dX4_justWays_14 : decode cX4_justWays 14 = .ok (.if_icmp .ge 32, 3) := by decide +kernel
theorem dX4_justWays_17 : decode cX4_justWays 17 = .ok (.aload_n 0, 1) := by decide +kernel
theorem dX4_justWays_18 : decode cX4_justWays 18 = .ok (.iconst 1, 1) := by decide +kernel
theorem dX4_justWays_19 : decode cX4_justWays 19 = .ok (.aload_n 0, 1) := by decide +kernel
theorem dX4_justWays_20 : decode cX4_justWays 20 = .ok (.getfield 20, 3) := by decide +kernel
theorem dX4_justWays_23 : decode cX4_justWays 23 = .ok (.iload_n 1, 1) := by decide +kernel
theorem dX4_justWays_24 : decode cX4_justWays 24 = .ok (.iaload, 1) := by decide +kernel
theorem dX4_justWays_25 : decode cX4_justWays 25 = .ok (.iconst 1, 1) := by decide +kernel
theorem dX4_justWays_26 : decode cX4_justWays 26 = .ok (.aload_n 0, 1) := by decide +kernel
theorem dX4_justWays_27 : decode cX4_justWays 27 = .ok (.getfield 34, 3) := by decide +kernel
theorem dX4_justWays_30 : decode cX4_justWays 30 = .ok (.aload_n 0, 1) := by decide +kernel
theorem dX4_justWays_31 : decode cX4_justWays 31 = .ok (.getfield 12, 3) := by decide +kernel
theorem dX4_justWays_34 : decode cX4_justWays 34 = .ok (.getfield 43, 3) := by decide +kernel
theorem dX4_justWays_37 : decode cX4_justWays 37 = .ok (.invokevirtual 67, 3) := by decide +kernel
theorem dX4_justWays_40 : decode cX4_justWays 40 = .ok (.iinc 1 1, 3) := by decide +kernel
theorem dX4_justWays_43 : decode cX4_justWays 43 = .ok (.goto (-37), 3) := by decide +kernel
theorem dX4_justWays_46 : decode cX4_justWays 46 = .ok (.lconst 0, 1) := by decide +kernel
theorem dX4_justWays_47 : decode cX4_justWays 47 = .ok (.lstore_n 1, 1) := by decide +kernel
theorem dX4_justWays_48 : decode cX4_justWays 48 = .ok (.aload_n 0, 1) := by decide +kernel
theorem dX4_justWays_49 : decode cX4_justWays 49 = .ok (.getfield 38, 3) := by decide +kernel
theorem dX4_justWays_52 : decode cX4_justWays 52 = .ok (.istore_n 3, 1) := by decide +kernel
theorem dX4_justWays_53 : decode cX4_justWays 53 = .ok (.iload_n 3, 1) := by decide +kernel
theorem dX4_justWays_54 : decode cX4_justWays 54 = .ok (.aload_n 0, 1) := by decide +kernel
theorem dX4_justWays_55 : decode cX4_justWays 55 = .ok (.getfield 12, 3) := by decide +kernel
theorem dX4_justWays_58 : decode cX4_justWays 58 = .ok (.getfield 43, 3) := by decide +kernel
theorem dX4_justWays_61 : decode cX4_justWays 61 = .ok (.if_icmp .gt 26, 3) := by decide +kernel
theorem dX4_justWays_64 : decode cX4_justWays 64 = .ok (.lload_n 1, 1) := by decide +kernel
theorem dX4_justWays_65 : decode cX4_justWays 65 = .ok (.aload_n 0, 1) := by decide +kernel
theorem dX4_justWays_66 : decode cX4_justWays 66 = .ok (.getfield 24, 3) := by decide +kernel
theorem dX4_justWays_69 : decode cX4_justWays 69 = .ok (.iload_n 3, 1) := by decide +kernel
theorem dX4_justWays_70 : decode cX4_justWays 70 = .ok (.bipush 61, 2) := by decide +kernel
theorem dX4_justWays_72 : decode cX4_justWays 72 = .ok (.imul, 1) := by decide +kernel
theorem dX4_justWays_73 : decode cX4_justWays 73 = .ok (.aload_n 0, 1) := by decide +kernel
theorem dX4_justWays_74 : decode cX4_justWays 74 = .ok (.getfield 34, 3) := by decide +kernel
theorem dX4_justWays_77 : decode cX4_justWays 77 = .ok (.iadd, 1) := by decide +kernel
theorem dX4_justWays_78 : decode cX4_justWays 78 = .ok (.laload, 1) := by decide +kernel
theorem dX4_justWays_79 : decode cX4_justWays 79 = .ok (.ladd, 1) := by decide +kernel
theorem dX4_justWays_80 : decode cX4_justWays 80 = .ok (.lstore_n 1, 1) := by decide +kernel
theorem dX4_justWays_81 : decode cX4_justWays 81 = .ok (.iinc 3 1, 3) := by decide +kernel
theorem dX4_justWays_84 : decode cX4_justWays 84 = .ok (.goto (-31), 3) := by decide +kernel
theorem dX4_justWays_87 : decode cX4_justWays 87 = .ok (.lload_n 1, 1) := by decide +kernel
theorem dX4_justWays_88 : decode cX4_justWays 88 = .ok (.lreturn, 1) := by decide +kernel
theorem dX4_firstGift_0 : decode cX4_firstGift 0 = .ok (.aload_n 0, 1) := by decide +kernel
theorem dX4_firstGift_1 : decode cX4_firstGift 1 = .ok (.getfield 34, 3) := by decide +kernel
theorem dX4_firstGift_4 : decode cX4_firstGift 4 = .ok (.istore_n 2, 1) := by decide +kernel
theorem dX4_firstGift_5 : decode cX4_firstGift 5 = .ok (.aload_n 0, 1) := by decide +kernel
theorem dX4_firstGift_6 : decode cX4_firstGift 6 = .ok (.getfield 38, 3) := by decide +kernel
theorem dX4_firstGift_9 : decode cX4_firstGift 9 = .ok (.istore_n 3, 1) := by decide +kernel
theorem dX4_firstGift_10 : decode cX4_firstGift 10 = .ok (.iconst 0, 1) := by decide +kernel
theorem dX4_firstGift_11 : decode cX4_firstGift 11 = .ok (.istore 4, 2) := by decide +kernel
theorem dX4_firstGift_13 : decode cX4_firstGift 13 = .ok (.iload 4, 2) := by decide +kernel
theorem dX4_firstGift_15 : decode cX4_firstGift 15 = .ok (.iload_n 1, 1) := by decide +kernel
theorem dX4_firstGift_16 : decode cX4_firstGift 16 = .ok (.if_icmp .gt 76, 3) := by decide +kernel
theorem dX4_firstGift_19 : decode cX4_firstGift 19 = .ok (.iload 4, 2) := by decide +kernel
theorem dX4_firstGift_21 : decode cX4_firstGift 21 = .ok (.bipush 8, 2) := by decide +kernel
theorem dX4_firstGift_23 : decode cX4_firstGift 23 = .ok (.if_icmp .ge 69, 3) := by decide +kernel
theorem dX4_firstGift_26 : decode cX4_firstGift 26 = .ok (.aload_n 0, 1) := by decide +kernel
theorem dX4_firstGift_27 : decode cX4_firstGift 27 = .ok (.getfield 12, 3) := by decide +kernel
theorem dX4_firstGift_30 : decode cX4_firstGift 30 = .ok (.iload 4, 2) := by decide +kernel
theorem dX4_firstGift_32 : decode cX4_firstGift 32 = .ok (.invokevirtual 71, 3) := by decide +kernel
theorem dX4_firstGift_35 : decode cX4_firstGift 35 = .ok (.istore 5, 2) := by decide +kernel
theorem dX4_firstGift_37 : decode cX4_firstGift 37 = .ok (.iload 5, 2) := by decide +kernel
theorem dX4_firstGift_39 : decode cX4_firstGift 39 = .ok (.bipush (-4), 2) := by decide +kernel
theorem dX4_firstGift_41 : decode cX4_firstGift 41 = .ok (.if_icmp .ne 6, 3) := by decide +kernel
theorem dX4_firstGift_44 : decode cX4_firstGift 44 = .ok (.goto 42, 3) := by decide +kernel
theorem dX4_firstGift_47 : decode cX4_firstGift 47 = .ok (.aload_n 0, 1) := by decide +kernel
theorem dX4_firstGift_48 : decode cX4_firstGift 48 = .ok (.iload 4, 2) := by decide +kernel
theorem dX4_firstGift_50 : decode cX4_firstGift 50 = .ok (.aload_n 0, 1) := by decide +kernel
theorem dX4_firstGift_51 : decode cX4_firstGift 51 = .ok (.getfield 20, 3) := by decide +kernel
theorem dX4_firstGift_54 : decode cX4_firstGift 54 = .ok (.iload 5, 2) := by decide +kernel
theorem dX4_firstGift_56 : decode cX4_firstGift 56 = .ok (.iaload, 1) := by decide +kernel
theorem dX4_firstGift_57 : decode cX4_firstGift 57 = .ok (.iload_n 2, 1) := by decide +kernel
theorem dX4_firstGift_58 : decode cX4_firstGift 58 = .ok (.iload_n 3, 1) := by decide +kernel
theorem dX4_firstGift_59 : decode cX4_firstGift 59 = .ok (.invokevirtual 75, 3) := by decide +kernel
theorem dX4_firstGift_62 : decode cX4_firstGift 62 = .ok (.istore 6, 2) := by decide +kernel
theorem dX4_firstGift_64 : decode cX4_firstGift 64 = .ok (.iload 4, 2) := by decide +kernel
theorem dX4_firstGift_66 : decode cX4_firstGift 66 = .ok (.iload_n 1, 1) := by decide +kernel
theorem dX4_firstGift_67 : decode cX4_firstGift 67 = .ok (.if_icmp .ne 6, 3) := by decide +kernel
theorem dX4_firstGift_70 : decode cX4_firstGift 70 = .ok (.iload 6, 2) := by decide +kernel
theorem dX4_firstGift_72 : decode cX4_firstGift 72 = .ok (.ireturn, 1) := by decide +kernel
theorem dX4_firstGift_73 : decode cX4_firstGift 73 = .ok (.iload_n 2, 1) := by decide +kernel
theorem dX4_firstGift_74 : decode cX4_firstGift 74 = .ok (.iload 6, 2) := by decide +kernel
theorem dX4_firstGift_76 : decode cX4_firstGift 76 = .ok (.isub, 1) := by decide +kernel
theorem dX4_firstGift_77 : decode cX4_firstGift 77 = .ok (.istore_n 2, 1) := by decide +kernel
theorem dX4_firstGift_78 : decode cX4_firstGift 78 = .ok (.iload 6, 2) := by decide +kernel
theorem dX4_firstGift_80 : decode cX4_firstGift 80 = .ok (.ifCond .le 6, 3) := by decide +kernel
theorem dX4_firstGift_83 : decode cX4_firstGift 83 = .ok (.iinc 3 (-1), 3) := by decide +kernel
theorem dX4_firstGift_86 : decode cX4_firstGift 86 = .ok (.iinc 4 1, 3) := by decide +kernel
theorem dX4_firstGift_89 : decode cX4_firstGift 89 = .ok (.goto (-76), 3) := by decide +kernel
theorem dX4_firstGift_92 : decode cX4_firstGift 92 = .ok (.iconst 0, 1) := by decide +kernel
theorem dX4_firstGift_93 : decode cX4_firstGift 93 = .ok (.ireturn, 1) := by decide +kernel
theorem dX4_lowestGift_0 : decode cX4_lowestGift 0 = .ok (.iconst 0, 1) := by decide +kernel
theorem dX4_lowestGift_1 : decode cX4_lowestGift 1 = .ok (.istore 5, 2) := by decide +kernel
theorem dX4_lowestGift_3 : decode cX4_lowestGift 3 = .ok (.iconst 0, 1) := by decide +kernel
theorem dX4_lowestGift_4 : decode cX4_lowestGift 4 = .ok (.istore 6, 2) := by decide +kernel
theorem dX4_lowestGift_6 : decode cX4_lowestGift 6 = .ok (.iconst 0, 1) := by decide +kernel
theorem dX4_lowestGift_7 : decode cX4_lowestGift 7 = .ok (.istore 7, 2) := by decide +kernel
theorem dX4_lowestGift_9 : decode cX4_lowestGift 9 = .ok (.iload 7, 2) := by decide +kernel
theorem dX4_lowestGift_11 : decode cX4_lowestGift 11 = .ok (.aload_n 0, 1) := by decide +kernel
theorem dX4_lowestGift_12 : decode cX4_lowestGift 12 = .ok (.getfield 12, 3) := by decide +kernel
theorem dX4_lowestGift_15 : decode cX4_lowestGift 15 = .ok (.getfield 43, 3) := by decide +kernel
theorem dX4_lowestGift_18 : decode cX4_lowestGift 18 = .ok (.if_icmp .ge 51, 3) := by decide +kernel
theorem dX4_lowestGift_21 : decode cX4_lowestGift 21 = .ok (.aload_n 0, 1) := by decide +kernel
theorem dX4_lowestGift_22 : decode cX4_lowestGift 22 = .ok (.getfield 12, 3) := by decide +kernel
theorem dX4_lowestGift_25 : decode cX4_lowestGift 25 = .ok (.getfield 79, 3) := by decide +kernel
theorem dX4_lowestGift_28 : decode cX4_lowestGift 28 = .ok (.iload 7, 2) := by decide +kernel
theorem dX4_lowestGift_30 : decode cX4_lowestGift 30 = .ok (.iaload, 1) := by decide +kernel
theorem dX4_lowestGift_31 : decode cX4_lowestGift 31 = .ok (.iload_n 1, 1) := by decide +kernel
theorem dX4_lowestGift_32 : decode cX4_lowestGift 32 = .ok (.if_icmp .gt 6, 3) := by decide +kernel
theorem dX4_lowestGift_35 : decode cX4_lowestGift 35 = .ok (.goto 28, 3) := by decide +kernel
theorem dX4_lowestGift_38 : decode cX4_lowestGift 38 = .ok (.iload 5, 2) := by decide +kernel
theorem dX4_lowestGift_40 : decode cX4_lowestGift 40 = .ok (.aload_n 0, 1) := by decide +kernel
theorem dX4_lowestGift_41 : decode cX4_lowestGift 41 = .ok (.getfield 20, 3) := by decide +kernel
theorem dX4_lowestGift_44 : decode cX4_lowestGift 44 = .ok (.iload 7, 2) := by decide +kernel
theorem dX4_lowestGift_46 : decode cX4_lowestGift 46 = .ok (.iaload, 1) := by decide +kernel
theorem dX4_lowestGift_47 : decode cX4_lowestGift 47 = .ok (.iadd, 1) := by decide +kernel
theorem dX4_lowestGift_48 : decode cX4_lowestGift 48 = .ok (.istore 5, 2) := by decide +kernel
theorem dX4_lowestGift_50 : decode cX4_lowestGift 50 = .ok (.aload_n 0, 1) := by decide +kernel
theorem dX4_lowestGift_51 : decode cX4_lowestGift 51 = .ok (.getfield 20, 3) := by decide +kernel
theorem dX4_lowestGift_54 : decode cX4_lowestGift 54 = .ok (.iload 7, 2) := by decide +kernel
theorem dX4_lowestGift_56 : decode cX4_lowestGift 56 = .ok (.iaload, 1) := by decide +kernel
theorem dX4_lowestGift_57 : decode cX4_lowestGift 57 = .ok (.ifCond .le 6, 3) := by decide +kernel
theorem dX4_lowestGift_60 : decode cX4_lowestGift 60 = .ok (.iinc 6 1, 3) := by decide +kernel
theorem dX4_lowestGift_63 : decode cX4_lowestGift 63 = .ok (.iinc 7 1, 3) := by decide +kernel
theorem dX4_lowestGift_66 : decode cX4_lowestGift 66 = .ok (.goto (-57), 3) := by decide +kernel
theorem dX4_lowestGift_69 : decode cX4_lowestGift 69 = .ok (.iconst 0, 1) := by decide +kernel
theorem dX4_lowestGift_70 : decode cX4_lowestGift 70 = .ok (.istore 7, 2) := by decide +kernel
theorem dX4_lowestGift_72 : decode cX4_lowestGift 72 = .ok (.iload 7, 2) := by decide +kernel
theorem dX4_lowestGift_74 : decode cX4_lowestGift 74 = .ok (.iload_n 2, 1) := by decide +kernel
theorem dX4_lowestGift_75 : decode cX4_lowestGift 75 = .ok (.if_icmp .ge 52, 3) := by decide +kernel
theorem dX4_lowestGift_78 : decode cX4_lowestGift 78 = .ok (.iload_n 3, 1) := by decide +kernel
theorem dX4_lowestGift_79 : decode cX4_lowestGift 79 = .ok (.iload 7, 2) := by decide +kernel
theorem dX4_lowestGift_81 : decode cX4_lowestGift 81 = .ok (.isub, 1) := by decide +kernel
theorem dX4_lowestGift_82 : decode cX4_lowestGift 82 = .ok (.istore 8, 2) := by decide +kernel
theorem dX4_lowestGift_84 : decode cX4_lowestGift 84 = .ok (.iload 4, 2) := by decide +kernel
theorem dX4_lowestGift_86 : decode cX4_lowestGift 86 = .ok (.iload 7, 2) := by decide +kernel
theorem dX4_lowestGift_88 : decode cX4_lowestGift 88 = .ok (.ifCond .le 7, 3) := by decide +kernel
theorem dX4_lowestGift_91 : decode cX4_lowestGift 91 = .ok (.iconst 1, 1) := by decide +kernel
theorem dX4_lowestGift_92 : decode cX4_lowestGift 92 = .ok (.goto 4, 3) := by decide +kernel
theorem dX4_lowestGift_95 : decode cX4_lowestGift 95 = .ok (.iconst 0, 1) := by decide +kernel
theorem dX4_lowestGift_96 : decode cX4_lowestGift 96 = .ok (.isub, 1) := by decide +kernel
theorem dX4_lowestGift_97 : decode cX4_lowestGift 97 = .ok (.istore 9, 2) := by decide +kernel
theorem dX4_lowestGift_99 : decode cX4_lowestGift 99 = .ok (.iload 8, 2) := by decide +kernel
theorem dX4_lowestGift_101 : decode cX4_lowestGift 101 = .ok (.iload 5, 2) := by decide +kernel
theorem dX4_lowestGift_103 : decode cX4_lowestGift 103 = .ok (.if_icmp .gt 18, 3) := by decide +kernel
theorem dX4_lowestGift_106 : decode cX4_lowestGift 106 = .ok (.iload 6, 2) := by decide +kernel
theorem dX4_lowestGift_108 : decode cX4_lowestGift 108 = .ok (.iload 8, 2) := by decide +kernel
theorem dX4_lowestGift_110 : decode cX4_lowestGift 110 = .ok (.invokestatic 52, 3) := by decide +kernel
theorem dX4_lowestGift_113 : decode cX4_lowestGift 113 = .ok (.iload 9, 2) := by decide +kernel
theorem dX4_lowestGift_115 : decode cX4_lowestGift 115 = .ok (.if_icmp .lt 6, 3) := by decide +kernel
theorem dX4_lowestGift_118 : decode cX4_lowestGift 118 = .ok (.iload 7, 2) := by decide +kernel
theorem dX4_lowestGift_120 : decode cX4_lowestGift 120 = .ok (.ireturn, 1) := by decide +kernel
theorem dX4_lowestGift_121 : decode cX4_lowestGift 121 = .ok (.iinc 7 1, 3) := by decide +kernel
theorem dX4_lowestGift_124 : decode cX4_lowestGift 124 = .ok (.goto (-52), 3) := by decide +kernel
theorem dX4_lowestGift_127 : decode cX4_lowestGift 127 = .ok (.iload_n 2, 1) := by decide +kernel
theorem dX4_lowestGift_128 : decode cX4_lowestGift 128 = .ok (.ireturn, 1) := by decide +kernel
theorem dX4_failingWays_0 : decode cX4_failingWays 0 = .ok (.lconst 0, 1) := by decide +kernel
theorem dX4_failingWays_1 : decode cX4_failingWays 1 = .ok (.lstore_n 1, 1) := by decide +kernel
theorem dX4_failingWays_2 : decode cX4_failingWays 2 = .ok (.iconst 0, 1) := by decide +kernel
theorem dX4_failingWays_3 : decode cX4_failingWays 3 = .ok (.istore_n 3, 1) := by decide +kernel
theorem dX4_failingWays_4 : decode cX4_failingWays 4 = .ok (.iload_n 3, 1) := by decide +kernel
theorem dX4_failingWays_5 : decode cX4_failingWays 5 = .ok (.aload_n 0, 1) := by decide +kernel
theorem dX4_failingWays_6 : decode cX4_failingWays 6 = .ok (.getfield 34, 3) := by decide +kernel
theorem dX4_failingWays_9 : decode cX4_failingWays 9 = .ok (.if_icmp .ge 46, 3) := by decide +kernel
theorem dX4_failingWays_12 : decode cX4_failingWays 12 = .ok (.iconst 0, 1) := by decide +kernel
theorem dX4_failingWays_13 : decode cX4_failingWays 13 = .ok (.istore 4, 2) := by decide +kernel
theorem dX4_failingWays_15 : decode cX4_failingWays 15 = .ok (.iload 4, 2) := by decide +kernel
theorem dX4_failingWays_17 : decode cX4_failingWays 17 = .ok (.aload_n 0, 1) := by decide +kernel
theorem dX4_failingWays_18 : decode cX4_failingWays 18 = .ok (.getfield 12, 3) := by decide +kernel
theorem dX4_failingWays_21 : decode cX4_failingWays 21 = .ok (.getfield 43, 3) := by decide +kernel
theorem dX4_failingWays_24 : decode cX4_failingWays 24 = .ok (.if_icmp .gt 25, 3) := by decide +kernel
theorem dX4_failingWays_27 : decode cX4_failingWays 27 = .ok (.iload 4, 2) := by decide +kernel
theorem dX4_failingWays_29 : decode cX4_failingWays 29 = .ok (.iload_n 3, 1) := by decide +kernel
theorem dX4_failingWays_30 : decode cX4_failingWays 30 = .ok (.if_icmp .gt 19, 3) := by decide +kernel
theorem dX4_failingWays_33 : decode cX4_failingWays 33 = .ok (.lload_n 1, 1) := by decide +kernel
theorem dX4_failingWays_34 : decode cX4_failingWays 34 = .ok (.aload_n 0, 1) := by decide +kernel
theorem dX4_failingWays_35 : decode cX4_failingWays 35 = .ok (.iload_n 3, 1) := by decide +kernel
theorem dX4_failingWays_36 : decode cX4_failingWays 36 = .ok (.iload 4, 2) := by decide +kernel
theorem dX4_failingWays_38 : decode cX4_failingWays 38 = .ok (.invokevirtual 82, 3) := by decide +kernel
theorem dX4_failingWays_41 : decode cX4_failingWays 41 = .ok (.ladd, 1) := by decide +kernel
theorem dX4_failingWays_42 : decode cX4_failingWays 42 = .ok (.lstore_n 1, 1) := by decide +kernel
theorem dX4_failingWays_43 : decode cX4_failingWays 43 = .ok (.iinc 4 1, 3) := by decide +kernel
theorem dX4_failingWays_46 : decode cX4_failingWays 46 = .ok (.goto (-31), 3) := by decide +kernel
theorem dX4_failingWays_49 : decode cX4_failingWays 49 = .ok (.iinc 3 1, 3) := by decide +kernel
theorem dX4_failingWays_52 : decode cX4_failingWays 52 = .ok (.goto (-48), 3) := by decide +kernel
theorem dX4_failingWays_55 : decode cX4_failingWays 55 = .ok (.lload_n 1, 1) := by decide +kernel
theorem dX4_failingWays_56 : decode cX4_failingWays 56 = .ok (.lreturn, 1) := by decide +kernel
theorem dX4_failingWays__0 : decode cX4_failingWays_ 0 = .ok (.aload_n 0, 1) := by decide +kernel
theorem dX4_failingWays__1 : decode cX4_failingWays_ 1 = .ok (.invokevirtual 64, 3) := by decide +kernel
theorem dX4_failingWays__4 : decode cX4_failingWays_ 4 = .ok (.iconst 0, 1) := by decide +kernel
theorem dX4_failingWays__5 : decode cX4_failingWays_ 5 = .ok (.istore_n 3, 1) := by decide +kernel
theorem dX4_failingWays__6 : decode cX4_failingWays_ 6 = .ok (.iload_n 3, 1) := by decide +kernel
theorem dX4_failingWays__7 : decode cX4_failingWays_ 7 = .ok (.aload_n 0, 1) := by decide +kernel
theorem dX4_failingWays__8 : decode cX4_failingWays_ 8 = .ok (.getfield 12, 3) := by decide +kernel
theorem dX4_failingWays__11 : decode cX4_failingWays_ 11 = .ok (.getfield 43, 3) := by decide +kernel
theorem dX4_failingWays__14 : decode cX4_failingWays_ 14 = .ok (.if_icmp .ge 35, 3) := by decide +kernel
theorem dX4_failingWays__17 : decode cX4_failingWays_ 17 = .ok (.aload_n 0, 1) := by decide +kernel
theorem dX4_failingWays__18 : decode cX4_failingWays_ 18 = .ok (.aload_n 0, 1) := by decide +kernel
theorem dX4_failingWays__19 : decode cX4_failingWays_ 19 = .ok (.iload_n 3, 1) := by decide +kernel
theorem dX4_failingWays__20 : decode cX4_failingWays_ 20 = .ok (.iload_n 1, 1) := by decide +kernel
theorem dX4_failingWays__21 : decode cX4_failingWays_ 21 = .ok (.iload_n 2, 1) := by decide +kernel
theorem dX4_failingWays__22 : decode cX4_failingWays_ 22 = .ok (.invokevirtual 86, 3) := by decide +kernel
theorem dX4_failingWays__25 : decode cX4_failingWays_ 25 = .ok (.aload_n 0, 1) := by decide +kernel
theorem dX4_failingWays__26 : decode cX4_failingWays_ 26 = .ok (.getfield 20, 3) := by decide +kernel
theorem dX4_failingWays__29 : decode cX4_failingWays_ 29 = .ok (.iload_n 3, 1) := by decide +kernel
theorem dX4_failingWays__30 : decode cX4_failingWays_ 30 = .ok (.iaload, 1) := by decide +kernel
theorem dX4_failingWays__31 : decode cX4_failingWays_ 31 = .ok (.aload_n 0, 1) := by decide +kernel
theorem dX4_failingWays__32 : decode cX4_failingWays_ 32 = .ok (.iload_n 3, 1) := by decide +kernel
theorem dX4_failingWays__33 : decode cX4_failingWays_ 33 = .ok (.iload_n 1, 1) := by decide +kernel
theorem dX4_failingWays__34 : decode cX4_failingWays_ 34 = .ok (.iload_n 2, 1) := by decide +kernel
theorem dX4_failingWays__35 : decode cX4_failingWays_ 35 = .ok (.invokevirtual 90, 3) := by decide +kernel
theorem dX4_failingWays__38 : decode cX4_failingWays_ 38 = .ok (.iload_n 1, 1) := by decide +kernel
theorem dX4_failingWays__39 : decode cX4_failingWays_ 39 = .ok (.iload_n 2, 1) := by decide +kernel
theorem dX4_failingWays__40 : decode cX4_failingWays_ 40 = .ok (.invokevirtual 67, 3) := by decide +kernel
theorem dX4_failingWays__43 : decode cX4_failingWays_ 43 = .ok (.iinc 3 1, 3) := by decide +kernel
theorem dX4_failingWays__46 : decode cX4_failingWays_ 46 = .ok (.goto (-40), 3) := by decide +kernel
theorem dX4_failingWays__49 : decode cX4_failingWays_ 49 = .ok (.aload_n 0, 1) := by decide +kernel
theorem dX4_failingWays__50 : decode cX4_failingWays_ 50 = .ok (.getfield 24, 3) := by decide +kernel
theorem dX4_failingWays__53 : decode cX4_failingWays_ 53 = .ok (.iload_n 2, 1) := by decide +kernel
theorem dX4_failingWays__54 : decode cX4_failingWays_ 54 = .ok (.bipush 61, 2) := by decide +kernel
theorem dX4_failingWays__56 : decode cX4_failingWays_ 56 = .ok (.imul, 1) := by decide +kernel
theorem dX4_failingWays__57 : decode cX4_failingWays_ 57 = .ok (.iload_n 1, 1) := by decide +kernel
theorem dX4_failingWays__58 : decode cX4_failingWays_ 58 = .ok (.iadd, 1) := by decide +kernel
theorem dX4_failingWays__59 : decode cX4_failingWays_ 59 = .ok (.laload, 1) := by decide +kernel
theorem dX4_failingWays__60 : decode cX4_failingWays_ 60 = .ok (.lreturn, 1) := by decide +kernel
theorem dX4_lowestAtRest_0 : decode cX4_lowestAtRest 0 = .ok (.iload_n 3, 1) := by decide +kernel
theorem dX4_lowestAtRest_1 : decode cX4_lowestAtRest 1 = .ok (.aload_n 0, 1) := by decide +kernel
theorem dX4_lowestAtRest_2 : decode cX4_lowestAtRest 2 = .ok (.getfield 38, 3) := by decide +kernel
theorem dX4_lowestAtRest_5 : decode cX4_lowestAtRest 5 = .ok (.if_icmp .ge 5, 3) := by decide +kernel
theorem dX4_lowestAtRest_8 : decode cX4_lowestAtRest 8 = .ok (.iconst 1, 1) := by decide +kernel
theorem dX4_lowestAtRest_9 : decode cX4_lowestAtRest 9 = .ok (.ireturn, 1) := by decide +kernel
theorem dX4_lowestAtRest_10 : decode cX4_lowestAtRest 10 = .ok (.aload_n 0, 1) := by decide +kernel
theorem dX4_lowestAtRest_11 : decode cX4_lowestAtRest 11 = .ok (.getfield 34, 3) := by decide +kernel
theorem dX4_lowestAtRest_14 : decode cX4_lowestAtRest 14 = .ok (.iload_n 2, 1) := by decide +kernel
theorem dX4_lowestAtRest_15 : decode cX4_lowestAtRest 15 = .ok (.isub, 1) := by decide +kernel
theorem dX4_lowestAtRest_16 : decode cX4_lowestAtRest 16 = .ok (.istore 4, 2) := by decide +kernel
theorem dX4_lowestAtRest_18 : decode cX4_lowestAtRest 18 = .ok (.aload_n 0, 1) := by decide +kernel
theorem dX4_lowestAtRest_19 : decode cX4_lowestAtRest 19 = .ok (.getfield 20, 3) := by decide +kernel
theorem dX4_lowestAtRest_22 : decode cX4_lowestAtRest 22 = .ok (.iload_n 1, 1) := by decide +kernel
theorem dX4_lowestAtRest_23 : decode cX4_lowestAtRest 23 = .ok (.iaload, 1) := by decide +kernel
theorem dX4_lowestAtRest_24 : decode cX4_lowestAtRest 24 = .ok (.iload 4, 2) := by decide +kernel
theorem dX4_lowestAtRest_26 : decode cX4_lowestAtRest 26 = .ok (.isub, 1) := by decide +kernel
theorem dX4_lowestAtRest_27 : decode cX4_lowestAtRest 27 = .ok (.iconst 1, 1) := by decide +kernel
theorem dX4_lowestAtRest_28 : decode cX4_lowestAtRest 28 = .ok (.iadd, 1) := by decide +kernel
theorem dX4_lowestAtRest_29 : decode cX4_lowestAtRest 29 = .ok (.istore 5, 2) := by decide +kernel
theorem dX4_lowestAtRest_31 : decode cX4_lowestAtRest 31 = .ok (.aload_n 0, 1) := by decide +kernel
theorem dX4_lowestAtRest_32 : decode cX4_lowestAtRest 32 = .ok (.getfield 12, 3) := by decide +kernel
theorem dX4_lowestAtRest_35 : decode cX4_lowestAtRest 35 = .ok (.getfield 46, 3) := by decide +kernel
theorem dX4_lowestAtRest_38 : decode cX4_lowestAtRest 38 = .ok (.iload_n 1, 1) := by decide +kernel
theorem dX4_lowestAtRest_39 : decode cX4_lowestAtRest 39 = .ok (.iaload, 1) := by decide +kernel
theorem dX4_lowestAtRest_40 : decode cX4_lowestAtRest 40 = .ok (.iload 4, 2) := by decide +kernel
theorem dX4_lowestAtRest_42 : decode cX4_lowestAtRest 42 = .ok (.isub, 1) := by decide +kernel
theorem dX4_lowestAtRest_43 : decode cX4_lowestAtRest 43 = .ok (.aload_n 0, 1) := by decide +kernel
theorem dX4_lowestAtRest_44 : decode cX4_lowestAtRest 44 = .ok (.getfield 42, 3) := by decide +kernel
theorem dX4_lowestAtRest_47 : decode cX4_lowestAtRest 47 = .ok (.isub, 1) := by decide +kernel
theorem dX4_lowestAtRest_48 : decode cX4_lowestAtRest 48 = .ok (.istore 6, 2) := by decide +kernel
theorem dX4_lowestAtRest_50 : decode cX4_lowestAtRest 50 = .ok (.iconst 1, 1) := by decide +kernel
theorem dX4_lowestAtRest_51 : decode cX4_lowestAtRest 51 = .ok (.iload 5, 2) := by decide +kernel
theorem dX4_lowestAtRest_53 : decode cX4_lowestAtRest 53 = .ok (.iload 6, 2) := by decide +kernel
theorem dX4_lowestAtRest_55 : decode cX4_lowestAtRest 55 = .ok (.invokestatic 52, 3) := by decide +kernel
theorem dX4_lowestAtRest_58 : decode cX4_lowestAtRest 58 = .ok (.invokestatic 94, 3) := by decide +kernel
theorem dX4_lowestAtRest_61 : decode cX4_lowestAtRest 61 = .ok (.ireturn, 1) := by decide +kernel
theorem dX4_isNoneAtRest_0 : decode cX4_isNoneAtRest 0 = .ok (.aload_n 0, 1) := by decide +kernel
theorem dX4_isNoneAtRest_1 : decode cX4_isNoneAtRest 1 = .ok (.getfield 34, 3) := by decide +kernel
theorem dX4_isNoneAtRest_4 : decode cX4_isNoneAtRest 4 = .ok (.iload_n 2, 1) := by decide +kernel
theorem dX4_isNoneAtRest_5 : decode cX4_isNoneAtRest 5 = .ok (.isub, 1) := by decide +kernel
theorem dX4_isNoneAtRest_6 : decode cX4_isNoneAtRest 6 = .ok (.istore 4, 2) := by decide +kernel
theorem dX4_isNoneAtRest_8 : decode cX4_isNoneAtRest 8 = .ok (.iload_n 3, 1) := by decide +kernel
theorem dX4_isNoneAtRest_9 : decode cX4_isNoneAtRest 9 = .ok (.iconst 1, 1) := by decide +kernel
theorem dX4_isNoneAtRest_10 : decode cX4_isNoneAtRest 10 = .ok (.iadd, 1) := by decide +kernel
theorem dX4_isNoneAtRest_11 : decode cX4_isNoneAtRest 11 = .ok (.aload_n 0, 1) := by decide +kernel
theorem dX4_isNoneAtRest_12 : decode cX4_isNoneAtRest 12 = .ok (.getfield 38, 3) := by decide +kernel
theorem dX4_isNoneAtRest_15 : decode cX4_isNoneAtRest 15 = .ok (.if_icmp .lt 7, 3) := by decide +kernel
theorem dX4_isNoneAtRest_18 : decode cX4_isNoneAtRest 18 = .ok (.iconst 1, 1) := by decide +kernel
theorem dX4_isNoneAtRest_19 : decode cX4_isNoneAtRest 19 = .ok (.goto 4, 3) := by decide +kernel
theorem dX4_isNoneAtRest_22 : decode cX4_isNoneAtRest 22 = .ok (.iconst 0, 1) := by decide +kernel
theorem dX4_isNoneAtRest_23 : decode cX4_isNoneAtRest 23 = .ok (.istore 5, 2) := by decide +kernel
theorem dX4_isNoneAtRest_25 : decode cX4_isNoneAtRest 25 = .ok (.iload 5, 2) := by decide +kernel
theorem dX4_isNoneAtRest_27 : decode cX4_isNoneAtRest 27 = .ok (.ifCond .eq 18, 3) := by decide +kernel
theorem dX4_isNoneAtRest_30 : decode cX4_isNoneAtRest 30 = .ok (.iload 4, 2) := by decide +kernel
theorem dX4_isNoneAtRest_32 : decode cX4_isNoneAtRest 32 = .ok (.aload_n 0, 1) := by decide +kernel
theorem dX4_isNoneAtRest_33 : decode cX4_isNoneAtRest 33 = .ok (.getfield 20, 3) := by decide +kernel
theorem dX4_isNoneAtRest_36 : decode cX4_isNoneAtRest 36 = .ok (.iload_n 1, 1) := by decide +kernel
theorem dX4_isNoneAtRest_37 : decode cX4_isNoneAtRest 37 = .ok (.iaload, 1) := by decide +kernel
theorem dX4_isNoneAtRest_38 : decode cX4_isNoneAtRest 38 = .ok (.if_icmp .gt 7, 3) := by decide +kernel
theorem dX4_isNoneAtRest_41 : decode cX4_isNoneAtRest 41 = .ok (.iconst 1, 1) := by decide +kernel
theorem dX4_isNoneAtRest_42 : decode cX4_isNoneAtRest 42 = .ok (.goto 4, 3) := by decide +kernel
theorem dX4_isNoneAtRest_45 : decode cX4_isNoneAtRest 45 = .ok (.iconst 0, 1) := by decide +kernel
theorem dX4_isNoneAtRest_46 : decode cX4_isNoneAtRest 46 = .ok (.istore 6, 2) := by decide +kernel
theorem dX4_isNoneAtRest_48 : decode cX4_isNoneAtRest 48 = .ok (.iload 6, 2) := by decide +kernel
theorem dX4_isNoneAtRest_50 : decode cX4_isNoneAtRest 50 = .ok (.ifCond .eq 19, 3) := by decide +kernel
theorem dX4_isNoneAtRest_53 : decode cX4_isNoneAtRest 53 = .ok (.aload_n 0, 1) := by decide +kernel
theorem dX4_isNoneAtRest_54 : decode cX4_isNoneAtRest 54 = .ok (.getfield 12, 3) := by decide +kernel
theorem dX4_isNoneAtRest_57 : decode cX4_isNoneAtRest 57 = .ok (.getfield 46, 3) := by decide +kernel
theorem dX4_isNoneAtRest_60 : decode cX4_isNoneAtRest 60 = .ok (.iload_n 1, 1) := by decide +kernel
theorem dX4_isNoneAtRest_61 : decode cX4_isNoneAtRest 61 = .ok (.iaload, 1) := by decide +kernel
theorem dX4_isNoneAtRest_62 : decode cX4_isNoneAtRest 62 = .ok (.iload 4, 2) := by decide +kernel
theorem dX4_isNoneAtRest_64 : decode cX4_isNoneAtRest 64 = .ok (.if_icmp .le 5, 3) := by decide +kernel
theorem dX4_isNoneAtRest_67 : decode cX4_isNoneAtRest 67 = .ok (.iconst 0, 1) := by decide +kernel
theorem dX4_isNoneAtRest_68 : decode cX4_isNoneAtRest 68 = .ok (.ireturn, 1) := by decide +kernel
theorem dX4_isNoneAtRest_69 : decode cX4_isNoneAtRest 69 = .ok (.iload 5, 2) := by decide +kernel
theorem dX4_isNoneAtRest_71 : decode cX4_isNoneAtRest 71 = .ok (.ifCond .eq 19, 3) := by decide +kernel
theorem dX4_isNoneAtRest_74 : decode cX4_isNoneAtRest 74 = .ok (.aload_n 0, 1) := by decide +kernel
theorem dX4_isNoneAtRest_75 : decode cX4_isNoneAtRest 75 = .ok (.getfield 20, 3) := by decide +kernel
theorem dX4_isNoneAtRest_78 : decode cX4_isNoneAtRest 78 = .ok (.iload_n 1, 1) := by decide +kernel
theorem dX4_isNoneAtRest_79 : decode cX4_isNoneAtRest 79 = .ok (.iaload, 1) := by decide +kernel
theorem dX4_isNoneAtRest_80 : decode cX4_isNoneAtRest 80 = .ok (.iload 4, 2) := by decide +kernel
theorem dX4_isNoneAtRest_82 : decode cX4_isNoneAtRest 82 = .ok (.iconst 1, 1) := by decide +kernel
theorem dX4_isNoneAtRest_83 : decode cX4_isNoneAtRest 83 = .ok (.isub, 1) := by decide +kernel
theorem dX4_isNoneAtRest_84 : decode cX4_isNoneAtRest 84 = .ok (.invokestatic 52, 3) := by decide +kernel
theorem dX4_isNoneAtRest_87 : decode cX4_isNoneAtRest 87 = .ok (.goto 9, 3) := by decide +kernel
theorem dX4_isNoneAtRest_90 : decode cX4_isNoneAtRest 90 = .ok (.aload_n 0, 1) := by decide +kernel
theorem dX4_isNoneAtRest_91 : decode cX4_isNoneAtRest 91 = .ok (.getfield 20, 3) := by decide +kernel
theorem dX4_isNoneAtRest_94 : decode cX4_isNoneAtRest 94 = .ok (.iload_n 1, 1) := by decide +kernel
theorem dX4_isNoneAtRest_95 : decode cX4_isNoneAtRest 95 = .ok (.iaload, 1) := by decide +kernel
theorem dX4_isNoneAtRest_96 : decode cX4_isNoneAtRest 96 = .ok (.istore 7, 2) := by decide +kernel
theorem dX4_isNoneAtRest_98 : decode cX4_isNoneAtRest 98 = .ok (.aload_n 0, 1) := by decide +kernel
theorem dX4_isNoneAtRest_99 : decode cX4_isNoneAtRest 99 = .ok (.getfield 42, 3) := by decide +kernel
theorem dX4_isNoneAtRest_102 : decode cX4_isNoneAtRest 102 = .ok (.ifCond .eq 9, 3) := by decide +kernel
theorem dX4_isNoneAtRest_105 : decode cX4_isNoneAtRest 105 = .ok (.iload 7, 2) := by decide +kernel
theorem dX4_isNoneAtRest_107 : decode cX4_isNoneAtRest 107 = .ok (.iconst 1, 1) := by decide +kernel
theorem dX4_isNoneAtRest_108 : decode cX4_isNoneAtRest 108 = .ok (.if_icmp .ge 7, 3) := by decide +kernel
theorem dX4_isNoneAtRest_111 : decode cX4_isNoneAtRest 111 = .ok (.iconst 1, 1) := by decide +kernel
theorem dX4_isNoneAtRest_112 : decode cX4_isNoneAtRest 112 = .ok (.goto 4, 3) := by decide +kernel
theorem dX4_isNoneAtRest_115 : decode cX4_isNoneAtRest 115 = .ok (.iconst 0, 1) := by decide +kernel
theorem dX4_isNoneAtRest_116 : decode cX4_isNoneAtRest 116 = .ok (.ireturn, 1) := by decide +kernel
theorem dX5_init_0 : decode cX5_init 0 = .ok (.aload_n 0, 1) := by decide +kernel
theorem dX5_init_1 : decode cX5_init 1 = .ok (.invokespecial 1, 3) := by decide +kernel
theorem dX5_init_4 : decode cX5_init 4 = .ok (.aload_n 0, 1) := by decide +kernel
theorem dX5_init_5 : decode cX5_init 5 = .ok (.bipush 16, 2) := by decide +kernel
theorem dX5_init_7 : decode cX5_init 7 = .ok (.newarray .int, 2) := by decide +kernel
theorem dX5_init_9 : decode cX5_init 9 = .ok (.putfield 11, 3) := by decide +kernel
theorem dX5_init_12 : decode cX5_init 12 = .ok (.aload_n 0, 1) := by decide +kernel
theorem dX5_init_13 : decode cX5_init 13 = .ok (.iconst 2, 1) := by decide +kernel
theorem dX5_init_14 : decode cX5_init 14 = .ok (.newarray .int, 2) := by decide +kernel
theorem dX5_init_16 : decode cX5_init 16 = .ok (.putfield 15, 3) := by decide +kernel
theorem dX5_init_19 : decode cX5_init 19 = .ok (.return_, 1) := by decide +kernel
theorem dX5_put_0 : decode cX5_put 0 = .ok (.aload_n 0, 1) := by decide +kernel
theorem dX5_put_1 : decode cX5_put 1 = .ok (.getfield 18, 3) := by decide +kernel
theorem dX5_put_4 : decode cX5_put 4 = .ok (.ifCond .lt 18, 3) := by decide +kernel
theorem dX5_put_7 : decode cX5_put 7 = .ok (.aload_n 0, 1) := by decide +kernel
theorem dX5_put_8 : decode cX5_put 8 = .ok (.getfield 18, 3) := by decide +kernel
theorem dX5_put_11 : decode cX5_put 11 = .ok (.iconst 2, 1) := by decide +kernel
theorem dX5_put_12 : decode cX5_put 12 = .ok (.if_icmp .ge 10, 3) := by decide +kernel
theorem dX5_put_15 : decode cX5_put 15 = .ok (.aload_n 1, 1) := by decide +kernel
theorem dX5_put_16 : decode cX5_put 16 = .ok (.arraylength, 1) := by decide +kernel
theorem dX5_put_17 : decode cX5_put 17 = .ok (.bipush 8, 2) := by decide +kernel
theorem dX5_put_19 : decode cX5_put 19 = .ok (.if_icmp .ge 5, 3) := by decide +kernel
theorem dX5_put_22 : decode cX5_put 22 = .ok (.iconst 0, 1) := by decide +kernel
theorem dX5_put_23 : decode cX5_put 23 = .ok (.ireturn, 1) := by decide +kernel
theorem dX5_put_24 : decode cX5_put 24 = .ok (.aload_n 1, 1) := by decide +kernel
theorem dX5_put_25 : decode cX5_put 25 = .ok (.iconst 0, 1) := by decide +kernel
theorem dX5_put_26 : decode cX5_put 26 = .ok (.aload_n 0, 1) := by decide +kernel
theorem dX5_put_27 : decode cX5_put 27 = .ok (.getfield 11, 3) := by decide +kernel
theorem dX5_put_30 : decode cX5_put 30 = .ok (.aload_n 0, 1) := by decide +kernel
theorem dX5_put_31 : decode cX5_put 31 = .ok (.getfield 18, 3) := by decide +kernel
theorem dX5_put_34 : decode cX5_put 34 = .ok (.bipush 8, 2) := by decide +kernel
theorem dX5_put_36 : decode cX5_put 36 = .ok (.imul, 1) := by decide +kernel
theorem dX5_put_37 : decode cX5_put 37 = .ok (.bipush 8, 2) := by decide +kernel
theorem dX5_put_39 : decode cX5_put 39 = .ok (.invokestatic 22, 3) := by decide +kernel
theorem dX5_put_42 : decode cX5_put 42 = .ok (.aload_n 0, 1) := by decide +kernel
theorem dX5_put_43 : decode cX5_put 43 = .ok (.getfield 15, 3) := by decide +kernel
theorem dX5_put_46 : decode cX5_put 46 = .ok (.aload_n 0, 1) := by decide +kernel
theorem dX5_put_47 : decode cX5_put 47 = .ok (.getfield 18, 3) := by decide +kernel
theorem dX5_put_50 : decode cX5_put 50 = .ok (.iload_n 2, 1) := by decide +kernel
theorem dX5_put_51 : decode cX5_put 51 = .ok (.iastore, 1) := by decide +kernel
theorem dX5_put_52 : decode cX5_put 52 = .ok (.aload_n 0, 1) := by decide +kernel
theorem dX5_put_53 : decode cX5_put 53 = .ok (.dup, 1) := by decide +kernel
theorem dX5_put_54 : decode cX5_put 54 = .ok (.getfield 18, 3) := by decide +kernel
theorem dX5_put_57 : decode cX5_put 57 = .ok (.iconst 1, 1) := by decide +kernel
theorem dX5_put_58 : decode cX5_put 58 = .ok (.iadd, 1) := by decide +kernel
theorem dX5_put_59 : decode cX5_put 59 = .ok (.putfield 18, 3) := by decide +kernel
theorem dX5_put_62 : decode cX5_put 62 = .ok (.iconst 1, 1) := by decide +kernel
theorem dX5_put_63 : decode cX5_put 63 = .ok (.ireturn, 1) := by decide +kernel
theorem dX5_takeInto_0 : decode cX5_takeInto 0 = .ok (.aload_n 0, 1) := by decide +kernel
theorem dX5_takeInto_1 : decode cX5_takeInto 1 = .ok (.getfield 18, 3) := by decide +kernel
theorem dX5_takeInto_4 : decode cX5_takeInto 4 = .ok (.iconst 1, 1) := by decide +kernel
theorem dX5_takeInto_5 : decode cX5_takeInto 5 = .ok (.if_icmp .lt 18, 3) := by decide +kernel
theorem dX5_takeInto_8 : decode cX5_takeInto 8 = .ok (.aload_n 0, 1) := by decide +kernel
theorem dX5_takeInto_9 : decode cX5_takeInto 9 = .ok (.getfield 18, 3) := by decide +kernel
theorem dX5_takeInto_12 : decode cX5_takeInto 12 = .ok (.iconst 2, 1) := by decide +kernel
theorem dX5_takeInto_13 : decode cX5_takeInto 13 = .ok (.if_icmp .gt 10, 3) := by decide +kernel
theorem dX5_takeInto_16 : decode cX5_takeInto 16 = .ok (.aload_n 1, 1) := by decide +kernel
theorem dX5_takeInto_17 : decode cX5_takeInto 17 = .ok (.arraylength, 1) := by decide +kernel
theorem dX5_takeInto_18 : decode cX5_takeInto 18 = .ok (.bipush 8, 2) := by decide +kernel
theorem dX5_takeInto_20 : decode cX5_takeInto 20 = .ok (.if_icmp .ge 5, 3) := by decide +kernel
theorem dX5_takeInto_23 : decode cX5_takeInto 23 = .ok (.iconst 0, 1) := by decide +kernel
theorem dX5_takeInto_24 : decode cX5_takeInto 24 = .ok (.ireturn, 1) := by decide +kernel
theorem dX5_takeInto_25 : decode cX5_takeInto 25 = .ok (.aload_n 0, 1) := by decide +kernel
theorem dX5_takeInto_26 : decode cX5_takeInto 26 = .ok (.dup, 1) := by decide +kernel
theorem dX5_takeInto_27 : decode cX5_takeInto 27 = .ok (.getfield 18, 3) := by decide +kernel
theorem dX5_takeInto_30 : decode cX5_takeInto 30 = .ok (.iconst 1, 1) := by decide +kernel
theorem dX5_takeInto_31 : decode cX5_takeInto 31 = .ok (.isub, 1) := by decide +kernel
theorem dX5_takeInto_32 : decode cX5_takeInto 32 = .ok (.putfield 18, 3) := by decide +kernel
theorem dX5_takeInto_35 : decode cX5_takeInto 35 = .ok (.aload_n 0, 1) := by decide +kernel
theorem dX5_takeInto_36 : decode cX5_takeInto 36 = .ok (.getfield 11, 3) := by decide +kernel
theorem dX5_takeInto_39 : decode cX5_takeInto 39 = .ok (.aload_n 0, 1) := by decide +kernel
theorem dX5_takeInto_40 : decode cX5_takeInto 40 = .ok (.getfield 18, 3) := by decide +kernel
theorem dX5_takeInto_43 : decode cX5_takeInto 43 = .ok (.bipush 8, 2) := by decide +kernel
theorem dX5_takeInto_45 : decode cX5_takeInto 45 = .ok (.imul, 1) := by decide +kernel
theorem dX5_takeInto_46 : decode cX5_takeInto 46 = .ok (.aload_n 1, 1) := by decide +kernel
theorem dX5_takeInto_47 : decode cX5_takeInto 47 = .ok (.iconst 0, 1) := by decide +kernel
theorem dX5_takeInto_48 : decode cX5_takeInto 48 = .ok (.bipush 8, 2) := by decide +kernel
theorem dX5_takeInto_50 : decode cX5_takeInto 50 = .ok (.invokestatic 22, 3) := by decide +kernel
theorem dX5_takeInto_53 : decode cX5_takeInto 53 = .ok (.aload_n 0, 1) := by decide +kernel
theorem dX5_takeInto_54 : decode cX5_takeInto 54 = .ok (.getfield 15, 3) := by decide +kernel
theorem dX5_takeInto_57 : decode cX5_takeInto 57 = .ok (.aload_n 0, 1) := by decide +kernel
theorem dX5_takeInto_58 : decode cX5_takeInto 58 = .ok (.getfield 18, 3) := by decide +kernel
theorem dX5_takeInto_61 : decode cX5_takeInto 61 = .ok (.iaload, 1) := by decide +kernel
theorem dX5_takeInto_62 : decode cX5_takeInto 62 = .ok (.ireturn, 1) := by decide +kernel
theorem dX6_init_0 : decode cX6_init 0 = .ok (.aload_n 0, 1) := by decide +kernel
theorem dX6_init_1 : decode cX6_init 1 = .ok (.invokespecial 1, 3) := by decide +kernel
theorem dX6_init_4 : decode cX6_init 4 = .ok (.aload_n 0, 1) := by decide +kernel
theorem dX6_init_5 : decode cX6_init 5 = .ok (.bipush 6, 2) := by decide +kernel
theorem dX6_init_7 : decode cX6_init 7 = .ok (.newarray .int, 2) := by decide +kernel
theorem dX6_init_9 : decode cX6_init 9 = .ok (.putfield 9, 3) := by decide +kernel
theorem dX6_init_12 : decode cX6_init 12 = .ok (.aload_n 0, 1) := by decide +kernel
theorem dX6_init_13 : decode cX6_init 13 = .ok (.bipush 6, 2) := by decide +kernel
theorem dX6_init_15 : decode cX6_init 15 = .ok (.newarray .int, 2) := by decide +kernel
theorem dX6_init_17 : decode cX6_init 17 = .ok (.putfield 13, 3) := by decide +kernel
theorem dX6_init_20 : decode cX6_init 20 = .ok (.aload_n 0, 1) := by decide +kernel
theorem dX6_init_21 : decode cX6_init 21 = .ok (.bipush 6, 2) := by decide +kernel
theorem dX6_init_23 : decode cX6_init 23 = .ok (.newarray .int, 2) := by decide +kernel
theorem dX6_init_25 : decode cX6_init 25 = .ok (.putfield 16, 3) := by decide +kernel
theorem dX6_init_28 : decode cX6_init 28 = .ok (.aload_n 0, 1) := by decide +kernel
theorem dX6_init_29 : decode cX6_init 29 = .ok (.bipush 6, 2) := by decide +kernel
theorem dX6_init_31 : decode cX6_init 31 = .ok (.newarray .int, 2) := by decide +kernel
theorem dX6_init_33 : decode cX6_init 33 = .ok (.putfield 19, 3) := by decide +kernel
theorem dX6_init_36 : decode cX6_init 36 = .ok (.aload_n 0, 1) := by decide +kernel
theorem dX6_init_37 : decode cX6_init 37 = .ok (.bipush 18, 2) := by decide +kernel
theorem dX6_init_39 : decode cX6_init 39 = .ok (.newarray .int, 2) := by decide +kernel
theorem dX6_init_41 : decode cX6_init 41 = .ok (.putfield 22, 3) := by decide +kernel
theorem dX6_init_44 : decode cX6_init 44 = .ok (.aload_n 0, 1) := by decide +kernel
theorem dX6_init_45 : decode cX6_init 45 = .ok (.bipush 18, 2) := by decide +kernel
theorem dX6_init_47 : decode cX6_init 47 = .ok (.newarray .int, 2) := by decide +kernel
theorem dX6_init_49 : decode cX6_init 49 = .ok (.putfield 25, 3) := by decide +kernel
theorem dX6_init_52 : decode cX6_init 52 = .ok (.aload_n 0, 1) := by decide +kernel
theorem dX6_init_53 : decode cX6_init 53 = .ok (.bipush 8, 2) := by decide +kernel
theorem dX6_init_55 : decode cX6_init 55 = .ok (.newarray .int, 2) := by decide +kernel
theorem dX6_init_57 : decode cX6_init 57 = .ok (.putfield 28, 3) := by decide +kernel
theorem dX6_init_60 : decode cX6_init 60 = .ok (.aload_n 0, 1) := by decide +kernel
theorem dX6_init_61 : decode cX6_init 61 = .ok (.bipush 8, 2) := by decide +kernel
theorem dX6_init_63 : decode cX6_init 63 = .ok (.newarray .int, 2) := by decide +kernel
theorem dX6_init_65 : decode cX6_init 65 = .ok (.putfield 31, 3) := by decide +kernel
theorem dX6_init_68 : decode cX6_init 68 = .ok (.return_, 1) := by decide +kernel
theorem dX6_clear_0 : decode cX6_clear 0 = .ok (.aload_n 0, 1) := by decide +kernel
theorem dX6_clear_1 : decode cX6_clear 1 = .ok (.iconst 0, 1) := by decide +kernel
theorem dX6_clear_2 : decode cX6_clear 2 = .ok (.putfield 34, 3) := by decide +kernel
theorem dX6_clear_5 : decode cX6_clear 5 = .ok (.aload_n 0, 1) := by decide +kernel
theorem dX6_clear_6 : decode cX6_clear 6 = .ok (.iconst 0, 1) := by decide +kernel
theorem dX6_clear_7 : decode cX6_clear 7 = .ok (.putfield 38, 3) := by decide +kernel
theorem dX6_clear_10 : decode cX6_clear 10 = .ok (.return_, 1) := by decide +kernel
theorem dX6_has_0 : decode cX6_has 0 = .ok (.iload_n 1, 1) := by decide +kernel
theorem dX6_has_1 : decode cX6_has 1 = .ok (.ifCond .lt 15, 3) := by decide +kernel
theorem dX6_has_4 : decode cX6_has 4 = .ok (.iload_n 1, 1) := by decide +kernel
theorem dX6_has_5 : decode cX6_has 5 = .ok (.aload_n 0, 1) := by decide +kernel
theorem dX6_has_6 : decode cX6_has 6 = .ok (.getfield 34, 3) := by decide +kernel
theorem dX6_has_9 : decode cX6_has 9 = .ok (.if_icmp .ge 7, 3) := by decide +kernel
theorem dX6_has_12 : decode cX6_has 12 = .ok (.iconst 1, 1) := by decide +kernel
theorem dX6_has_13 : decode cX6_has 13 = .ok (.goto 4, 3) := by decide +kernel
theorem dX6_has_16 : decode cX6_has 16 = .ok (.iconst 0, 1) := by decide +kernel
theorem dX6_has_17 : decode cX6_has 17 = .ok (.ireturn, 1) := by decide +kernel
theorem dX6_add_0 : decode cX6_add 0 = .ok (.aload_n 0, 1) := by decide +kernel
theorem dX6_add_1 : decode cX6_add 1 = .ok (.getfield 34, 3) := by decide +kernel
theorem dX6_add_4 : decode cX6_add 4 = .ok (.bipush 6, 2) := by decide +kernel
theorem dX6_add_6 : decode cX6_add 6 = .ok (.if_icmp .ge 19, 3) := by decide +kernel
theorem dX6_add_9 : decode cX6_add 9 = .ok (.iload_n 1, 1) := by decide +kernel
theorem dX6_add_10 : decode cX6_add 10 = .ok (.iconst 1, 1) := by decide +kernel
theorem dX6_add_11 : decode cX6_add 11 = .ok (.if_icmp .lt 14, 3) := by decide +kernel
theorem dX6_add_14 : decode cX6_add 14 = .ok (.aload_n 0, 1) := by decide +kernel
theorem dX6_add_15 : decode cX6_add 15 = .ok (.getfield 38, 3) := by decide +kernel
theorem dX6_add_18 : decode cX6_add 18 = .ok (.iload_n 1, 1) := by decide +kernel
theorem dX6_add_19 : decode cX6_add 19 = .ok (.iadd, 1) := by decide +kernel
theorem dX6_add_20 : decode cX6_add 20 = .ok (.bipush 8, 2) := by decide +kernel
theorem dX6_add_22 : decode cX6_add 22 = .ok (.if_icmp .le 5, 3) := by decide +kernel
theorem dX6_add_25 : decode cX6_add 25 = .ok (.iconst 0, 1) := by decide +kernel
theorem dX6_add_26 : decode cX6_add 26 = .ok (.ireturn, 1) := by decide +kernel
theorem dX6_add_27 : decode cX6_add 27 = .ok (.aload_n 0, 1) := by decide +kernel
theorem dX6_add_28 : decode cX6_add 28 = .ok (.getfield 9, 3) := by decide +kernel
theorem dX6_add_31 : decode cX6_add 31 = .ok (.aload_n 0, 1) := by decide +kernel
theorem dX6_add_32 : decode cX6_add 32 = .ok (.getfield 34, 3) := by decide +kernel
theorem dX6_add_35 : decode cX6_add 35 = .ok (.iload_n 2, 1) := by decide +kernel
theorem dX6_add_36 : decode cX6_add 36 = .ok (.iastore, 1) := by decide +kernel
theorem dX6_add_37 : decode cX6_add 37 = .ok (.aload_n 0, 1) := by decide +kernel
theorem dX6_add_38 : decode cX6_add 38 = .ok (.getfield 13, 3) := by decide +kernel
theorem dX6_add_41 : decode cX6_add 41 = .ok (.aload_n 0, 1) := by decide +kernel
theorem dX6_add_42 : decode cX6_add 42 = .ok (.getfield 34, 3) := by decide +kernel
theorem dX6_add_45 : decode cX6_add 45 = .ok (.iload_n 3, 1) := by decide +kernel
theorem dX6_add_46 : decode cX6_add 46 = .ok (.iastore, 1) := by decide +kernel
theorem dX6_add_47 : decode cX6_add 47 = .ok (.aload_n 0, 1) := by decide +kernel
theorem dX6_add_48 : decode cX6_add 48 = .ok (.getfield 16, 3) := by decide +kernel
theorem dX6_add_51 : decode cX6_add 51 = .ok (.aload_n 0, 1) := by decide +kernel
theorem dX6_add_52 : decode cX6_add 52 = .ok (.getfield 34, 3) := by decide +kernel
theorem dX6_add_55 : decode cX6_add 55 = .ok (.iconst 0, 1) := by decide +kernel
theorem dX6_add_56 : decode cX6_add 56 = .ok (.iastore, 1) := by decide +kernel
theorem dX6_add_57 : decode cX6_add 57 = .ok (.aload_n 0, 1) := by decide +kernel
theorem dX6_add_58 : decode cX6_add 58 = .ok (.getfield 19, 3) := by decide +kernel
theorem dX6_add_61 : decode cX6_add 61 = .ok (.aload_n 0, 1) := by decide +kernel
theorem dX6_add_62 : decode cX6_add 62 = .ok (.getfield 34, 3) := by decide +kernel
theorem dX6_add_65 : decode cX6_add 65 = .ok (.iconst 0, 1) := by decide +kernel
theorem dX6_add_66 : decode cX6_add 66 = .ok (.iastore, 1) := by decide +kernel
theorem dX6_add_67 : decode cX6_add 67 = .ok (.iconst 0, 1) := by decide +kernel
theorem dX6_add_68 : decode cX6_add 68 = .ok (.istore 6, 2) := by decide +kernel
theorem dX6_add_70 : decode cX6_add 70 = .ok (.iload 6, 2) := by decide +kernel
theorem dX6_add_72 : decode cX6_add 72 = .ok (.iload_n 1, 1) := by decide +kernel
theorem dX6_add_73 : decode cX6_add 73 = .ok (.if_icmp .ge 49, 3) := by decide +kernel
theorem dX6_add_76 : decode cX6_add 76 = .ok (.aload_n 0, 1) := by decide +kernel
theorem dX6_add_77 : decode cX6_add 77 = .ok (.getfield 28, 3) := by decide +kernel
theorem dX6_add_80 : decode cX6_add 80 = .ok (.aload_n 0, 1) := by decide +kernel
theorem dX6_add_81 : decode cX6_add 81 = .ok (.getfield 38, 3) := by decide +kernel
theorem dX6_add_84 : decode cX6_add 84 = .ok (.aload_n 0, 1) := by decide +kernel
theorem dX6_add_85 : decode cX6_add 85 = .ok (.getfield 34, 3) := by decide +kernel
theorem dX6_add_88 : decode cX6_add 88 = .ok (.iastore, 1) := by decide +kernel
theorem dX6_add_89 : decode cX6_add 89 = .ok (.aload_n 0, 1) := by decide +kernel
theorem dX6_add_90 : decode cX6_add 90 = .ok (.getfield 31, 3) := by decide +kernel
theorem dX6_add_93 : decode cX6_add 93 = .ok (.aload_n 0, 1) := by decide +kernel
theorem dX6_add_94 : decode cX6_add 94 = .ok (.getfield 38, 3) := by decide +kernel
theorem dX6_add_97 : decode cX6_add 97 = .ok (.iload 4, 2) := by decide +kernel
theorem dX6_add_99 : decode cX6_add 99 = .ok (.iload 6, 2) := by decide +kernel
theorem dX6_add_101 : decode cX6_add 101 = .ok (.iload 5, 2) := by decide +kernel
theorem dX6_add_103 : decode cX6_add 103 = .ok (.imul, 1) := by decide +kernel
theorem dX6_add_104 : decode cX6_add 104 = .ok (.iadd, 1) := by decide +kernel
theorem dX6_add_105 : decode cX6_add 105 = .ok (.iastore, 1) := by decide +kernel
theorem dX6_add_106 : decode cX6_add 106 = .ok (.aload_n 0, 1) := by decide +kernel
theorem dX6_add_107 : decode cX6_add 107 = .ok (.dup, 1) := by decide +kernel
theorem dX6_add_108 : decode cX6_add 108 = .ok (.getfield 38, 3) := by decide +kernel
theorem dX6_add_111 : decode cX6_add 111 = .ok (.iconst 1, 1) := by decide +kernel
theorem dX6_add_112 : decode cX6_add 112 = .ok (.iadd, 1) := by decide +kernel
theorem dX6_add_113 : decode cX6_add 113 = .ok (.putfield 38, 3) := by decide +kernel
theorem dX6_add_116 : decode cX6_add 116 = .ok (.iinc 6 1, 3) := by decide +kernel
theorem dX6_add_119 : decode cX6_add 119 = .ok (.goto (-49), 3) := by decide +kernel
theorem dX6_add_122 : decode cX6_add 122 = .ok (.aload_n 0, 1) := by decide +kernel
theorem dX6_add_123 : decode cX6_add 123 = .ok (.dup, 1) := by decide +kernel
theorem dX6_add_124 : decode cX6_add 124 = .ok (.getfield 34, 3) := by decide +kernel
theorem dX6_add_127 : decode cX6_add 127 = .ok (.iconst 1, 1) := by decide +kernel
theorem dX6_add_128 : decode cX6_add 128 = .ok (.iadd, 1) := by decide +kernel
theorem dX6_add_129 : decode cX6_add 129 = .ok (.putfield 34, 3) := by decide +kernel
theorem dX6_add_132 : decode cX6_add 132 = .ok (.iconst 1, 1) := by decide +kernel
theorem dX6_add_133 : decode cX6_add 133 = .ok (.ireturn, 1) := by decide +kernel
theorem dX6_addWorth_0 : decode cX6_addWorth 0 = .ok (.aload_n 0, 1) := by decide +kernel
theorem dX6_addWorth_1 : decode cX6_addWorth 1 = .ok (.iload_n 1, 1) := by decide +kernel
theorem dX6_addWorth_2 : decode cX6_addWorth 2 = .ok (.invokevirtual 41, 3) := by decide +kernel
theorem dX6_addWorth_5 : decode cX6_addWorth 5 = .ok (.ifCond .eq 13, 3) := by decide +kernel
theorem dX6_addWorth_8 : decode cX6_addWorth 8 = .ok (.aload_n 0, 1) := by decide +kernel
theorem dX6_addWorth_9 : decode cX6_addWorth 9 = .ok (.getfield 19, 3) := by decide +kernel
theorem dX6_addWorth_12 : decode cX6_addWorth 12 = .ok (.iload_n 1, 1) := by decide +kernel
theorem dX6_addWorth_13 : decode cX6_addWorth 13 = .ok (.iaload, 1) := by decide +kernel
theorem dX6_addWorth_14 : decode cX6_addWorth 14 = .ok (.iconst 3, 1) := by decide +kernel
theorem dX6_addWorth_15 : decode cX6_addWorth 15 = .ok (.if_icmp .lt 5, 3) := by decide +kernel
theorem dX6_addWorth_18 : decode cX6_addWorth 18 = .ok (.iconst 0, 1) := by decide +kernel
theorem dX6_addWorth_19 : decode cX6_addWorth 19 = .ok (.ireturn, 1) := by decide +kernel
theorem dX6_addWorth_20 : decode cX6_addWorth 20 = .ok (.aload_n 0, 1) := by decide +kernel
theorem dX6_addWorth_21 : decode cX6_addWorth 21 = .ok (.getfield 22, 3) := by decide +kernel
theorem dX6_addWorth_24 : decode cX6_addWorth 24 = .ok (.iload_n 1, 1) := by decide +kernel
theorem dX6_addWorth_25 : decode cX6_addWorth 25 = .ok (.iconst 3, 1) := by decide +kernel
theorem dX6_addWorth_26 : decode cX6_addWorth 26 = .ok (.imul, 1) := by decide +kernel
theorem dX6_addWorth_27 : decode cX6_addWorth 27 = .ok (.aload_n 0, 1) := by decide +kernel
theorem dX6_addWorth_28 : decode cX6_addWorth 28 = .ok (.getfield 19, 3) := by decide +kernel
theorem dX6_addWorth_31 : decode cX6_addWorth 31 = .ok (.iload_n 1, 1) := by decide +kernel
theorem dX6_addWorth_32 : decode cX6_addWorth 32 = .ok (.iaload, 1) := by decide +kernel
theorem dX6_addWorth_33 : decode cX6_addWorth 33 = .ok (.iadd, 1) := by decide +kernel
theorem dX6_addWorth_34 : decode cX6_addWorth 34 = .ok (.iload_n 2, 1) := by decide +kernel
theorem dX6_addWorth_35 : decode cX6_addWorth 35 = .ok (.iastore, 1) := by decide +kernel
theorem dX6_addWorth_36 : decode cX6_addWorth 36 = .ok (.aload_n 0, 1) := by decide +kernel
theorem dX6_addWorth_37 : decode cX6_addWorth 37 = .ok (.getfield 25, 3) := by decide +kernel
theorem dX6_addWorth_40 : decode cX6_addWorth 40 = .ok (.iload_n 1, 1) := by decide +kernel
theorem dX6_addWorth_41 : decode cX6_addWorth 41 = .ok (.iconst 3, 1) := by decide +kernel
theorem dX6_addWorth_42 : decode cX6_addWorth 42 = .ok (.imul, 1) := by decide +kernel
theorem dX6_addWorth_43 : decode cX6_addWorth 43 = .ok (.aload_n 0, 1) := by decide +kernel
theorem dX6_addWorth_44 : decode cX6_addWorth 44 = .ok (.getfield 19, 3) := by decide +kernel
theorem dX6_addWorth_47 : decode cX6_addWorth 47 = .ok (.iload_n 1, 1) := by decide +kernel
theorem dX6_addWorth_48 : decode cX6_addWorth 48 = .ok (.iaload, 1) := by decide +kernel
theorem dX6_addWorth_49 : decode cX6_addWorth 49 = .ok (.iadd, 1) := by decide +kernel
theorem dX6_addWorth_50 : decode cX6_addWorth 50 = .ok (.iload_n 3, 1) := by decide +kernel
theorem dX6_addWorth_51 : decode cX6_addWorth 51 = .ok (.iastore, 1) := by decide +kernel
theorem dX6_addWorth_52 : decode cX6_addWorth 52 = .ok (.aload_n 0, 1) := by decide +kernel
theorem dX6_addWorth_53 : decode cX6_addWorth 53 = .ok (.getfield 19, 3) := by decide +kernel
theorem dX6_addWorth_56 : decode cX6_addWorth 56 = .ok (.iload_n 1, 1) := by decide +kernel
theorem dX6_addWorth_57 : decode cX6_addWorth 57 = .ok (.dup2, 1) := by decide +kernel
theorem dX6_addWorth_58 : decode cX6_addWorth 58 = .ok (.iaload, 1) := by decide +kernel
theorem dX6_addWorth_59 : decode cX6_addWorth 59 = .ok (.iconst 1, 1) := by decide +kernel
theorem dX6_addWorth_60 : decode cX6_addWorth 60 = .ok (.iadd, 1) := by decide +kernel
theorem dX6_addWorth_61 : decode cX6_addWorth 61 = .ok (.iastore, 1) := by decide +kernel
theorem dX6_addWorth_62 : decode cX6_addWorth 62 = .ok (.iconst 1, 1) := by decide +kernel
theorem dX6_addWorth_63 : decode cX6_addWorth 63 = .ok (.ireturn, 1) := by decide +kernel
theorem dX6_tell_0 : decode cX6_tell 0 = .ok (.aload_n 0, 1) := by decide +kernel
theorem dX6_tell_1 : decode cX6_tell 1 = .ok (.iload_n 1, 1) := by decide +kernel
theorem dX6_tell_2 : decode cX6_tell 2 = .ok (.invokevirtual 41, 3) := by decide +kernel
theorem dX6_tell_5 : decode cX6_tell 5 = .ok (.ifCond .ne 5, 3) := by decide +kernel
theorem dX6_tell_8 : decode cX6_tell 8 = .ok (.iconst 0, 1) := by decide +kernel
theorem dX6_tell_9 : decode cX6_tell 9 = .ok (.ireturn, 1) := by decide +kernel
theorem dX6_tell_10 : decode cX6_tell 10 = .ok (.aload_n 0, 1) := by decide +kernel
theorem dX6_tell_11 : decode cX6_tell 11 = .ok (.getfield 16, 3) := by decide +kernel
theorem dX6_tell_14 : decode cX6_tell 14 = .ok (.iload_n 1, 1) := by decide +kernel
theorem dX6_tell_15 : decode cX6_tell 15 = .ok (.iload_n 2, 1) := by decide +kernel
theorem dX6_tell_16 : decode cX6_tell 16 = .ok (.iastore, 1) := by decide +kernel
theorem dX6_tell_17 : decode cX6_tell 17 = .ok (.iconst 1, 1) := by decide +kernel
theorem dX6_tell_18 : decode cX6_tell 18 = .ok (.ireturn, 1) := by decide +kernel
theorem dX6_areWhole_0 : decode cX6_areWhole 0 = .ok (.iconst 0, 1) := by decide +kernel
theorem dX6_areWhole_1 : decode cX6_areWhole 1 = .ok (.istore_n 1, 1) := by decide +kernel
theorem dX6_areWhole_2 : decode cX6_areWhole 2 = .ok (.iload_n 1, 1) := by decide +kernel
theorem dX6_areWhole_3 : decode cX6_areWhole 3 = .ok (.aload_n 0, 1) := by decide +kernel
theorem dX6_areWhole_4 : decode cX6_areWhole 4 = .ok (.getfield 34, 3) := by decide +kernel
theorem dX6_areWhole_7 : decode cX6_areWhole 7 = .ok (.if_icmp .ge 50, 3) := by decide +kernel
theorem dX6_areWhole_10 : decode cX6_areWhole 10 = .ok (.iconst 0, 1) := by decide +kernel
theorem dX6_areWhole_11 : decode cX6_areWhole 11 = .ok (.istore_n 2, 1) := by decide +kernel
theorem dX6_areWhole_12 : decode cX6_areWhole 12 = .ok (.iconst 0, 1) := by decide +kernel
theorem dX6_areWhole_13 : decode cX6_areWhole 13 = .ok (.istore_n 3, 1) := by decide +kernel
theorem dX6_areWhole_14 : decode cX6_areWhole 14 = .ok (.iload_n 3, 1) := by decide +kernel
theorem dX6_areWhole_15 : decode cX6_areWhole 15 = .ok (.aload_n 0, 1) := by decide +kernel
theorem dX6_areWhole_16 : decode cX6_areWhole 16 = .ok (.getfield 19, 3) := by decide +kernel
theorem dX6_areWhole_19 : decode cX6_areWhole 19 = .ok (.iload_n 1, 1) := by decide +kernel
theorem dX6_areWhole_20 : decode cX6_areWhole 20 = .ok (.iaload, 1) := by decide +kernel
theorem dX6_areWhole_21 : decode cX6_areWhole 21 = .ok (.if_icmp .ge 22, 3) := by decide +kernel
theorem dX6_areWhole_24 : decode cX6_areWhole 24 = .ok (.iload_n 2, 1) := by decide +kernel
theorem dX6_areWhole_25 : decode cX6_areWhole 25 = .ok (.aload_n 0, 1) := by decide +kernel
theorem dX6_areWhole_26 : decode cX6_areWhole 26 = .ok (.getfield 25, 3) := by decide +kernel
theorem dX6_areWhole_29 : decode cX6_areWhole 29 = .ok (.iload_n 1, 1) := by decide +kernel
theorem dX6_areWhole_30 : decode cX6_areWhole 30 = .ok (.iconst 3, 1) := by decide +kernel
theorem dX6_areWhole_31 : decode cX6_areWhole 31 = .ok (.imul, 1) := by decide +kernel
theorem dX6_areWhole_32 : decode cX6_areWhole 32 = .ok (.iload_n 3, 1) := by decide +kernel
theorem dX6_areWhole_33 : decode cX6_areWhole 33 = .ok (.iadd, 1) := by decide +kernel
theorem dX6_areWhole_34 : decode cX6_areWhole 34 = .ok (.iaload, 1) := by decide +kernel
theorem dX6_areWhole_35 : decode cX6_areWhole 35 = .ok (.iadd, 1) := by decide +kernel
theorem dX6_areWhole_36 : decode cX6_areWhole 36 = .ok (.istore_n 2, 1) := by decide +kernel
theorem dX6_areWhole_37 : decode cX6_areWhole 37 = .ok (.iinc 3 1, 3) := by decide +kernel
theorem dX6_areWhole_40 : decode cX6_areWhole 40 = .ok (.goto (-26), 3) := by decide +kernel
theorem dX6_areWhole_43 : decode cX6_areWhole 43 = .ok (.iload_n 2, 1) := by decide +kernel
theorem dX6_areWhole_44 : decode cX6_areWhole 44 = .ok (.bipush 10, 2) := by decide +kernel
theorem dX6_areWhole_46 : decode cX6_areWhole 46 = .ok (.if_icmp .eq 5, 3) := by decide +kernel
theorem dX6_areWhole_49 : decode cX6_areWhole 49 = .ok (.iconst 0, 1) := by decide +kernel
theorem dX6_areWhole_50 : decode cX6_areWhole 50 = .ok (.ireturn, 1) := by decide +kernel
theorem dX6_areWhole_51 : decode cX6_areWhole 51 = .ok (.iinc 1 1, 3) := by decide +kernel
theorem dX6_areWhole_54 : decode cX6_areWhole 54 = .ok (.goto (-52), 3) := by decide +kernel
theorem dX6_areWhole_57 : decode cX6_areWhole 57 = .ok (.iconst 1, 1) := by decide +kernel
theorem dX6_areWhole_58 : decode cX6_areWhole 58 = .ok (.ireturn, 1) := by decide +kernel
theorem dX6_sortOf_0 : decode cX6_sortOf 0 = .ok (.iload_n 1, 1) := by decide +kernel
theorem dX6_sortOf_1 : decode cX6_sortOf 1 = .ok (.ifCond .lt 20, 3) := by decide +kernel
theorem dX6_sortOf_4 : decode cX6_sortOf 4 = .ok (.iload_n 1, 1) := by decide +kernel
theorem dX6_sortOf_5 : decode cX6_sortOf 5 = .ok (.aload_n 0, 1) := by decide +kernel
theorem dX6_sortOf_6 : decode cX6_sortOf 6 = .ok (.getfield 38, 3) := by decide +kernel
theorem dX6_sortOf_9 : decode cX6_sortOf 9 = .ok (.if_icmp .ge 12, 3) := by decide +kernel
theorem dX6_sortOf_12 : decode cX6_sortOf 12 = .ok (.aload_n 0, 1) := by decide +kernel
theorem dX6_sortOf_13 : decode cX6_sortOf 13 = .ok (.getfield 28, 3) := by decide +kernel
theorem dX6_sortOf_16 : decode cX6_sortOf 16 = .ok (.iload_n 1, 1) := by decide +kernel
theorem dX6_sortOf_17 : decode cX6_sortOf 17 = .ok (.iaload, 1) := by decide +kernel
theorem dX6_sortOf_18 : decode cX6_sortOf 18 = .ok (.goto 4, 3) := by decide +kernel
theorem dX6_sortOf_21 : decode cX6_sortOf 21 = .ok (.iconst 0, 1) := by decide +kernel
theorem dX6_sortOf_22 : decode cX6_sortOf 22 = .ok (.ireturn, 1) := by decide +kernel
theorem dX7_init_0 : decode cX7_init 0 = .ok (.aload_n 0, 1) := by decide +kernel
theorem dX7_init_1 : decode cX7_init 1 = .ok (.invokespecial 1, 3) := by decide +kernel
theorem dX7_init_4 : decode cX7_init 4 = .ok (.aload_n 0, 1) := by decide +kernel
theorem dX7_init_5 : decode cX7_init 5 = .ok (.sipush 300, 3) := by decide +kernel
theorem dX7_init_8 : decode cX7_init 8 = .ok (.newarray .int, 2) := by decide +kernel
theorem dX7_init_10 : decode cX7_init 10 = .ok (.putfield 9, 3) := by decide +kernel
theorem dX7_init_13 : decode cX7_init 13 = .ok (.return_, 1) := by decide +kernel
theorem dX7_put_0 : decode cX7_put 0 = .ok (.aload_n 0, 1) := by decide +kernel
theorem dX7_put_1 : decode cX7_put 1 = .ok (.getfield 13, 3) := by decide +kernel
theorem dX7_put_4 : decode cX7_put 4 = .ok (.iload_n 1, 1) := by decide +kernel
theorem dX7_put_5 : decode cX7_put 5 = .ok (.iadd, 1) := by decide +kernel
theorem dX7_put_6 : decode cX7_put 6 = .ok (.sipush 300, 3) := by decide +kernel
theorem dX7_put_9 : decode cX7_put 9 = .ok (.if_icmp .le 5, 3) := by decide +kernel
theorem dX7_put_12 : decode cX7_put 12 = .ok (.iconst 0, 1) := by decide +kernel
theorem dX7_put_13 : decode cX7_put 13 = .ok (.ireturn, 1) := by decide +kernel
theorem dX7_put_14 : decode cX7_put 14 = .ok (.iload_n 1, 1) := by decide +kernel
theorem dX7_put_15 : decode cX7_put 15 = .ok (.iconst 1, 1) := by decide +kernel
theorem dX7_put_16 : decode cX7_put 16 = .ok (.isub, 1) := by decide +kernel
theorem dX7_put_17 : decode cX7_put 17 = .ok (.istore 4, 2) := by decide +kernel
theorem dX7_put_19 : decode cX7_put 19 = .ok (.iload 4, 2) := by decide +kernel
theorem dX7_put_21 : decode cX7_put 21 = .ok (.ifCond .lt 40, 3) := by decide +kernel
theorem dX7_put_24 : decode cX7_put 24 = .ok (.aload_n 0, 1) := by decide +kernel
theorem dX7_put_25 : decode cX7_put 25 = .ok (.getfield 9, 3) := by decide +kernel
theorem dX7_put_28 : decode cX7_put 28 = .ok (.aload_n 0, 1) := by decide +kernel
theorem dX7_put_29 : decode cX7_put 29 = .ok (.getfield 13, 3) := by decide +kernel
theorem dX7_put_32 : decode cX7_put 32 = .ok (.lload_n 2, 1) := by decide +kernel
theorem dX7_put_33 : decode cX7_put 33 = .ok (.bipush 8, 2) := by decide +kernel
theorem dX7_put_35 : decode cX7_put 35 = .ok (.iload 4, 2) := by decide +kernel
theorem dX7_put_37 : decode cX7_put 37 = .ok (.imul, 1) := by decide +kernel
theorem dX7_put_38 : decode cX7_put 38 = .ok (.lushr, 1) := by decide +kernel
theorem dX7_put_39 : decode cX7_put 39 = .ok (.l2i, 1) := by decide +kernel
theorem dX7_put_40 : decode cX7_put 40 = .ok (.sipush 255, 3) := by decide +kernel
theorem dX7_put_43 : decode cX7_put 43 = .ok (.iand, 1) := by decide +kernel
theorem dX7_put_44 : decode cX7_put 44 = .ok (.iastore, 1) := by decide +kernel
theorem dX7_put_45 : decode cX7_put 45 = .ok (.aload_n 0, 1) := by decide +kernel
theorem dX7_put_46 : decode cX7_put 46 = .ok (.dup, 1) := by decide +kernel
theorem dX7_put_47 : decode cX7_put 47 = .ok (.getfield 13, 3) := by decide +kernel
theorem dX7_put_50 : decode cX7_put 50 = .ok (.iconst 1, 1) := by decide +kernel
theorem dX7_put_51 : decode cX7_put 51 = .ok (.iadd, 1) := by decide +kernel
theorem dX7_put_52 : decode cX7_put 52 = .ok (.putfield 13, 3) := by decide +kernel
theorem dX7_put_55 : decode cX7_put 55 = .ok (.iinc 4 (-1), 3) := by decide +kernel
theorem dX7_put_58 : decode cX7_put 58 = .ok (.goto (-39), 3) := by decide +kernel
theorem dX7_put_61 : decode cX7_put 61 = .ok (.iconst 1, 1) := by decide +kernel
theorem dX7_put_62 : decode cX7_put 62 = .ok (.ireturn, 1) := by decide +kernel
theorem dX7_byteAt_0 : decode cX7_byteAt 0 = .ok (.iload_n 1, 1) := by decide +kernel
theorem dX7_byteAt_1 : decode cX7_byteAt 1 = .ok (.ifCond .lt 20, 3) := by decide +kernel
theorem dX7_byteAt_4 : decode cX7_byteAt 4 = .ok (.iload_n 1, 1) := by decide +kernel
theorem dX7_byteAt_5 : decode cX7_byteAt 5 = .ok (.aload_n 0, 1) := by decide +kernel
theorem dX7_byteAt_6 : decode cX7_byteAt 6 = .ok (.getfield 13, 3) := by decide +kernel
theorem dX7_byteAt_9 : decode cX7_byteAt 9 = .ok (.if_icmp .ge 12, 3) := by decide +kernel
theorem dX7_byteAt_12 : decode cX7_byteAt 12 = .ok (.aload_n 0, 1) := by decide +kernel
theorem dX7_byteAt_13 : decode cX7_byteAt 13 = .ok (.getfield 9, 3) := by decide +kernel
theorem dX7_byteAt_16 : decode cX7_byteAt 16 = .ok (.iload_n 1, 1) := by decide +kernel
theorem dX7_byteAt_17 : decode cX7_byteAt 17 = .ok (.iaload, 1) := by decide +kernel
theorem dX7_byteAt_18 : decode cX7_byteAt 18 = .ok (.goto 4, 3) := by decide +kernel
theorem dX7_byteAt_21 : decode cX7_byteAt 21 = .ok (.iconst (-1), 1) := by decide +kernel
theorem dX7_byteAt_22 : decode cX7_byteAt 22 = .ok (.ireturn, 1) := by decide +kernel
theorem dX8_init_0 : decode cX8_init 0 = .ok (.aload_n 0, 1) := by decide +kernel
theorem dX8_init_1 : decode cX8_init 1 = .ok (.invokespecial 1, 3) := by decide +kernel
theorem dX8_init_4 : decode cX8_init 4 = .ok (.aload_n 0, 1) := by decide +kernel
theorem dX8_init_5 : decode cX8_init 5 = .ok (.bipush 8, 2) := by decide +kernel
theorem dX8_init_7 : decode cX8_init 7 = .ok (.newarray .long, 2) := by decide +kernel
theorem dX8_init_9 : decode cX8_init 9 = .ok (.putfield 9, 3) := by decide +kernel
theorem dX8_init_12 : decode cX8_init 12 = .ok (.aload_n 0, 1) := by decide +kernel
theorem dX8_init_13 : decode cX8_init 13 = .ok (.bipush 8, 2) := by decide +kernel
theorem dX8_init_15 : decode cX8_init 15 = .ok (.newarray .long, 2) := by decide +kernel
theorem dX8_init_17 : decode cX8_init 17 = .ok (.putfield 15, 3) := by decide +kernel
theorem dX8_init_20 : decode cX8_init 20 = .ok (.aload_n 0, 1) := by decide +kernel
theorem dX8_init_21 : decode cX8_init 21 = .ok (.bipush 8, 2) := by decide +kernel
theorem dX8_init_23 : decode cX8_init 23 = .ok (.newarray .int, 2) := by decide +kernel
theorem dX8_init_25 : decode cX8_init 25 = .ok (.putfield 18, 3) := by decide +kernel
theorem dX8_init_28 : decode cX8_init 28 = .ok (.aload_n 0, 1) := by decide +kernel
theorem dX8_init_29 : decode cX8_init 29 = .ok (.bipush 9, 2) := by decide +kernel
theorem dX8_init_31 : decode cX8_init 31 = .ok (.newarray .long, 2) := by decide +kernel
theorem dX8_init_33 : decode cX8_init 33 = .ok (.putfield 22, 3) := by decide +kernel
theorem dX8_init_36 : decode cX8_init 36 = .ok (.aload_n 0, 1) := by decide +kernel
theorem dX8_init_37 : decode cX8_init 37 = .ok (.bipush 9, 2) := by decide +kernel
theorem dX8_init_39 : decode cX8_init 39 = .ok (.newarray .int, 2) := by decide +kernel
theorem dX8_init_41 : decode cX8_init 41 = .ok (.putfield 25, 3) := by decide +kernel
theorem dX8_init_44 : decode cX8_init 44 = .ok (.return_, 1) := by decide +kernel
theorem dX8_goThrough_0 : decode cX8_goThrough 0 = .ok (.aload_n 0, 1) := by decide +kernel
theorem dX8_goThrough_1 : decode cX8_goThrough 1 = .ok (.invokevirtual 28, 3) := by decide +kernel
theorem dX8_goThrough_4 : decode cX8_goThrough 4 = .ok (.aload_n 1, 1) := by decide +kernel
theorem dX8_goThrough_5 : decode cX8_goThrough 5 = .ok (.invokevirtual 31, 3) := by decide +kernel
theorem dX8_goThrough_8 : decode cX8_goThrough 8 = .ok (.astore_n 3, 1) := by decide +kernel
theorem dX8_goThrough_9 : decode cX8_goThrough 9 = .ok (.iconst 0, 1) := by decide +kernel
theorem dX8_goThrough_10 : decode cX8_goThrough 10 = .ok (.istore 4, 2) := by decide +kernel
theorem dX8_goThrough_12 : decode cX8_goThrough 12 = .ok (.iconst 0, 1) := by decide +kernel
theorem dX8_goThrough_13 : decode cX8_goThrough 13 = .ok (.istore 5, 2) := by decide +kernel
theorem dX8_goThrough_15 : decode cX8_goThrough 15 = .ok (.iload 5, 2) := by decide +kernel
theorem dX8_goThrough_17 : decode cX8_goThrough 17 = .ok (.sipush 6561, 3) := by decide +kernel
theorem dX8_goThrough_20 : decode cX8_goThrough 20 = .ok (.if_icmp .ge 135, 3) := by decide +kernel
theorem dX8_goThrough_23 : decode cX8_goThrough 23 = .ok (.iload 4, 2) := by decide +kernel
theorem dX8_goThrough_25 : decode cX8_goThrough 25 = .ok (.ifCond .lt 130, 3) := by decide +kernel
theorem dX8_goThrough_28 : decode cX8_goThrough 28 = .ok (.iload 4, 2) := by decide +kernel
theorem dX8_goThrough_30 : decode cX8_goThrough 30 = .ok (.istore 6, 2) := by decide +kernel
theorem dX8_goThrough_32 : decode cX8_goThrough 32 = .ok (.iload 6, 2) := by decide +kernel
theorem dX8_goThrough_34 : decode cX8_goThrough 34 = .ok (.aload_n 3, 1) := by decide +kernel
theorem dX8_goThrough_35 : decode cX8_goThrough 35 = .ok (.getfield 37, 3) := by decide +kernel
theorem dX8_goThrough_38 : decode cX8_goThrough 38 = .ok (.if_icmp .ge 85, 3) := by decide +kernel
theorem dX8_goThrough_41 : decode cX8_goThrough 41 = .ok (.iload 6, 2) := by decide +kernel
theorem dX8_goThrough_43 : decode cX8_goThrough 43 = .ok (.iconst 3, 1) := by decide +kernel
theorem dX8_goThrough_44 : decode cX8_goThrough 44 = .ok (.imul, 1) := by decide +kernel
theorem dX8_goThrough_45 : decode cX8_goThrough 45 = .ok (.aload_n 0, 1) := by decide +kernel
theorem dX8_goThrough_46 : decode cX8_goThrough 46 = .ok (.getfield 18, 3) := by decide +kernel
theorem dX8_goThrough_49 : decode cX8_goThrough 49 = .ok (.iload 6, 2) := by decide +kernel
theorem dX8_goThrough_51 : decode cX8_goThrough 51 = .ok (.iaload, 1) := by decide +kernel
theorem dX8_goThrough_52 : decode cX8_goThrough 52 = .ok (.iadd, 1) := by decide +kernel
theorem dX8_goThrough_53 : decode cX8_goThrough 53 = .ok (.istore 7, 2) := by decide +kernel
theorem dX8_goThrough_55 : decode cX8_goThrough 55 = .ok (.aload_n 0, 1) := by decide +kernel
theorem dX8_goThrough_56 : decode cX8_goThrough 56 = .ok (.getfield 22, 3) := by decide +kernel
theorem dX8_goThrough_59 : decode cX8_goThrough 59 = .ok (.iload 6, 2) := by decide +kernel
theorem dX8_goThrough_61 : decode cX8_goThrough 61 = .ok (.iconst 1, 1) := by decide +kernel
theorem dX8_goThrough_62 : decode cX8_goThrough 62 = .ok (.iadd, 1) := by decide +kernel
theorem dX8_goThrough_63 : decode cX8_goThrough 63 = .ok (.aload_n 0, 1) := by decide +kernel
theorem dX8_goThrough_64 : decode cX8_goThrough 64 = .ok (.getfield 22, 3) := by decide +kernel
theorem dX8_goThrough_67 : decode cX8_goThrough 67 = .ok (.iload 6, 2) := by decide +kernel
theorem dX8_goThrough_69 : decode cX8_goThrough 69 = .ok (.laload, 1) := by decide +kernel
theorem dX8_goThrough_70 : decode cX8_goThrough 70 = .ok (.aload_n 3, 1) := by decide +kernel
theorem dX8_goThrough_71 : decode cX8_goThrough 71 = .ok (.getfield 43, 3) := by decide +kernel
theorem dX8_goThrough_74 : decode cX8_goThrough 74 = .ok (.iload 7, 2) := by decide +kernel
theorem dX8_goThrough_76 : decode cX8_goThrough 76 = .ok (.iaload, 1) := by decide +kernel
theorem dX8_goThrough_77 : decode cX8_goThrough 77 = .ok (.i2l, 1) := by decide +kernel
theorem dX8_goThrough_78 : decode cX8_goThrough 78 = .ok (.lmul, 1) := by decide +kernel
theorem dX8_goThrough_79 : decode cX8_goThrough 79 = .ok (.lastore, 1) := by decide +kernel
theorem dX8_goThrough_80 : decode cX8_goThrough 80 = .ok (.aload_n 0, 1) := by decide +kernel
theorem dX8_goThrough_81 : decode cX8_goThrough 81 = .ok (.getfield 25, 3) := by decide +kernel
theorem dX8_goThrough_84 : decode cX8_goThrough 84 = .ok (.iload 6, 2) := by decide +kernel
theorem dX8_goThrough_86 : decode cX8_goThrough 86 = .ok (.iconst 1, 1) := by decide +kernel
theorem dX8_goThrough_87 : decode cX8_goThrough 87 = .ok (.iadd, 1) := by decide +kernel
theorem dX8_goThrough_88 : decode cX8_goThrough 88 = .ok (.aload_n 0, 1) := by decide +kernel
theorem dX8_goThrough_89 : decode cX8_goThrough 89 = .ok (.getfield 25, 3) := by decide +kernel
theorem dX8_goThrough_92 : decode cX8_goThrough 92 = .ok (.iload 6, 2) := by decide +kernel
theorem dX8_goThrough_94 : decode cX8_goThrough 94 = .ok (.iaload, 1) := by decide +kernel
theorem dX8_goThrough_95 : decode cX8_goThrough 95 = .ok (.aload_n 3, 1) := by decide +kernel
theorem dX8_goThrough_96 : decode cX8_goThrough 96 = .ok (.getfield 46, 3) := by decide +kernel
theorem dX8_goThrough_99 : decode cX8_goThrough 99 = .ok (.iload 7, 2) := by decide +kernel
theorem dX8_goThrough_101 : decode cX8_goThrough 101 = .ok (.iaload, 1) := by decide +kernel
theorem dX8_goThrough_102 : decode cX8_goThrough 102 = .ok (.iadd, 1) := by decide +kernel
theorem dX8_goThrough_103 : decode cX8_goThrough 103 = .ok (.iastore, 1) := by decide +kernel
theorem dX8_goThrough_104 : decode cX8_goThrough 104 = .ok (.aload_n 1, 1) := by decide +kernel
theorem dX8_goThrough_105 : decode cX8_goThrough 105 = .ok (.iload 6, 2) := by decide +kernel
theorem dX8_goThrough_107 : decode cX8_goThrough 107 = .ok (.aload_n 3, 1) := by decide +kernel
theorem dX8_goThrough_108 : decode cX8_goThrough 108 = .ok (.getfield 46, 3) := by decide +kernel
theorem dX8_goThrough_111 : decode cX8_goThrough 111 = .ok (.iload 7, 2) := by decide +kernel
theorem dX8_goThrough_113 : decode cX8_goThrough 113 = .ok (.iaload, 1) := by decide +kernel
theorem dX8_goThrough_114 : decode cX8_goThrough 114 = .ok (.invokevirtual 49, 3) := by decide +kernel
theorem dX8_goThrough_117 : decode cX8_goThrough 117 = .ok (.iinc 6 1, 3) := by decide +kernel
theorem dX8_goThrough_120 : decode cX8_goThrough 120 = .ok (.goto (-88), 3) := by decide +kernel
theorem dX8_goThrough_123 : decode cX8_goThrough 123 = .ok (.aload_n 0, 1) := by decide +kernel
theorem dX8_goThrough_124 : decode cX8_goThrough 124 = .ok (.aload_n 1, 1) := by decide +kernel
theorem dX8_goThrough_125 : decode cX8_goThrough 125 = .ok (.aload_n 3, 1) := by decide +kernel
theorem dX8_goThrough_126 : decode cX8_goThrough 126 = .ok (.getfield 37, 3) := by decide +kernel
theorem dX8_goThrough_129 : decode cX8_goThrough 129 = .ok (.invokevirtual 53, 3) := by decide +kernel
theorem dX8_goThrough_132 : decode cX8_goThrough 132 = .ok (.iload_n 2, 1) := by decide +kernel
theorem dX8_goThrough_133 : decode cX8_goThrough 133 = .ok (.ifCond .eq 9, 3) := by decide +kernel
theorem dX8_goThrough_136 : decode cX8_goThrough 136 = .ok (.aload_n 0, 1) := by decide +kernel
theorem dX8_goThrough_137 : decode cX8_goThrough 137 = .ok (.aload_n 1, 1) := by decide +kernel
theorem dX8_goThrough_138 : decode cX8_goThrough 138 = .ok (.aload_n 3, 1) := by decide +kernel
theorem dX8_goThrough_139 : decode cX8_goThrough 139 = .ok (.invokevirtual 57, 3) := by decide +kernel
theorem dX8_goThrough_142 : decode cX8_goThrough 142 = .ok (.aload_n 0, 1) := by decide +kernel
theorem dX8_goThrough_143 : decode cX8_goThrough 143 = .ok (.aload_n 3, 1) := by decide +kernel
theorem dX8_goThrough_144 : decode cX8_goThrough 144 = .ok (.invokevirtual 61, 3) := by decide +kernel
theorem dX8_goThrough_147 : decode cX8_goThrough 147 = .ok (.istore 4, 2) := by decide +kernel
theorem dX8_goThrough_149 : decode cX8_goThrough 149 = .ok (.iinc 5 1, 3) := by decide +kernel
theorem dX8_goThrough_152 : decode cX8_goThrough 152 = .ok (.goto (-137), 3) := by decide +kernel
theorem dX8_goThrough_155 : decode cX8_goThrough 155 = .ok (.return_, 1) := by decide +kernel
theorem dX8_clear_0 : decode cX8_clear 0 = .ok (.aload_n 0, 1) := by decide +kernel
theorem dX8_clear_1 : decode cX8_clear 1 = .ok (.lconst 0, 1) := by decide +kernel
theorem dX8_clear_2 : decode cX8_clear 2 = .ok (.putfield 65, 3) := by decide +kernel
theorem dX8_clear_5 : decode cX8_clear 5 = .ok (.aload_n 0, 1) := by decide +kernel
theorem dX8_clear_6 : decode cX8_clear 6 = .ok (.lconst 0, 1) := by decide +kernel
theorem dX8_clear_7 : decode cX8_clear 7 = .ok (.putfield 69, 3) := by decide +kernel
theorem dX8_clear_10 : decode cX8_clear 10 = .ok (.aload_n 0, 1) := by decide +kernel
theorem dX8_clear_11 : decode cX8_clear 11 = .ok (.lconst 0, 1) := by decide +kernel
theorem dX8_clear_12 : decode cX8_clear 12 = .ok (.putfield 72, 3) := by decide +kernel
theorem dX8_clear_15 : decode cX8_clear 15 = .ok (.aload_n 0, 1) := by decide +kernel
theorem dX8_clear_16 : decode cX8_clear 16 = .ok (.lconst 0, 1) := by decide +kernel
theorem dX8_clear_17 : decode cX8_clear 17 = .ok (.putfield 75, 3) := by decide +kernel
theorem dX8_clear_20 : decode cX8_clear 20 = .ok (.aload_n 0, 1) := by decide +kernel
theorem dX8_clear_21 : decode cX8_clear 21 = .ok (.lconst 0, 1) := by decide +kernel
theorem dX8_clear_22 : decode cX8_clear 22 = .ok (.putfield 78, 3) := by decide +kernel
theorem dX8_clear_25 : decode cX8_clear 25 = .ok (.aload_n 0, 1) := by decide +kernel
theorem dX8_clear_26 : decode cX8_clear 26 = .ok (.getfield 9, 3) := by decide +kernel
theorem dX8_clear_29 : decode cX8_clear 29 = .ok (.lconst 0, 1) := by decide +kernel
theorem dX8_clear_30 : decode cX8_clear 30 = .ok (.invokestatic 81, 3) := by decide +kernel
theorem dX8_clear_33 : decode cX8_clear 33 = .ok (.aload_n 0, 1) := by decide +kernel
theorem dX8_clear_34 : decode cX8_clear 34 = .ok (.getfield 15, 3) := by decide +kernel
theorem dX8_clear_37 : decode cX8_clear 37 = .ok (.lconst 0, 1) := by decide +kernel
theorem dX8_clear_38 : decode cX8_clear 38 = .ok (.invokestatic 81, 3) := by decide +kernel
theorem dX8_clear_41 : decode cX8_clear 41 = .ok (.aload_n 0, 1) := by decide +kernel
theorem dX8_clear_42 : decode cX8_clear 42 = .ok (.getfield 18, 3) := by decide +kernel
theorem dX8_clear_45 : decode cX8_clear 45 = .ok (.iconst 0, 1) := by decide +kernel
theorem dX8_clear_46 : decode cX8_clear 46 = .ok (.invokestatic 87, 3) := by decide +kernel
theorem dX8_clear_49 : decode cX8_clear 49 = .ok (.aload_n 0, 1) := by decide +kernel
theorem dX8_clear_50 : decode cX8_clear 50 = .ok (.getfield 22, 3) := by decide +kernel
theorem dX8_clear_53 : decode cX8_clear 53 = .ok (.iconst 0, 1) := by decide +kernel
theorem dX8_clear_54 : decode cX8_clear 54 = .ok (.lconst 1, 1) := by decide +kernel
theorem dX8_clear_55 : decode cX8_clear 55 = .ok (.lastore, 1) := by decide +kernel
theorem dX8_clear_56 : decode cX8_clear 56 = .ok (.return_, 1) := by decide +kernel
theorem dX8_add_0 : decode cX8_add 0 = .ok (.aload_n 1, 1) := by decide +kernel
theorem dX8_add_1 : decode cX8_add 1 = .ok (.invokevirtual 90, 3) := by decide +kernel
theorem dX8_add_4 : decode cX8_add 4 = .ok (.istore_n 3, 1) := by decide +kernel
theorem dX8_add_5 : decode cX8_add 5 = .ok (.aload_n 0, 1) := by decide +kernel
theorem dX8_add_6 : decode cX8_add 6 = .ok (.getfield 25, 3) := by decide +kernel
theorem dX8_add_9 : decode cX8_add 9 = .ok (.iload_n 2, 1) := by decide +kernel
theorem dX8_add_10 : decode cX8_add 10 = .ok (.iaload, 1) := by decide +kernel
theorem dX8_add_11 : decode cX8_add 11 = .ok (.aload_n 1, 1) := by decide +kernel
theorem dX8_add_12 : decode cX8_add 12 = .ok (.invokevirtual 94, 3) := by decide +kernel
theorem dX8_add_15 : decode cX8_add 15 = .ok (.if_icmp .lt 7, 3) := by decide +kernel
theorem dX8_add_18 : decode cX8_add 18 = .ok (.iconst 1, 1) := by decide +kernel
theorem dX8_add_19 : decode cX8_add 19 = .ok (.goto 4, 3) := by decide +kernel
theorem dX8_add_22 : decode cX8_add 22 = .ok (.iconst 0, 1) := by decide +kernel
theorem dX8_add_23 : decode cX8_add 23 = .ok (.istore 4, 2) := by decide +kernel
theorem dX8_add_25 : decode cX8_add 25 = .ok (.aload_n 1, 1) := by decide +kernel
theorem dX8_add_26 : decode cX8_add 26 = .ok (.invokevirtual 98, 3) := by decide +kernel
theorem dX8_add_29 : decode cX8_add 29 = .ok (.istore 5, 2) := by decide +kernel
theorem dX8_add_31 : decode cX8_add 31 = .ok (.iload_n 3, 1) := by decide +kernel
theorem dX8_add_32 : decode cX8_add 32 = .ok (.ifCond .eq 18, 3) := by decide +kernel
theorem dX8_add_35 : decode cX8_add 35 = .ok (.aload_n 0, 1) := by decide +kernel
theorem dX8_add_36 : decode cX8_add 36 = .ok (.dup, 1) := by decide +kernel
theorem dX8_add_37 : decode cX8_add 37 = .ok (.getfield 65, 3) := by decide +kernel
theorem dX8_add_40 : decode cX8_add 40 = .ok (.aload_n 0, 1) := by decide +kernel
theorem dX8_add_41 : decode cX8_add 41 = .ok (.getfield 22, 3) := by decide +kernel
theorem dX8_add_44 : decode cX8_add 44 = .ok (.iload_n 2, 1) := by decide +kernel
theorem dX8_add_45 : decode cX8_add 45 = .ok (.laload, 1) := by decide +kernel
theorem dX8_add_46 : decode cX8_add 46 = .ok (.ladd, 1) := by decide +kernel
theorem dX8_add_47 : decode cX8_add 47 = .ok (.putfield 65, 3) := by decide +kernel
theorem dX8_add_50 : decode cX8_add 50 = .ok (.iload_n 3, 1) := by decide +kernel
theorem dX8_add_51 : decode cX8_add 51 = .ok (.ifCond .eq 23, 3) := by decide +kernel
theorem dX8_add_54 : decode cX8_add 54 = .ok (.iload 4, 2) := by decide +kernel
theorem dX8_add_56 : decode cX8_add 56 = .ok (.ifCond .ne 18, 3) := by decide +kernel
theorem dX8_add_59 : decode cX8_add 59 = .ok (.aload_n 0, 1) := by decide +kernel
theorem dX8_add_60 : decode cX8_add 60 = .ok (.dup, 1) := by decide +kernel
theorem dX8_add_61 : decode cX8_add 61 = .ok (.getfield 69, 3) := by decide +kernel
theorem dX8_add_64 : decode cX8_add 64 = .ok (.aload_n 0, 1) := by decide +kernel
theorem dX8_add_65 : decode cX8_add 65 = .ok (.getfield 22, 3) := by decide +kernel
theorem dX8_add_68 : decode cX8_add 68 = .ok (.iload_n 2, 1) := by decide +kernel
theorem dX8_add_69 : decode cX8_add 69 = .ok (.laload, 1) := by decide +kernel
theorem dX8_add_70 : decode cX8_add 70 = .ok (.ladd, 1) := by decide +kernel
theorem dX8_add_71 : decode cX8_add 71 = .ok (.putfield 69, 3) := by decide +kernel
theorem dX8_add_74 : decode cX8_add 74 = .ok (.iload_n 3, 1) := by decide +kernel
theorem dX8_add_75 : decode cX8_add 75 = .ok (.ifCond .ne 23, 3) := by decide +kernel
theorem dX8_add_78 : decode cX8_add 78 = .ok (.iload 4, 2) := by decide +kernel
theorem dX8_add_80 : decode cX8_add 80 = .ok (.ifCond .eq 18, 3) := by decide +kernel
theorem dX8_add_83 : decode cX8_add 83 = .ok (.aload_n 0, 1) := by decide +kernel
theorem dX8_add_84 : decode cX8_add 84 = .ok (.dup, 1) := by decide +kernel
theorem dX8_add_85 : decode cX8_add 85 = .ok (.getfield 72, 3) := by decide +kernel
theorem dX8_add_88 : decode cX8_add 88 = .ok (.aload_n 0, 1) := by decide +kernel
theorem dX8_add_89 : decode cX8_add 89 = .ok (.getfield 22, 3) := by decide +kernel
theorem dX8_add_92 : decode cX8_add 92 = .ok (.iload_n 2, 1) := by decide +kernel
theorem dX8_add_93 : decode cX8_add 93 = .ok (.laload, 1) := by decide +kernel
theorem dX8_add_94 : decode cX8_add 94 = .ok (.ladd, 1) := by decide +kernel
theorem dX8_add_95 : decode cX8_add 95 = .ok (.putfield 72, 3) := by decide +kernel
theorem dX8_add_98 : decode cX8_add 98 = .ok (.iload 5, 2) := by decide +kernel
theorem dX8_add_100 : decode cX8_add 100 = .ok (.ifCond .eq 18, 3) := by decide +kernel
theorem dX8_add_103 : decode cX8_add 103 = .ok (.aload_n 0, 1) := by decide +kernel
theorem dX8_add_104 : decode cX8_add 104 = .ok (.dup, 1) := by decide +kernel
theorem dX8_add_105 : decode cX8_add 105 = .ok (.getfield 75, 3) := by decide +kernel
theorem dX8_add_108 : decode cX8_add 108 = .ok (.aload_n 0, 1) := by decide +kernel
theorem dX8_add_109 : decode cX8_add 109 = .ok (.getfield 22, 3) := by decide +kernel
theorem dX8_add_112 : decode cX8_add 112 = .ok (.iload_n 2, 1) := by decide +kernel
theorem dX8_add_113 : decode cX8_add 113 = .ok (.laload, 1) := by decide +kernel
theorem dX8_add_114 : decode cX8_add 114 = .ok (.ladd, 1) := by decide +kernel
theorem dX8_add_115 : decode cX8_add 115 = .ok (.putfield 75, 3) := by decide +kernel
theorem dX8_add_118 : decode cX8_add 118 = .ok (.iload_n 3, 1) := by decide +kernel
theorem dX8_add_119 : decode cX8_add 119 = .ok (.ifCond .eq 23, 3) := by decide +kernel
theorem dX8_add_122 : decode cX8_add 122 = .ok (.iload 5, 2) := by decide +kernel
theorem dX8_add_124 : decode cX8_add 124 = .ok (.ifCond .eq 18, 3) := by decide +kernel
theorem dX8_add_127 : decode cX8_add 127 = .ok (.aload_n 0, 1) := by decide +kernel
theorem dX8_add_128 : decode cX8_add 128 = .ok (.dup, 1) := by decide +kernel
theorem dX8_add_129 : decode cX8_add 129 = .ok (.getfield 78, 3) := by decide +kernel
theorem dX8_add_132 : decode cX8_add 132 = .ok (.aload_n 0, 1) := by decide +kernel
theorem dX8_add_133 : decode cX8_add 133 = .ok (.getfield 22, 3) := by decide +kernel
theorem dX8_add_136 : decode cX8_add 136 = .ok (.iload_n 2, 1) := by decide +kernel
theorem dX8_add_137 : decode cX8_add 137 = .ok (.laload, 1) := by decide +kernel
theorem dX8_add_138 : decode cX8_add 138 = .ok (.ladd, 1) := by decide +kernel
theorem dX8_add_139 : decode cX8_add 139 = .ok (.putfield 78, 3) := by decide +kernel
theorem dX8_add_142 : decode cX8_add 142 = .ok (.return_, 1) := by decide +kernel
theorem dX8_addMeans_0 : decode cX8_addMeans 0 = .ok (.iconst 0, 1) := by decide +kernel
theorem dX8_addMeans_1 : decode cX8_addMeans 1 = .ok (.istore_n 3, 1) := by decide +kernel
theorem dX8_addMeans_2 : decode cX8_addMeans 2 = .ok (.iload_n 3, 1) := by decide +kernel
theorem dX8_addMeans_3 : decode cX8_addMeans 3 = .ok (.aload_n 2, 1) := by decide +kernel
theorem dX8_addMeans_4 : decode cX8_addMeans 4 = .ok (.getfield 37, 3) := by decide +kernel
theorem dX8_addMeans_7 : decode cX8_addMeans 7 = .ok (.if_icmp .ge 79, 3) := by decide +kernel
theorem dX8_addMeans_10 : decode cX8_addMeans 10 = .ok (.aload_n 2, 1) := by decide +kernel
theorem dX8_addMeans_11 : decode cX8_addMeans 11 = .ok (.getfield 46, 3) := by decide +kernel
theorem dX8_addMeans_14 : decode cX8_addMeans 14 = .ok (.iload_n 3, 1) := by decide +kernel
theorem dX8_addMeans_15 : decode cX8_addMeans 15 = .ok (.iconst 3, 1) := by decide +kernel
theorem dX8_addMeans_16 : decode cX8_addMeans 16 = .ok (.imul, 1) := by decide +kernel
theorem dX8_addMeans_17 : decode cX8_addMeans 17 = .ok (.aload_n 0, 1) := by decide +kernel
theorem dX8_addMeans_18 : decode cX8_addMeans 18 = .ok (.getfield 18, 3) := by decide +kernel
theorem dX8_addMeans_21 : decode cX8_addMeans 21 = .ok (.iload_n 3, 1) := by decide +kernel
theorem dX8_addMeans_22 : decode cX8_addMeans 22 = .ok (.iaload, 1) := by decide +kernel
theorem dX8_addMeans_23 : decode cX8_addMeans 23 = .ok (.iadd, 1) := by decide +kernel
theorem dX8_addMeans_24 : decode cX8_addMeans 24 = .ok (.iaload, 1) := by decide +kernel
theorem dX8_addMeans_25 : decode cX8_addMeans 25 = .ok (.istore 4, 2) := by decide +kernel
theorem dX8_addMeans_27 : decode cX8_addMeans 27 = .ok (.aload_n 0, 1) := by decide +kernel
theorem dX8_addMeans_28 : decode cX8_addMeans 28 = .ok (.getfield 9, 3) := by decide +kernel
theorem dX8_addMeans_31 : decode cX8_addMeans 31 = .ok (.iload_n 3, 1) := by decide +kernel
theorem dX8_addMeans_32 : decode cX8_addMeans 32 = .ok (.dup2, 1) := by decide +kernel
theorem dX8_addMeans_33 : decode cX8_addMeans 33 = .ok (.laload, 1) := by decide +kernel
theorem dX8_addMeans_34 : decode cX8_addMeans 34 = .ok (.aload_n 0, 1) := by decide +kernel
theorem dX8_addMeans_35 : decode cX8_addMeans 35 = .ok (.getfield 22, 3) := by decide +kernel
theorem dX8_addMeans_38 : decode cX8_addMeans 38 = .ok (.aload_n 2, 1) := by decide +kernel
theorem dX8_addMeans_39 : decode cX8_addMeans 39 = .ok (.getfield 37, 3) := by decide +kernel
theorem dX8_addMeans_42 : decode cX8_addMeans 42 = .ok (.laload, 1) := by decide +kernel
theorem dX8_addMeans_43 : decode cX8_addMeans 43 = .ok (.aload_n 1, 1) := by decide +kernel
theorem dX8_addMeans_44 : decode cX8_addMeans 44 = .ok (.getfield 101, 3) := by decide +kernel
theorem dX8_addMeans_47 : decode cX8_addMeans 47 = .ok (.iload_n 3, 1) := by decide +kernel
theorem dX8_addMeans_48 : decode cX8_addMeans 48 = .ok (.iaload, 1) := by decide +kernel
theorem dX8_addMeans_49 : decode cX8_addMeans 49 = .ok (.i2l, 1) := by decide +kernel
theorem dX8_addMeans_50 : decode cX8_addMeans 50 = .ok (.lmul, 1) := by decide +kernel
theorem dX8_addMeans_51 : decode cX8_addMeans 51 = .ok (.ladd, 1) := by decide +kernel
theorem dX8_addMeans_52 : decode cX8_addMeans 52 = .ok (.lastore, 1) := by decide +kernel
theorem dX8_addMeans_53 : decode cX8_addMeans 53 = .ok (.aload_n 0, 1) := by decide +kernel
theorem dX8_addMeans_54 : decode cX8_addMeans 54 = .ok (.getfield 15, 3) := by decide +kernel
theorem dX8_addMeans_57 : decode cX8_addMeans 57 = .ok (.iload_n 3, 1) := by decide +kernel
theorem dX8_addMeans_58 : decode cX8_addMeans 58 = .ok (.dup2, 1) := by decide +kernel
theorem dX8_addMeans_59 : decode cX8_addMeans 59 = .ok (.laload, 1) := by decide +kernel
theorem dX8_addMeans_60 : decode cX8_addMeans 60 = .ok (.aload_n 0, 1) := by decide +kernel
theorem dX8_addMeans_61 : decode cX8_addMeans 61 = .ok (.getfield 22, 3) := by decide +kernel
theorem dX8_addMeans_64 : decode cX8_addMeans 64 = .ok (.aload_n 2, 1) := by decide +kernel
theorem dX8_addMeans_65 : decode cX8_addMeans 65 = .ok (.getfield 37, 3) := by decide +kernel
theorem dX8_addMeans_68 : decode cX8_addMeans 68 = .ok (.laload, 1) := by decide +kernel
theorem dX8_addMeans_69 : decode cX8_addMeans 69 = .ok (.aload_n 1, 1) := by decide +kernel
theorem dX8_addMeans_70 : decode cX8_addMeans 70 = .ok (.iload_n 3, 1) := by decide +kernel
theorem dX8_addMeans_71 : decode cX8_addMeans 71 = .ok (.iload 4, 2) := by decide +kernel
theorem dX8_addMeans_73 : decode cX8_addMeans 73 = .ok (.invokevirtual 104, 3) := by decide +kernel
theorem dX8_addMeans_76 : decode cX8_addMeans 76 = .ok (.i2l, 1) := by decide +kernel
theorem dX8_addMeans_77 : decode cX8_addMeans 77 = .ok (.lmul, 1) := by decide +kernel
theorem dX8_addMeans_78 : decode cX8_addMeans 78 = .ok (.ladd, 1) := by decide +kernel
theorem dX8_addMeans_79 : decode cX8_addMeans 79 = .ok (.lastore, 1) := by decide +kernel
theorem dX8_addMeans_80 : decode cX8_addMeans 80 = .ok (.iinc 3 1, 3) := by decide +kernel
theorem dX8_addMeans_83 : decode cX8_addMeans 83 = .ok (.goto (-81), 3) := by decide +kernel
theorem dX8_addMeans_86 : decode cX8_addMeans 86 = .ok (.return_, 1) := by decide +kernel
theorem dX8_nextWay_0 : decode cX8_nextWay 0 = .ok (.aload_n 1, 1) := by decide +kernel
theorem dX8_nextWay_1 : decode cX8_nextWay 1 = .ok (.getfield 37, 3) := by decide +kernel
theorem dX8_nextWay_4 : decode cX8_nextWay 4 = .ok (.iconst 1, 1) := by decide +kernel
theorem dX8_nextWay_5 : decode cX8_nextWay 5 = .ok (.isub, 1) := by decide +kernel
theorem dX8_nextWay_6 : decode cX8_nextWay 6 = .ok (.istore_n 2, 1) := by decide +kernel
theorem dX8_nextWay_7 : decode cX8_nextWay 7 = .ok (.iload_n 2, 1) := by decide +kernel
theorem dX8_nextWay_8 : decode cX8_nextWay 8 = .ok (.ifCond .lt 43, 3) := by decide +kernel
theorem dX8_nextWay_11 : decode cX8_nextWay 11 = .ok (.aload_n 0, 1) := by decide +kernel
theorem dX8_nextWay_12 : decode cX8_nextWay 12 = .ok (.getfield 18, 3) := by decide +kernel
theorem dX8_nextWay_15 : decode cX8_nextWay 15 = .ok (.iload_n 2, 1) := by decide +kernel
theorem dX8_nextWay_16 : decode cX8_nextWay 16 = .ok (.dup2, 1) := by decide +kernel
theorem dX8_nextWay_17 : decode cX8_nextWay 17 = .ok (.iaload, 1) := by decide +kernel
theorem dX8_nextWay_18 : decode cX8_nextWay 18 = .ok (.iconst 1, 1) := by decide +kernel
theorem dX8_nextWay_19 : decode cX8_nextWay 19 = .ok (.iadd, 1) := by decide +kernel
theorem dX8_nextWay_20 : decode cX8_nextWay 20 = .ok (.iastore, 1) := by decide +kernel
theorem dX8_nextWay_21 : decode cX8_nextWay 21 = .ok (.aload_n 0, 1) := by decide +kernel
theorem dX8_nextWay_22 : decode cX8_nextWay 22 = .ok (.getfield 18, 3) := by decide +kernel
theorem dX8_nextWay_25 : decode cX8_nextWay 25 = .ok (.iload_n 2, 1) := by decide +kernel
theorem dX8_nextWay_26 : decode cX8_nextWay 26 = .ok (.iaload, 1) := by decide +kernel
theorem dX8_nextWay_27 : decode cX8_nextWay 27 = .ok (.aload_n 1, 1) := by decide +kernel
theorem dX8_nextWay_28 : decode cX8_nextWay 28 = .ok (.getfield 108, 3) := by decide +kernel
theorem dX8_nextWay_31 : decode cX8_nextWay 31 = .ok (.iload_n 2, 1) := by decide +kernel
theorem dX8_nextWay_32 : decode cX8_nextWay 32 = .ok (.iaload, 1) := by decide +kernel
theorem dX8_nextWay_33 : decode cX8_nextWay 33 = .ok (.if_icmp .ge 5, 3) := by decide +kernel
theorem dX8_nextWay_36 : decode cX8_nextWay 36 = .ok (.iload_n 2, 1) := by decide +kernel
theorem dX8_nextWay_37 : decode cX8_nextWay 37 = .ok (.ireturn, 1) := by decide +kernel
theorem dX8_nextWay_38 : decode cX8_nextWay 38 = .ok (.aload_n 0, 1) := by decide +kernel
theorem dX8_nextWay_39 : decode cX8_nextWay 39 = .ok (.getfield 18, 3) := by decide +kernel
theorem dX8_nextWay_42 : decode cX8_nextWay 42 = .ok (.iload_n 2, 1) := by decide +kernel
theorem dX8_nextWay_43 : decode cX8_nextWay 43 = .ok (.iconst 0, 1) := by decide +kernel
theorem dX8_nextWay_44 : decode cX8_nextWay 44 = .ok (.iastore, 1) := by decide +kernel
theorem dX8_nextWay_45 : decode cX8_nextWay 45 = .ok (.iinc 2 (-1), 3) := by decide +kernel
theorem dX8_nextWay_48 : decode cX8_nextWay 48 = .ok (.goto (-41), 3) := by decide +kernel
theorem dX8_nextWay_51 : decode cX8_nextWay 51 = .ok (.iconst (-1), 1) := by decide +kernel
theorem dX8_nextWay_52 : decode cX8_nextWay 52 = .ok (.ireturn, 1) := by decide +kernel
end
section
theorem dX9_init_0 : decode cX9_init 0 = .ok (.aload_n 0, 1) := by decide +kernel
theorem dX9_init_1 : decode cX9_init 1 = .ok (.invokespecial 1, 3) := by decide +kernel
theorem dX9_init_4 : decode cX9_init 4 = .ok (.aload_n 0, 1) := by decide +kernel
theorem dX9_init_5 : decode cX9_init 5 = .ok (.new 7, 3) := by decide +kernel
theorem dX9_init_8 : decode cX9_init 8 = .ok (.dup, 1) := by decide +kernel
theorem dX9_init_9 : decode cX9_init 9 = .ok (.invokespecial 9, 3) := by decide +kernel
theorem dX9_init_12 : decode cX9_init 12 = .ok (.putfield 10, 3) := by decide +kernel
theorem dX9_init_15 : decode cX9_init 15 = .ok (.aload_n 0, 1) := by decide +kernel
theorem dX9_init_16 : decode cX9_init 16 = .ok (.new 16, 3) := by decide +kernel
theorem dX9_init_19 : decode cX9_init 19 = .ok (.dup, 1) := by decide +kernel
theorem dX9_init_20 : decode cX9_init 20 = .ok (.invokespecial 18, 3) := by decide +kernel
theorem dX9_init_23 : decode cX9_init 23 = .ok (.putfield 19, 3) := by decide +kernel
theorem dX9_init_26 : decode cX9_init 26 = .ok (.aload_n 0, 1) := by decide +kernel
theorem dX9_init_27 : decode cX9_init 27 = .ok (.new 23, 3) := by decide +kernel
theorem dX9_init_30 : decode cX9_init 30 = .ok (.dup, 1) := by decide +kernel
theorem dX9_init_31 : decode cX9_init 31 = .ok (.invokespecial 25, 3) := by decide +kernel
theorem dX9_init_34 : decode cX9_init 34 = .ok (.putfield 26, 3) := by decide +kernel
theorem dX9_init_37 : decode cX9_init 37 = .ok (.aload_n 0, 1) := by decide +kernel
theorem dX9_init_38 : decode cX9_init 38 = .ok (.new 23, 3) := by decide +kernel
theorem dX9_init_41 : decode cX9_init 41 = .ok (.dup, 1) := by decide +kernel
theorem dX9_init_42 : decode cX9_init 42 = .ok (.invokespecial 25, 3) := by decide +kernel
theorem dX9_init_45 : decode cX9_init 45 = .ok (.putfield 30, 3) := by decide +kernel
theorem dX9_init_48 : decode cX9_init 48 = .ok (.aload_n 0, 1) := by decide +kernel
theorem dX9_init_49 : decode cX9_init 49 = .ok (.new 33, 3) := by decide +kernel
theorem dX9_init_52 : decode cX9_init 52 = .ok (.dup, 1) := by decide +kernel
theorem dX9_init_53 : decode cX9_init 53 = .ok (.invokespecial 35, 3) := by decide +kernel
theorem dX9_init_56 : decode cX9_init 56 = .ok (.putfield 36, 3) := by decide +kernel
theorem dX9_init_59 : decode cX9_init 59 = .ok (.aload_n 0, 1) := by decide +kernel
theorem dX9_init_60 : decode cX9_init 60 = .ok (.new 33, 3) := by decide +kernel
theorem dX9_init_63 : decode cX9_init 63 = .ok (.dup, 1) := by decide +kernel
theorem dX9_init_64 : decode cX9_init 64 = .ok (.invokespecial 35, 3) := by decide +kernel
theorem dX9_init_67 : decode cX9_init 67 = .ok (.putfield 40, 3) := by decide +kernel
theorem dX9_init_70 : decode cX9_init 70 = .ok (.aload_n 0, 1) := by decide +kernel
theorem dX9_init_71 : decode cX9_init 71 = .ok (.new 43, 3) := by decide +kernel
theorem dX9_init_74 : decode cX9_init 74 = .ok (.dup, 1) := by decide +kernel
theorem dX9_init_75 : decode cX9_init 75 = .ok (.invokespecial 45, 3) := by decide +kernel
theorem dX9_init_78 : decode cX9_init 78 = .ok (.putfield 46, 3) := by decide +kernel
theorem dX9_init_81 : decode cX9_init 81 = .ok (.aload_n 0, 1) := by decide +kernel
theorem dX9_init_82 : decode cX9_init 82 = .ok (.new 50, 3) := by decide +kernel
theorem dX9_init_85 : decode cX9_init 85 = .ok (.dup, 1) := by decide +kernel
theorem dX9_init_86 : decode cX9_init 86 = .ok (.invokespecial 52, 3) := by decide +kernel
theorem dX9_init_89 : decode cX9_init 89 = .ok (.putfield 53, 3) := by decide +kernel
theorem dX9_init_92 : decode cX9_init 92 = .ok (.aload_n 0, 1) := by decide +kernel
theorem dX9_init_93 : decode cX9_init 93 = .ok (.new 50, 3) := by decide +kernel
theorem dX9_init_96 : decode cX9_init 96 = .ok (.dup, 1) := by decide +kernel
theorem dX9_init_97 : decode cX9_init 97 = .ok (.invokespecial 52, 3) := by decide +kernel
theorem dX9_init_100 : decode cX9_init 100 = .ok (.putfield 57, 3) := by decide +kernel
theorem dX9_init_103 : decode cX9_init 103 = .ok (.aload_n 0, 1) := by decide +kernel
theorem dX9_init_104 : decode cX9_init 104 = .ok (.new 60, 3) := by decide +kernel
theorem dX9_init_107 : decode cX9_init 107 = .ok (.dup, 1) := by decide +kernel
theorem dX9_init_108 : decode cX9_init 108 = .ok (.invokespecial 62, 3) := by decide +kernel
theorem dX9_init_111 : decode cX9_init 111 = .ok (.putfield 63, 3) := by decide +kernel
theorem dX9_init_114 : decode cX9_init 114 = .ok (.aload_n 0, 1) := by decide +kernel
theorem dX9_init_115 : decode cX9_init 115 = .ok (.bipush 8, 2) := by decide +kernel
theorem dX9_init_117 : decode cX9_init 117 = .ok (.newarray .int, 2) := by decide +kernel
theorem dX9_init_119 : decode cX9_init 119 = .ok (.putfield 69, 3) := by decide +kernel
theorem dX9_init_122 : decode cX9_init 122 = .ok (.aload_n 0, 1) := by decide +kernel
theorem dX9_init_123 : decode cX9_init 123 = .ok (.new 73, 3) := by decide +kernel
theorem dX9_init_126 : decode cX9_init 126 = .ok (.dup, 1) := by decide +kernel
theorem dX9_init_127 : decode cX9_init 127 = .ok (.invokespecial 75, 3) := by decide +kernel
theorem dX9_init_130 : decode cX9_init 130 = .ok (.putfield 76, 3) := by decide +kernel
theorem dX9_init_133 : decode cX9_init 133 = .ok (.aload_n 0, 1) := by decide +kernel
theorem dX9_init_134 : decode cX9_init 134 = .ok (.getfield 26, 3) := by decide +kernel
theorem dX9_init_137 : decode cX9_init 137 = .ok (.invokevirtual 80, 3) := by decide +kernel
theorem dX9_init_140 : decode cX9_init 140 = .ok (.aload_n 0, 1) := by decide +kernel
theorem dX9_init_141 : decode cX9_init 141 = .ok (.getfield 26, 3) := by decide +kernel
theorem dX9_init_144 : decode cX9_init 144 = .ok (.getfield 83, 3) := by decide +kernel
theorem dX9_init_147 : decode cX9_init 147 = .ok (.iconst 1, 1) := by decide +kernel
theorem dX9_init_148 : decode cX9_init 148 = .ok (.iconst 1, 1) := by decide +kernel
theorem dX9_init_149 : decode cX9_init 149 = .ok (.bipush 20, 2) := by decide +kernel
theorem dX9_init_151 : decode cX9_init 151 = .ok (.iconst 0, 1) := by decide +kernel
theorem dX9_init_152 : decode cX9_init 152 = .ok (.iconst 0, 1) := by decide +kernel
theorem dX9_init_153 : decode cX9_init 153 = .ok (.invokevirtual 87, 3) := by decide +kernel
theorem dX9_init_156 : decode cX9_init 156 = .ok (.pop, 1) := by decide +kernel
theorem dX9_init_157 : decode cX9_init 157 = .ok (.aload_n 0, 1) := by decide +kernel
theorem dX9_init_158 : decode cX9_init 158 = .ok (.getfield 26, 3) := by decide +kernel
theorem dX9_init_161 : decode cX9_init 161 = .ok (.getfield 83, 3) := by decide +kernel
theorem dX9_init_164 : decode cX9_init 164 = .ok (.iconst 0, 1) := by decide +kernel
theorem dX9_init_165 : decode cX9_init 165 = .ok (.bipush 20, 2) := by decide +kernel
theorem dX9_init_167 : decode cX9_init 167 = .ok (.bipush 10, 2) := by decide +kernel
theorem dX9_init_169 : decode cX9_init 169 = .ok (.invokevirtual 91, 3) := by decide +kernel
theorem dX9_init_172 : decode cX9_init 172 = .ok (.pop, 1) := by decide +kernel
theorem dX9_init_173 : decode cX9_init 173 = .ok (.aload_n 0, 1) := by decide +kernel
theorem dX9_init_174 : decode cX9_init 174 = .ok (.getfield 36, 3) := by decide +kernel
theorem dX9_init_177 : decode cX9_init 177 = .ok (.aload_n 0, 1) := by decide +kernel
theorem dX9_init_178 : decode cX9_init 178 = .ok (.getfield 26, 3) := by decide +kernel
theorem dX9_init_181 : decode cX9_init 181 = .ok (.aload_n 0, 1) := by decide +kernel
theorem dX9_init_182 : decode cX9_init 182 = .ok (.getfield 26, 3) := by decide +kernel
theorem dX9_init_185 : decode cX9_init 185 = .ok (.getfield 95, 3) := by decide +kernel
theorem dX9_init_188 : decode cX9_init 188 = .ok (.invokevirtual 99, 3) := by decide +kernel
theorem dX9_init_191 : decode cX9_init 191 = .ok (.pop, 1) := by decide +kernel
theorem dX9_init_192 : decode cX9_init 192 = .ok (.return_, 1) := by decide +kernel
theorem dX9_write_0 : decode cX9_write 0 = .ok (.iload_n 1, 1) := by decide +kernel
theorem dX9_write_1 : decode cX9_write 1 = .ok (.iconst 1, 1) := by decide +kernel
theorem dX9_write_2 : decode cX9_write 2 = .ok (.bipush 8, 2) := by decide +kernel
theorem dX9_write_4 : decode cX9_write 4 = .ok (.invokestatic 103, 3) := by decide +kernel
theorem dX9_write_7 : decode cX9_write 7 = .ok (.ifCond .ne 5, 3) := by decide +kernel
theorem dX9_write_10 : decode cX9_write 10 = .ok (.iconst (-1), 1) := by decide +kernel
theorem dX9_write_11 : decode cX9_write 11 = .ok (.ireturn, 1) := by decide +kernel
theorem dX9_write_12 : decode cX9_write 12 = .ok (.aload_n 0, 1) := by decide +kernel
theorem dX9_write_13 : decode cX9_write 13 = .ok (.getfield 10, 3) := by decide +kernel
theorem dX9_write_16 : decode cX9_write 16 = .ok (.iload_n 1, 1) := by decide +kernel
theorem dX9_write_17 : decode cX9_write 17 = .ok (.lload_n 2, 1) := by decide +kernel
theorem dX9_write_18 : decode cX9_write 18 = .ok (.invokevirtual 106, 3) := by decide +kernel
theorem dX9_write_21 : decode cX9_write 21 = .ok (.ifCond .eq 13, 3) := by decide +kernel
theorem dX9_write_24 : decode cX9_write 24 = .ok (.aload_n 0, 1) := by decide +kernel
theorem dX9_write_25 : decode cX9_write 25 = .ok (.getfield 10, 3) := by decide +kernel
theorem dX9_write_28 : decode cX9_write 28 = .ok (.getfield 110, 3) := by decide +kernel
theorem dX9_write_31 : decode cX9_write 31 = .ok (.goto 5, 3) := by decide +kernel
theorem dX9_write_34 : decode cX9_write 34 = .ok (.bipush (-3), 2) := by decide +kernel
theorem dX9_write_36 : decode cX9_write 36 = .ok (.ireturn, 1) := by decide +kernel
theorem dX9_wipe_0 : decode cX9_wipe 0 = .ok (.aload_n 0, 1) := by decide +kernel
theorem dX9_wipe_1 : decode cX9_wipe 1 = .ok (.getfield 10, 3) := by decide +kernel
theorem dX9_wipe_4 : decode cX9_wipe 4 = .ok (.getfield 110, 3) := by decide +kernel
theorem dX9_wipe_7 : decode cX9_wipe 7 = .ok (.istore_n 1, 1) := by decide +kernel
theorem dX9_wipe_8 : decode cX9_wipe 8 = .ok (.aload_n 0, 1) := by decide +kernel
theorem dX9_wipe_9 : decode cX9_wipe 9 = .ok (.getfield 10, 3) := by decide +kernel
theorem dX9_wipe_12 : decode cX9_wipe 12 = .ok (.iconst 0, 1) := by decide +kernel
theorem dX9_wipe_13 : decode cX9_wipe 13 = .ok (.putfield 110, 3) := by decide +kernel
theorem dX9_wipe_16 : decode cX9_wipe 16 = .ok (.iload_n 1, 1) := by decide +kernel
theorem dX9_wipe_17 : decode cX9_wipe 17 = .ok (.ireturn, 1) := by decide +kernel
theorem dX9_fault_0 : decode cX9_fault 0 = .ok (.aload_n 0, 1) := by decide +kernel
theorem dX9_fault_1 : decode cX9_fault 1 = .ok (.getfield 19, 3) := by decide +kernel
theorem dX9_fault_4 : decode cX9_fault 4 = .ok (.aload_n 0, 1) := by decide +kernel
theorem dX9_fault_5 : decode cX9_fault 5 = .ok (.getfield 10, 3) := by decide +kernel
theorem dX9_fault_8 : decode cX9_fault 8 = .ok (.aload_n 0, 1) := by decide +kernel
theorem dX9_fault_9 : decode cX9_fault 9 = .ok (.getfield 30, 3) := by decide +kernel
theorem dX9_fault_12 : decode cX9_fault 12 = .ok (.invokevirtual 113, 3) := by decide +kernel
theorem dX9_fault_15 : decode cX9_fault 15 = .ok (.ireturn, 1) := by decide +kernel
theorem dX9_lay_0 : decode cX9_lay 0 = .ok (.aload_n 0, 1) := by decide +kernel
theorem dX9_lay_1 : decode cX9_lay 1 = .ok (.getfield 19, 3) := by decide +kernel
theorem dX9_lay_4 : decode cX9_lay 4 = .ok (.aload_n 0, 1) := by decide +kernel
theorem dX9_lay_5 : decode cX9_lay 5 = .ok (.getfield 10, 3) := by decide +kernel
theorem dX9_lay_8 : decode cX9_lay 8 = .ok (.aload_n 0, 1) := by decide +kernel
theorem dX9_lay_9 : decode cX9_lay 9 = .ok (.getfield 30, 3) := by decide +kernel
theorem dX9_lay_12 : decode cX9_lay 12 = .ok (.invokevirtual 113, 3) := by decide +kernel
theorem dX9_lay_15 : decode cX9_lay 15 = .ok (.bipush (-4), 2) := by decide +kernel
theorem dX9_lay_17 : decode cX9_lay 17 = .ok (.if_icmp .ne 16, 3) := by decide +kernel
theorem dX9_lay_20 : decode cX9_lay 20 = .ok (.aload_n 0, 1) := by decide +kernel
theorem dX9_lay_21 : decode cX9_lay 21 = .ok (.getfield 30, 3) := by decide +kernel
theorem dX9_lay_24 : decode cX9_lay 24 = .ok (.getfield 83, 3) := by decide +kernel
theorem dX9_lay_27 : decode cX9_lay 27 = .ok (.getfield 117, 3) := by decide +kernel
theorem dX9_lay_30 : decode cX9_lay 30 = .ok (.ifCond .ne 6, 3) := by decide +kernel
theorem dX9_lay_33 : decode cX9_lay 33 = .ok (.bipush (-2), 2) := by decide +kernel
theorem dX9_lay_35 : decode cX9_lay 35 = .ok (.ireturn, 1) := by decide +kernel
theorem dX9_lay_36 : decode cX9_lay 36 = .ok (.aload_n 0, 1) := by decide +kernel
theorem dX9_lay_37 : decode cX9_lay 37 = .ok (.getfield 26, 3) := by decide +kernel
theorem dX9_lay_40 : decode cX9_lay 40 = .ok (.astore_n 1, 1) := by decide +kernel
theorem dX9_lay_41 : decode cX9_lay 41 = .ok (.aload_n 0, 1) := by decide +kernel
theorem dX9_lay_42 : decode cX9_lay 42 = .ok (.aload_n 0, 1) := by decide +kernel
theorem dX9_lay_43 : decode cX9_lay 43 = .ok (.getfield 30, 3) := by decide +kernel
theorem dX9_lay_46 : decode cX9_lay 46 = .ok (.putfield 26, 3) := by decide +kernel
theorem dX9_lay_49 : decode cX9_lay 49 = .ok (.aload_n 0, 1) := by decide +kernel
theorem dX9_lay_50 : decode cX9_lay 50 = .ok (.aload_n 1, 1) := by decide +kernel
theorem dX9_lay_51 : decode cX9_lay 51 = .ok (.putfield 30, 3) := by decide +kernel
theorem dX9_lay_54 : decode cX9_lay 54 = .ok (.aload_n 0, 1) := by decide +kernel
theorem dX9_lay_55 : decode cX9_lay 55 = .ok (.getfield 36, 3) := by decide +kernel
theorem dX9_lay_58 : decode cX9_lay 58 = .ok (.aload_n 0, 1) := by decide +kernel
theorem dX9_lay_59 : decode cX9_lay 59 = .ok (.getfield 26, 3) := by decide +kernel
theorem dX9_lay_62 : decode cX9_lay 62 = .ok (.aload_n 0, 1) := by decide +kernel
theorem dX9_lay_63 : decode cX9_lay 63 = .ok (.getfield 26, 3) := by decide +kernel
theorem dX9_lay_66 : decode cX9_lay 66 = .ok (.getfield 95, 3) := by decide +kernel
theorem dX9_lay_69 : decode cX9_lay 69 = .ok (.invokevirtual 99, 3) := by decide +kernel
theorem dX9_lay_72 : decode cX9_lay 72 = .ok (.pop, 1) := by decide +kernel
theorem dX9_lay_73 : decode cX9_lay 73 = .ok (.aload_n 0, 1) := by decide +kernel
theorem dX9_lay_74 : decode cX9_lay 74 = .ok (.getfield 69, 3) := by decide +kernel
theorem dX9_lay_77 : decode cX9_lay 77 = .ok (.iconst 0, 1) := by decide +kernel
theorem dX9_lay_78 : decode cX9_lay 78 = .ok (.invokestatic 119, 3) := by decide +kernel
theorem dX9_lay_81 : decode cX9_lay 81 = .ok (.aload_n 0, 1) := by decide +kernel
theorem dX9_lay_82 : decode cX9_lay 82 = .ok (.iconst 0, 1) := by decide +kernel
theorem dX9_lay_83 : decode cX9_lay 83 = .ok (.putfield 125, 3) := by decide +kernel
theorem dX9_lay_86 : decode cX9_lay 86 = .ok (.aload_n 0, 1) := by decide +kernel
theorem dX9_lay_87 : decode cX9_lay 87 = .ok (.getfield 76, 3) := by decide +kernel
theorem dX9_lay_90 : decode cX9_lay 90 = .ok (.iconst 0, 1) := by decide +kernel
theorem dX9_lay_91 : decode cX9_lay 91 = .ok (.putfield 128, 3) := by decide +kernel
theorem dX9_lay_94 : decode cX9_lay 94 = .ok (.aload_n 0, 1) := by decide +kernel
theorem dX9_lay_95 : decode cX9_lay 95 = .ok (.iconst 0, 1) := by decide +kernel
theorem dX9_lay_96 : decode cX9_lay 96 = .ok (.putfield 131, 3) := by decide +kernel
theorem dX9_lay_99 : decode cX9_lay 99 = .ok (.aload_n 0, 1) := by decide +kernel
theorem dX9_lay_100 : decode cX9_lay 100 = .ok (.invokevirtual 135, 3) := by decide +kernel
theorem dX9_lay_103 : decode cX9_lay 103 = .ok (.aload_n 0, 1) := by decide +kernel
theorem dX9_lay_104 : decode cX9_lay 104 = .ok (.getfield 26, 3) := by decide +kernel
theorem dX9_lay_107 : decode cX9_lay 107 = .ok (.getfield 83, 3) := by decide +kernel
theorem dX9_lay_110 : decode cX9_lay 110 = .ok (.getfield 138, 3) := by decide +kernel
theorem dX9_lay_113 : decode cX9_lay 113 = .ok (.ireturn, 1) := by decide +kernel
theorem dX9_giver_0 : decode cX9_giver 0 = .ok (.aload_n 0, 1) := by decide +kernel
theorem dX9_giver_1 : decode cX9_giver 1 = .ok (.iload_n 1, 1) := by decide +kernel
theorem dX9_giver_2 : decode cX9_giver 2 = .ok (.invokevirtual 141, 3) := by decide +kernel
theorem dX9_giver_5 : decode cX9_giver 5 = .ok (.ifCond .eq 12, 3) := by decide +kernel
theorem dX9_giver_8 : decode cX9_giver 8 = .ok (.iload_n 2, 1) := by decide +kernel
theorem dX9_giver_9 : decode cX9_giver 9 = .ok (.iconst 0, 1) := by decide +kernel
theorem dX9_giver_10 : decode cX9_giver 10 = .ok (.iconst 3, 1) := by decide +kernel
theorem dX9_giver_11 : decode cX9_giver 11 = .ok (.invokestatic 103, 3) := by decide +kernel
theorem dX9_giver_14 : decode cX9_giver 14 = .ok (.ifCond .ne 5, 3) := by decide +kernel
theorem dX9_giver_17 : decode cX9_giver 17 = .ok (.iconst (-1), 1) := by decide +kernel
theorem dX9_giver_18 : decode cX9_giver 18 = .ok (.ireturn, 1) := by decide +kernel
theorem dX9_giver_19 : decode cX9_giver 19 = .ok (.aload_n 0, 1) := by decide +kernel
theorem dX9_giver_20 : decode cX9_giver 20 = .ok (.getfield 36, 3) := by decide +kernel
theorem dX9_giver_23 : decode cX9_giver 23 = .ok (.iload_n 1, 1) := by decide +kernel
theorem dX9_giver_24 : decode cX9_giver 24 = .ok (.invokevirtual 145, 3) := by decide +kernel
theorem dX9_giver_27 : decode cX9_giver 27 = .ok (.istore_n 3, 1) := by decide +kernel
theorem dX9_giver_28 : decode cX9_giver 28 = .ok (.iload_n 2, 1) := by decide +kernel
theorem dX9_giver_29 : decode cX9_giver 29 = .ok (.tableswitch 83 0 2 #[27, 39, 62], 27) := by decide +kernel
theorem dX9_giver_56 : decode cX9_giver 56 = .ok (.aload_n 0, 1) := by decide +kernel
theorem dX9_giver_57 : decode cX9_giver 57 = .ok (.getfield 26, 3) := by decide +kernel
theorem dX9_giver_60 : decode cX9_giver 60 = .ok (.getfield 83, 3) := by decide +kernel
theorem dX9_giver_63 : decode cX9_giver 63 = .ok (.iload_n 1, 1) := by decide +kernel
theorem dX9_giver_64 : decode cX9_giver 64 = .ok (.invokevirtual 149, 3) := by decide +kernel
theorem dX9_giver_67 : decode cX9_giver 67 = .ok (.ireturn, 1) := by decide +kernel
theorem dX9_giver_68 : decode cX9_giver 68 = .ok (.aload_n 0, 1) := by decide +kernel
theorem dX9_giver_69 : decode cX9_giver 69 = .ok (.getfield 26, 3) := by decide +kernel
theorem dX9_giver_72 : decode cX9_giver 72 = .ok (.getfield 83, 3) := by decide +kernel
theorem dX9_giver_75 : decode cX9_giver 75 = .ok (.getfield 152, 3) := by decide +kernel
theorem dX9_giver_78 : decode cX9_giver 78 = .ok (.aload_n 0, 1) := by decide +kernel
theorem dX9_giver_79 : decode cX9_giver 79 = .ok (.getfield 26, 3) := by decide +kernel
theorem dX9_giver_82 : decode cX9_giver 82 = .ok (.getfield 83, 3) := by decide +kernel
theorem dX9_giver_85 : decode cX9_giver 85 = .ok (.iload_n 1, 1) := by decide +kernel
theorem dX9_giver_86 : decode cX9_giver 86 = .ok (.invokevirtual 149, 3) := by decide +kernel
theorem dX9_giver_89 : decode cX9_giver 89 = .ok (.iaload, 1) := by decide +kernel
theorem dX9_giver_90 : decode cX9_giver 90 = .ok (.ireturn, 1) := by decide +kernel
theorem dX9_giver_91 : decode cX9_giver 91 = .ok (.iload_n 3, 1) := by decide +kernel
theorem dX9_giver_92 : decode cX9_giver 92 = .ok (.bipush (-4), 2) := by decide +kernel
theorem dX9_giver_94 : decode cX9_giver 94 = .ok (.if_icmp .ne 8, 3) := by decide +kernel
theorem dX9_giver_97 : decode cX9_giver 97 = .ok (.bipush (-4), 2) := by decide +kernel
theorem dX9_giver_99 : decode cX9_giver 99 = .ok (.goto 12, 3) := by decide +kernel
theorem dX9_giver_102 : decode cX9_giver 102 = .ok (.aload_n 0, 1) := by decide +kernel
theorem dX9_giver_103 : decode cX9_giver 103 = .ok (.getfield 36, 3) := by decide +kernel
theorem dX9_giver_106 : decode cX9_giver 106 = .ok (.getfield 155, 3) := by decide +kernel
theorem dX9_giver_109 : decode cX9_giver 109 = .ok (.iload_n 3, 1) := by decide +kernel
theorem dX9_giver_110 : decode cX9_giver 110 = .ok (.iaload, 1) := by decide +kernel
theorem dX9_giver_111 : decode cX9_giver 111 = .ok (.ireturn, 1) := by decide +kernel
theorem dX9_giver_112 : decode cX9_giver 112 = .ok (.iload_n 3, 1) := by decide +kernel
theorem dX9_giver_113 : decode cX9_giver 113 = .ok (.ireturn, 1) := by decide +kernel
theorem dX9_show_0 : decode cX9_show 0 = .ok (.iload_n 1, 1) := by decide +kernel
theorem dX9_show_1 : decode cX9_show 1 = .ok (.iconst 0, 1) := by decide +kernel
theorem dX9_show_2 : decode cX9_show 2 = .ok (.iconst 2, 1) := by decide +kernel
theorem dX9_show_3 : decode cX9_show 3 = .ok (.invokestatic 103, 3) := by decide +kernel
theorem dX9_show_6 : decode cX9_show 6 = .ok (.ifCond .ne 5, 3) := by decide +kernel
theorem dX9_show_9 : decode cX9_show 9 = .ok (.iconst (-1), 1) := by decide +kernel
theorem dX9_show_10 : decode cX9_show 10 = .ok (.ireturn, 1) := by decide +kernel
theorem dX9_show_11 : decode cX9_show 11 = .ok (.aload_n 0, 1) := by decide +kernel
theorem dX9_show_12 : decode cX9_show 12 = .ok (.getfield 125, 3) := by decide +kernel
theorem dX9_show_15 : decode cX9_show 15 = .ok (.istore_n 2, 1) := by decide +kernel
theorem dX9_show_16 : decode cX9_show 16 = .ok (.aload_n 0, 1) := by decide +kernel
theorem dX9_show_17 : decode cX9_show 17 = .ok (.iload_n 1, 1) := by decide +kernel
theorem dX9_show_18 : decode cX9_show 18 = .ok (.putfield 125, 3) := by decide +kernel
theorem dX9_show_21 : decode cX9_show 21 = .ok (.aload_n 0, 1) := by decide +kernel
theorem dX9_show_22 : decode cX9_show 22 = .ok (.invokevirtual 135, 3) := by decide +kernel
theorem dX9_show_25 : decode cX9_show 25 = .ok (.iload_n 2, 1) := by decide +kernel
theorem dX9_show_26 : decode cX9_show 26 = .ok (.ireturn, 1) := by decide +kernel
theorem dX9_odds_0 : decode cX9_odds 0 = .ok (.iload_n 1, 1) := by decide +kernel
theorem dX9_odds_1 : decode cX9_odds 1 = .ok (.iconst 0, 1) := by decide +kernel
theorem dX9_odds_2 : decode cX9_odds 2 = .ok (.iconst 2, 1) := by decide +kernel
theorem dX9_odds_3 : decode cX9_odds 3 = .ok (.invokestatic 103, 3) := by decide +kernel
theorem dX9_odds_6 : decode cX9_odds 6 = .ok (.ifCond .ne 7, 3) := by decide +kernel
theorem dX9_odds_9 : decode cX9_odds 9 = .ok (.ldc2_w 158, 3) := by decide +kernel
theorem dX9_odds_12 : decode cX9_odds 12 = .ok (.lreturn, 1) := by decide +kernel
theorem dX9_odds_13 : decode cX9_odds 13 = .ok (.aload_n 0, 1) := by decide +kernel
theorem dX9_odds_14 : decode cX9_odds 14 = .ok (.invokevirtual 160, 3) := by decide +kernel
theorem dX9_odds_17 : decode cX9_odds 17 = .ok (.getfield 164, 3) := by decide +kernel
theorem dX9_odds_20 : decode cX9_odds 20 = .ok (.lstore_n 2, 1) := by decide +kernel
theorem dX9_odds_21 : decode cX9_odds 21 = .ok (.iload_n 1, 1) := by decide +kernel
theorem dX9_odds_22 : decode cX9_odds 22 = .ok (.ifCond .ne 5, 3) := by decide +kernel
theorem dX9_odds_25 : decode cX9_odds 25 = .ok (.lload_n 2, 1) := by decide +kernel
theorem dX9_odds_26 : decode cX9_odds 26 = .ok (.lreturn, 1) := by decide +kernel
theorem dX9_odds_27 : decode cX9_odds 27 = .ok (.aload_n 0, 1) := by decide +kernel
theorem dX9_odds_28 : decode cX9_odds 28 = .ok (.getfield 36, 3) := by decide +kernel
theorem dX9_odds_31 : decode cX9_odds 31 = .ok (.invokevirtual 168, 3) := by decide +kernel
theorem dX9_odds_34 : decode cX9_odds 34 = .ok (.lstore 4, 2) := by decide +kernel
theorem dX9_odds_36 : decode cX9_odds 36 = .ok (.lload_n 2, 1) := by decide +kernel
theorem dX9_odds_37 : decode cX9_odds 37 = .ok (.lload 4, 2) := by decide +kernel
theorem dX9_odds_39 : decode cX9_odds 39 = .ok (.invokestatic 172, 3) := by decide +kernel
theorem dX9_odds_42 : decode cX9_odds 42 = .ok (.lstore 6, 2) := by decide +kernel
theorem dX9_odds_44 : decode cX9_odds 44 = .ok (.iload_n 1, 1) := by decide +kernel
theorem dX9_odds_45 : decode cX9_odds 45 = .ok (.iconst 1, 1) := by decide +kernel
theorem dX9_odds_46 : decode cX9_odds 46 = .ok (.if_icmp .ne 7, 3) := by decide +kernel
theorem dX9_odds_49 : decode cX9_odds 49 = .ok (.lload_n 2, 1) := by decide +kernel
theorem dX9_odds_50 : decode cX9_odds 50 = .ok (.goto 5, 3) := by decide +kernel
theorem dX9_odds_53 : decode cX9_odds 53 = .ok (.lload 4, 2) := by decide +kernel
theorem dX9_odds_55 : decode cX9_odds 55 = .ok (.lload 6, 2) := by decide +kernel
theorem dX9_odds_57 : decode cX9_odds 57 = .ok (.ldiv, 1) := by decide +kernel
theorem dX9_odds_58 : decode cX9_odds 58 = .ok (.lreturn, 1) := by decide +kernel
theorem dX9_mean_0 : decode cX9_mean 0 = .ok (.aload_n 0, 1) := by decide +kernel
theorem dX9_mean_1 : decode cX9_mean 1 = .ok (.iload_n 1, 1) := by decide +kernel
theorem dX9_mean_2 : decode cX9_mean 2 = .ok (.invokevirtual 141, 3) := by decide +kernel
theorem dX9_mean_5 : decode cX9_mean 5 = .ok (.ifCond .eq 12, 3) := by decide +kernel
theorem dX9_mean_8 : decode cX9_mean 8 = .ok (.iload_n 2, 1) := by decide +kernel
theorem dX9_mean_9 : decode cX9_mean 9 = .ok (.iconst 0, 1) := by decide +kernel
theorem dX9_mean_10 : decode cX9_mean 10 = .ok (.iconst 1, 1) := by decide +kernel
theorem dX9_mean_11 : decode cX9_mean 11 = .ok (.invokestatic 103, 3) := by decide +kernel
theorem dX9_mean_14 : decode cX9_mean 14 = .ok (.ifCond .ne 7, 3) := by decide +kernel
theorem dX9_mean_17 : decode cX9_mean 17 = .ok (.ldc2_w 178, 3) := by decide +kernel
theorem dX9_mean_20 : decode cX9_mean 20 = .ok (.lreturn, 1) := by decide +kernel
theorem dX9_mean_21 : decode cX9_mean 21 = .ok (.aload_n 0, 1) := by decide +kernel
theorem dX9_mean_22 : decode cX9_mean 22 = .ok (.getfield 36, 3) := by decide +kernel
theorem dX9_mean_25 : decode cX9_mean 25 = .ok (.iload_n 1, 1) := by decide +kernel
theorem dX9_mean_26 : decode cX9_mean 26 = .ok (.invokevirtual 145, 3) := by decide +kernel
theorem dX9_mean_29 : decode cX9_mean 29 = .ok (.istore_n 3, 1) := by decide +kernel
theorem dX9_mean_30 : decode cX9_mean 30 = .ok (.iload_n 3, 1) := by decide +kernel
theorem dX9_mean_31 : decode cX9_mean 31 = .ok (.bipush (-4), 2) := by decide +kernel
theorem dX9_mean_33 : decode cX9_mean 33 = .ok (.if_icmp .ne 7, 3) := by decide +kernel
theorem dX9_mean_36 : decode cX9_mean 36 = .ok (.ldc2_w 180, 3) := by decide +kernel
theorem dX9_mean_39 : decode cX9_mean 39 = .ok (.lreturn, 1) := by decide +kernel
theorem dX9_mean_40 : decode cX9_mean 40 = .ok (.aload_n 0, 1) := by decide +kernel
theorem dX9_mean_41 : decode cX9_mean 41 = .ok (.invokevirtual 160, 3) := by decide +kernel
theorem dX9_mean_44 : decode cX9_mean 44 = .ok (.astore 4, 2) := by decide +kernel
theorem dX9_mean_46 : decode cX9_mean 46 = .ok (.iload_n 2, 1) := by decide +kernel
theorem dX9_mean_47 : decode cX9_mean 47 = .ok (.ifCond .ne 13, 3) := by decide +kernel
theorem dX9_mean_50 : decode cX9_mean 50 = .ok (.aload 4, 2) := by decide +kernel
theorem dX9_mean_52 : decode cX9_mean 52 = .ok (.getfield 182, 3) := by decide +kernel
theorem dX9_mean_55 : decode cX9_mean 55 = .ok (.iload_n 3, 1) := by decide +kernel
theorem dX9_mean_56 : decode cX9_mean 56 = .ok (.laload, 1) := by decide +kernel
theorem dX9_mean_57 : decode cX9_mean 57 = .ok (.goto 10, 3) := by decide +kernel
theorem dX9_mean_60 : decode cX9_mean 60 = .ok (.aload 4, 2) := by decide +kernel
theorem dX9_mean_62 : decode cX9_mean 62 = .ok (.getfield 186, 3) := by decide +kernel
theorem dX9_mean_65 : decode cX9_mean 65 = .ok (.iload_n 3, 1) := by decide +kernel
theorem dX9_mean_66 : decode cX9_mean 66 = .ok (.laload, 1) := by decide +kernel
theorem dX9_mean_67 : decode cX9_mean 67 = .ok (.lreturn, 1) := by decide +kernel
theorem dX9_wrong_0 : decode cX9_wrong 0 = .ok (.iload_n 1, 1) := by decide +kernel
theorem dX9_wrong_1 : decode cX9_wrong 1 = .ok (.iconst 0, 1) := by decide +kernel
theorem dX9_wrong_2 : decode cX9_wrong 2 = .ok (.iconst 1, 1) := by decide +kernel
theorem dX9_wrong_3 : decode cX9_wrong 3 = .ok (.invokestatic 103, 3) := by decide +kernel
theorem dX9_wrong_6 : decode cX9_wrong 6 = .ok (.ifCond .ne 7, 3) := by decide +kernel
theorem dX9_wrong_9 : decode cX9_wrong 9 = .ok (.ldc2_w 158, 3) := by decide +kernel
theorem dX9_wrong_12 : decode cX9_wrong 12 = .ok (.lreturn, 1) := by decide +kernel
theorem dX9_wrong_13 : decode cX9_wrong 13 = .ok (.aload_n 0, 1) := by decide +kernel
theorem dX9_wrong_14 : decode cX9_wrong 14 = .ok (.invokevirtual 160, 3) := by decide +kernel
theorem dX9_wrong_17 : decode cX9_wrong 17 = .ok (.astore_n 2, 1) := by decide +kernel
theorem dX9_wrong_18 : decode cX9_wrong 18 = .ok (.iload_n 1, 1) := by decide +kernel
theorem dX9_wrong_19 : decode cX9_wrong 19 = .ok (.ifCond .ne 10, 3) := by decide +kernel
theorem dX9_wrong_22 : decode cX9_wrong 22 = .ok (.aload_n 2, 1) := by decide +kernel
theorem dX9_wrong_23 : decode cX9_wrong 23 = .ok (.getfield 189, 3) := by decide +kernel
theorem dX9_wrong_26 : decode cX9_wrong 26 = .ok (.goto 7, 3) := by decide +kernel
theorem dX9_wrong_29 : decode cX9_wrong 29 = .ok (.aload_n 2, 1) := by decide +kernel
theorem dX9_wrong_30 : decode cX9_wrong 30 = .ok (.getfield 192, 3) := by decide +kernel
theorem dX9_wrong_33 : decode cX9_wrong 33 = .ok (.lreturn, 1) := by decide +kernel
theorem dX9_row_0 : decode cX9_row 0 = .ok (.aload_n 0, 1) := by decide +kernel
theorem dX9_row_1 : decode cX9_row 1 = .ok (.iload_n 1, 1) := by decide +kernel
theorem dX9_row_2 : decode cX9_row 2 = .ok (.invokevirtual 141, 3) := by decide +kernel
theorem dX9_row_5 : decode cX9_row 5 = .ok (.ifCond .eq 13, 3) := by decide +kernel
theorem dX9_row_8 : decode cX9_row 8 = .ok (.iload_n 2, 1) := by decide +kernel
theorem dX9_row_9 : decode cX9_row 9 = .ok (.iconst 0, 1) := by decide +kernel
theorem dX9_row_10 : decode cX9_row 10 = .ok (.bipush 30, 2) := by decide +kernel
theorem dX9_row_12 : decode cX9_row 12 = .ok (.invokestatic 103, 3) := by decide +kernel
theorem dX9_row_15 : decode cX9_row 15 = .ok (.ifCond .ne 5, 3) := by decide +kernel
theorem dX9_row_18 : decode cX9_row 18 = .ok (.iconst (-1), 1) := by decide +kernel
theorem dX9_row_19 : decode cX9_row 19 = .ok (.ireturn, 1) := by decide +kernel
theorem dX9_row_20 : decode cX9_row 20 = .ok (.aload_n 0, 1) := by decide +kernel
theorem dX9_row_21 : decode cX9_row 21 = .ok (.getfield 69, 3) := by decide +kernel
theorem dX9_row_24 : decode cX9_row 24 = .ok (.iload_n 1, 1) := by decide +kernel
theorem dX9_row_25 : decode cX9_row 25 = .ok (.iaload, 1) := by decide +kernel
theorem dX9_row_26 : decode cX9_row 26 = .ok (.istore_n 3, 1) := by decide +kernel
theorem dX9_row_27 : decode cX9_row 27 = .ok (.aload_n 0, 1) := by decide +kernel
theorem dX9_row_28 : decode cX9_row 28 = .ok (.getfield 69, 3) := by decide +kernel
theorem dX9_row_31 : decode cX9_row 31 = .ok (.iload_n 1, 1) := by decide +kernel
theorem dX9_row_32 : decode cX9_row 32 = .ok (.iload_n 2, 1) := by decide +kernel
theorem dX9_row_33 : decode cX9_row 33 = .ok (.iastore, 1) := by decide +kernel
theorem dX9_row_34 : decode cX9_row 34 = .ok (.iload_n 3, 1) := by decide +kernel
theorem dX9_row_35 : decode cX9_row 35 = .ok (.ireturn, 1) := by decide +kernel
theorem dX9_judge_0 : decode cX9_judge 0 = .ok (.aload_n 0, 1) := by decide +kernel
theorem dX9_judge_1 : decode cX9_judge 1 = .ok (.invokevirtual 195, 3) := by decide +kernel
theorem dX9_judge_4 : decode cX9_judge 4 = .ok (.iconst 0, 1) := by decide +kernel
theorem dX9_judge_5 : decode cX9_judge 5 = .ok (.istore_n 1, 1) := by decide +kernel
theorem dX9_judge_6 : decode cX9_judge 6 = .ok (.iconst 0, 1) := by decide +kernel
theorem dX9_judge_7 : decode cX9_judge 7 = .ok (.istore_n 2, 1) := by decide +kernel
theorem dX9_judge_8 : decode cX9_judge 8 = .ok (.iload_n 2, 1) := by decide +kernel
theorem dX9_judge_9 : decode cX9_judge 9 = .ok (.aload_n 0, 1) := by decide +kernel
theorem dX9_judge_10 : decode cX9_judge 10 = .ok (.getfield 36, 3) := by decide +kernel
theorem dX9_judge_13 : decode cX9_judge 13 = .ok (.getfield 198, 3) := by decide +kernel
theorem dX9_judge_16 : decode cX9_judge 16 = .ok (.if_icmp .ge 57, 3) := by decide +kernel
theorem dX9_judge_19 : decode cX9_judge 19 = .ok (.aload_n 0, 1) := by decide +kernel
theorem dX9_judge_20 : decode cX9_judge 20 = .ok (.getfield 36, 3) := by decide +kernel
theorem dX9_judge_23 : decode cX9_judge 23 = .ok (.getfield 199, 3) := by decide +kernel
theorem dX9_judge_26 : decode cX9_judge 26 = .ok (.iload_n 2, 1) := by decide +kernel
theorem dX9_judge_27 : decode cX9_judge 27 = .ok (.iaload, 1) := by decide +kernel
theorem dX9_judge_28 : decode cX9_judge 28 = .ok (.istore_n 3, 1) := by decide +kernel
theorem dX9_judge_29 : decode cX9_judge 29 = .ok (.aload_n 0, 1) := by decide +kernel
theorem dX9_judge_30 : decode cX9_judge 30 = .ok (.getfield 46, 3) := by decide +kernel
theorem dX9_judge_33 : decode cX9_judge 33 = .ok (.iload_n 2, 1) := by decide +kernel
theorem dX9_judge_34 : decode cX9_judge 34 = .ok (.aload_n 0, 1) := by decide +kernel
theorem dX9_judge_35 : decode cX9_judge 35 = .ok (.getfield 36, 3) := by decide +kernel
theorem dX9_judge_38 : decode cX9_judge 38 = .ok (.getfield 202, 3) := by decide +kernel
theorem dX9_judge_41 : decode cX9_judge 41 = .ok (.iload_n 2, 1) := by decide +kernel
theorem dX9_judge_42 : decode cX9_judge 42 = .ok (.iaload, 1) := by decide +kernel
theorem dX9_judge_43 : decode cX9_judge 43 = .ok (.iload_n 1, 1) := by decide +kernel
theorem dX9_judge_44 : decode cX9_judge 44 = .ok (.invokevirtual 205, 3) := by decide +kernel
theorem dX9_judge_47 : decode cX9_judge 47 = .ok (.aload_n 0, 1) := by decide +kernel
theorem dX9_judge_48 : decode cX9_judge 48 = .ok (.getfield 69, 3) := by decide +kernel
theorem dX9_judge_51 : decode cX9_judge 51 = .ok (.iload_n 3, 1) := by decide +kernel
theorem dX9_judge_52 : decode cX9_judge 52 = .ok (.iaload, 1) := by decide +kernel
theorem dX9_judge_53 : decode cX9_judge 53 = .ok (.if_icmp .eq 5, 3) := by decide +kernel
theorem dX9_judge_56 : decode cX9_judge 56 = .ok (.iload_n 3, 1) := by decide +kernel
theorem dX9_judge_57 : decode cX9_judge 57 = .ok (.ireturn, 1) := by decide +kernel
theorem dX9_judge_58 : decode cX9_judge 58 = .ok (.iload_n 1, 1) := by decide +kernel
theorem dX9_judge_59 : decode cX9_judge 59 = .ok (.aload_n 0, 1) := by decide +kernel
theorem dX9_judge_60 : decode cX9_judge 60 = .ok (.getfield 69, 3) := by decide +kernel
theorem dX9_judge_63 : decode cX9_judge 63 = .ok (.iload_n 3, 1) := by decide +kernel
theorem dX9_judge_64 : decode cX9_judge 64 = .ok (.iaload, 1) := by decide +kernel
theorem dX9_judge_65 : decode cX9_judge 65 = .ok (.iadd, 1) := by decide +kernel
theorem dX9_judge_66 : decode cX9_judge 66 = .ok (.istore_n 1, 1) := by decide +kernel
theorem dX9_judge_67 : decode cX9_judge 67 = .ok (.iinc 2 1, 3) := by decide +kernel
theorem dX9_judge_70 : decode cX9_judge 70 = .ok (.goto (-62), 3) := by decide +kernel
theorem dX9_judge_73 : decode cX9_judge 73 = .ok (.bipush (-4), 2) := by decide +kernel
theorem dX9_judge_75 : decode cX9_judge 75 = .ok (.ireturn, 1) := by decide +kernel
theorem dX9_made_0 : decode cX9_made 0 = .ok (.iload_n 1, 1) := by decide +kernel
theorem dX9_made_1 : decode cX9_made 1 = .ok (.iconst 0, 1) := by decide +kernel
theorem dX9_made_2 : decode cX9_made 2 = .ok (.iconst 1, 1) := by decide +kernel
theorem dX9_made_3 : decode cX9_made 3 = .ok (.invokestatic 103, 3) := by decide +kernel
theorem dX9_made_6 : decode cX9_made 6 = .ok (.ifCond .ne 5, 3) := by decide +kernel
theorem dX9_made_9 : decode cX9_made 9 = .ok (.iconst (-1), 1) := by decide +kernel
theorem dX9_made_10 : decode cX9_made 10 = .ok (.ireturn, 1) := by decide +kernel
theorem dX9_made_11 : decode cX9_made 11 = .ok (.iconst 0, 1) := by decide +kernel
theorem dX9_made_12 : decode cX9_made 12 = .ok (.istore_n 2, 1) := by decide +kernel
theorem dX9_made_13 : decode cX9_made 13 = .ok (.iconst 0, 1) := by decide +kernel
theorem dX9_made_14 : decode cX9_made 14 = .ok (.istore_n 3, 1) := by decide +kernel
theorem dX9_made_15 : decode cX9_made 15 = .ok (.iconst 0, 1) := by decide +kernel
theorem dX9_made_16 : decode cX9_made 16 = .ok (.istore 4, 2) := by decide +kernel
theorem dX9_made_18 : decode cX9_made 18 = .ok (.iload 4, 2) := by decide +kernel
theorem dX9_made_20 : decode cX9_made 20 = .ok (.aload_n 0, 1) := by decide +kernel
theorem dX9_made_21 : decode cX9_made 21 = .ok (.getfield 36, 3) := by decide +kernel
theorem dX9_made_24 : decode cX9_made 24 = .ok (.getfield 198, 3) := by decide +kernel
theorem dX9_made_27 : decode cX9_made 27 = .ok (.if_icmp .ge 39, 3) := by decide +kernel
theorem dX9_made_30 : decode cX9_made 30 = .ok (.aload_n 0, 1) := by decide +kernel
theorem dX9_made_31 : decode cX9_made 31 = .ok (.getfield 69, 3) := by decide +kernel
theorem dX9_made_34 : decode cX9_made 34 = .ok (.aload_n 0, 1) := by decide +kernel
theorem dX9_made_35 : decode cX9_made 35 = .ok (.getfield 36, 3) := by decide +kernel
theorem dX9_made_38 : decode cX9_made 38 = .ok (.getfield 199, 3) := by decide +kernel
theorem dX9_made_41 : decode cX9_made 41 = .ok (.iload 4, 2) := by decide +kernel
theorem dX9_made_43 : decode cX9_made 43 = .ok (.iaload, 1) := by decide +kernel
theorem dX9_made_44 : decode cX9_made 44 = .ok (.iaload, 1) := by decide +kernel
theorem dX9_made_45 : decode cX9_made 45 = .ok (.istore 5, 2) := by decide +kernel
theorem dX9_made_47 : decode cX9_made 47 = .ok (.iload_n 2, 1) := by decide +kernel
theorem dX9_made_48 : decode cX9_made 48 = .ok (.iload 5, 2) := by decide +kernel
theorem dX9_made_50 : decode cX9_made 50 = .ok (.iadd, 1) := by decide +kernel
theorem dX9_made_51 : decode cX9_made 51 = .ok (.istore_n 2, 1) := by decide +kernel
theorem dX9_made_52 : decode cX9_made 52 = .ok (.iload 5, 2) := by decide +kernel
theorem dX9_made_54 : decode cX9_made 54 = .ok (.ifCond .le 6, 3) := by decide +kernel
theorem dX9_made_57 : decode cX9_made 57 = .ok (.iinc 3 1, 3) := by decide +kernel
theorem dX9_made_60 : decode cX9_made 60 = .ok (.iinc 4 1, 3) := by decide +kernel
theorem dX9_made_63 : decode cX9_made 63 = .ok (.goto (-45), 3) := by decide +kernel
theorem dX9_made_66 : decode cX9_made 66 = .ok (.iload_n 1, 1) := by decide +kernel
theorem dX9_made_67 : decode cX9_made 67 = .ok (.ifCond .ne 5, 3) := by decide +kernel
theorem dX9_made_70 : decode cX9_made 70 = .ok (.iload_n 2, 1) := by decide +kernel
theorem dX9_made_71 : decode cX9_made 71 = .ok (.ireturn, 1) := by decide +kernel
theorem dX9_made_72 : decode cX9_made 72 = .ok (.iload_n 2, 1) := by decide +kernel
theorem dX9_made_73 : decode cX9_made 73 = .ok (.aload_n 0, 1) := by decide +kernel
theorem dX9_made_74 : decode cX9_made 74 = .ok (.getfield 26, 3) := by decide +kernel
theorem dX9_made_77 : decode cX9_made 77 = .ok (.getfield 209, 3) := by decide +kernel
theorem dX9_made_80 : decode cX9_made 80 = .ok (.if_icmp .lt 18, 3) := by decide +kernel
theorem dX9_made_83 : decode cX9_made 83 = .ok (.iload_n 3, 1) := by decide +kernel
theorem dX9_made_84 : decode cX9_made 84 = .ok (.aload_n 0, 1) := by decide +kernel
theorem dX9_made_85 : decode cX9_made 85 = .ok (.getfield 26, 3) := by decide +kernel
theorem dX9_made_88 : decode cX9_made 88 = .ok (.getfield 212, 3) := by decide +kernel
theorem dX9_made_91 : decode cX9_made 91 = .ok (.if_icmp .lt 7, 3) := by decide +kernel
theorem dX9_made_94 : decode cX9_made 94 = .ok (.iconst 1, 1) := by decide +kernel
theorem dX9_made_95 : decode cX9_made 95 = .ok (.goto 4, 3) := by decide +kernel
theorem dX9_made_98 : decode cX9_made 98 = .ok (.iconst 0, 1) := by decide +kernel
theorem dX9_made_99 : decode cX9_made 99 = .ok (.ireturn, 1) := by decide +kernel
theorem dX9_just_0 : decode cX9_just 0 = .ok (.iload_n 1, 1) := by decide +kernel
theorem dX9_just_1 : decode cX9_just 1 = .ok (.iconst (-1), 1) := by decide +kernel
theorem dX9_just_2 : decode cX9_just 2 = .ok (.if_icmp .eq 28, 3) := by decide +kernel
theorem dX9_just_5 : decode cX9_just 5 = .ok (.aload_n 0, 1) := by decide +kernel
theorem dX9_just_6 : decode cX9_just 6 = .ok (.iload_n 1, 1) := by decide +kernel
theorem dX9_just_7 : decode cX9_just 7 = .ok (.invokevirtual 141, 3) := by decide +kernel
theorem dX9_just_10 : decode cX9_just 10 = .ok (.ifCond .eq 16, 3) := by decide +kernel
theorem dX9_just_13 : decode cX9_just 13 = .ok (.aload_n 0, 1) := by decide +kernel
theorem dX9_just_14 : decode cX9_just 14 = .ok (.getfield 36, 3) := by decide +kernel
theorem dX9_just_17 : decode cX9_just 17 = .ok (.iload_n 1, 1) := by decide +kernel
theorem dX9_just_18 : decode cX9_just 18 = .ok (.invokevirtual 145, 3) := by decide +kernel
theorem dX9_just_21 : decode cX9_just 21 = .ok (.bipush (-4), 2) := by decide +kernel
theorem dX9_just_23 : decode cX9_just 23 = .ok (.if_icmp .ne 7, 3) := by decide +kernel
theorem dX9_just_26 : decode cX9_just 26 = .ok (.ldc2_w 158, 3) := by decide +kernel
theorem dX9_just_29 : decode cX9_just 29 = .ok (.lreturn, 1) := by decide +kernel
theorem dX9_just_30 : decode cX9_just 30 = .ok (.aload_n 0, 1) := by decide +kernel
theorem dX9_just_31 : decode cX9_just 31 = .ok (.getfield 63, 3) := by decide +kernel
theorem dX9_just_34 : decode cX9_just 34 = .ok (.aload_n 0, 1) := by decide +kernel
theorem dX9_just_35 : decode cX9_just 35 = .ok (.getfield 26, 3) := by decide +kernel
theorem dX9_just_38 : decode cX9_just 38 = .ok (.aload_n 0, 1) := by decide +kernel
theorem dX9_just_39 : decode cX9_just 39 = .ok (.getfield 36, 3) := by decide +kernel
theorem dX9_just_42 : decode cX9_just 42 = .ok (.invokevirtual 215, 3) := by decide +kernel
theorem dX9_just_45 : decode cX9_just 45 = .ok (.aload_n 0, 1) := by decide +kernel
theorem dX9_just_46 : decode cX9_just 46 = .ok (.getfield 63, 3) := by decide +kernel
theorem dX9_just_49 : decode cX9_just 49 = .ok (.invokevirtual 219, 3) := by decide +kernel
theorem dX9_just_52 : decode cX9_just 52 = .ok (.lstore_n 2, 1) := by decide +kernel
theorem dX9_just_53 : decode cX9_just 53 = .ok (.iload_n 1, 1) := by decide +kernel
theorem dX9_just_54 : decode cX9_just 54 = .ok (.iconst (-1), 1) := by decide +kernel
theorem dX9_just_55 : decode cX9_just 55 = .ok (.if_icmp .ne 5, 3) := by decide +kernel
theorem dX9_just_58 : decode cX9_just 58 = .ok (.lload_n 2, 1) := by decide +kernel
theorem dX9_just_59 : decode cX9_just 59 = .ok (.lreturn, 1) := by decide +kernel
theorem dX9_just_60 : decode cX9_just 60 = .ok (.lload_n 2, 1) := by decide +kernel
theorem dX9_just_61 : decode cX9_just 61 = .ok (.lconst 0, 1) := by decide +kernel
theorem dX9_just_62 : decode cX9_just 62 = .ok (.lcmp, 1) := by decide +kernel
theorem dX9_just_63 : decode cX9_just 63 = .ok (.ifCond .ne 9, 3) := by decide +kernel
theorem dX9_just_66 : decode cX9_just 66 = .ok (.ldc2_w 180, 3) := by decide +kernel
theorem dX9_just_69 : decode cX9_just 69 = .ok (.goto 12, 3) := by decide +kernel
theorem dX9_just_72 : decode cX9_just 72 = .ok (.aload_n 0, 1) := by decide +kernel
theorem dX9_just_73 : decode cX9_just 73 = .ok (.getfield 63, 3) := by decide +kernel
theorem dX9_just_76 : decode cX9_just 76 = .ok (.iload_n 1, 1) := by decide +kernel
theorem dX9_just_77 : decode cX9_just 77 = .ok (.invokevirtual 222, 3) := by decide +kernel
theorem dX9_just_80 : decode cX9_just 80 = .ok (.i2l, 1) := by decide +kernel
theorem dX9_just_81 : decode cX9_just 81 = .ok (.lreturn, 1) := by decide +kernel
theorem dX9_fails_0 : decode cX9_fails 0 = .ok (.aload_n 0, 1) := by decide +kernel
theorem dX9_fails_1 : decode cX9_fails 1 = .ok (.getfield 131, 3) := by decide +kernel
theorem dX9_fails_4 : decode cX9_fails 4 = .ok (.ifCond .ne 34, 3) := by decide +kernel
theorem dX9_fails_7 : decode cX9_fails 7 = .ok (.aload_n 0, 1) := by decide +kernel
theorem dX9_fails_8 : decode cX9_fails 8 = .ok (.getfield 63, 3) := by decide +kernel
theorem dX9_fails_11 : decode cX9_fails 11 = .ok (.aload_n 0, 1) := by decide +kernel
theorem dX9_fails_12 : decode cX9_fails 12 = .ok (.getfield 26, 3) := by decide +kernel
theorem dX9_fails_15 : decode cX9_fails 15 = .ok (.aload_n 0, 1) := by decide +kernel
theorem dX9_fails_16 : decode cX9_fails 16 = .ok (.getfield 36, 3) := by decide +kernel
theorem dX9_fails_19 : decode cX9_fails 19 = .ok (.invokevirtual 215, 3) := by decide +kernel
theorem dX9_fails_22 : decode cX9_fails 22 = .ok (.aload_n 0, 1) := by decide +kernel
theorem dX9_fails_23 : decode cX9_fails 23 = .ok (.aload_n 0, 1) := by decide +kernel
theorem dX9_fails_24 : decode cX9_fails 24 = .ok (.getfield 63, 3) := by decide +kernel
theorem dX9_fails_27 : decode cX9_fails 27 = .ok (.invokevirtual 225, 3) := by decide +kernel
theorem dX9_fails_30 : decode cX9_fails 30 = .ok (.putfield 228, 3) := by decide +kernel
theorem dX9_fails_33 : decode cX9_fails 33 = .ok (.aload_n 0, 1) := by decide +kernel
theorem dX9_fails_34 : decode cX9_fails 34 = .ok (.iconst 1, 1) := by decide +kernel
theorem dX9_fails_35 : decode cX9_fails 35 = .ok (.putfield 131, 3) := by decide +kernel
theorem dX9_fails_38 : decode cX9_fails 38 = .ok (.aload_n 0, 1) := by decide +kernel
theorem dX9_fails_39 : decode cX9_fails 39 = .ok (.getfield 228, 3) := by decide +kernel
theorem dX9_fails_42 : decode cX9_fails 42 = .ok (.lreturn, 1) := by decide +kernel
theorem dX9_bestBar_0 : decode cX9_bestBar 0 = .ok (.iload_n 1, 1) := by decide +kernel
theorem dX9_bestBar_1 : decode cX9_bestBar 1 = .ok (.iconst 0, 1) := by decide +kernel
theorem dX9_bestBar_2 : decode cX9_bestBar 2 = .ok (.iconst 1, 1) := by decide +kernel
theorem dX9_bestBar_3 : decode cX9_bestBar 3 = .ok (.invokestatic 103, 3) := by decide +kernel
theorem dX9_bestBar_6 : decode cX9_bestBar 6 = .ok (.ifCond .ne 7, 3) := by decide +kernel
theorem dX9_bestBar_9 : decode cX9_bestBar 9 = .ok (.ldc2_w 158, 3) := by decide +kernel
theorem dX9_bestBar_12 : decode cX9_bestBar 12 = .ok (.lreturn, 1) := by decide +kernel
theorem dX9_bestBar_13 : decode cX9_bestBar 13 = .ok (.aload_n 0, 1) := by decide +kernel
theorem dX9_bestBar_14 : decode cX9_bestBar 14 = .ok (.getfield 231, 3) := by decide +kernel
theorem dX9_bestBar_17 : decode cX9_bestBar 17 = .ok (.ifCond .ne 12, 3) := by decide +kernel
theorem dX9_bestBar_20 : decode cX9_bestBar 20 = .ok (.aload_n 0, 1) := by decide +kernel
theorem dX9_bestBar_21 : decode cX9_bestBar 21 = .ok (.invokevirtual 234, 3) := by decide +kernel
theorem dX9_bestBar_24 : decode cX9_bestBar 24 = .ok (.aload_n 0, 1) := by decide +kernel
theorem dX9_bestBar_25 : decode cX9_bestBar 25 = .ok (.iconst 1, 1) := by decide +kernel
theorem dX9_bestBar_26 : decode cX9_bestBar 26 = .ok (.putfield 231, 3) := by decide +kernel
theorem dX9_bestBar_29 : decode cX9_bestBar 29 = .ok (.iload_n 1, 1) := by decide +kernel
theorem dX9_bestBar_30 : decode cX9_bestBar 30 = .ok (.ifCond .ne 11, 3) := by decide +kernel
theorem dX9_bestBar_33 : decode cX9_bestBar 33 = .ok (.aload_n 0, 1) := by decide +kernel
theorem dX9_bestBar_34 : decode cX9_bestBar 34 = .ok (.getfield 237, 3) := by decide +kernel
theorem dX9_bestBar_37 : decode cX9_bestBar 37 = .ok (.i2l, 1) := by decide +kernel
theorem dX9_bestBar_38 : decode cX9_bestBar 38 = .ok (.goto 7, 3) := by decide +kernel
theorem dX9_bestBar_41 : decode cX9_bestBar 41 = .ok (.aload_n 0, 1) := by decide +kernel
theorem dX9_bestBar_42 : decode cX9_bestBar 42 = .ok (.getfield 240, 3) := by decide +kernel
theorem dX9_bestBar_45 : decode cX9_bestBar 45 = .ok (.lreturn, 1) := by decide +kernel
theorem dX9_bestDay_0 : decode cX9_bestDay 0 = .ok (.iconst 0, 1) := by decide +kernel
theorem dX9_bestDay_1 : decode cX9_bestDay 1 = .ok (.istore_n 1, 1) := by decide +kernel
theorem dX9_bestDay_2 : decode cX9_bestDay 2 = .ok (.ldc2_w 158, 3) := by decide +kernel
theorem dX9_bestDay_5 : decode cX9_bestDay 5 = .ok (.lstore_n 2, 1) := by decide +kernel
theorem dX9_bestDay_6 : decode cX9_bestDay 6 = .ok (.iconst 0, 1) := by decide +kernel
theorem dX9_bestDay_7 : decode cX9_bestDay 7 = .ok (.istore 4, 2) := by decide +kernel
theorem dX9_bestDay_9 : decode cX9_bestDay 9 = .ok (.iload 4, 2) := by decide +kernel
theorem dX9_bestDay_11 : decode cX9_bestDay 11 = .ok (.bipush 30, 2) := by decide +kernel
theorem dX9_bestDay_13 : decode cX9_bestDay 13 = .ok (.if_icmp .gt 98, 3) := by decide +kernel
theorem dX9_bestDay_16 : decode cX9_bestDay 16 = .ok (.aload_n 0, 1) := by decide +kernel
theorem dX9_bestDay_17 : decode cX9_bestDay 17 = .ok (.getfield 40, 3) := by decide +kernel
theorem dX9_bestDay_20 : decode cX9_bestDay 20 = .ok (.aload_n 0, 1) := by decide +kernel
theorem dX9_bestDay_21 : decode cX9_bestDay 21 = .ok (.getfield 26, 3) := by decide +kernel
theorem dX9_bestDay_24 : decode cX9_bestDay 24 = .ok (.iload 4, 2) := by decide +kernel
theorem dX9_bestDay_26 : decode cX9_bestDay 26 = .ok (.invokevirtual 99, 3) := by decide +kernel
theorem dX9_bestDay_29 : decode cX9_bestDay 29 = .ok (.istore 5, 2) := by decide +kernel
theorem dX9_bestDay_31 : decode cX9_bestDay 31 = .ok (.iload 4, 2) := by decide +kernel
theorem dX9_bestDay_33 : decode cX9_bestDay 33 = .ok (.ifCond .le 11, 3) := by decide +kernel
theorem dX9_bestDay_36 : decode cX9_bestDay 36 = .ok (.iload 5, 2) := by decide +kernel
theorem dX9_bestDay_38 : decode cX9_bestDay 38 = .ok (.ifCond .ne 6, 3) := by decide +kernel
theorem dX9_bestDay_41 : decode cX9_bestDay 41 = .ok (.goto 64, 3) := by decide +kernel
theorem dX9_bestDay_44 : decode cX9_bestDay 44 = .ok (.aload_n 0, 1) := by decide +kernel
theorem dX9_bestDay_45 : decode cX9_bestDay 45 = .ok (.getfield 46, 3) := by decide +kernel
theorem dX9_bestDay_48 : decode cX9_bestDay 48 = .ok (.aload_n 0, 1) := by decide +kernel
theorem dX9_bestDay_49 : decode cX9_bestDay 49 = .ok (.getfield 26, 3) := by decide +kernel
theorem dX9_bestDay_52 : decode cX9_bestDay 52 = .ok (.aload_n 0, 1) := by decide +kernel
theorem dX9_bestDay_53 : decode cX9_bestDay 53 = .ok (.getfield 40, 3) := by decide +kernel
theorem dX9_bestDay_56 : decode cX9_bestDay 56 = .ok (.aload_n 0, 1) := by decide +kernel
theorem dX9_bestDay_57 : decode cX9_bestDay 57 = .ok (.getfield 125, 3) := by decide +kernel
theorem dX9_bestDay_60 : decode cX9_bestDay 60 = .ok (.invokevirtual 243, 3) := by decide +kernel
theorem dX9_bestDay_63 : decode cX9_bestDay 63 = .ok (.aload_n 0, 1) := by decide +kernel
theorem dX9_bestDay_64 : decode cX9_bestDay 64 = .ok (.getfield 57, 3) := by decide +kernel
theorem dX9_bestDay_67 : decode cX9_bestDay 67 = .ok (.aload_n 0, 1) := by decide +kernel
theorem dX9_bestDay_68 : decode cX9_bestDay 68 = .ok (.getfield 46, 3) := by decide +kernel
theorem dX9_bestDay_71 : decode cX9_bestDay 71 = .ok (.iconst 0, 1) := by decide +kernel
theorem dX9_bestDay_72 : decode cX9_bestDay 72 = .ok (.invokevirtual 247, 3) := by decide +kernel
theorem dX9_bestDay_75 : decode cX9_bestDay 75 = .ok (.aload_n 0, 1) := by decide +kernel
theorem dX9_bestDay_76 : decode cX9_bestDay 76 = .ok (.getfield 57, 3) := by decide +kernel
theorem dX9_bestDay_79 : decode cX9_bestDay 79 = .ok (.getfield 164, 3) := by decide +kernel
theorem dX9_bestDay_82 : decode cX9_bestDay 82 = .ok (.aload_n 0, 1) := by decide +kernel
theorem dX9_bestDay_83 : decode cX9_bestDay 83 = .ok (.getfield 40, 3) := by decide +kernel
theorem dX9_bestDay_86 : decode cX9_bestDay 86 = .ok (.invokevirtual 251, 3) := by decide +kernel
theorem dX9_bestDay_89 : decode cX9_bestDay 89 = .ok (.lmul, 1) := by decide +kernel
theorem dX9_bestDay_90 : decode cX9_bestDay 90 = .ok (.lstore 6, 2) := by decide +kernel
theorem dX9_bestDay_92 : decode cX9_bestDay 92 = .ok (.lload 6, 2) := by decide +kernel
theorem dX9_bestDay_94 : decode cX9_bestDay 94 = .ok (.lload_n 2, 1) := by decide +kernel
theorem dX9_bestDay_95 : decode cX9_bestDay 95 = .ok (.lcmp, 1) := by decide +kernel
theorem dX9_bestDay_96 : decode cX9_bestDay 96 = .ok (.ifCond .le 9, 3) := by decide +kernel
theorem dX9_bestDay_99 : decode cX9_bestDay 99 = .ok (.lload 6, 2) := by decide +kernel
theorem dX9_bestDay_101 : decode cX9_bestDay 101 = .ok (.lstore_n 2, 1) := by decide +kernel
theorem dX9_bestDay_102 : decode cX9_bestDay 102 = .ok (.iload 4, 2) := by decide +kernel
theorem dX9_bestDay_104 : decode cX9_bestDay 104 = .ok (.istore_n 1, 1) := by decide +kernel
theorem dX9_bestDay_105 : decode cX9_bestDay 105 = .ok (.iinc 4 1, 3) := by decide +kernel
theorem dX9_bestDay_108 : decode cX9_bestDay 108 = .ok (.goto (-99), 3) := by decide +kernel
theorem dX9_bestDay_111 : decode cX9_bestDay 111 = .ok (.iload_n 1, 1) := by decide +kernel
theorem dX9_bestDay_112 : decode cX9_bestDay 112 = .ok (.ireturn, 1) := by decide +kernel
theorem dX9_extra_0 : decode cX9_extra 0 = .ok (.iload_n 1, 1) := by decide +kernel
theorem dX9_extra_1 : decode cX9_extra 1 = .ok (.iconst 0, 1) := by decide +kernel
theorem dX9_extra_2 : decode cX9_extra 2 = .ok (.bipush 10, 2) := by decide +kernel
theorem dX9_extra_4 : decode cX9_extra 4 = .ok (.invokestatic 103, 3) := by decide +kernel
theorem dX9_extra_7 : decode cX9_extra 7 = .ok (.ifCond .ne 5, 3) := by decide +kernel
theorem dX9_extra_10 : decode cX9_extra 10 = .ok (.iconst (-1), 1) := by decide +kernel
theorem dX9_extra_11 : decode cX9_extra 11 = .ok (.ireturn, 1) := by decide +kernel
theorem dX9_extra_12 : decode cX9_extra 12 = .ok (.iconst 0, 1) := by decide +kernel
theorem dX9_extra_13 : decode cX9_extra 13 = .ok (.istore_n 2, 1) := by decide +kernel
theorem dX9_extra_14 : decode cX9_extra 14 = .ok (.iload_n 2, 1) := by decide +kernel
theorem dX9_extra_15 : decode cX9_extra 15 = .ok (.bipush 9, 2) := by decide +kernel
theorem dX9_extra_17 : decode cX9_extra 17 = .ok (.if_icmp .gt 60, 3) := by decide +kernel
theorem dX9_extra_20 : decode cX9_extra 20 = .ok (.aload_n 0, 1) := by decide +kernel
theorem dX9_extra_21 : decode cX9_extra 21 = .ok (.invokevirtual 195, 3) := by decide +kernel
theorem dX9_extra_24 : decode cX9_extra 24 = .ok (.aload_n 0, 1) := by decide +kernel
theorem dX9_extra_25 : decode cX9_extra 25 = .ok (.getfield 46, 3) := by decide +kernel
theorem dX9_extra_28 : decode cX9_extra 28 = .ok (.iload_n 2, 1) := by decide +kernel
theorem dX9_extra_29 : decode cX9_extra 29 = .ok (.putfield 254, 3) := by decide +kernel
theorem dX9_extra_32 : decode cX9_extra 32 = .ok (.aload_n 0, 1) := by decide +kernel
theorem dX9_extra_33 : decode cX9_extra 33 = .ok (.getfield 57, 3) := by decide +kernel
theorem dX9_extra_36 : decode cX9_extra 36 = .ok (.aload_n 0, 1) := by decide +kernel
theorem dX9_extra_37 : decode cX9_extra 37 = .ok (.getfield 46, 3) := by decide +kernel
theorem dX9_extra_40 : decode cX9_extra 40 = .ok (.iconst 0, 1) := by decide +kernel
theorem dX9_extra_41 : decode cX9_extra 41 = .ok (.invokevirtual 247, 3) := by decide +kernel
theorem dX9_extra_44 : decode cX9_extra 44 = .ok (.aload_n 0, 1) := by decide +kernel
theorem dX9_extra_45 : decode cX9_extra 45 = .ok (.getfield 57, 3) := by decide +kernel
theorem dX9_extra_48 : decode cX9_extra 48 = .ok (.getfield 164, 3) := by decide +kernel
theorem dX9_extra_51 : decode cX9_extra 51 = .ok (.ldc2_w 257, 3) := by decide +kernel
theorem dX9_extra_54 : decode cX9_extra 54 = .ok (.lmul, 1) := by decide +kernel
theorem dX9_extra_55 : decode cX9_extra 55 = .ok (.iload_n 1, 1) := by decide +kernel
theorem dX9_extra_56 : decode cX9_extra 56 = .ok (.i2l, 1) := by decide +kernel
theorem dX9_extra_57 : decode cX9_extra 57 = .ok (.aload_n 0, 1) := by decide +kernel
theorem dX9_extra_58 : decode cX9_extra 58 = .ok (.getfield 36, 3) := by decide +kernel
theorem dX9_extra_61 : decode cX9_extra 61 = .ok (.invokevirtual 168, 3) := by decide +kernel
theorem dX9_extra_64 : decode cX9_extra 64 = .ok (.lmul, 1) := by decide +kernel
theorem dX9_extra_65 : decode cX9_extra 65 = .ok (.lcmp, 1) := by decide +kernel
theorem dX9_extra_66 : decode cX9_extra 66 = .ok (.ifCond .lt 5, 3) := by decide +kernel
theorem dX9_extra_69 : decode cX9_extra 69 = .ok (.iload_n 2, 1) := by decide +kernel
theorem dX9_extra_70 : decode cX9_extra 70 = .ok (.ireturn, 1) := by decide +kernel
theorem dX9_extra_71 : decode cX9_extra 71 = .ok (.iinc 2 1, 3) := by decide +kernel
theorem dX9_extra_74 : decode cX9_extra 74 = .ok (.goto (-60), 3) := by decide +kernel
theorem dX9_extra_77 : decode cX9_extra 77 = .ok (.bipush (-4), 2) := by decide +kernel
theorem dX9_extra_79 : decode cX9_extra 79 = .ok (.ireturn, 1) := by decide +kernel
theorem dX9_bestShow_0 : decode cX9_bestShow 0 = .ok (.iconst 0, 1) := by decide +kernel
theorem dX9_bestShow_1 : decode cX9_bestShow 1 = .ok (.istore_n 1, 1) := by decide +kernel
theorem dX9_bestShow_2 : decode cX9_bestShow 2 = .ok (.ldc2_w 158, 3) := by decide +kernel
theorem dX9_bestShow_5 : decode cX9_bestShow 5 = .ok (.lstore_n 2, 1) := by decide +kernel
theorem dX9_bestShow_6 : decode cX9_bestShow 6 = .ok (.iconst 0, 1) := by decide +kernel
theorem dX9_bestShow_7 : decode cX9_bestShow 7 = .ok (.istore 4, 2) := by decide +kernel
theorem dX9_bestShow_9 : decode cX9_bestShow 9 = .ok (.iload 4, 2) := by decide +kernel
theorem dX9_bestShow_11 : decode cX9_bestShow 11 = .ok (.iconst 2, 1) := by decide +kernel
theorem dX9_bestShow_12 : decode cX9_bestShow 12 = .ok (.if_icmp .gt 61, 3) := by decide +kernel
theorem dX9_bestShow_15 : decode cX9_bestShow 15 = .ok (.aload_n 0, 1) := by decide +kernel
theorem dX9_bestShow_16 : decode cX9_bestShow 16 = .ok (.getfield 46, 3) := by decide +kernel
theorem dX9_bestShow_19 : decode cX9_bestShow 19 = .ok (.aload_n 0, 1) := by decide +kernel
theorem dX9_bestShow_20 : decode cX9_bestShow 20 = .ok (.getfield 26, 3) := by decide +kernel
theorem dX9_bestShow_23 : decode cX9_bestShow 23 = .ok (.aload_n 0, 1) := by decide +kernel
theorem dX9_bestShow_24 : decode cX9_bestShow 24 = .ok (.getfield 36, 3) := by decide +kernel
theorem dX9_bestShow_27 : decode cX9_bestShow 27 = .ok (.iload 4, 2) := by decide +kernel
theorem dX9_bestShow_29 : decode cX9_bestShow 29 = .ok (.invokevirtual 243, 3) := by decide +kernel
theorem dX9_bestShow_32 : decode cX9_bestShow 32 = .ok (.aload_n 0, 1) := by decide +kernel
theorem dX9_bestShow_33 : decode cX9_bestShow 33 = .ok (.getfield 57, 3) := by decide +kernel
theorem dX9_bestShow_36 : decode cX9_bestShow 36 = .ok (.aload_n 0, 1) := by decide +kernel
theorem dX9_bestShow_37 : decode cX9_bestShow 37 = .ok (.getfield 46, 3) := by decide +kernel
theorem dX9_bestShow_40 : decode cX9_bestShow 40 = .ok (.iconst 0, 1) := by decide +kernel
theorem dX9_bestShow_41 : decode cX9_bestShow 41 = .ok (.invokevirtual 247, 3) := by decide +kernel
theorem dX9_bestShow_44 : decode cX9_bestShow 44 = .ok (.aload_n 0, 1) := by decide +kernel
theorem dX9_bestShow_45 : decode cX9_bestShow 45 = .ok (.getfield 57, 3) := by decide +kernel
theorem dX9_bestShow_48 : decode cX9_bestShow 48 = .ok (.getfield 164, 3) := by decide +kernel
theorem dX9_bestShow_51 : decode cX9_bestShow 51 = .ok (.lload_n 2, 1) := by decide +kernel
theorem dX9_bestShow_52 : decode cX9_bestShow 52 = .ok (.lcmp, 1) := by decide +kernel
theorem dX9_bestShow_53 : decode cX9_bestShow 53 = .ok (.ifCond .le 14, 3) := by decide +kernel
theorem dX9_bestShow_56 : decode cX9_bestShow 56 = .ok (.aload_n 0, 1) := by decide +kernel
theorem dX9_bestShow_57 : decode cX9_bestShow 57 = .ok (.getfield 57, 3) := by decide +kernel
theorem dX9_bestShow_60 : decode cX9_bestShow 60 = .ok (.getfield 164, 3) := by decide +kernel
theorem dX9_bestShow_63 : decode cX9_bestShow 63 = .ok (.lstore_n 2, 1) := by decide +kernel
theorem dX9_bestShow_64 : decode cX9_bestShow 64 = .ok (.iload 4, 2) := by decide +kernel
theorem dX9_bestShow_66 : decode cX9_bestShow 66 = .ok (.istore_n 1, 1) := by decide +kernel
theorem dX9_bestShow_67 : decode cX9_bestShow 67 = .ok (.iinc 4 1, 3) := by decide +kernel
theorem dX9_bestShow_70 : decode cX9_bestShow 70 = .ok (.goto (-61), 3) := by decide +kernel
theorem dX9_bestShow_73 : decode cX9_bestShow 73 = .ok (.iload_n 1, 1) := by decide +kernel
theorem dX9_bestShow_74 : decode cX9_bestShow 74 = .ok (.ireturn, 1) := by decide +kernel
theorem dX9_rich_0 : decode cX9_rich 0 = .ok (.iload_n 1, 1) := by decide +kernel
theorem dX9_rich_1 : decode cX9_rich 1 = .ok (.iconst 0, 1) := by decide +kernel
theorem dX9_rich_2 : decode cX9_rich 2 = .ok (.bipush 99, 2) := by decide +kernel
theorem dX9_rich_4 : decode cX9_rich 4 = .ok (.invokestatic 103, 3) := by decide +kernel
theorem dX9_rich_7 : decode cX9_rich 7 = .ok (.ifCond .eq 18, 3) := by decide +kernel
theorem dX9_rich_10 : decode cX9_rich 10 = .ok (.iload_n 2, 1) := by decide +kernel
theorem dX9_rich_11 : decode cX9_rich 11 = .ok (.iconst 0, 1) := by decide +kernel
theorem dX9_rich_12 : decode cX9_rich 12 = .ok (.aload_n 0, 1) := by decide +kernel
theorem dX9_rich_13 : decode cX9_rich 13 = .ok (.getfield 26, 3) := by decide +kernel
theorem dX9_rich_16 : decode cX9_rich 16 = .ok (.getfield 95, 3) := by decide +kernel
theorem dX9_rich_19 : decode cX9_rich 19 = .ok (.invokestatic 103, 3) := by decide +kernel
theorem dX9_rich_22 : decode cX9_rich 22 = .ok (.ifCond .ne 7, 3) := by decide +kernel
theorem dX9_rich_25 : decode cX9_rich 25 = .ok (.ldc2_w 158, 3) := by decide +kernel
theorem dX9_rich_28 : decode cX9_rich 28 = .ok (.lreturn, 1) := by decide +kernel
theorem dX9_rich_29 : decode cX9_rich 29 = .ok (.aload_n 0, 1) := by decide +kernel
theorem dX9_rich_30 : decode cX9_rich 30 = .ok (.iload_n 1, 1) := by decide +kernel
theorem dX9_rich_31 : decode cX9_rich 31 = .ok (.aload_n 0, 1) := by decide +kernel
theorem dX9_rich_32 : decode cX9_rich 32 = .ok (.getfield 36, 3) := by decide +kernel
theorem dX9_rich_35 : decode cX9_rich 35 = .ok (.iload_n 2, 1) := by decide +kernel
theorem dX9_rich_36 : decode cX9_rich 36 = .ok (.invokevirtual 259, 3) := by decide +kernel
theorem dX9_rich_39 : decode cX9_rich 39 = .ok (.invokevirtual 262, 3) := by decide +kernel
theorem dX9_rich_42 : decode cX9_rich 42 = .ok (.lreturn, 1) := by decide +kernel
theorem dX9_richDay_0 : decode cX9_richDay 0 = .ok (.iload_n 1, 1) := by decide +kernel
theorem dX9_richDay_1 : decode cX9_richDay 1 = .ok (.iconst 0, 1) := by decide +kernel
theorem dX9_richDay_2 : decode cX9_richDay 2 = .ok (.bipush 99, 2) := by decide +kernel
theorem dX9_richDay_4 : decode cX9_richDay 4 = .ok (.invokestatic 103, 3) := by decide +kernel
theorem dX9_richDay_7 : decode cX9_richDay 7 = .ok (.ifCond .ne 5, 3) := by decide +kernel
theorem dX9_richDay_10 : decode cX9_richDay 10 = .ok (.iconst (-1), 1) := by decide +kernel
theorem dX9_richDay_11 : decode cX9_richDay 11 = .ok (.ireturn, 1) := by decide +kernel
theorem dX9_richDay_12 : decode cX9_richDay 12 = .ok (.iconst 0, 1) := by decide +kernel
theorem dX9_richDay_13 : decode cX9_richDay 13 = .ok (.istore_n 2, 1) := by decide +kernel
theorem dX9_richDay_14 : decode cX9_richDay 14 = .ok (.ldc2_w 158, 3) := by decide +kernel
theorem dX9_richDay_17 : decode cX9_richDay 17 = .ok (.lstore_n 3, 1) := by decide +kernel
theorem dX9_richDay_18 : decode cX9_richDay 18 = .ok (.iconst (-1), 1) := by decide +kernel
theorem dX9_richDay_19 : decode cX9_richDay 19 = .ok (.istore 5, 2) := by decide +kernel
theorem dX9_richDay_21 : decode cX9_richDay 21 = .ok (.iconst 0, 1) := by decide +kernel
theorem dX9_richDay_22 : decode cX9_richDay 22 = .ok (.istore 6, 2) := by decide +kernel
theorem dX9_richDay_24 : decode cX9_richDay 24 = .ok (.iload 6, 2) := by decide +kernel
theorem dX9_richDay_26 : decode cX9_richDay 26 = .ok (.aload_n 0, 1) := by decide +kernel
theorem dX9_richDay_27 : decode cX9_richDay 27 = .ok (.getfield 26, 3) := by decide +kernel
theorem dX9_richDay_30 : decode cX9_richDay 30 = .ok (.getfield 95, 3) := by decide +kernel
theorem dX9_richDay_33 : decode cX9_richDay 33 = .ok (.if_icmp .gt 56, 3) := by decide +kernel
theorem dX9_richDay_36 : decode cX9_richDay 36 = .ok (.aload_n 0, 1) := by decide +kernel
theorem dX9_richDay_37 : decode cX9_richDay 37 = .ok (.getfield 36, 3) := by decide +kernel
theorem dX9_richDay_40 : decode cX9_richDay 40 = .ok (.iload 6, 2) := by decide +kernel
theorem dX9_richDay_42 : decode cX9_richDay 42 = .ok (.invokevirtual 259, 3) := by decide +kernel
theorem dX9_richDay_45 : decode cX9_richDay 45 = .ok (.istore 7, 2) := by decide +kernel
theorem dX9_richDay_47 : decode cX9_richDay 47 = .ok (.iload 7, 2) := by decide +kernel
theorem dX9_richDay_49 : decode cX9_richDay 49 = .ok (.iload 5, 2) := by decide +kernel
theorem dX9_richDay_51 : decode cX9_richDay 51 = .ok (.if_icmp .ne 6, 3) := by decide +kernel
theorem dX9_richDay_54 : decode cX9_richDay 54 = .ok (.goto 29, 3) := by decide +kernel
theorem dX9_richDay_57 : decode cX9_richDay 57 = .ok (.iload 7, 2) := by decide +kernel
theorem dX9_richDay_59 : decode cX9_richDay 59 = .ok (.istore 5, 2) := by decide +kernel
theorem dX9_richDay_61 : decode cX9_richDay 61 = .ok (.aload_n 0, 1) := by decide +kernel
theorem dX9_richDay_62 : decode cX9_richDay 62 = .ok (.iload_n 1, 1) := by decide +kernel
theorem dX9_richDay_63 : decode cX9_richDay 63 = .ok (.iload 7, 2) := by decide +kernel
theorem dX9_richDay_65 : decode cX9_richDay 65 = .ok (.invokevirtual 262, 3) := by decide +kernel
theorem dX9_richDay_68 : decode cX9_richDay 68 = .ok (.lstore 8, 2) := by decide +kernel
theorem dX9_richDay_70 : decode cX9_richDay 70 = .ok (.lload 8, 2) := by decide +kernel
theorem dX9_richDay_72 : decode cX9_richDay 72 = .ok (.lload_n 3, 1) := by decide +kernel
theorem dX9_richDay_73 : decode cX9_richDay 73 = .ok (.lcmp, 1) := by decide +kernel
theorem dX9_richDay_74 : decode cX9_richDay 74 = .ok (.ifCond .le 9, 3) := by decide +kernel
theorem dX9_richDay_77 : decode cX9_richDay 77 = .ok (.lload 8, 2) := by decide +kernel
theorem dX9_richDay_79 : decode cX9_richDay 79 = .ok (.lstore_n 3, 1) := by decide +kernel
theorem dX9_richDay_80 : decode cX9_richDay 80 = .ok (.iload 6, 2) := by decide +kernel
theorem dX9_richDay_82 : decode cX9_richDay 82 = .ok (.istore_n 2, 1) := by decide +kernel
theorem dX9_richDay_83 : decode cX9_richDay 83 = .ok (.iinc 6 1, 3) := by decide +kernel
theorem dX9_richDay_86 : decode cX9_richDay 86 = .ok (.goto (-62), 3) := by decide +kernel
theorem dX9_richDay_89 : decode cX9_richDay 89 = .ok (.iload_n 2, 1) := by decide +kernel
theorem dX9_richDay_90 : decode cX9_richDay 90 = .ok (.ireturn, 1) := by decide +kernel
theorem dX9_two_0 : decode cX9_two 0 = .ok (.iload_n 1, 1) := by decide +kernel
theorem dX9_two_1 : decode cX9_two 1 = .ok (.iconst 0, 1) := by decide +kernel
theorem dX9_two_2 : decode cX9_two 2 = .ok (.iconst 2, 1) := by decide +kernel
theorem dX9_two_3 : decode cX9_two 3 = .ok (.invokestatic 103, 3) := by decide +kernel
theorem dX9_two_6 : decode cX9_two 6 = .ok (.ifCond .ne 7, 3) := by decide +kernel
theorem dX9_two_9 : decode cX9_two 9 = .ok (.ldc2_w 158, 3) := by decide +kernel
theorem dX9_two_12 : decode cX9_two 12 = .ok (.lreturn, 1) := by decide +kernel
theorem dX9_two_13 : decode cX9_two 13 = .ok (.aload_n 0, 1) := by decide +kernel
theorem dX9_two_14 : decode cX9_two 14 = .ok (.getfield 26, 3) := by decide +kernel
theorem dX9_two_17 : decode cX9_two 17 = .ok (.getfield 266, 3) := by decide +kernel
theorem dX9_two_20 : decode cX9_two 20 = .ok (.ifCond .ne 7, 3) := by decide +kernel
theorem dX9_two_23 : decode cX9_two 23 = .ok (.ldc2_w 269, 3) := by decide +kernel
theorem dX9_two_26 : decode cX9_two 26 = .ok (.lreturn, 1) := by decide +kernel
theorem dX9_two_27 : decode cX9_two 27 = .ok (.aload_n 0, 1) := by decide +kernel
theorem dX9_two_28 : decode cX9_two 28 = .ok (.invokevirtual 160, 3) := by decide +kernel
theorem dX9_two_31 : decode cX9_two 31 = .ok (.astore_n 2, 1) := by decide +kernel
theorem dX9_two_32 : decode cX9_two 32 = .ok (.iload_n 1, 1) := by decide +kernel
theorem dX9_two_33 : decode cX9_two 33 = .ok (.ifCond .ne 8, 3) := by decide +kernel
theorem dX9_two_36 : decode cX9_two 36 = .ok (.aload_n 2, 1) := by decide +kernel
theorem dX9_two_37 : decode cX9_two 37 = .ok (.getfield 164, 3) := by decide +kernel
theorem dX9_two_40 : decode cX9_two 40 = .ok (.lreturn, 1) := by decide +kernel
theorem dX9_two_41 : decode cX9_two 41 = .ok (.iload_n 1, 1) := by decide +kernel
theorem dX9_two_42 : decode cX9_two 42 = .ok (.iconst 1, 1) := by decide +kernel
theorem dX9_two_43 : decode cX9_two 43 = .ok (.if_icmp .ne 10, 3) := by decide +kernel
theorem dX9_two_46 : decode cX9_two 46 = .ok (.aload_n 2, 1) := by decide +kernel
theorem dX9_two_47 : decode cX9_two 47 = .ok (.getfield 271, 3) := by decide +kernel
theorem dX9_two_50 : decode cX9_two 50 = .ok (.goto 7, 3) := by decide +kernel
theorem dX9_two_53 : decode cX9_two 53 = .ok (.aload_n 2, 1) := by decide +kernel
theorem dX9_two_54 : decode cX9_two 54 = .ok (.getfield 274, 3) := by decide +kernel
theorem dX9_two_57 : decode cX9_two 57 = .ok (.lreturn, 1) := by decide +kernel
theorem dX9_evening_0 : decode cX9_evening 0 = .ok (.iload_n 1, 1) := by decide +kernel
theorem dX9_evening_1 : decode cX9_evening 1 = .ok (.iconst 0, 1) := by decide +kernel
theorem dX9_evening_2 : decode cX9_evening 2 = .ok (.sipush 9999, 3) := by decide +kernel
theorem dX9_evening_5 : decode cX9_evening 5 = .ok (.invokestatic 103, 3) := by decide +kernel
theorem dX9_evening_8 : decode cX9_evening 8 = .ok (.ifCond .eq 20, 3) := by decide +kernel
theorem dX9_evening_11 : decode cX9_evening 11 = .ok (.aload_n 0, 1) := by decide +kernel
theorem dX9_evening_12 : decode cX9_evening 12 = .ok (.iload_n 2, 1) := by decide +kernel
theorem dX9_evening_13 : decode cX9_evening 13 = .ok (.invokevirtual 141, 3) := by decide +kernel
theorem dX9_evening_16 : decode cX9_evening 16 = .ok (.ifCond .eq 12, 3) := by decide +kernel
theorem dX9_evening_19 : decode cX9_evening 19 = .ok (.iload_n 3, 1) := by decide +kernel
theorem dX9_evening_20 : decode cX9_evening 20 = .ok (.iconst 0, 1) := by decide +kernel
theorem dX9_evening_21 : decode cX9_evening 21 = .ok (.iconst 1, 1) := by decide +kernel
theorem dX9_evening_22 : decode cX9_evening 22 = .ok (.invokestatic 103, 3) := by decide +kernel
theorem dX9_evening_25 : decode cX9_evening 25 = .ok (.ifCond .ne 7, 3) := by decide +kernel
theorem dX9_evening_28 : decode cX9_evening 28 = .ok (.sipush (-1001), 3) := by decide +kernel
theorem dX9_evening_31 : decode cX9_evening 31 = .ok (.ireturn, 1) := by decide +kernel
theorem dX9_evening_32 : decode cX9_evening 32 = .ok (.aload_n 0, 1) := by decide +kernel
theorem dX9_evening_33 : decode cX9_evening 33 = .ok (.getfield 36, 3) := by decide +kernel
theorem dX9_evening_36 : decode cX9_evening 36 = .ok (.iload_n 2, 1) := by decide +kernel
theorem dX9_evening_37 : decode cX9_evening 37 = .ok (.invokevirtual 145, 3) := by decide +kernel
theorem dX9_evening_40 : decode cX9_evening 40 = .ok (.istore 4, 2) := by decide +kernel
theorem dX9_evening_42 : decode cX9_evening 42 = .ok (.iload 4, 2) := by decide +kernel
theorem dX9_evening_44 : decode cX9_evening 44 = .ok (.bipush (-4), 2) := by decide +kernel
theorem dX9_evening_46 : decode cX9_evening 46 = .ok (.if_icmp .ne 7, 3) := by decide +kernel
theorem dX9_evening_49 : decode cX9_evening 49 = .ok (.sipush (-1004), 3) := by decide +kernel
theorem dX9_evening_52 : decode cX9_evening 52 = .ok (.ireturn, 1) := by decide +kernel
theorem dX9_evening_53 : decode cX9_evening 53 = .ok (.aload_n 0, 1) := by decide +kernel
theorem dX9_evening_54 : decode cX9_evening 54 = .ok (.iload_n 1, 1) := by decide +kernel
theorem dX9_evening_55 : decode cX9_evening 55 = .ok (.invokevirtual 277, 3) := by decide +kernel
theorem dX9_evening_58 : decode cX9_evening 58 = .ok (.iload_n 3, 1) := by decide +kernel
theorem dX9_evening_59 : decode cX9_evening 59 = .ok (.ifCond .ne 16, 3) := by decide +kernel
theorem dX9_evening_62 : decode cX9_evening 62 = .ok (.aload_n 0, 1) := by decide +kernel
theorem dX9_evening_63 : decode cX9_evening 63 = .ok (.getfield 46, 3) := by decide +kernel
theorem dX9_evening_66 : decode cX9_evening 66 = .ok (.getfield 281, 3) := by decide +kernel
theorem dX9_evening_69 : decode cX9_evening 69 = .ok (.iload 4, 2) := by decide +kernel
theorem dX9_evening_71 : decode cX9_evening 71 = .ok (.iaload, 1) := by decide +kernel
theorem dX9_evening_72 : decode cX9_evening 72 = .ok (.goto 19, 3) := by decide +kernel
theorem dX9_evening_75 : decode cX9_evening 75 = .ok (.aload_n 0, 1) := by decide +kernel
theorem dX9_evening_76 : decode cX9_evening 76 = .ok (.getfield 46, 3) := by decide +kernel
theorem dX9_evening_79 : decode cX9_evening 79 = .ok (.iload 4, 2) := by decide +kernel
theorem dX9_evening_81 : decode cX9_evening 81 = .ok (.aload_n 0, 1) := by decide +kernel
theorem dX9_evening_82 : decode cX9_evening 82 = .ok (.iload_n 1, 1) := by decide +kernel
theorem dX9_evening_83 : decode cX9_evening 83 = .ok (.iload 4, 2) := by decide +kernel
theorem dX9_evening_85 : decode cX9_evening 85 = .ok (.invokevirtual 284, 3) := by decide +kernel
theorem dX9_evening_88 : decode cX9_evening 88 = .ok (.invokevirtual 288, 3) := by decide +kernel
theorem dX9_evening_91 : decode cX9_evening 91 = .ok (.ireturn, 1) := by decide +kernel
theorem dX9_whole_0 : decode cX9_whole 0 = .ok (.iload_n 1, 1) := by decide +kernel
theorem dX9_whole_1 : decode cX9_whole 1 = .ok (.iconst 0, 1) := by decide +kernel
theorem dX9_whole_2 : decode cX9_whole 2 = .ok (.sipush 9999, 3) := by decide +kernel
theorem dX9_whole_5 : decode cX9_whole 5 = .ok (.invokestatic 103, 3) := by decide +kernel
theorem dX9_whole_8 : decode cX9_whole 8 = .ok (.ifCond .eq 12, 3) := by decide +kernel
theorem dX9_whole_11 : decode cX9_whole 11 = .ok (.iload_n 2, 1) := by decide +kernel
theorem dX9_whole_12 : decode cX9_whole 12 = .ok (.iconst 0, 1) := by decide +kernel
theorem dX9_whole_13 : decode cX9_whole 13 = .ok (.iconst 1, 1) := by decide +kernel
theorem dX9_whole_14 : decode cX9_whole 14 = .ok (.invokestatic 103, 3) := by decide +kernel
theorem dX9_whole_17 : decode cX9_whole 17 = .ok (.ifCond .ne 5, 3) := by decide +kernel
theorem dX9_whole_20 : decode cX9_whole 20 = .ok (.iconst (-1), 1) := by decide +kernel
theorem dX9_whole_21 : decode cX9_whole 21 = .ok (.ireturn, 1) := by decide +kernel
theorem dX9_whole_22 : decode cX9_whole 22 = .ok (.aload_n 0, 1) := by decide +kernel
theorem dX9_whole_23 : decode cX9_whole 23 = .ok (.iload_n 1, 1) := by decide +kernel
theorem dX9_whole_24 : decode cX9_whole 24 = .ok (.invokevirtual 277, 3) := by decide +kernel
theorem dX9_whole_27 : decode cX9_whole 27 = .ok (.iload_n 2, 1) := by decide +kernel
theorem dX9_whole_28 : decode cX9_whole 28 = .ok (.ifCond .ne 19, 3) := by decide +kernel
theorem dX9_whole_31 : decode cX9_whole 31 = .ok (.aload_n 0, 1) := by decide +kernel
theorem dX9_whole_32 : decode cX9_whole 32 = .ok (.getfield 46, 3) := by decide +kernel
theorem dX9_whole_35 : decode cX9_whole 35 = .ok (.getfield 291, 3) := by decide +kernel
theorem dX9_whole_38 : decode cX9_whole 38 = .ok (.aload_n 0, 1) := by decide +kernel
theorem dX9_whole_39 : decode cX9_whole 39 = .ok (.getfield 36, 3) := by decide +kernel
theorem dX9_whole_42 : decode cX9_whole 42 = .ok (.getfield 198, 3) := by decide +kernel
theorem dX9_whole_45 : decode cX9_whole 45 = .ok (.iaload, 1) := by decide +kernel
theorem dX9_whole_46 : decode cX9_whole 46 = .ok (.ireturn, 1) := by decide +kernel
theorem dX9_whole_47 : decode cX9_whole 47 = .ok (.aload_n 0, 1) := by decide +kernel
theorem dX9_whole_48 : decode cX9_whole 48 = .ok (.getfield 46, 3) := by decide +kernel
theorem dX9_whole_51 : decode cX9_whole 51 = .ok (.invokevirtual 294, 3) := by decide +kernel
theorem dX9_whole_54 : decode cX9_whole 54 = .ok (.ifCond .eq 7, 3) := by decide +kernel
theorem dX9_whole_57 : decode cX9_whole 57 = .ok (.iconst 1, 1) := by decide +kernel
theorem dX9_whole_58 : decode cX9_whole 58 = .ok (.goto 4, 3) := by decide +kernel
theorem dX9_whole_61 : decode cX9_whole 61 = .ok (.iconst 0, 1) := by decide +kernel
theorem dX9_whole_62 : decode cX9_whole 62 = .ok (.ireturn, 1) := by decide +kernel
theorem dX9_keep_0 : decode cX9_keep 0 = .ok (.aload_n 0, 1) := by decide +kernel
theorem dX9_keep_1 : decode cX9_keep 1 = .ok (.getfield 76, 3) := by decide +kernel
theorem dX9_keep_4 : decode cX9_keep 4 = .ok (.aload_n 0, 1) := by decide +kernel
theorem dX9_keep_5 : decode cX9_keep 5 = .ok (.getfield 69, 3) := by decide +kernel
theorem dX9_keep_8 : decode cX9_keep 8 = .ok (.aload_n 0, 1) := by decide +kernel
theorem dX9_keep_9 : decode cX9_keep 9 = .ok (.getfield 125, 3) := by decide +kernel
theorem dX9_keep_12 : decode cX9_keep 12 = .ok (.invokevirtual 298, 3) := by decide +kernel
theorem dX9_keep_15 : decode cX9_keep 15 = .ok (.ifCond .eq 13, 3) := by decide +kernel
theorem dX9_keep_18 : decode cX9_keep 18 = .ok (.aload_n 0, 1) := by decide +kernel
theorem dX9_keep_19 : decode cX9_keep 19 = .ok (.getfield 76, 3) := by decide +kernel
theorem dX9_keep_22 : decode cX9_keep 22 = .ok (.getfield 128, 3) := by decide +kernel
theorem dX9_keep_25 : decode cX9_keep 25 = .ok (.goto 5, 3) := by decide +kernel
theorem dX9_keep_28 : decode cX9_keep 28 = .ok (.bipush (-3), 2) := by decide +kernel
theorem dX9_keep_30 : decode cX9_keep 30 = .ok (.ireturn, 1) := by decide +kernel
theorem dX9_back_0 : decode cX9_back 0 = .ok (.aload_n 0, 1) := by decide +kernel
theorem dX9_back_1 : decode cX9_back 1 = .ok (.getfield 76, 3) := by decide +kernel
theorem dX9_back_4 : decode cX9_back 4 = .ok (.getfield 128, 3) := by decide +kernel
theorem dX9_back_7 : decode cX9_back 7 = .ok (.iconst 1, 1) := by decide +kernel
theorem dX9_back_8 : decode cX9_back 8 = .ok (.if_icmp .ge 6, 3) := by decide +kernel
theorem dX9_back_11 : decode cX9_back 11 = .ok (.bipush (-2), 2) := by decide +kernel
theorem dX9_back_13 : decode cX9_back 13 = .ok (.ireturn, 1) := by decide +kernel
theorem dX9_back_14 : decode cX9_back 14 = .ok (.aload_n 0, 1) := by decide +kernel
theorem dX9_back_15 : decode cX9_back 15 = .ok (.aload_n 0, 1) := by decide +kernel
theorem dX9_back_16 : decode cX9_back 16 = .ok (.getfield 76, 3) := by decide +kernel
theorem dX9_back_19 : decode cX9_back 19 = .ok (.aload_n 0, 1) := by decide +kernel
theorem dX9_back_20 : decode cX9_back 20 = .ok (.getfield 69, 3) := by decide +kernel
theorem dX9_back_23 : decode cX9_back 23 = .ok (.invokevirtual 301, 3) := by decide +kernel
theorem dX9_back_26 : decode cX9_back 26 = .ok (.putfield 125, 3) := by decide +kernel
theorem dX9_back_29 : decode cX9_back 29 = .ok (.aload_n 0, 1) := by decide +kernel
theorem dX9_back_30 : decode cX9_back 30 = .ok (.invokevirtual 135, 3) := by decide +kernel
theorem dX9_back_33 : decode cX9_back 33 = .ok (.aload_n 0, 1) := by decide +kernel
theorem dX9_back_34 : decode cX9_back 34 = .ok (.getfield 76, 3) := by decide +kernel
theorem dX9_back_37 : decode cX9_back 37 = .ok (.getfield 128, 3) := by decide +kernel
theorem dX9_back_40 : decode cX9_back 40 = .ok (.ireturn, 1) := by decide +kernel
theorem dX9_count_0 : decode cX9_count 0 = .ok (.iload_n 1, 1) := by decide +kernel
theorem dX9_count_1 : decode cX9_count 1 = .ok (.tableswitch 105 0 6 #[43, 54, 62, 73, 81, 89, 97], 43) := by decide +kernel
theorem dX9_count_44 : decode cX9_count 44 = .ok (.aload_n 0, 1) := by decide +kernel
theorem dX9_count_45 : decode cX9_count 45 = .ok (.getfield 26, 3) := by decide +kernel
theorem dX9_count_48 : decode cX9_count 48 = .ok (.getfield 83, 3) := by decide +kernel
theorem dX9_count_51 : decode cX9_count 51 = .ok (.getfield 138, 3) := by decide +kernel
theorem dX9_count_54 : decode cX9_count 54 = .ok (.ireturn, 1) := by decide +kernel
theorem dX9_count_55 : decode cX9_count 55 = .ok (.aload_n 0, 1) := by decide +kernel
theorem dX9_count_56 : decode cX9_count 56 = .ok (.getfield 36, 3) := by decide +kernel
theorem dX9_count_59 : decode cX9_count 59 = .ok (.getfield 198, 3) := by decide +kernel
theorem dX9_count_62 : decode cX9_count 62 = .ok (.ireturn, 1) := by decide +kernel
theorem dX9_count_63 : decode cX9_count 63 = .ok (.aload_n 0, 1) := by decide +kernel
theorem dX9_count_64 : decode cX9_count 64 = .ok (.getfield 26, 3) := by decide +kernel
theorem dX9_count_67 : decode cX9_count 67 = .ok (.getfield 83, 3) := by decide +kernel
theorem dX9_count_70 : decode cX9_count 70 = .ok (.getfield 117, 3) := by decide +kernel
theorem dX9_count_73 : decode cX9_count 73 = .ok (.ireturn, 1) := by decide +kernel
theorem dX9_count_74 : decode cX9_count 74 = .ok (.aload_n 0, 1) := by decide +kernel
theorem dX9_count_75 : decode cX9_count 75 = .ok (.getfield 10, 3) := by decide +kernel
theorem dX9_count_78 : decode cX9_count 78 = .ok (.getfield 110, 3) := by decide +kernel
theorem dX9_count_81 : decode cX9_count 81 = .ok (.ireturn, 1) := by decide +kernel
theorem dX9_count_82 : decode cX9_count 82 = .ok (.aload_n 0, 1) := by decide +kernel
theorem dX9_count_83 : decode cX9_count 83 = .ok (.getfield 76, 3) := by decide +kernel
theorem dX9_count_86 : decode cX9_count 86 = .ok (.getfield 128, 3) := by decide +kernel
theorem dX9_count_89 : decode cX9_count 89 = .ok (.ireturn, 1) := by decide +kernel
theorem dX9_count_90 : decode cX9_count 90 = .ok (.aload_n 0, 1) := by decide +kernel
theorem dX9_count_91 : decode cX9_count 91 = .ok (.getfield 26, 3) := by decide +kernel
theorem dX9_count_94 : decode cX9_count 94 = .ok (.getfield 209, 3) := by decide +kernel
theorem dX9_count_97 : decode cX9_count 97 = .ok (.ireturn, 1) := by decide +kernel
theorem dX9_count_98 : decode cX9_count 98 = .ok (.aload_n 0, 1) := by decide +kernel
theorem dX9_count_99 : decode cX9_count 99 = .ok (.getfield 26, 3) := by decide +kernel
theorem dX9_count_102 : decode cX9_count 102 = .ok (.getfield 95, 3) := by decide +kernel
theorem dX9_count_105 : decode cX9_count 105 = .ok (.ireturn, 1) := by decide +kernel
theorem dX9_count_106 : decode cX9_count 106 = .ok (.iconst (-1), 1) := by decide +kernel
theorem dX9_count_107 : decode cX9_count 107 = .ok (.ireturn, 1) := by decide +kernel
theorem dX9_isWithin_0 : decode cX9_isWithin 0 = .ok (.iload_n 0, 1) := by decide +kernel
theorem dX9_isWithin_1 : decode cX9_isWithin 1 = .ok (.iload_n 1, 1) := by decide +kernel
theorem dX9_isWithin_2 : decode cX9_isWithin 2 = .ok (.if_icmp .lt 12, 3) := by decide +kernel
theorem dX9_isWithin_5 : decode cX9_isWithin 5 = .ok (.iload_n 0, 1) := by decide +kernel
theorem dX9_isWithin_6 : decode cX9_isWithin 6 = .ok (.iload_n 2, 1) := by decide +kernel
theorem dX9_isWithin_7 : decode cX9_isWithin 7 = .ok (.if_icmp .gt 7, 3) := by decide +kernel
theorem dX9_isWithin_10 : decode cX9_isWithin 10 = .ok (.iconst 1, 1) := by decide +kernel
theorem dX9_isWithin_11 : decode cX9_isWithin 11 = .ok (.goto 4, 3) := by decide +kernel
theorem dX9_isWithin_14 : decode cX9_isWithin 14 = .ok (.iconst 0, 1) := by decide +kernel
theorem dX9_isWithin_15 : decode cX9_isWithin 15 = .ok (.ireturn, 1) := by decide +kernel
theorem dX9_isGiver_0 : decode cX9_isGiver 0 = .ok (.iload_n 1, 1) := by decide +kernel
theorem dX9_isGiver_1 : decode cX9_isGiver 1 = .ok (.ifCond .lt 21, 3) := by decide +kernel
theorem dX9_isGiver_4 : decode cX9_isGiver 4 = .ok (.iload_n 1, 1) := by decide +kernel
theorem dX9_isGiver_5 : decode cX9_isGiver 5 = .ok (.aload_n 0, 1) := by decide +kernel
theorem dX9_isGiver_6 : decode cX9_isGiver 6 = .ok (.getfield 26, 3) := by decide +kernel
theorem dX9_isGiver_9 : decode cX9_isGiver 9 = .ok (.getfield 83, 3) := by decide +kernel
theorem dX9_isGiver_12 : decode cX9_isGiver 12 = .ok (.getfield 138, 3) := by decide +kernel
theorem dX9_isGiver_15 : decode cX9_isGiver 15 = .ok (.if_icmp .ge 7, 3) := by decide +kernel
theorem dX9_isGiver_18 : decode cX9_isGiver 18 = .ok (.iconst 1, 1) := by decide +kernel
theorem dX9_isGiver_19 : decode cX9_isGiver 19 = .ok (.goto 4, 3) := by decide +kernel
theorem dX9_isGiver_22 : decode cX9_isGiver 22 = .ok (.iconst 0, 1) := by decide +kernel
theorem dX9_isGiver_23 : decode cX9_isGiver 23 = .ok (.ireturn, 1) := by decide +kernel
theorem dX9_greatestPart_0 : decode cX9_greatestPart 0 = .ok (.iconst 0, 1) := by decide +kernel
theorem dX9_greatestPart_1 : decode cX9_greatestPart 1 = .ok (.istore 4, 2) := by decide +kernel
theorem dX9_greatestPart_3 : decode cX9_greatestPart 3 = .ok (.iload 4, 2) := by decide +kernel
theorem dX9_greatestPart_5 : decode cX9_greatestPart 5 = .ok (.bipush 100, 2) := by decide +kernel
theorem dX9_greatestPart_7 : decode cX9_greatestPart 7 = .ok (.if_icmp .ge 25, 3) := by decide +kernel
theorem dX9_greatestPart_10 : decode cX9_greatestPart 10 = .ok (.lload_n 2, 1) := by decide +kernel
theorem dX9_greatestPart_11 : decode cX9_greatestPart 11 = .ok (.lconst 0, 1) := by decide +kernel
theorem dX9_greatestPart_12 : decode cX9_greatestPart 12 = .ok (.lcmp, 1) := by decide +kernel
theorem dX9_greatestPart_13 : decode cX9_greatestPart 13 = .ok (.ifCond .eq 19, 3) := by decide +kernel
theorem dX9_greatestPart_16 : decode cX9_greatestPart 16 = .ok (.lload_n 0, 1) := by decide +kernel
theorem dX9_greatestPart_17 : decode cX9_greatestPart 17 = .ok (.lload_n 2, 1) := by decide +kernel
theorem dX9_greatestPart_18 : decode cX9_greatestPart 18 = .ok (.lrem, 1) := by decide +kernel
theorem dX9_greatestPart_19 : decode cX9_greatestPart 19 = .ok (.lstore 5, 2) := by decide +kernel
theorem dX9_greatestPart_21 : decode cX9_greatestPart 21 = .ok (.lload_n 2, 1) := by decide +kernel
theorem dX9_greatestPart_22 : decode cX9_greatestPart 22 = .ok (.lstore_n 0, 1) := by decide +kernel
theorem dX9_greatestPart_23 : decode cX9_greatestPart 23 = .ok (.lload 5, 2) := by decide +kernel
theorem dX9_greatestPart_25 : decode cX9_greatestPart 25 = .ok (.lstore_n 2, 1) := by decide +kernel
theorem dX9_greatestPart_26 : decode cX9_greatestPart 26 = .ok (.iinc 4 1, 3) := by decide +kernel
theorem dX9_greatestPart_29 : decode cX9_greatestPart 29 = .ok (.goto (-26), 3) := by decide +kernel
theorem dX9_greatestPart_32 : decode cX9_greatestPart 32 = .ok (.lload_n 0, 1) := by decide +kernel
theorem dX9_greatestPart_33 : decode cX9_greatestPart 33 = .ok (.lconst 0, 1) := by decide +kernel
theorem dX9_greatestPart_34 : decode cX9_greatestPart 34 = .ok (.lcmp, 1) := by decide +kernel
theorem dX9_greatestPart_35 : decode cX9_greatestPart 35 = .ok (.ifCond .ne 7, 3) := by decide +kernel
theorem dX9_greatestPart_38 : decode cX9_greatestPart 38 = .ok (.lconst 1, 1) := by decide +kernel
theorem dX9_greatestPart_39 : decode cX9_greatestPart 39 = .ok (.goto 4, 3) := by decide +kernel
theorem dX9_greatestPart_42 : decode cX9_greatestPart 42 = .ok (.lload_n 0, 1) := by decide +kernel
theorem dX9_greatestPart_43 : decode cX9_greatestPart 43 = .ok (.lreturn, 1) := by decide +kernel
theorem dX9_forgetWays_0 : decode cX9_forgetWays 0 = .ok (.aload_n 0, 1) := by decide +kernel
theorem dX9_forgetWays_1 : decode cX9_forgetWays 1 = .ok (.iconst 0, 1) := by decide +kernel
theorem dX9_forgetWays_2 : decode cX9_forgetWays 2 = .ok (.putfield 305, 3) := by decide +kernel
theorem dX9_forgetWays_5 : decode cX9_forgetWays 5 = .ok (.aload_n 0, 1) := by decide +kernel
theorem dX9_forgetWays_6 : decode cX9_forgetWays 6 = .ok (.iconst 0, 1) := by decide +kernel
theorem dX9_forgetWays_7 : decode cX9_forgetWays 7 = .ok (.putfield 231, 3) := by decide +kernel
theorem dX9_forgetWays_10 : decode cX9_forgetWays 10 = .ok (.return_, 1) := by decide +kernel
theorem dX9_setGame_0 : decode cX9_setGame 0 = .ok (.aload_n 0, 1) := by decide +kernel
theorem dX9_setGame_1 : decode cX9_setGame 1 = .ok (.getfield 46, 3) := by decide +kernel
theorem dX9_setGame_4 : decode cX9_setGame 4 = .ok (.aload_n 0, 1) := by decide +kernel
theorem dX9_setGame_5 : decode cX9_setGame 5 = .ok (.getfield 26, 3) := by decide +kernel
theorem dX9_setGame_8 : decode cX9_setGame 8 = .ok (.aload_n 0, 1) := by decide +kernel
theorem dX9_setGame_9 : decode cX9_setGame 9 = .ok (.getfield 36, 3) := by decide +kernel
theorem dX9_setGame_12 : decode cX9_setGame 12 = .ok (.aload_n 0, 1) := by decide +kernel
theorem dX9_setGame_13 : decode cX9_setGame 13 = .ok (.getfield 125, 3) := by decide +kernel
theorem dX9_setGame_16 : decode cX9_setGame 16 = .ok (.invokevirtual 243, 3) := by decide +kernel
theorem dX9_setGame_19 : decode cX9_setGame 19 = .ok (.return_, 1) := by decide +kernel
theorem dX9_waysAsTheyStand_0 : decode cX9_waysAsTheyStand 0 = .ok (.aload_n 0, 1) := by decide +kernel
theorem dX9_waysAsTheyStand_1 : decode cX9_waysAsTheyStand 1 = .ok (.getfield 305, 3) := by decide +kernel
theorem dX9_waysAsTheyStand_4 : decode cX9_waysAsTheyStand 4 = .ok (.ifCond .ne 24, 3) := by decide +kernel
theorem dX9_waysAsTheyStand_7 : decode cX9_waysAsTheyStand 7 = .ok (.aload_n 0, 1) := by decide +kernel
theorem dX9_waysAsTheyStand_8 : decode cX9_waysAsTheyStand 8 = .ok (.invokevirtual 195, 3) := by decide +kernel
theorem dX9_waysAsTheyStand_11 : decode cX9_waysAsTheyStand 11 = .ok (.aload_n 0, 1) := by decide +kernel
theorem dX9_waysAsTheyStand_12 : decode cX9_waysAsTheyStand 12 = .ok (.getfield 53, 3) := by decide +kernel
theorem dX9_waysAsTheyStand_15 : decode cX9_waysAsTheyStand 15 = .ok (.aload_n 0, 1) := by decide +kernel
theorem dX9_waysAsTheyStand_16 : decode cX9_waysAsTheyStand 16 = .ok (.getfield 46, 3) := by decide +kernel
theorem dX9_waysAsTheyStand_19 : decode cX9_waysAsTheyStand 19 = .ok (.iconst 1, 1) := by decide +kernel
theorem dX9_waysAsTheyStand_20 : decode cX9_waysAsTheyStand 20 = .ok (.invokevirtual 247, 3) := by decide +kernel
theorem dX9_waysAsTheyStand_23 : decode cX9_waysAsTheyStand 23 = .ok (.aload_n 0, 1) := by decide +kernel
theorem dX9_waysAsTheyStand_24 : decode cX9_waysAsTheyStand 24 = .ok (.iconst 1, 1) := by decide +kernel
theorem dX9_waysAsTheyStand_25 : decode cX9_waysAsTheyStand 25 = .ok (.putfield 305, 3) := by decide +kernel
theorem dX9_waysAsTheyStand_28 : decode cX9_waysAsTheyStand 28 = .ok (.aload_n 0, 1) := by decide +kernel
theorem dX9_waysAsTheyStand_29 : decode cX9_waysAsTheyStand 29 = .ok (.getfield 53, 3) := by decide +kernel
theorem dX9_waysAsTheyStand_32 : decode cX9_waysAsTheyStand 32 = .ok (.areturn, 1) := by decide +kernel
theorem dX9_findBestBar_0 : decode cX9_findBestBar 0 = .ok (.iconst 1, 1) := by decide +kernel
theorem dX9_findBestBar_1 : decode cX9_findBestBar 1 = .ok (.istore_n 1, 1) := by decide +kernel
theorem dX9_findBestBar_2 : decode cX9_findBestBar 2 = .ok (.iload_n 1, 1) := by decide +kernel
theorem dX9_findBestBar_3 : decode cX9_findBestBar 3 = .ok (.bipush 60, 2) := by decide +kernel
theorem dX9_findBestBar_5 : decode cX9_findBestBar 5 = .ok (.if_icmp .gt 73, 3) := by decide +kernel
theorem dX9_findBestBar_8 : decode cX9_findBestBar 8 = .ok (.aload_n 0, 1) := by decide +kernel
theorem dX9_findBestBar_9 : decode cX9_findBestBar 9 = .ok (.invokevirtual 195, 3) := by decide +kernel
theorem dX9_findBestBar_12 : decode cX9_findBestBar 12 = .ok (.aload_n 0, 1) := by decide +kernel
theorem dX9_findBestBar_13 : decode cX9_findBestBar 13 = .ok (.getfield 46, 3) := by decide +kernel
theorem dX9_findBestBar_16 : decode cX9_findBestBar 16 = .ok (.iload_n 1, 1) := by decide +kernel
theorem dX9_findBestBar_17 : decode cX9_findBestBar 17 = .ok (.putfield 308, 3) := by decide +kernel
theorem dX9_findBestBar_20 : decode cX9_findBestBar 20 = .ok (.aload_n 0, 1) := by decide +kernel
theorem dX9_findBestBar_21 : decode cX9_findBestBar 21 = .ok (.getfield 57, 3) := by decide +kernel
theorem dX9_findBestBar_24 : decode cX9_findBestBar 24 = .ok (.aload_n 0, 1) := by decide +kernel
theorem dX9_findBestBar_25 : decode cX9_findBestBar 25 = .ok (.getfield 46, 3) := by decide +kernel
theorem dX9_findBestBar_28 : decode cX9_findBestBar 28 = .ok (.iconst 0, 1) := by decide +kernel
theorem dX9_findBestBar_29 : decode cX9_findBestBar 29 = .ok (.invokevirtual 247, 3) := by decide +kernel
theorem dX9_findBestBar_32 : decode cX9_findBestBar 32 = .ok (.aload_n 0, 1) := by decide +kernel
theorem dX9_findBestBar_33 : decode cX9_findBestBar 33 = .ok (.getfield 57, 3) := by decide +kernel
theorem dX9_findBestBar_36 : decode cX9_findBestBar 36 = .ok (.getfield 189, 3) := by decide +kernel
theorem dX9_findBestBar_39 : decode cX9_findBestBar 39 = .ok (.aload_n 0, 1) := by decide +kernel
theorem dX9_findBestBar_40 : decode cX9_findBestBar 40 = .ok (.getfield 57, 3) := by decide +kernel
theorem dX9_findBestBar_43 : decode cX9_findBestBar 43 = .ok (.getfield 192, 3) := by decide +kernel
theorem dX9_findBestBar_46 : decode cX9_findBestBar 46 = .ok (.ladd, 1) := by decide +kernel
theorem dX9_findBestBar_47 : decode cX9_findBestBar 47 = .ok (.lstore_n 2, 1) := by decide +kernel
theorem dX9_findBestBar_48 : decode cX9_findBestBar 48 = .ok (.iload_n 1, 1) := by decide +kernel
theorem dX9_findBestBar_49 : decode cX9_findBestBar 49 = .ok (.iconst 1, 1) := by decide +kernel
theorem dX9_findBestBar_50 : decode cX9_findBestBar 50 = .ok (.if_icmp .eq 12, 3) := by decide +kernel
theorem dX9_findBestBar_53 : decode cX9_findBestBar 53 = .ok (.lload_n 2, 1) := by decide +kernel
theorem dX9_findBestBar_54 : decode cX9_findBestBar 54 = .ok (.aload_n 0, 1) := by decide +kernel
theorem dX9_findBestBar_55 : decode cX9_findBestBar 55 = .ok (.getfield 240, 3) := by decide +kernel
theorem dX9_findBestBar_58 : decode cX9_findBestBar 58 = .ok (.lcmp, 1) := by decide +kernel
theorem dX9_findBestBar_59 : decode cX9_findBestBar 59 = .ok (.ifCond .ge 13, 3) := by decide +kernel
theorem dX9_findBestBar_62 : decode cX9_findBestBar 62 = .ok (.aload_n 0, 1) := by decide +kernel
theorem dX9_findBestBar_63 : decode cX9_findBestBar 63 = .ok (.iload_n 1, 1) := by decide +kernel
theorem dX9_findBestBar_64 : decode cX9_findBestBar 64 = .ok (.putfield 237, 3) := by decide +kernel
theorem dX9_findBestBar_67 : decode cX9_findBestBar 67 = .ok (.aload_n 0, 1) := by decide +kernel
theorem dX9_findBestBar_68 : decode cX9_findBestBar 68 = .ok (.lload_n 2, 1) := by decide +kernel
theorem dX9_findBestBar_69 : decode cX9_findBestBar 69 = .ok (.putfield 240, 3) := by decide +kernel
theorem dX9_findBestBar_72 : decode cX9_findBestBar 72 = .ok (.iinc 1 1, 3) := by decide +kernel
theorem dX9_findBestBar_75 : decode cX9_findBestBar 75 = .ok (.goto (-73), 3) := by decide +kernel
theorem dX9_findBestBar_78 : decode cX9_findBestBar 78 = .ok (.return_, 1) := by decide +kernel
theorem dX9_richWays_0 : decode cX9_richWays 0 = .ok (.aload_n 0, 1) := by decide +kernel
theorem dX9_richWays_1 : decode cX9_richWays 1 = .ok (.invokevirtual 195, 3) := by decide +kernel
theorem dX9_richWays_4 : decode cX9_richWays 4 = .ok (.aload_n 0, 1) := by decide +kernel
theorem dX9_richWays_5 : decode cX9_richWays 5 = .ok (.getfield 46, 3) := by decide +kernel
theorem dX9_richWays_8 : decode cX9_richWays 8 = .ok (.iload_n 1, 1) := by decide +kernel
theorem dX9_richWays_9 : decode cX9_richWays 9 = .ok (.putfield 309, 3) := by decide +kernel
theorem dX9_richWays_12 : decode cX9_richWays 12 = .ok (.aload_n 0, 1) := by decide +kernel
theorem dX9_richWays_13 : decode cX9_richWays 13 = .ok (.getfield 46, 3) := by decide +kernel
theorem dX9_richWays_16 : decode cX9_richWays 16 = .ok (.iload_n 2, 1) := by decide +kernel
theorem dX9_richWays_17 : decode cX9_richWays 17 = .ok (.iconst 1, 1) := by decide +kernel
theorem dX9_richWays_18 : decode cX9_richWays 18 = .ok (.isub, 1) := by decide +kernel
theorem dX9_richWays_19 : decode cX9_richWays 19 = .ok (.putfield 312, 3) := by decide +kernel
theorem dX9_richWays_22 : decode cX9_richWays 22 = .ok (.aload_n 0, 1) := by decide +kernel
theorem dX9_richWays_23 : decode cX9_richWays 23 = .ok (.getfield 57, 3) := by decide +kernel
theorem dX9_richWays_26 : decode cX9_richWays 26 = .ok (.aload_n 0, 1) := by decide +kernel
theorem dX9_richWays_27 : decode cX9_richWays 27 = .ok (.getfield 46, 3) := by decide +kernel
theorem dX9_richWays_30 : decode cX9_richWays 30 = .ok (.iconst 0, 1) := by decide +kernel
theorem dX9_richWays_31 : decode cX9_richWays 31 = .ok (.invokevirtual 247, 3) := by decide +kernel
theorem dX9_richWays_34 : decode cX9_richWays 34 = .ok (.aload_n 0, 1) := by decide +kernel
theorem dX9_richWays_35 : decode cX9_richWays 35 = .ok (.getfield 57, 3) := by decide +kernel
theorem dX9_richWays_38 : decode cX9_richWays 38 = .ok (.getfield 164, 3) := by decide +kernel
theorem dX9_richWays_41 : decode cX9_richWays 41 = .ok (.lreturn, 1) := by decide +kernel
theorem dX9_playEvening_0 : decode cX9_playEvening 0 = .ok (.aload_n 0, 1) := by decide +kernel
theorem dX9_playEvening_1 : decode cX9_playEvening 1 = .ok (.invokevirtual 195, 3) := by decide +kernel
theorem dX9_playEvening_4 : decode cX9_playEvening 4 = .ok (.iconst 0, 1) := by decide +kernel
theorem dX9_playEvening_5 : decode cX9_playEvening 5 = .ok (.istore_n 2, 1) := by decide +kernel
theorem dX9_playEvening_6 : decode cX9_playEvening 6 = .ok (.iload_n 2, 1) := by decide +kernel
theorem dX9_playEvening_7 : decode cX9_playEvening 7 = .ok (.aload_n 0, 1) := by decide +kernel
theorem dX9_playEvening_8 : decode cX9_playEvening 8 = .ok (.getfield 36, 3) := by decide +kernel
theorem dX9_playEvening_11 : decode cX9_playEvening 11 = .ok (.getfield 198, 3) := by decide +kernel
theorem dX9_playEvening_14 : decode cX9_playEvening 14 = .ok (.if_icmp .ge 23, 3) := by decide +kernel
theorem dX9_playEvening_17 : decode cX9_playEvening 17 = .ok (.aload_n 0, 1) := by decide +kernel
theorem dX9_playEvening_18 : decode cX9_playEvening 18 = .ok (.getfield 46, 3) := by decide +kernel
theorem dX9_playEvening_21 : decode cX9_playEvening 21 = .ok (.iload_n 2, 1) := by decide +kernel
theorem dX9_playEvening_22 : decode cX9_playEvening 22 = .ok (.aload_n 0, 1) := by decide +kernel
theorem dX9_playEvening_23 : decode cX9_playEvening 23 = .ok (.iload_n 1, 1) := by decide +kernel
theorem dX9_playEvening_24 : decode cX9_playEvening 24 = .ok (.iload_n 2, 1) := by decide +kernel
theorem dX9_playEvening_25 : decode cX9_playEvening 25 = .ok (.invokevirtual 284, 3) := by decide +kernel
theorem dX9_playEvening_28 : decode cX9_playEvening 28 = .ok (.invokevirtual 315, 3) := by decide +kernel
theorem dX9_playEvening_31 : decode cX9_playEvening 31 = .ok (.iinc 2 1, 3) := by decide +kernel
theorem dX9_playEvening_34 : decode cX9_playEvening 34 = .ok (.goto (-28), 3) := by decide +kernel
theorem dX9_playEvening_37 : decode cX9_playEvening 37 = .ok (.return_, 1) := by decide +kernel
theorem dX9_drawnWorth_0 : decode cX9_drawnWorth 0 = .ok (.ldc2_w 319, 3) := by decide +kernel
theorem dX9_drawnWorth_3 : decode cX9_drawnWorth 3 = .ok (.iload_n 1, 1) := by decide +kernel
theorem dX9_drawnWorth_4 : decode cX9_drawnWorth 4 = .ok (.i2l, 1) := by decide +kernel
theorem dX9_drawnWorth_5 : decode cX9_drawnWorth 5 = .ok (.lmul, 1) := by decide +kernel
theorem dX9_drawnWorth_6 : decode cX9_drawnWorth 6 = .ok (.ldc2_w 321, 3) := by decide +kernel
theorem dX9_drawnWorth_9 : decode cX9_drawnWorth 9 = .ok (.aload_n 0, 1) := by decide +kernel
theorem dX9_drawnWorth_10 : decode cX9_drawnWorth 10 = .ok (.getfield 36, 3) := by decide +kernel
theorem dX9_drawnWorth_13 : decode cX9_drawnWorth 13 = .ok (.getfield 199, 3) := by decide +kernel
theorem dX9_drawnWorth_16 : decode cX9_drawnWorth 16 = .ok (.iload_n 2, 1) := by decide +kernel
theorem dX9_drawnWorth_17 : decode cX9_drawnWorth 17 = .ok (.iaload, 1) := by decide +kernel
theorem dX9_drawnWorth_18 : decode cX9_drawnWorth 18 = .ok (.i2l, 1) := by decide +kernel
theorem dX9_drawnWorth_19 : decode cX9_drawnWorth 19 = .ok (.lmul, 1) := by decide +kernel
theorem dX9_drawnWorth_20 : decode cX9_drawnWorth 20 = .ok (.ladd, 1) := by decide +kernel
theorem dX9_drawnWorth_21 : decode cX9_drawnWorth 21 = .ok (.lconst 1, 1) := by decide +kernel
theorem dX9_drawnWorth_22 : decode cX9_drawnWorth 22 = .ok (.ladd, 1) := by decide +kernel
theorem dX9_drawnWorth_23 : decode cX9_drawnWorth 23 = .ok (.lstore_n 3, 1) := by decide +kernel
theorem dX9_drawnWorth_24 : decode cX9_drawnWorth 24 = .ok (.aload_n 0, 1) := by decide +kernel
theorem dX9_drawnWorth_25 : decode cX9_drawnWorth 25 = .ok (.getfield 36, 3) := by decide +kernel
theorem dX9_drawnWorth_28 : decode cX9_drawnWorth 28 = .ok (.iload_n 2, 1) := by decide +kernel
theorem dX9_drawnWorth_29 : decode cX9_drawnWorth 29 = .ok (.lload_n 3, 1) := by decide +kernel
theorem dX9_drawnWorth_30 : decode cX9_drawnWorth 30 = .ok (.lload_n 3, 1) := by decide +kernel
theorem dX9_drawnWorth_31 : decode cX9_drawnWorth 31 = .ok (.lmul, 1) := by decide +kernel
theorem dX9_drawnWorth_32 : decode cX9_drawnWorth 32 = .ok (.ldc2_w 323, 3) := by decide +kernel
theorem dX9_drawnWorth_35 : decode cX9_drawnWorth 35 = .ok (.lrem, 1) := by decide +kernel
theorem dX9_drawnWorth_36 : decode cX9_drawnWorth 36 = .ok (.ldc2_w 257, 3) := by decide +kernel
theorem dX9_drawnWorth_39 : decode cX9_drawnWorth 39 = .ok (.lrem, 1) := by decide +kernel
theorem dX9_drawnWorth_40 : decode cX9_drawnWorth 40 = .ok (.l2i, 1) := by decide +kernel
theorem dX9_drawnWorth_41 : decode cX9_drawnWorth 41 = .ok (.invokevirtual 325, 3) := by decide +kernel
theorem dX9_drawnWorth_44 : decode cX9_drawnWorth 44 = .ok (.ireturn, 1) := by decide +kernel
theorem dL_cell_0 : decode cL_cell 0 = .ok (.iload_n 1, 1) := by decide +kernel
theorem dL_cell_1 : decode cL_cell 1 = .ok (.aload_n 0, 1) := by decide +kernel
theorem dL_cell_2 : decode cL_cell 2 = .ok (.arraylength, 1) := by decide +kernel
theorem dL_cell_3 : decode cL_cell 3 = .ok (.if_icmp .ge 9, 3) := by decide +kernel
theorem dL_cell_6 : decode cL_cell 6 = .ok (.aload_n 0, 1) := by decide +kernel
theorem dL_cell_7 : decode cL_cell 7 = .ok (.iload_n 1, 1) := by decide +kernel
theorem dL_cell_8 : decode cL_cell 8 = .ok (.iaload, 1) := by decide +kernel
theorem dL_cell_9 : decode cL_cell 9 = .ok (.goto 9, 3) := by decide +kernel
theorem dL_cell_12 : decode cL_cell 12 = .ok (.ldc 7, 2) := by decide +kernel
theorem dL_cell_14 : decode cL_cell 14 = .ok (.iload_n 1, 1) := by decide +kernel
theorem dL_cell_15 : decode cL_cell 15 = .ok (.iconst 1, 1) := by decide +kernel
theorem dL_cell_16 : decode cL_cell 16 = .ok (.iadd, 1) := by decide +kernel
theorem dL_cell_17 : decode cL_cell 17 = .ok (.imul, 1) := by decide +kernel
theorem dL_cell_18 : decode cL_cell 18 = .ok (.ireturn, 1) := by decide +kernel
theorem dL_some_0 : decode cL_some 0 = .ok (.iload_n 0, 1) := by decide +kernel
theorem dL_some_1 : decode cL_some 1 = .ok (.ldc 8, 2) := by decide +kernel
theorem dL_some_3 : decode cL_some 3 = .ok (.iand, 1) := by decide +kernel
theorem dL_some_4 : decode cL_some 4 = .ok (.iload_n 1, 1) := by decide +kernel
theorem dL_some_5 : decode cL_some 5 = .ok (.irem, 1) := by decide +kernel
theorem dL_some_6 : decode cL_some 6 = .ok (.ireturn, 1) := by decide +kernel
theorem dL_number_0 : decode cL_number 0 = .ok (.iconst 1, 1) := by decide +kernel
theorem dL_number_1 : decode cL_number 1 = .ok (.istore_n 3, 1) := by decide +kernel
theorem dL_number_2 : decode cL_number 2 = .ok (.bipush 100, 2) := by decide +kernel
theorem dL_number_4 : decode cL_number 4 = .ok (.istore 4, 2) := by decide +kernel
theorem dL_number_6 : decode cL_number 6 = .ok (.iload 4, 2) := by decide +kernel
theorem dL_number_8 : decode cL_number 8 = .ok (.ifCond .le 54, 3) := by decide +kernel
theorem dL_number_11 : decode cL_number 11 = .ok (.iload_n 3, 1) := by decide +kernel
theorem dL_number_12 : decode cL_number 12 = .ok (.ifCond .eq 38, 3) := by decide +kernel
theorem dL_number_15 : decode cL_number 15 = .ok (.iload_n 1, 1) := by decide +kernel
theorem dL_number_16 : decode cL_number 16 = .ok (.iload 4, 2) := by decide +kernel
theorem dL_number_18 : decode cL_number 18 = .ok (.if_icmp .ge 9, 3) := by decide +kernel
theorem dL_number_21 : decode cL_number 21 = .ok (.iload 4, 2) := by decide +kernel
theorem dL_number_23 : decode cL_number 23 = .ok (.iconst 1, 1) := by decide +kernel
theorem dL_number_24 : decode cL_number 24 = .ok (.if_icmp .gt 22, 3) := by decide +kernel
theorem dL_number_27 : decode cL_number 27 = .ok (.aload_n 0, 1) := by decide +kernel
theorem dL_number_28 : decode cL_number 28 = .ok (.iconst 1, 1) := by decide +kernel
theorem dL_number_29 : decode cL_number 29 = .ok (.bipush 48, 2) := by decide +kernel
theorem dL_number_31 : decode cL_number 31 = .ok (.iload_n 1, 1) := by decide +kernel
theorem dL_number_32 : decode cL_number 32 = .ok (.iload 4, 2) := by decide +kernel
theorem dL_number_34 : decode cL_number 34 = .ok (.idiv, 1) := by decide +kernel
theorem dL_number_35 : decode cL_number 35 = .ok (.bipush 10, 2) := by decide +kernel
theorem dL_number_37 : decode cL_number 37 = .ok (.irem, 1) := by decide +kernel
theorem dL_number_38 : decode cL_number 38 = .ok (.iadd, 1) := by decide +kernel
theorem dL_number_39 : decode cL_number 39 = .ok (.i2l, 1) := by decide +kernel
theorem dL_number_40 : decode cL_number 40 = .ok (.invokevirtual 9, 3) := by decide +kernel
theorem dL_number_43 : decode cL_number 43 = .ok (.ifCond .le 7, 3) := by decide +kernel
theorem dL_number_46 : decode cL_number 46 = .ok (.iconst 1, 1) := by decide +kernel
theorem dL_number_47 : decode cL_number 47 = .ok (.goto 4, 3) := by decide +kernel
theorem dL_number_50 : decode cL_number 50 = .ok (.iconst 0, 1) := by decide +kernel
theorem dL_number_51 : decode cL_number 51 = .ok (.istore_n 3, 1) := by decide +kernel
theorem dL_number_52 : decode cL_number 52 = .ok (.iload 4, 2) := by decide +kernel
theorem dL_number_54 : decode cL_number 54 = .ok (.bipush 10, 2) := by decide +kernel
theorem dL_number_56 : decode cL_number 56 = .ok (.idiv, 1) := by decide +kernel
theorem dL_number_57 : decode cL_number 57 = .ok (.istore 4, 2) := by decide +kernel
theorem dL_number_59 : decode cL_number 59 = .ok (.goto (-53), 3) := by decide +kernel
theorem dL_number_62 : decode cL_number 62 = .ok (.iload_n 3, 1) := by decide +kernel
theorem dL_number_63 : decode cL_number 63 = .ok (.ifCond .eq 17, 3) := by decide +kernel
theorem dL_number_66 : decode cL_number 66 = .ok (.aload_n 0, 1) := by decide +kernel
theorem dL_number_67 : decode cL_number 67 = .ok (.iconst 1, 1) := by decide +kernel
theorem dL_number_68 : decode cL_number 68 = .ok (.iload_n 2, 1) := by decide +kernel
theorem dL_number_69 : decode cL_number 69 = .ok (.i2l, 1) := by decide +kernel
theorem dL_number_70 : decode cL_number 70 = .ok (.invokevirtual 9, 3) := by decide +kernel
theorem dL_number_73 : decode cL_number 73 = .ok (.ifCond .le 7, 3) := by decide +kernel
theorem dL_number_76 : decode cL_number 76 = .ok (.iconst 1, 1) := by decide +kernel
theorem dL_number_77 : decode cL_number 77 = .ok (.goto 4, 3) := by decide +kernel
theorem dL_number_80 : decode cL_number 80 = .ok (.iconst 0, 1) := by decide +kernel
theorem dL_number_81 : decode cL_number 81 = .ok (.ireturn, 1) := by decide +kernel
theorem dL_item_0 : decode cL_item 0 = .ok (.aload_n 0, 1) := by decide +kernel
theorem dL_item_1 : decode cL_item 1 = .ok (.iconst 1, 1) := by decide +kernel
theorem dL_item_2 : decode cL_item 2 = .ok (.iload_n 1, 1) := by decide +kernel
theorem dL_item_3 : decode cL_item 3 = .ok (.i2l, 1) := by decide +kernel
theorem dL_item_4 : decode cL_item 4 = .ok (.invokevirtual 9, 3) := by decide +kernel
theorem dL_item_7 : decode cL_item 7 = .ok (.ifCond .le 7, 3) := by decide +kernel
theorem dL_item_10 : decode cL_item 10 = .ok (.iconst 1, 1) := by decide +kernel
theorem dL_item_11 : decode cL_item 11 = .ok (.goto 4, 3) := by decide +kernel
theorem dL_item_14 : decode cL_item 14 = .ok (.iconst 0, 1) := by decide +kernel
theorem dL_item_15 : decode cL_item 15 = .ok (.istore 8, 2) := by decide +kernel
theorem dL_item_17 : decode cL_item 17 = .ok (.iconst 0, 1) := by decide +kernel
theorem dL_item_18 : decode cL_item 18 = .ok (.istore 9, 2) := by decide +kernel
theorem dL_item_20 : decode cL_item 20 = .ok (.iload 9, 2) := by decide +kernel
theorem dL_item_22 : decode cL_item 22 = .ok (.iload_n 2, 1) := by decide +kernel
theorem dL_item_23 : decode cL_item 23 = .ok (.if_icmp .ge 87, 3) := by decide +kernel
theorem dL_item_26 : decode cL_item 26 = .ok (.iload 8, 2) := by decide +kernel
theorem dL_item_28 : decode cL_item 28 = .ok (.ifCond .eq 73, 3) := by decide +kernel
theorem dL_item_31 : decode cL_item 31 = .ok (.aload_n 0, 1) := by decide +kernel
theorem dL_item_32 : decode cL_item 32 = .ok (.iload 9, 2) := by decide +kernel
theorem dL_item_34 : decode cL_item 34 = .ok (.ifCond .ne 7, 3) := by decide +kernel
theorem dL_item_37 : decode cL_item 37 = .ok (.iload_n 3, 1) := by decide +kernel
theorem dL_item_38 : decode cL_item 38 = .ok (.goto 38, 3) := by decide +kernel
theorem dL_item_41 : decode cL_item 41 = .ok (.iload 9, 2) := by decide +kernel
theorem dL_item_43 : decode cL_item 43 = .ok (.iconst 1, 1) := by decide +kernel
theorem dL_item_44 : decode cL_item 44 = .ok (.if_icmp .ne 8, 3) := by decide +kernel
theorem dL_item_47 : decode cL_item 47 = .ok (.iload 4, 2) := by decide +kernel
theorem dL_item_49 : decode cL_item 49 = .ok (.goto 27, 3) := by decide +kernel
theorem dL_item_52 : decode cL_item 52 = .ok (.iload 9, 2) := by decide +kernel
theorem dL_item_54 : decode cL_item 54 = .ok (.iconst 2, 1) := by decide +kernel
theorem dL_item_55 : decode cL_item 55 = .ok (.if_icmp .ne 8, 3) := by decide +kernel
theorem dL_item_58 : decode cL_item 58 = .ok (.iload 5, 2) := by decide +kernel
theorem dL_item_60 : decode cL_item 60 = .ok (.goto 16, 3) := by decide +kernel
theorem dL_item_63 : decode cL_item 63 = .ok (.iload 9, 2) := by decide +kernel
theorem dL_item_65 : decode cL_item 65 = .ok (.iconst 3, 1) := by decide +kernel
theorem dL_item_66 : decode cL_item 66 = .ok (.if_icmp .ne 8, 3) := by decide +kernel
theorem dL_item_69 : decode cL_item 69 = .ok (.iload 6, 2) := by decide +kernel
theorem dL_item_71 : decode cL_item 71 = .ok (.goto 5, 3) := by decide +kernel
theorem dL_item_74 : decode cL_item 74 = .ok (.iload 7, 2) := by decide +kernel
theorem dL_item_76 : decode cL_item 76 = .ok (.iload 9, 2) := by decide +kernel
theorem dL_item_78 : decode cL_item 78 = .ok (.iload_n 2, 1) := by decide +kernel
theorem dL_item_79 : decode cL_item 79 = .ok (.iconst 1, 1) := by decide +kernel
theorem dL_item_80 : decode cL_item 80 = .ok (.isub, 1) := by decide +kernel
theorem dL_item_81 : decode cL_item 81 = .ok (.if_icmp .ge 8, 3) := by decide +kernel
theorem dL_item_84 : decode cL_item 84 = .ok (.bipush 44, 2) := by decide +kernel
theorem dL_item_86 : decode cL_item 86 = .ok (.goto 5, 3) := by decide +kernel
theorem dL_item_89 : decode cL_item 89 = .ok (.bipush 59, 2) := by decide +kernel
theorem dL_item_91 : decode cL_item 91 = .ok (.invokestatic 15, 3) := by decide +kernel
theorem dL_item_94 : decode cL_item 94 = .ok (.ifCond .eq 7, 3) := by decide +kernel
theorem dL_item_97 : decode cL_item 97 = .ok (.iconst 1, 1) := by decide +kernel
theorem dL_item_98 : decode cL_item 98 = .ok (.goto 4, 3) := by decide +kernel
theorem dL_item_101 : decode cL_item 101 = .ok (.iconst 0, 1) := by decide +kernel
theorem dL_item_102 : decode cL_item 102 = .ok (.istore 8, 2) := by decide +kernel
theorem dL_item_104 : decode cL_item 104 = .ok (.iinc 9 1, 3) := by decide +kernel
theorem dL_item_107 : decode cL_item 107 = .ok (.goto (-87), 3) := by decide +kernel
theorem dL_item_110 : decode cL_item 110 = .ok (.iload 8, 2) := by decide +kernel
theorem dL_item_112 : decode cL_item 112 = .ok (.ireturn, 1) := by decide +kernel
theorem dL_board_0 : decode cL_board 0 = .ok (.aload_n 1, 1) := by decide +kernel
theorem dL_board_1 : decode cL_board 1 = .ok (.iload_n 2, 1) := by decide +kernel
theorem dL_board_2 : decode cL_board 2 = .ok (.invokestatic 21, 3) := by decide +kernel
theorem dL_board_5 : decode cL_board 5 = .ok (.istore 5, 2) := by decide +kernel
theorem dL_board_7 : decode cL_board 7 = .ok (.aload_n 1, 1) := by decide +kernel
theorem dL_board_8 : decode cL_board 8 = .ok (.iload_n 2, 1) := by decide +kernel
theorem dL_board_9 : decode cL_board 9 = .ok (.iconst 1, 1) := by decide +kernel
theorem dL_board_10 : decode cL_board 10 = .ok (.iadd, 1) := by decide +kernel
theorem dL_board_11 : decode cL_board 11 = .ok (.invokestatic 21, 3) := by decide +kernel
theorem dL_board_14 : decode cL_board 14 = .ok (.istore 6, 2) := by decide +kernel
theorem dL_board_16 : decode cL_board 16 = .ok (.aload_n 3, 1) := by decide +kernel
theorem dL_board_17 : decode cL_board 17 = .ok (.iconst 1, 1) := by decide +kernel
theorem dL_board_18 : decode cL_board 18 = .ok (.iconst 1, 1) := by decide +kernel
theorem dL_board_19 : decode cL_board 19 = .ok (.iload 5, 2) := by decide +kernel
theorem dL_board_21 : decode cL_board 21 = .ok (.iload 5, 2) := by decide +kernel
theorem dL_board_23 : decode cL_board 23 = .ok (.ldc 25, 2) := by decide +kernel
theorem dL_board_25 : decode cL_board 25 = .ok (.iand, 1) := by decide +kernel
theorem dL_board_26 : decode cL_board 26 = .ok (.ifCond .ne 8, 3) := by decide +kernel
theorem dL_board_29 : decode cL_board 29 = .ok (.bipush 30, 2) := by decide +kernel
theorem dL_board_31 : decode cL_board 31 = .ok (.goto 5, 3) := by decide +kernel
theorem dL_board_34 : decode cL_board 34 = .ok (.bipush 60, 2) := by decide +kernel
theorem dL_board_36 : decode cL_board 36 = .ok (.invokestatic 26, 3) := by decide +kernel
theorem dL_board_39 : decode cL_board 39 = .ok (.iadd, 1) := by decide +kernel
theorem dL_board_40 : decode cL_board 40 = .ok (.iastore, 1) := by decide +kernel
theorem dL_board_41 : decode cL_board 41 = .ok (.aload_n 3, 1) := by decide +kernel
theorem dL_board_42 : decode cL_board 42 = .ok (.iconst 2, 1) := by decide +kernel
theorem dL_board_43 : decode cL_board 43 = .ok (.iload 5, 2) := by decide +kernel
theorem dL_board_45 : decode cL_board 45 = .ok (.bipush 7, 2) := by decide +kernel
theorem dL_board_47 : decode cL_board 47 = .ok (.ishr, 1) := by decide +kernel
theorem dL_board_48 : decode cL_board 48 = .ok (.iconst 3, 1) := by decide +kernel
theorem dL_board_49 : decode cL_board 49 = .ok (.iand, 1) := by decide +kernel
theorem dL_board_50 : decode cL_board 50 = .ok (.ifCond .ne 15, 3) := by decide +kernel
theorem dL_board_53 : decode cL_board 53 = .ok (.iload 5, 2) := by decide +kernel
theorem dL_board_55 : decode cL_board 55 = .ok (.bipush 9, 2) := by decide +kernel
theorem dL_board_57 : decode cL_board 57 = .ok (.ishr, 1) := by decide +kernel
theorem dL_board_58 : decode cL_board 58 = .ok (.iconst 5, 1) := by decide +kernel
theorem dL_board_59 : decode cL_board 59 = .ok (.invokestatic 26, 3) := by decide +kernel
theorem dL_board_62 : decode cL_board 62 = .ok (.goto 4, 3) := by decide +kernel
theorem dL_board_65 : decode cL_board 65 = .ok (.iconst 0, 1) := by decide +kernel
theorem dL_board_66 : decode cL_board 66 = .ok (.iastore, 1) := by decide +kernel
theorem dL_board_67 : decode cL_board 67 = .ok (.aload_n 3, 1) := by decide +kernel
theorem dL_board_68 : decode cL_board 68 = .ok (.iconst 3, 1) := by decide +kernel
theorem dL_board_69 : decode cL_board 69 = .ok (.iload 5, 2) := by decide +kernel
theorem dL_board_71 : decode cL_board 71 = .ok (.bipush 12, 2) := by decide +kernel
theorem dL_board_73 : decode cL_board 73 = .ok (.ishr, 1) := by decide +kernel
theorem dL_board_74 : decode cL_board 74 = .ok (.bipush 13, 2) := by decide +kernel
theorem dL_board_76 : decode cL_board 76 = .ok (.invokestatic 26, 3) := by decide +kernel
theorem dL_board_79 : decode cL_board 79 = .ok (.iastore, 1) := by decide +kernel
theorem dL_board_80 : decode cL_board 80 = .ok (.aload_n 3, 1) := by decide +kernel
theorem dL_board_81 : decode cL_board 81 = .ok (.iconst 4, 1) := by decide +kernel
theorem dL_board_82 : decode cL_board 82 = .ok (.iload 5, 2) := by decide +kernel
theorem dL_board_84 : decode cL_board 84 = .ok (.bipush 16, 2) := by decide +kernel
theorem dL_board_86 : decode cL_board 86 = .ok (.ishr, 1) := by decide +kernel
theorem dL_board_87 : decode cL_board 87 = .ok (.bipush 60, 2) := by decide +kernel
theorem dL_board_89 : decode cL_board 89 = .ok (.invokestatic 26, 3) := by decide +kernel
theorem dL_board_92 : decode cL_board 92 = .ok (.iastore, 1) := by decide +kernel
theorem dL_board_93 : decode cL_board 93 = .ok (.aload_n 3, 1) := by decide +kernel
theorem dL_board_94 : decode cL_board 94 = .ok (.iconst 5, 1) := by decide +kernel
theorem dL_board_95 : decode cL_board 95 = .ok (.iload 6, 2) := by decide +kernel
theorem dL_board_97 : decode cL_board 97 = .ok (.iconst 3, 1) := by decide +kernel
theorem dL_board_98 : decode cL_board 98 = .ok (.iand, 1) := by decide +kernel
theorem dL_board_99 : decode cL_board 99 = .ok (.ifCond .ne 15, 3) := by decide +kernel
theorem dL_board_102 : decode cL_board 102 = .ok (.iload 6, 2) := by decide +kernel
theorem dL_board_104 : decode cL_board 104 = .ok (.iconst 2, 1) := by decide +kernel
theorem dL_board_105 : decode cL_board 105 = .ok (.ishr, 1) := by decide +kernel
theorem dL_board_106 : decode cL_board 106 = .ok (.bipush 10, 2) := by decide +kernel
theorem dL_board_108 : decode cL_board 108 = .ok (.invokestatic 26, 3) := by decide +kernel
theorem dL_board_111 : decode cL_board 111 = .ok (.goto 4, 3) := by decide +kernel
theorem dL_board_114 : decode cL_board 114 = .ok (.iconst 0, 1) := by decide +kernel
theorem dL_board_115 : decode cL_board 115 = .ok (.iastore, 1) := by decide +kernel
theorem dL_board_116 : decode cL_board 116 = .ok (.aload_n 3, 1) := by decide +kernel
theorem dL_board_117 : decode cL_board 117 = .ok (.bipush 6, 2) := by decide +kernel
theorem dL_board_119 : decode cL_board 119 = .ok (.iload 6, 2) := by decide +kernel
theorem dL_board_121 : decode cL_board 121 = .ok (.bipush 6, 2) := by decide +kernel
theorem dL_board_123 : decode cL_board 123 = .ok (.ishr, 1) := by decide +kernel
theorem dL_board_124 : decode cL_board 124 = .ok (.iconst 1, 1) := by decide +kernel
theorem dL_board_125 : decode cL_board 125 = .ok (.iand, 1) := by decide +kernel
theorem dL_board_126 : decode cL_board 126 = .ok (.ifCond .ne 16, 3) := by decide +kernel
theorem dL_board_129 : decode cL_board 129 = .ok (.iload 6, 2) := by decide +kernel
theorem dL_board_131 : decode cL_board 131 = .ok (.bipush 7, 2) := by decide +kernel
theorem dL_board_133 : decode cL_board 133 = .ok (.ishr, 1) := by decide +kernel
theorem dL_board_134 : decode cL_board 134 = .ok (.bipush 10, 2) := by decide +kernel
theorem dL_board_136 : decode cL_board 136 = .ok (.invokestatic 26, 3) := by decide +kernel
theorem dL_board_139 : decode cL_board 139 = .ok (.goto 4, 3) := by decide +kernel
theorem dL_board_142 : decode cL_board 142 = .ok (.iconst 0, 1) := by decide +kernel
theorem dL_board_143 : decode cL_board 143 = .ok (.iastore, 1) := by decide +kernel
theorem dL_board_144 : decode cL_board 144 = .ok (.aload_n 3, 1) := by decide +kernel
theorem dL_board_145 : decode cL_board 145 = .ok (.bipush 7, 2) := by decide +kernel
theorem dL_board_147 : decode cL_board 147 = .ok (.iload 6, 2) := by decide +kernel
theorem dL_board_149 : decode cL_board 149 = .ok (.bipush 11, 2) := by decide +kernel
theorem dL_board_151 : decode cL_board 151 = .ok (.ishr, 1) := by decide +kernel
theorem dL_board_152 : decode cL_board 152 = .ok (.bipush 10, 2) := by decide +kernel
theorem dL_board_154 : decode cL_board 154 = .ok (.invokestatic 26, 3) := by decide +kernel
theorem dL_board_157 : decode cL_board 157 = .ok (.iastore, 1) := by decide +kernel
theorem dL_board_158 : decode cL_board 158 = .ok (.aload_n 3, 1) := by decide +kernel
theorem dL_board_159 : decode cL_board 159 = .ok (.bipush 8, 2) := by decide +kernel
theorem dL_board_161 : decode cL_board 161 = .ok (.iload 6, 2) := by decide +kernel
theorem dL_board_163 : decode cL_board 163 = .ok (.bipush 15, 2) := by decide +kernel
theorem dL_board_165 : decode cL_board 165 = .ok (.ishr, 1) := by decide +kernel
theorem dL_board_166 : decode cL_board 166 = .ok (.iconst 1, 1) := by decide +kernel
theorem dL_board_167 : decode cL_board 167 = .ok (.iand, 1) := by decide +kernel
theorem dL_board_168 : decode cL_board 168 = .ok (.iastore, 1) := by decide +kernel
theorem dL_board_169 : decode cL_board 169 = .ok (.aload_n 3, 1) := by decide +kernel
theorem dL_board_170 : decode cL_board 170 = .ok (.bipush 9, 2) := by decide +kernel
theorem dL_board_172 : decode cL_board 172 = .ok (.iload 6, 2) := by decide +kernel
theorem dL_board_174 : decode cL_board 174 = .ok (.bipush 16, 2) := by decide +kernel
theorem dL_board_176 : decode cL_board 176 = .ok (.ishr, 1) := by decide +kernel
theorem dL_board_177 : decode cL_board 177 = .ok (.iconst 1, 1) := by decide +kernel
theorem dL_board_178 : decode cL_board 178 = .ok (.iand, 1) := by decide +kernel
theorem dL_board_179 : decode cL_board 179 = .ok (.ifCond .ne 7, 3) := by decide +kernel
theorem dL_board_182 : decode cL_board 182 = .ok (.iconst 0, 1) := by decide +kernel
theorem dL_board_183 : decode cL_board 183 = .ok (.goto 15, 3) := by decide +kernel
theorem dL_board_186 : decode cL_board 186 = .ok (.iconst 1, 1) := by decide +kernel
theorem dL_board_187 : decode cL_board 187 = .ok (.iload 6, 2) := by decide +kernel
theorem dL_board_189 : decode cL_board 189 = .ok (.bipush 17, 2) := by decide +kernel
theorem dL_board_191 : decode cL_board 191 = .ok (.ishr, 1) := by decide +kernel
theorem dL_board_192 : decode cL_board 192 = .ok (.bipush 30, 2) := by decide +kernel
theorem dL_board_194 : decode cL_board 194 = .ok (.invokestatic 26, 3) := by decide +kernel
theorem dL_board_197 : decode cL_board 197 = .ok (.iadd, 1) := by decide +kernel
theorem dL_board_198 : decode cL_board 198 = .ok (.iastore, 1) := by decide +kernel
theorem dL_board_199 : decode cL_board 199 = .ok (.aload_n 3, 1) := by decide +kernel
theorem dL_board_200 : decode cL_board 200 = .ok (.bipush 10, 2) := by decide +kernel
theorem dL_board_202 : decode cL_board 202 = .ok (.aload_n 3, 1) := by decide +kernel
theorem dL_board_203 : decode cL_board 203 = .ok (.bipush 9, 2) := by decide +kernel
theorem dL_board_205 : decode cL_board 205 = .ok (.iaload, 1) := by decide +kernel
theorem dL_board_206 : decode cL_board 206 = .ok (.ifCond .ne 7, 3) := by decide +kernel
theorem dL_board_209 : decode cL_board 209 = .ok (.iconst 0, 1) := by decide +kernel
theorem dL_board_210 : decode cL_board 210 = .ok (.goto 13, 3) := by decide +kernel
theorem dL_board_213 : decode cL_board 213 = .ok (.iload 6, 2) := by decide +kernel
theorem dL_board_215 : decode cL_board 215 = .ok (.bipush 22, 2) := by decide +kernel
theorem dL_board_217 : decode cL_board 217 = .ok (.ishr, 1) := by decide +kernel
theorem dL_board_218 : decode cL_board 218 = .ok (.bipush 100, 2) := by decide +kernel
theorem dL_board_220 : decode cL_board 220 = .ok (.invokestatic 26, 3) := by decide +kernel
theorem dL_board_223 : decode cL_board 223 = .ok (.iastore, 1) := by decide +kernel
theorem dL_board_224 : decode cL_board 224 = .ok (.aload_n 0, 1) := by decide +kernel
theorem dL_board_225 : decode cL_board 225 = .ok (.invokevirtual 30, 3) := by decide +kernel
theorem dL_board_228 : decode cL_board 228 = .ok (.ifCond .lt 144, 3) := by decide +kernel
theorem dL_board_231 : decode cL_board 231 = .ok (.aload_n 0, 1) := by decide +kernel
theorem dL_board_232 : decode cL_board 232 = .ok (.bipush 98, 2) := by decide +kernel
theorem dL_board_234 : decode cL_board 234 = .ok (.iconst 2, 1) := by decide +kernel
theorem dL_board_235 : decode cL_board 235 = .ok (.aload_n 3, 1) := by decide +kernel
theorem dL_board_236 : decode cL_board 236 = .ok (.iconst 1, 1) := by decide +kernel
theorem dL_board_237 : decode cL_board 237 = .ok (.iaload, 1) := by decide +kernel
theorem dL_board_238 : decode cL_board 238 = .ok (.aload_n 3, 1) := by decide +kernel
theorem dL_board_239 : decode cL_board 239 = .ok (.iconst 2, 1) := by decide +kernel
theorem dL_board_240 : decode cL_board 240 = .ok (.iaload, 1) := by decide +kernel
theorem dL_board_241 : decode cL_board 241 = .ok (.iconst 0, 1) := by decide +kernel
theorem dL_board_242 : decode cL_board 242 = .ok (.iconst 0, 1) := by decide +kernel
theorem dL_board_243 : decode cL_board 243 = .ok (.iconst 0, 1) := by decide +kernel
theorem dL_board_244 : decode cL_board 244 = .ok (.invokestatic 34, 3) := by decide +kernel
theorem dL_board_247 : decode cL_board 247 = .ok (.ifCond .eq 125, 3) := by decide +kernel
theorem dL_board_250 : decode cL_board 250 = .ok (.aload_n 0, 1) := by decide +kernel
theorem dL_board_251 : decode cL_board 251 = .ok (.bipush 100, 2) := by decide +kernel
theorem dL_board_253 : decode cL_board 253 = .ok (.iconst 1, 1) := by decide +kernel
theorem dL_board_254 : decode cL_board 254 = .ok (.aload_n 3, 1) := by decide +kernel
theorem dL_board_255 : decode cL_board 255 = .ok (.iconst 3, 1) := by decide +kernel
theorem dL_board_256 : decode cL_board 256 = .ok (.iaload, 1) := by decide +kernel
theorem dL_board_257 : decode cL_board 257 = .ok (.iconst 0, 1) := by decide +kernel
theorem dL_board_258 : decode cL_board 258 = .ok (.iconst 0, 1) := by decide +kernel
theorem dL_board_259 : decode cL_board 259 = .ok (.iconst 0, 1) := by decide +kernel
theorem dL_board_260 : decode cL_board 260 = .ok (.iconst 0, 1) := by decide +kernel
theorem dL_board_261 : decode cL_board 261 = .ok (.invokestatic 34, 3) := by decide +kernel
theorem dL_board_264 : decode cL_board 264 = .ok (.ifCond .eq 108, 3) := by decide +kernel
theorem dL_board_267 : decode cL_board 267 = .ok (.aload_n 0, 1) := by decide +kernel
theorem dL_board_268 : decode cL_board 268 = .ok (.bipush 99, 2) := by decide +kernel
theorem dL_board_270 : decode cL_board 270 = .ok (.iconst 1, 1) := by decide +kernel
theorem dL_board_271 : decode cL_board 271 = .ok (.aload_n 3, 1) := by decide +kernel
theorem dL_board_272 : decode cL_board 272 = .ok (.iconst 4, 1) := by decide +kernel
theorem dL_board_273 : decode cL_board 273 = .ok (.iaload, 1) := by decide +kernel
theorem dL_board_274 : decode cL_board 274 = .ok (.iconst 0, 1) := by decide +kernel
theorem dL_board_275 : decode cL_board 275 = .ok (.iconst 0, 1) := by decide +kernel
theorem dL_board_276 : decode cL_board 276 = .ok (.iconst 0, 1) := by decide +kernel
theorem dL_board_277 : decode cL_board 277 = .ok (.iconst 0, 1) := by decide +kernel
theorem dL_board_278 : decode cL_board 278 = .ok (.invokestatic 34, 3) := by decide +kernel
theorem dL_board_281 : decode cL_board 281 = .ok (.ifCond .eq 91, 3) := by decide +kernel
theorem dL_board_284 : decode cL_board 284 = .ok (.aload_n 0, 1) := by decide +kernel
theorem dL_board_285 : decode cL_board 285 = .ok (.bipush 112, 2) := by decide +kernel
theorem dL_board_287 : decode cL_board 287 = .ok (.iconst 1, 1) := by decide +kernel
theorem dL_board_288 : decode cL_board 288 = .ok (.aload_n 3, 1) := by decide +kernel
theorem dL_board_289 : decode cL_board 289 = .ok (.iconst 5, 1) := by decide +kernel
theorem dL_board_290 : decode cL_board 290 = .ok (.iaload, 1) := by decide +kernel
theorem dL_board_291 : decode cL_board 291 = .ok (.iconst 0, 1) := by decide +kernel
theorem dL_board_292 : decode cL_board 292 = .ok (.iconst 0, 1) := by decide +kernel
theorem dL_board_293 : decode cL_board 293 = .ok (.iconst 0, 1) := by decide +kernel
theorem dL_board_294 : decode cL_board 294 = .ok (.iconst 0, 1) := by decide +kernel
theorem dL_board_295 : decode cL_board 295 = .ok (.invokestatic 34, 3) := by decide +kernel
theorem dL_board_298 : decode cL_board 298 = .ok (.ifCond .eq 74, 3) := by decide +kernel
theorem dL_board_301 : decode cL_board 301 = .ok (.aload_n 0, 1) := by decide +kernel
theorem dL_board_302 : decode cL_board 302 = .ok (.bipush 101, 2) := by decide +kernel
theorem dL_board_304 : decode cL_board 304 = .ok (.iconst 2, 1) := by decide +kernel
theorem dL_board_305 : decode cL_board 305 = .ok (.aload_n 3, 1) := by decide +kernel
theorem dL_board_306 : decode cL_board 306 = .ok (.bipush 6, 2) := by decide +kernel
theorem dL_board_308 : decode cL_board 308 = .ok (.iaload, 1) := by decide +kernel
theorem dL_board_309 : decode cL_board 309 = .ok (.aload_n 3, 1) := by decide +kernel
theorem dL_board_310 : decode cL_board 310 = .ok (.bipush 7, 2) := by decide +kernel
theorem dL_board_312 : decode cL_board 312 = .ok (.iaload, 1) := by decide +kernel
theorem dL_board_313 : decode cL_board 313 = .ok (.iconst 0, 1) := by decide +kernel
theorem dL_board_314 : decode cL_board 314 = .ok (.iconst 0, 1) := by decide +kernel
theorem dL_board_315 : decode cL_board 315 = .ok (.iconst 0, 1) := by decide +kernel
theorem dL_board_316 : decode cL_board 316 = .ok (.invokestatic 34, 3) := by decide +kernel
theorem dL_board_319 : decode cL_board 319 = .ok (.ifCond .eq 53, 3) := by decide +kernel
theorem dL_board_322 : decode cL_board 322 = .ok (.aload_n 0, 1) := by decide +kernel
theorem dL_board_323 : decode cL_board 323 = .ok (.bipush 111, 2) := by decide +kernel
theorem dL_board_325 : decode cL_board 325 = .ok (.iconst 1, 1) := by decide +kernel
theorem dL_board_326 : decode cL_board 326 = .ok (.aload_n 3, 1) := by decide +kernel
theorem dL_board_327 : decode cL_board 327 = .ok (.bipush 8, 2) := by decide +kernel
theorem dL_board_329 : decode cL_board 329 = .ok (.iaload, 1) := by decide +kernel
theorem dL_board_330 : decode cL_board 330 = .ok (.iconst 0, 1) := by decide +kernel
theorem dL_board_331 : decode cL_board 331 = .ok (.iconst 0, 1) := by decide +kernel
theorem dL_board_332 : decode cL_board 332 = .ok (.iconst 0, 1) := by decide +kernel
theorem dL_board_333 : decode cL_board 333 = .ok (.iconst 0, 1) := by decide +kernel
theorem dL_board_334 : decode cL_board 334 = .ok (.invokestatic 34, 3) := by decide +kernel
theorem dL_board_337 : decode cL_board 337 = .ok (.ifCond .eq 35, 3) := by decide +kernel
theorem dL_board_340 : decode cL_board 340 = .ok (.aload_n 3, 1) := by decide +kernel
theorem dL_board_341 : decode cL_board 341 = .ok (.bipush 9, 2) := by decide +kernel
theorem dL_board_343 : decode cL_board 343 = .ok (.iaload, 1) := by decide +kernel
theorem dL_board_344 : decode cL_board 344 = .ok (.ifCond .eq 24, 3) := by decide +kernel
theorem dL_board_347 : decode cL_board 347 = .ok (.aload_n 0, 1) := by decide +kernel
theorem dL_board_348 : decode cL_board 348 = .ok (.bipush 115, 2) := by decide +kernel
theorem dL_board_350 : decode cL_board 350 = .ok (.iconst 2, 1) := by decide +kernel
theorem dL_board_351 : decode cL_board 351 = .ok (.aload_n 3, 1) := by decide +kernel
theorem dL_board_352 : decode cL_board 352 = .ok (.bipush 9, 2) := by decide +kernel
theorem dL_board_354 : decode cL_board 354 = .ok (.iaload, 1) := by decide +kernel
theorem dL_board_355 : decode cL_board 355 = .ok (.aload_n 3, 1) := by decide +kernel
theorem dL_board_356 : decode cL_board 356 = .ok (.bipush 10, 2) := by decide +kernel
theorem dL_board_358 : decode cL_board 358 = .ok (.iaload, 1) := by decide +kernel
theorem dL_board_359 : decode cL_board 359 = .ok (.iconst 0, 1) := by decide +kernel
theorem dL_board_360 : decode cL_board 360 = .ok (.iconst 0, 1) := by decide +kernel
theorem dL_board_361 : decode cL_board 361 = .ok (.iconst 0, 1) := by decide +kernel
theorem dL_board_362 : decode cL_board 362 = .ok (.invokestatic 34, 3) := by decide +kernel
theorem dL_board_365 : decode cL_board 365 = .ok (.ifCond .eq 7, 3) := by decide +kernel
theorem dL_board_368 : decode cL_board 368 = .ok (.iconst 1, 1) := by decide +kernel
theorem dL_board_369 : decode cL_board 369 = .ok (.goto 4, 3) := by decide +kernel
theorem dL_board_372 : decode cL_board 372 = .ok (.iconst 0, 1) := by decide +kernel
theorem dL_board_373 : decode cL_board 373 = .ok (.istore 7, 2) := by decide +kernel
theorem dL_board_375 : decode cL_board 375 = .ok (.iconst 1, 1) := by decide +kernel
theorem dL_board_376 : decode cL_board 376 = .ok (.iload 5, 2) := by decide +kernel
theorem dL_board_378 : decode cL_board 378 = .ok (.bipush 22, 2) := by decide +kernel
theorem dL_board_380 : decode cL_board 380 = .ok (.ishr, 1) := by decide +kernel
theorem dL_board_381 : decode cL_board 381 = .ok (.iconst 3, 1) := by decide +kernel
theorem dL_board_382 : decode cL_board 382 = .ok (.invokestatic 26, 3) := by decide +kernel
theorem dL_board_385 : decode cL_board 385 = .ok (.iadd, 1) := by decide +kernel
theorem dL_board_386 : decode cL_board 386 = .ok (.istore 8, 2) := by decide +kernel
theorem dL_board_388 : decode cL_board 388 = .ok (.aload_n 3, 1) := by decide +kernel
theorem dL_board_389 : decode cL_board 389 = .ok (.iconst 0, 1) := by decide +kernel
theorem dL_board_390 : decode cL_board 390 = .ok (.iconst 0, 1) := by decide +kernel
theorem dL_board_391 : decode cL_board 391 = .ok (.iastore, 1) := by decide +kernel
theorem dL_board_392 : decode cL_board 392 = .ok (.iconst 0, 1) := by decide +kernel
theorem dL_board_393 : decode cL_board 393 = .ok (.istore 9, 2) := by decide +kernel
theorem dL_board_395 : decode cL_board 395 = .ok (.iload 9, 2) := by decide +kernel
theorem dL_board_397 : decode cL_board 397 = .ok (.iload 8, 2) := by decide +kernel
theorem dL_board_399 : decode cL_board 399 = .ok (.if_icmp .ge 424, 3) := by decide +kernel
theorem dL_board_402 : decode cL_board 402 = .ok (.aload_n 1, 1) := by decide +kernel
theorem dL_board_403 : decode cL_board 403 = .ok (.iload_n 2, 1) := by decide +kernel
theorem dL_board_404 : decode cL_board 404 = .ok (.iconst 2, 1) := by decide +kernel
theorem dL_board_405 : decode cL_board 405 = .ok (.iadd, 1) := by decide +kernel
theorem dL_board_406 : decode cL_board 406 = .ok (.iconst 2, 1) := by decide +kernel
theorem dL_board_407 : decode cL_board 407 = .ok (.iload 9, 2) := by decide +kernel
theorem dL_board_409 : decode cL_board 409 = .ok (.imul, 1) := by decide +kernel
theorem dL_board_410 : decode cL_board 410 = .ok (.iadd, 1) := by decide +kernel
theorem dL_board_411 : decode cL_board 411 = .ok (.invokestatic 21, 3) := by decide +kernel
theorem dL_board_414 : decode cL_board 414 = .ok (.istore 10, 2) := by decide +kernel
theorem dL_board_416 : decode cL_board 416 = .ok (.aload_n 1, 1) := by decide +kernel
theorem dL_board_417 : decode cL_board 417 = .ok (.iload_n 2, 1) := by decide +kernel
theorem dL_board_418 : decode cL_board 418 = .ok (.iconst 3, 1) := by decide +kernel
theorem dL_board_419 : decode cL_board 419 = .ok (.iadd, 1) := by decide +kernel
theorem dL_board_420 : decode cL_board 420 = .ok (.iconst 2, 1) := by decide +kernel
theorem dL_board_421 : decode cL_board 421 = .ok (.iload 9, 2) := by decide +kernel
theorem dL_board_423 : decode cL_board 423 = .ok (.imul, 1) := by decide +kernel
theorem dL_board_424 : decode cL_board 424 = .ok (.iadd, 1) := by decide +kernel
theorem dL_board_425 : decode cL_board 425 = .ok (.invokestatic 21, 3) := by decide +kernel
theorem dL_board_428 : decode cL_board 428 = .ok (.istore 11, 2) := by decide +kernel
theorem dL_board_430 : decode cL_board 430 = .ok (.iconst 1, 1) := by decide +kernel
theorem dL_board_431 : decode cL_board 431 = .ok (.iload 10, 2) := by decide +kernel
theorem dL_board_433 : decode cL_board 433 = .ok (.iconst 2, 1) := by decide +kernel
theorem dL_board_434 : decode cL_board 434 = .ok (.invokestatic 26, 3) := by decide +kernel
theorem dL_board_437 : decode cL_board 437 = .ok (.iadd, 1) := by decide +kernel
theorem dL_board_438 : decode cL_board 438 = .ok (.istore 12, 2) := by decide +kernel
theorem dL_board_440 : decode cL_board 440 = .ok (.iload 10, 2) := by decide +kernel
theorem dL_board_442 : decode cL_board 442 = .ok (.iconst 1, 1) := by decide +kernel
theorem dL_board_443 : decode cL_board 443 = .ok (.ishr, 1) := by decide +kernel
theorem dL_board_444 : decode cL_board 444 = .ok (.bipush 6, 2) := by decide +kernel
theorem dL_board_446 : decode cL_board 446 = .ok (.invokestatic 26, 3) := by decide +kernel
theorem dL_board_449 : decode cL_board 449 = .ok (.istore 13, 2) := by decide +kernel
theorem dL_board_451 : decode cL_board 451 = .ok (.iload 10, 2) := by decide +kernel
theorem dL_board_453 : decode cL_board 453 = .ok (.iconst 4, 1) := by decide +kernel
theorem dL_board_454 : decode cL_board 454 = .ok (.ishr, 1) := by decide +kernel
theorem dL_board_455 : decode cL_board 455 = .ok (.bipush 31, 2) := by decide +kernel
theorem dL_board_457 : decode cL_board 457 = .ok (.invokestatic 26, 3) := by decide +kernel
theorem dL_board_460 : decode cL_board 460 = .ok (.istore 14, 2) := by decide +kernel
theorem dL_board_462 : decode cL_board 462 = .ok (.iload 10, 2) := by decide +kernel
theorem dL_board_464 : decode cL_board 464 = .ok (.bipush 9, 2) := by decide +kernel
theorem dL_board_466 : decode cL_board 466 = .ok (.ishr, 1) := by decide +kernel
theorem dL_board_467 : decode cL_board 467 = .ok (.bipush 12, 2) := by decide +kernel
theorem dL_board_469 : decode cL_board 469 = .ok (.invokestatic 26, 3) := by decide +kernel
theorem dL_board_472 : decode cL_board 472 = .ok (.istore 15, 2) := by decide +kernel
theorem dL_board_474 : decode cL_board 474 = .ok (.iload 10, 2) := by decide +kernel
theorem dL_board_476 : decode cL_board 476 = .ok (.bipush 13, 2) := by decide +kernel
theorem dL_board_478 : decode cL_board 478 = .ok (.ishr, 1) := by decide +kernel
theorem dL_board_479 : decode cL_board 479 = .ok (.iconst 5, 1) := by decide +kernel
theorem dL_board_480 : decode cL_board 480 = .ok (.invokestatic 26, 3) := by decide +kernel
theorem dL_board_483 : decode cL_board 483 = .ok (.istore 16, 2) := by decide +kernel
theorem dL_board_485 : decode cL_board 485 = .ok (.iload 10, 2) := by decide +kernel
theorem dL_board_487 : decode cL_board 487 = .ok (.bipush 16, 2) := by decide +kernel
theorem dL_board_489 : decode cL_board 489 = .ok (.ishr, 1) := by decide +kernel
theorem dL_board_490 : decode cL_board 490 = .ok (.bipush 30, 2) := by decide +kernel
theorem dL_board_492 : decode cL_board 492 = .ok (.invokestatic 26, 3) := by decide +kernel
theorem dL_board_495 : decode cL_board 495 = .ok (.istore 17, 2) := by decide +kernel
theorem dL_board_497 : decode cL_board 497 = .ok (.iload 7, 2) := by decide +kernel
theorem dL_board_499 : decode cL_board 499 = .ok (.ifCond .eq 44, 3) := by decide +kernel
theorem dL_board_502 : decode cL_board 502 = .ok (.aload_n 0, 1) := by decide +kernel
theorem dL_board_503 : decode cL_board 503 = .ok (.bipush 103, 2) := by decide +kernel
theorem dL_board_505 : decode cL_board 505 = .ok (.iconst 5, 1) := by decide +kernel
theorem dL_board_506 : decode cL_board 506 = .ok (.iload 12, 2) := by decide +kernel
theorem dL_board_508 : decode cL_board 508 = .ok (.iload 13, 2) := by decide +kernel
theorem dL_board_510 : decode cL_board 510 = .ok (.iload 14, 2) := by decide +kernel
theorem dL_board_512 : decode cL_board 512 = .ok (.iload 15, 2) := by decide +kernel
theorem dL_board_514 : decode cL_board 514 = .ok (.iload 16, 2) := by decide +kernel
theorem dL_board_516 : decode cL_board 516 = .ok (.invokestatic 34, 3) := by decide +kernel
theorem dL_board_519 : decode cL_board 519 = .ok (.ifCond .eq 24, 3) := by decide +kernel
theorem dL_board_522 : decode cL_board 522 = .ok (.aload_n 0, 1) := by decide +kernel
theorem dL_board_523 : decode cL_board 523 = .ok (.bipush 116, 2) := by decide +kernel
theorem dL_board_525 : decode cL_board 525 = .ok (.iconst 2, 1) := by decide +kernel
theorem dL_board_526 : decode cL_board 526 = .ok (.iload 9, 2) := by decide +kernel
theorem dL_board_528 : decode cL_board 528 = .ok (.iload 17, 2) := by decide +kernel
theorem dL_board_530 : decode cL_board 530 = .ok (.iconst 0, 1) := by decide +kernel
theorem dL_board_531 : decode cL_board 531 = .ok (.iconst 0, 1) := by decide +kernel
theorem dL_board_532 : decode cL_board 532 = .ok (.iconst 0, 1) := by decide +kernel
theorem dL_board_533 : decode cL_board 533 = .ok (.invokestatic 34, 3) := by decide +kernel
theorem dL_board_536 : decode cL_board 536 = .ok (.ifCond .eq 7, 3) := by decide +kernel
theorem dL_board_539 : decode cL_board 539 = .ok (.iconst 1, 1) := by decide +kernel
theorem dL_board_540 : decode cL_board 540 = .ok (.goto 4, 3) := by decide +kernel
theorem dL_board_543 : decode cL_board 543 = .ok (.iconst 0, 1) := by decide +kernel
theorem dL_board_544 : decode cL_board 544 = .ok (.istore 7, 2) := by decide +kernel
theorem dL_board_546 : decode cL_board 546 = .ok (.iconst 0, 1) := by decide +kernel
theorem dL_board_547 : decode cL_board 547 = .ok (.istore 18, 2) := by decide +kernel
theorem dL_board_549 : decode cL_board 549 = .ok (.iload 18, 2) := by decide +kernel
theorem dL_board_551 : decode cL_board 551 = .ok (.iload 12, 2) := by decide +kernel
theorem dL_board_553 : decode cL_board 553 = .ok (.if_icmp .ge 72, 3) := by decide +kernel
theorem dL_board_556 : decode cL_board 556 = .ok (.aload_n 3, 1) := by decide +kernel
theorem dL_board_557 : decode cL_board 557 = .ok (.bipush 11, 2) := by decide +kernel
theorem dL_board_559 : decode cL_board 559 = .ok (.aload_n 3, 1) := by decide +kernel
theorem dL_board_560 : decode cL_board 560 = .ok (.iconst 0, 1) := by decide +kernel
theorem dL_board_561 : decode cL_board 561 = .ok (.iaload, 1) := by decide +kernel
theorem dL_board_562 : decode cL_board 562 = .ok (.iadd, 1) := by decide +kernel
theorem dL_board_563 : decode cL_board 563 = .ok (.iload 9, 2) := by decide +kernel
theorem dL_board_565 : decode cL_board 565 = .ok (.iastore, 1) := by decide +kernel
theorem dL_board_566 : decode cL_board 566 = .ok (.aload_n 3, 1) := by decide +kernel
theorem dL_board_567 : decode cL_board 567 = .ok (.bipush 17, 2) := by decide +kernel
theorem dL_board_569 : decode cL_board 569 = .ok (.aload_n 3, 1) := by decide +kernel
theorem dL_board_570 : decode cL_board 570 = .ok (.iconst 0, 1) := by decide +kernel
theorem dL_board_571 : decode cL_board 571 = .ok (.iaload, 1) := by decide +kernel
theorem dL_board_572 : decode cL_board 572 = .ok (.iadd, 1) := by decide +kernel
theorem dL_board_573 : decode cL_board 573 = .ok (.iload 13, 2) := by decide +kernel
theorem dL_board_575 : decode cL_board 575 = .ok (.iastore, 1) := by decide +kernel
theorem dL_board_576 : decode cL_board 576 = .ok (.aload_n 3, 1) := by decide +kernel
theorem dL_board_577 : decode cL_board 577 = .ok (.bipush 23, 2) := by decide +kernel
theorem dL_board_579 : decode cL_board 579 = .ok (.aload_n 3, 1) := by decide +kernel
theorem dL_board_580 : decode cL_board 580 = .ok (.iconst 0, 1) := by decide +kernel
theorem dL_board_581 : decode cL_board 581 = .ok (.iaload, 1) := by decide +kernel
theorem dL_board_582 : decode cL_board 582 = .ok (.iadd, 1) := by decide +kernel
theorem dL_board_583 : decode cL_board 583 = .ok (.iload 14, 2) := by decide +kernel
theorem dL_board_585 : decode cL_board 585 = .ok (.iastore, 1) := by decide +kernel
theorem dL_board_586 : decode cL_board 586 = .ok (.aload_n 3, 1) := by decide +kernel
theorem dL_board_587 : decode cL_board 587 = .ok (.bipush 29, 2) := by decide +kernel
theorem dL_board_589 : decode cL_board 589 = .ok (.aload_n 3, 1) := by decide +kernel
theorem dL_board_590 : decode cL_board 590 = .ok (.iconst 0, 1) := by decide +kernel
theorem dL_board_591 : decode cL_board 591 = .ok (.iaload, 1) := by decide +kernel
theorem dL_board_592 : decode cL_board 592 = .ok (.iadd, 1) := by decide +kernel
theorem dL_board_593 : decode cL_board 593 = .ok (.iload 15, 2) := by decide +kernel
theorem dL_board_595 : decode cL_board 595 = .ok (.iload 18, 2) := by decide +kernel
theorem dL_board_597 : decode cL_board 597 = .ok (.iload 16, 2) := by decide +kernel
theorem dL_board_599 : decode cL_board 599 = .ok (.imul, 1) := by decide +kernel
theorem dL_board_600 : decode cL_board 600 = .ok (.iadd, 1) := by decide +kernel
theorem dL_board_601 : decode cL_board 601 = .ok (.iastore, 1) := by decide +kernel
theorem dL_board_602 : decode cL_board 602 = .ok (.aload_n 3, 1) := by decide +kernel
theorem dL_board_603 : decode cL_board 603 = .ok (.bipush 35, 2) := by decide +kernel
theorem dL_board_605 : decode cL_board 605 = .ok (.aload_n 3, 1) := by decide +kernel
theorem dL_board_606 : decode cL_board 606 = .ok (.iconst 0, 1) := by decide +kernel
theorem dL_board_607 : decode cL_board 607 = .ok (.iaload, 1) := by decide +kernel
theorem dL_board_608 : decode cL_board 608 = .ok (.iadd, 1) := by decide +kernel
theorem dL_board_609 : decode cL_board 609 = .ok (.iload 17, 2) := by decide +kernel
theorem dL_board_611 : decode cL_board 611 = .ok (.iastore, 1) := by decide +kernel
theorem dL_board_612 : decode cL_board 612 = .ok (.aload_n 3, 1) := by decide +kernel
theorem dL_board_613 : decode cL_board 613 = .ok (.iconst 0, 1) := by decide +kernel
theorem dL_board_614 : decode cL_board 614 = .ok (.dup2, 1) := by decide +kernel
theorem dL_board_615 : decode cL_board 615 = .ok (.iaload, 1) := by decide +kernel
theorem dL_board_616 : decode cL_board 616 = .ok (.iconst 1, 1) := by decide +kernel
theorem dL_board_617 : decode cL_board 617 = .ok (.iadd, 1) := by decide +kernel
theorem dL_board_618 : decode cL_board 618 = .ok (.iastore, 1) := by decide +kernel
theorem dL_board_619 : decode cL_board 619 = .ok (.iinc 18 1, 3) := by decide +kernel
theorem dL_board_622 : decode cL_board 622 = .ok (.goto (-73), 3) := by decide +kernel
theorem dL_board_625 : decode cL_board 625 = .ok (.aload 4, 2) := by decide +kernel
theorem dL_board_627 : decode cL_board 627 = .ok (.bipush 7, 2) := by decide +kernel
theorem dL_board_629 : decode cL_board 629 = .ok (.iload 9, 2) := by decide +kernel
theorem dL_board_631 : decode cL_board 631 = .ok (.imul, 1) := by decide +kernel
theorem dL_board_632 : decode cL_board 632 = .ok (.iconst 1, 1) := by decide +kernel
theorem dL_board_633 : decode cL_board 633 = .ok (.iload 11, 2) := by decide +kernel
theorem dL_board_635 : decode cL_board 635 = .ok (.iconst 3, 1) := by decide +kernel
theorem dL_board_636 : decode cL_board 636 = .ok (.invokestatic 26, 3) := by decide +kernel
theorem dL_board_639 : decode cL_board 639 = .ok (.iadd, 1) := by decide +kernel
theorem dL_board_640 : decode cL_board 640 = .ok (.iastore, 1) := by decide +kernel
theorem dL_board_641 : decode cL_board 641 = .ok (.bipush 10, 2) := by decide +kernel
theorem dL_board_643 : decode cL_board 643 = .ok (.istore 18, 2) := by decide +kernel
theorem dL_board_645 : decode cL_board 645 = .ok (.iconst 0, 1) := by decide +kernel
theorem dL_board_646 : decode cL_board 646 = .ok (.istore 19, 2) := by decide +kernel
theorem dL_board_648 : decode cL_board 648 = .ok (.iload 19, 2) := by decide +kernel
theorem dL_board_650 : decode cL_board 650 = .ok (.aload 4, 2) := by decide +kernel
theorem dL_board_652 : decode cL_board 652 = .ok (.bipush 7, 2) := by decide +kernel
theorem dL_board_654 : decode cL_board 654 = .ok (.iload 9, 2) := by decide +kernel
theorem dL_board_656 : decode cL_board 656 = .ok (.imul, 1) := by decide +kernel
theorem dL_board_657 : decode cL_board 657 = .ok (.iaload, 1) := by decide +kernel
theorem dL_board_658 : decode cL_board 658 = .ok (.if_icmp .ge 159, 3) := by decide +kernel
theorem dL_board_661 : decode cL_board 661 = .ok (.iload 19, 2) := by decide +kernel
theorem dL_board_663 : decode cL_board 663 = .ok (.aload 4, 2) := by decide +kernel
theorem dL_board_665 : decode cL_board 665 = .ok (.bipush 7, 2) := by decide +kernel
theorem dL_board_667 : decode cL_board 667 = .ok (.iload 9, 2) := by decide +kernel
theorem dL_board_669 : decode cL_board 669 = .ok (.imul, 1) := by decide +kernel
theorem dL_board_670 : decode cL_board 670 = .ok (.iaload, 1) := by decide +kernel
theorem dL_board_671 : decode cL_board 671 = .ok (.iconst 1, 1) := by decide +kernel
theorem dL_board_672 : decode cL_board 672 = .ok (.isub, 1) := by decide +kernel
theorem dL_board_673 : decode cL_board 673 = .ok (.if_icmp .ne 8, 3) := by decide +kernel
theorem dL_board_676 : decode cL_board 676 = .ok (.iload 18, 2) := by decide +kernel
theorem dL_board_678 : decode cL_board 678 = .ok (.goto 33, 3) := by decide +kernel
theorem dL_board_681 : decode cL_board 681 = .ok (.iconst 1, 1) := by decide +kernel
theorem dL_board_682 : decode cL_board 682 = .ok (.iload 11, 2) := by decide +kernel
theorem dL_board_684 : decode cL_board 684 = .ok (.iconst 2, 1) := by decide +kernel
theorem dL_board_685 : decode cL_board 685 = .ok (.iconst 3, 1) := by decide +kernel
theorem dL_board_686 : decode cL_board 686 = .ok (.iload 19, 2) := by decide +kernel
theorem dL_board_688 : decode cL_board 688 = .ok (.imul, 1) := by decide +kernel
theorem dL_board_689 : decode cL_board 689 = .ok (.iadd, 1) := by decide +kernel
theorem dL_board_690 : decode cL_board 690 = .ok (.ishr, 1) := by decide +kernel
theorem dL_board_691 : decode cL_board 691 = .ok (.iload 18, 2) := by decide +kernel
theorem dL_board_693 : decode cL_board 693 = .ok (.aload 4, 2) := by decide +kernel
theorem dL_board_695 : decode cL_board 695 = .ok (.bipush 7, 2) := by decide +kernel
theorem dL_board_697 : decode cL_board 697 = .ok (.iload 9, 2) := by decide +kernel
theorem dL_board_699 : decode cL_board 699 = .ok (.imul, 1) := by decide +kernel
theorem dL_board_700 : decode cL_board 700 = .ok (.iaload, 1) := by decide +kernel
theorem dL_board_701 : decode cL_board 701 = .ok (.isub, 1) := by decide +kernel
theorem dL_board_702 : decode cL_board 702 = .ok (.iload 19, 2) := by decide +kernel
theorem dL_board_704 : decode cL_board 704 = .ok (.iadd, 1) := by decide +kernel
theorem dL_board_705 : decode cL_board 705 = .ok (.iconst 1, 1) := by decide +kernel
theorem dL_board_706 : decode cL_board 706 = .ok (.iadd, 1) := by decide +kernel
theorem dL_board_707 : decode cL_board 707 = .ok (.invokestatic 26, 3) := by decide +kernel
theorem dL_board_710 : decode cL_board 710 = .ok (.iadd, 1) := by decide +kernel
theorem dL_board_711 : decode cL_board 711 = .ok (.istore 20, 2) := by decide +kernel
theorem dL_board_713 : decode cL_board 713 = .ok (.iload 18, 2) := by decide +kernel
theorem dL_board_715 : decode cL_board 715 = .ok (.iload 20, 2) := by decide +kernel
theorem dL_board_717 : decode cL_board 717 = .ok (.isub, 1) := by decide +kernel
theorem dL_board_718 : decode cL_board 718 = .ok (.istore 18, 2) := by decide +kernel
theorem dL_board_720 : decode cL_board 720 = .ok (.aload 4, 2) := by decide +kernel
theorem dL_board_722 : decode cL_board 722 = .ok (.bipush 7, 2) := by decide +kernel
theorem dL_board_724 : decode cL_board 724 = .ok (.iload 9, 2) := by decide +kernel
theorem dL_board_726 : decode cL_board 726 = .ok (.imul, 1) := by decide +kernel
theorem dL_board_727 : decode cL_board 727 = .ok (.iconst 1, 1) := by decide +kernel
theorem dL_board_728 : decode cL_board 728 = .ok (.iadd, 1) := by decide +kernel
theorem dL_board_729 : decode cL_board 729 = .ok (.iconst 2, 1) := by decide +kernel
theorem dL_board_730 : decode cL_board 730 = .ok (.iload 19, 2) := by decide +kernel
theorem dL_board_732 : decode cL_board 732 = .ok (.imul, 1) := by decide +kernel
theorem dL_board_733 : decode cL_board 733 = .ok (.iadd, 1) := by decide +kernel
theorem dL_board_734 : decode cL_board 734 = .ok (.iload 11, 2) := by decide +kernel
theorem dL_board_736 : decode cL_board 736 = .ok (.bipush 10, 2) := by decide +kernel
theorem dL_board_738 : decode cL_board 738 = .ok (.bipush 6, 2) := by decide +kernel
theorem dL_board_740 : decode cL_board 740 = .ok (.iload 19, 2) := by decide +kernel
theorem dL_board_742 : decode cL_board 742 = .ok (.imul, 1) := by decide +kernel
theorem dL_board_743 : decode cL_board 743 = .ok (.iadd, 1) := by decide +kernel
theorem dL_board_744 : decode cL_board 744 = .ok (.ishr, 1) := by decide +kernel
theorem dL_board_745 : decode cL_board 745 = .ok (.bipush 31, 2) := by decide +kernel
theorem dL_board_747 : decode cL_board 747 = .ok (.invokestatic 26, 3) := by decide +kernel
theorem dL_board_750 : decode cL_board 750 = .ok (.iastore, 1) := by decide +kernel
theorem dL_board_751 : decode cL_board 751 = .ok (.aload 4, 2) := by decide +kernel
theorem dL_board_753 : decode cL_board 753 = .ok (.bipush 7, 2) := by decide +kernel
theorem dL_board_755 : decode cL_board 755 = .ok (.iload 9, 2) := by decide +kernel
theorem dL_board_757 : decode cL_board 757 = .ok (.imul, 1) := by decide +kernel
theorem dL_board_758 : decode cL_board 758 = .ok (.iconst 2, 1) := by decide +kernel
theorem dL_board_759 : decode cL_board 759 = .ok (.iadd, 1) := by decide +kernel
theorem dL_board_760 : decode cL_board 760 = .ok (.iconst 2, 1) := by decide +kernel
theorem dL_board_761 : decode cL_board 761 = .ok (.iload 19, 2) := by decide +kernel
theorem dL_board_763 : decode cL_board 763 = .ok (.imul, 1) := by decide +kernel
theorem dL_board_764 : decode cL_board 764 = .ok (.iadd, 1) := by decide +kernel
theorem dL_board_765 : decode cL_board 765 = .ok (.iload 20, 2) := by decide +kernel
theorem dL_board_767 : decode cL_board 767 = .ok (.iastore, 1) := by decide +kernel
theorem dL_board_768 : decode cL_board 768 = .ok (.iload 7, 2) := by decide +kernel
theorem dL_board_770 : decode cL_board 770 = .ok (.ifCond .eq 38, 3) := by decide +kernel
theorem dL_board_773 : decode cL_board 773 = .ok (.aload_n 0, 1) := by decide +kernel
theorem dL_board_774 : decode cL_board 774 = .ok (.bipush 119, 2) := by decide +kernel
theorem dL_board_776 : decode cL_board 776 = .ok (.iconst 3, 1) := by decide +kernel
theorem dL_board_777 : decode cL_board 777 = .ok (.iload 9, 2) := by decide +kernel
theorem dL_board_779 : decode cL_board 779 = .ok (.aload 4, 2) := by decide +kernel
theorem dL_board_781 : decode cL_board 781 = .ok (.bipush 7, 2) := by decide +kernel
theorem dL_board_783 : decode cL_board 783 = .ok (.iload 9, 2) := by decide +kernel
theorem dL_board_785 : decode cL_board 785 = .ok (.imul, 1) := by decide +kernel
theorem dL_board_786 : decode cL_board 786 = .ok (.iconst 1, 1) := by decide +kernel
theorem dL_board_787 : decode cL_board 787 = .ok (.iadd, 1) := by decide +kernel
theorem dL_board_788 : decode cL_board 788 = .ok (.iconst 2, 1) := by decide +kernel
theorem dL_board_789 : decode cL_board 789 = .ok (.iload 19, 2) := by decide +kernel
theorem dL_board_791 : decode cL_board 791 = .ok (.imul, 1) := by decide +kernel
theorem dL_board_792 : decode cL_board 792 = .ok (.iadd, 1) := by decide +kernel
theorem dL_board_793 : decode cL_board 793 = .ok (.iaload, 1) := by decide +kernel
theorem dL_board_794 : decode cL_board 794 = .ok (.iload 20, 2) := by decide +kernel
theorem dL_board_796 : decode cL_board 796 = .ok (.iconst 0, 1) := by decide +kernel
theorem dL_board_797 : decode cL_board 797 = .ok (.iconst 0, 1) := by decide +kernel
theorem dL_board_798 : decode cL_board 798 = .ok (.invokestatic 34, 3) := by decide +kernel
theorem dL_board_801 : decode cL_board 801 = .ok (.ifCond .eq 7, 3) := by decide +kernel
theorem dL_board_804 : decode cL_board 804 = .ok (.iconst 1, 1) := by decide +kernel
theorem dL_board_805 : decode cL_board 805 = .ok (.goto 4, 3) := by decide +kernel
theorem dL_board_808 : decode cL_board 808 = .ok (.iconst 0, 1) := by decide +kernel
theorem dL_board_809 : decode cL_board 809 = .ok (.istore 7, 2) := by decide +kernel
theorem dL_board_811 : decode cL_board 811 = .ok (.iinc 19 1, 3) := by decide +kernel
theorem dL_board_814 : decode cL_board 814 = .ok (.goto (-166), 3) := by decide +kernel
theorem dL_board_817 : decode cL_board 817 = .ok (.iinc 9 1, 3) := by decide +kernel
theorem dL_board_820 : decode cL_board 820 = .ok (.goto (-425), 3) := by decide +kernel
theorem dL_board_823 : decode cL_board 823 = .ok (.iload 7, 2) := by decide +kernel
theorem dL_board_825 : decode cL_board 825 = .ok (.ifCond .eq 26, 3) := by decide +kernel
theorem dL_board_828 : decode cL_board 828 = .ok (.aload_n 0, 1) := by decide +kernel
theorem dL_board_829 : decode cL_board 829 = .ok (.invokevirtual 38, 3) := by decide +kernel
theorem dL_board_832 : decode cL_board 832 = .ok (.bipush (-4), 2) := by decide +kernel
theorem dL_board_834 : decode cL_board 834 = .ok (.if_icmp .ne 17, 3) := by decide +kernel
theorem dL_board_837 : decode cL_board 837 = .ok (.aload_n 0, 1) := by decide +kernel
theorem dL_board_838 : decode cL_board 838 = .ok (.invokevirtual 41, 3) := by decide +kernel
theorem dL_board_841 : decode cL_board 841 = .ok (.aload_n 3, 1) := by decide +kernel
theorem dL_board_842 : decode cL_board 842 = .ok (.iconst 0, 1) := by decide +kernel
theorem dL_board_843 : decode cL_board 843 = .ok (.iaload, 1) := by decide +kernel
theorem dL_board_844 : decode cL_board 844 = .ok (.if_icmp .ne 7, 3) := by decide +kernel
theorem dL_board_847 : decode cL_board 847 = .ok (.iconst 1, 1) := by decide +kernel
theorem dL_board_848 : decode cL_board 848 = .ok (.goto 4, 3) := by decide +kernel
theorem dL_board_851 : decode cL_board 851 = .ok (.iconst 0, 1) := by decide +kernel
theorem dL_board_852 : decode cL_board 852 = .ok (.ireturn, 1) := by decide +kernel
theorem dL_act_0 : decode cL_act 0 = .ok (.iload_n 2, 1) := by decide +kernel
theorem dL_act_1 : decode cL_act 1 = .ok (.iload_n 3, 1) := by decide +kernel
theorem dL_act_2 : decode cL_act 2 = .ok (.invokestatic 26, 3) := by decide +kernel
theorem dL_act_5 : decode cL_act 5 = .ok (.istore 5, 2) := by decide +kernel
theorem dL_act_7 : decode cL_act 7 = .ok (.iload_n 1, 1) := by decide +kernel
theorem dL_act_8 : decode cL_act 8 = .ok (.bipush 15, 2) := by decide +kernel
theorem dL_act_10 : decode cL_act 10 = .ok (.iand, 1) := by decide +kernel
theorem dL_act_11 : decode cL_act 11 = .ok (.tableswitch 333 0 14 #[73, 84, 94, 106, 114, 114, 130, 149, 163, 184, 207, 234, 283, 293, 315], 73) := by decide +kernel
theorem dL_act_84 : decode cL_act 84 = .ok (.aload_n 0, 1) := by decide +kernel
theorem dL_act_85 : decode cL_act 85 = .ok (.iload_n 2, 1) := by decide +kernel
theorem dL_act_86 : decode cL_act 86 = .ok (.iconst 3, 1) := by decide +kernel
theorem dL_act_87 : decode cL_act 87 = .ok (.invokestatic 26, 3) := by decide +kernel
theorem dL_act_90 : decode cL_act 90 = .ok (.invokevirtual 68, 3) := by decide +kernel
theorem dL_act_93 : decode cL_act 93 = .ok (.i2l, 1) := by decide +kernel
theorem dL_act_94 : decode cL_act 94 = .ok (.lreturn, 1) := by decide +kernel
theorem dL_act_95 : decode cL_act 95 = .ok (.aload_n 0, 1) := by decide +kernel
theorem dL_act_96 : decode cL_act 96 = .ok (.iload_n 2, 1) := by decide +kernel
theorem dL_act_97 : decode cL_act 97 = .ok (.iconst 3, 1) := by decide +kernel
theorem dL_act_98 : decode cL_act 98 = .ok (.invokestatic 26, 3) := by decide +kernel
theorem dL_act_101 : decode cL_act 101 = .ok (.invokevirtual 72, 3) := by decide +kernel
theorem dL_act_104 : decode cL_act 104 = .ok (.lreturn, 1) := by decide +kernel
theorem dL_act_105 : decode cL_act 105 = .ok (.aload_n 0, 1) := by decide +kernel
theorem dL_act_106 : decode cL_act 106 = .ok (.iload 5, 2) := by decide +kernel
theorem dL_act_108 : decode cL_act 108 = .ok (.iload_n 1, 1) := by decide +kernel
theorem dL_act_109 : decode cL_act 109 = .ok (.iconst 4, 1) := by decide +kernel
theorem dL_act_110 : decode cL_act 110 = .ok (.ishr, 1) := by decide +kernel
theorem dL_act_111 : decode cL_act 111 = .ok (.iconst 1, 1) := by decide +kernel
theorem dL_act_112 : decode cL_act 112 = .ok (.iand, 1) := by decide +kernel
theorem dL_act_113 : decode cL_act 113 = .ok (.invokevirtual 76, 3) := by decide +kernel
theorem dL_act_116 : decode cL_act 116 = .ok (.lreturn, 1) := by decide +kernel
theorem dL_act_117 : decode cL_act 117 = .ok (.aload_n 0, 1) := by decide +kernel
theorem dL_act_118 : decode cL_act 118 = .ok (.iload_n 2, 1) := by decide +kernel
theorem dL_act_119 : decode cL_act 119 = .ok (.iconst 1, 1) := by decide +kernel
theorem dL_act_120 : decode cL_act 120 = .ok (.iand, 1) := by decide +kernel
theorem dL_act_121 : decode cL_act 121 = .ok (.invokevirtual 80, 3) := by decide +kernel
theorem dL_act_124 : decode cL_act 124 = .ok (.lreturn, 1) := by decide +kernel
theorem dL_act_125 : decode cL_act 125 = .ok (.aload_n 0, 1) := by decide +kernel
theorem dL_act_126 : decode cL_act 126 = .ok (.iload 5, 2) := by decide +kernel
theorem dL_act_128 : decode cL_act 128 = .ok (.iload_n 1, 1) := by decide +kernel
theorem dL_act_129 : decode cL_act 129 = .ok (.iconst 4, 1) := by decide +kernel
theorem dL_act_130 : decode cL_act 130 = .ok (.ishr, 1) := by decide +kernel
theorem dL_act_131 : decode cL_act 131 = .ok (.bipush 31, 2) := by decide +kernel
theorem dL_act_133 : decode cL_act 133 = .ok (.invokestatic 26, 3) := by decide +kernel
theorem dL_act_136 : decode cL_act 136 = .ok (.invokevirtual 83, 3) := by decide +kernel
theorem dL_act_139 : decode cL_act 139 = .ok (.i2l, 1) := by decide +kernel
theorem dL_act_140 : decode cL_act 140 = .ok (.lreturn, 1) := by decide +kernel
theorem dL_act_141 : decode cL_act 141 = .ok (.aload_n 0, 1) := by decide +kernel
theorem dL_act_142 : decode cL_act 142 = .ok (.invokevirtual 86, 3) := by decide +kernel
theorem dL_act_145 : decode cL_act 145 = .ok (.i2l, 1) := by decide +kernel
theorem dL_act_146 : decode cL_act 146 = .ok (.ldc2_w 89, 3) := by decide +kernel
theorem dL_act_149 : decode cL_act 149 = .ok (.lmul, 1) := by decide +kernel
theorem dL_act_150 : decode cL_act 150 = .ok (.aload_n 0, 1) := by decide +kernel
theorem dL_act_151 : decode cL_act 151 = .ok (.iload_n 2, 1) := by decide +kernel
theorem dL_act_152 : decode cL_act 152 = .ok (.iconst 1, 1) := by decide +kernel
theorem dL_act_153 : decode cL_act 153 = .ok (.iand, 1) := by decide +kernel
theorem dL_act_154 : decode cL_act 154 = .ok (.invokevirtual 91, 3) := by decide +kernel
theorem dL_act_157 : decode cL_act 157 = .ok (.i2l, 1) := by decide +kernel
theorem dL_act_158 : decode cL_act 158 = .ok (.ladd, 1) := by decide +kernel
theorem dL_act_159 : decode cL_act 159 = .ok (.lreturn, 1) := by decide +kernel
theorem dL_act_160 : decode cL_act 160 = .ok (.aload_n 0, 1) := by decide +kernel
theorem dL_act_161 : decode cL_act 161 = .ok (.iload_n 2, 1) := by decide +kernel
theorem dL_act_162 : decode cL_act 162 = .ok (.iload_n 3, 1) := by decide +kernel
theorem dL_act_163 : decode cL_act 163 = .ok (.iconst 1, 1) := by decide +kernel
theorem dL_act_164 : decode cL_act 164 = .ok (.iadd, 1) := by decide +kernel
theorem dL_act_165 : decode cL_act 165 = .ok (.invokestatic 26, 3) := by decide +kernel
theorem dL_act_168 : decode cL_act 168 = .ok (.iconst 1, 1) := by decide +kernel
theorem dL_act_169 : decode cL_act 169 = .ok (.isub, 1) := by decide +kernel
theorem dL_act_170 : decode cL_act 170 = .ok (.invokevirtual 94, 3) := by decide +kernel
theorem dL_act_173 : decode cL_act 173 = .ok (.lreturn, 1) := by decide +kernel
theorem dL_act_174 : decode cL_act 174 = .ok (.iload_n 1, 1) := by decide +kernel
theorem dL_act_175 : decode cL_act 175 = .ok (.bipush 48, 2) := by decide +kernel
theorem dL_act_177 : decode cL_act 177 = .ok (.iand, 1) := by decide +kernel
theorem dL_act_178 : decode cL_act 178 = .ok (.ifCond .ne 10, 3) := by decide +kernel
theorem dL_act_181 : decode cL_act 181 = .ok (.aload_n 0, 1) := by decide +kernel
theorem dL_act_182 : decode cL_act 182 = .ok (.invokevirtual 97, 3) := by decide +kernel
theorem dL_act_185 : decode cL_act 185 = .ok (.goto 9, 3) := by decide +kernel
theorem dL_act_188 : decode cL_act 188 = .ok (.aload_n 0, 1) := by decide +kernel
theorem dL_act_189 : decode cL_act 189 = .ok (.iconst 1, 1) := by decide +kernel
theorem dL_act_190 : decode cL_act 190 = .ok (.invokevirtual 91, 3) := by decide +kernel
theorem dL_act_193 : decode cL_act 193 = .ok (.i2l, 1) := by decide +kernel
theorem dL_act_194 : decode cL_act 194 = .ok (.lreturn, 1) := by decide +kernel
theorem dL_act_195 : decode cL_act 195 = .ok (.iload_n 1, 1) := by decide +kernel
theorem dL_act_196 : decode cL_act 196 = .ok (.bipush 48, 2) := by decide +kernel
theorem dL_act_198 : decode cL_act 198 = .ok (.iand, 1) := by decide +kernel
theorem dL_act_199 : decode cL_act 199 = .ok (.ifCond .ne 13, 3) := by decide +kernel
theorem dL_act_202 : decode cL_act 202 = .ok (.aload_n 0, 1) := by decide +kernel
theorem dL_act_203 : decode cL_act 203 = .ok (.iload_n 2, 1) := by decide +kernel
theorem dL_act_204 : decode cL_act 204 = .ok (.iconst 1, 1) := by decide +kernel
theorem dL_act_205 : decode cL_act 205 = .ok (.iand, 1) := by decide +kernel
theorem dL_act_206 : decode cL_act 206 = .ok (.invokevirtual 101, 3) := by decide +kernel
theorem dL_act_209 : decode cL_act 209 = .ok (.goto 8, 3) := by decide +kernel
theorem dL_act_212 : decode cL_act 212 = .ok (.aload_n 0, 1) := by decide +kernel
theorem dL_act_213 : decode cL_act 213 = .ok (.invokevirtual 104, 3) := by decide +kernel
theorem dL_act_216 : decode cL_act 216 = .ok (.i2l, 1) := by decide +kernel
theorem dL_act_217 : decode cL_act 217 = .ok (.lreturn, 1) := by decide +kernel
theorem dL_act_218 : decode cL_act 218 = .ok (.iload_n 1, 1) := by decide +kernel
theorem dL_act_219 : decode cL_act 219 = .ok (.bipush 48, 2) := by decide +kernel
theorem dL_act_221 : decode cL_act 221 = .ok (.iand, 1) := by decide +kernel
theorem dL_act_222 : decode cL_act 222 = .ok (.ifCond .ne 11, 3) := by decide +kernel
theorem dL_act_225 : decode cL_act 225 = .ok (.aload_n 0, 1) := by decide +kernel
theorem dL_act_226 : decode cL_act 226 = .ok (.invokevirtual 107, 3) := by decide +kernel
theorem dL_act_229 : decode cL_act 229 = .ok (.i2l, 1) := by decide +kernel
theorem dL_act_230 : decode cL_act 230 = .ok (.goto 14, 3) := by decide +kernel
theorem dL_act_233 : decode cL_act 233 = .ok (.aload_n 0, 1) := by decide +kernel
theorem dL_act_234 : decode cL_act 234 = .ok (.iload_n 2, 1) := by decide +kernel
theorem dL_act_235 : decode cL_act 235 = .ok (.bipush 11, 2) := by decide +kernel
theorem dL_act_237 : decode cL_act 237 = .ok (.invokestatic 26, 3) := by decide +kernel
theorem dL_act_240 : decode cL_act 240 = .ok (.invokevirtual 110, 3) := by decide +kernel
theorem dL_act_243 : decode cL_act 243 = .ok (.i2l, 1) := by decide +kernel
theorem dL_act_244 : decode cL_act 244 = .ok (.lreturn, 1) := by decide +kernel
theorem dL_act_245 : decode cL_act 245 = .ok (.aload_n 0, 1) := by decide +kernel
theorem dL_act_246 : decode cL_act 246 = .ok (.iload_n 1, 1) := by decide +kernel
theorem dL_act_247 : decode cL_act 247 = .ok (.iconst 4, 1) := by decide +kernel
theorem dL_act_248 : decode cL_act 248 = .ok (.ishr, 1) := by decide +kernel
theorem dL_act_249 : decode cL_act 249 = .ok (.bipush 100, 2) := by decide +kernel
theorem dL_act_251 : decode cL_act 251 = .ok (.invokestatic 26, 3) := by decide +kernel
theorem dL_act_254 : decode cL_act 254 = .ok (.iload_n 2, 1) := by decide +kernel
theorem dL_act_255 : decode cL_act 255 = .ok (.iload 4, 2) := by decide +kernel
theorem dL_act_257 : decode cL_act 257 = .ok (.iconst 1, 1) := by decide +kernel
theorem dL_act_258 : decode cL_act 258 = .ok (.iadd, 1) := by decide +kernel
theorem dL_act_259 : decode cL_act 259 = .ok (.invokestatic 26, 3) := by decide +kernel
theorem dL_act_262 : decode cL_act 262 = .ok (.invokevirtual 113, 3) := by decide +kernel
theorem dL_act_265 : decode cL_act 265 = .ok (.ldc2_w 116, 3) := by decide +kernel
theorem dL_act_268 : decode cL_act 268 = .ok (.lmul, 1) := by decide +kernel
theorem dL_act_269 : decode cL_act 269 = .ok (.iload_n 1, 1) := by decide +kernel
theorem dL_act_270 : decode cL_act 270 = .ok (.sipush 2048, 3) := by decide +kernel
theorem dL_act_273 : decode cL_act 273 = .ok (.iand, 1) := by decide +kernel
theorem dL_act_274 : decode cL_act 274 = .ok (.ifCond .ne 16, 3) := by decide +kernel
theorem dL_act_277 : decode cL_act 277 = .ok (.aload_n 0, 1) := by decide +kernel
theorem dL_act_278 : decode cL_act 278 = .ok (.iload_n 2, 1) := by decide +kernel
theorem dL_act_279 : decode cL_act 279 = .ok (.bipush 100, 2) := by decide +kernel
theorem dL_act_281 : decode cL_act 281 = .ok (.invokestatic 26, 3) := by decide +kernel
theorem dL_act_284 : decode cL_act 284 = .ok (.invokevirtual 118, 3) := by decide +kernel
theorem dL_act_287 : decode cL_act 287 = .ok (.goto 4, 3) := by decide +kernel
theorem dL_act_290 : decode cL_act 290 = .ok (.iconst 0, 1) := by decide +kernel
theorem dL_act_291 : decode cL_act 291 = .ok (.i2l, 1) := by decide +kernel
theorem dL_act_292 : decode cL_act 292 = .ok (.ladd, 1) := by decide +kernel
theorem dL_act_293 : decode cL_act 293 = .ok (.lreturn, 1) := by decide +kernel
theorem dL_act_294 : decode cL_act 294 = .ok (.aload_n 0, 1) := by decide +kernel
theorem dL_act_295 : decode cL_act 295 = .ok (.iload_n 2, 1) := by decide +kernel
theorem dL_act_296 : decode cL_act 296 = .ok (.iconst 3, 1) := by decide +kernel
theorem dL_act_297 : decode cL_act 297 = .ok (.invokestatic 26, 3) := by decide +kernel
theorem dL_act_300 : decode cL_act 300 = .ok (.invokevirtual 121, 3) := by decide +kernel
theorem dL_act_303 : decode cL_act 303 = .ok (.lreturn, 1) := by decide +kernel
theorem dL_act_304 : decode cL_act 304 = .ok (.aload_n 0, 1) := by decide +kernel
theorem dL_act_305 : decode cL_act 305 = .ok (.iload_n 1, 1) := by decide +kernel
theorem dL_act_306 : decode cL_act 306 = .ok (.iconst 4, 1) := by decide +kernel
theorem dL_act_307 : decode cL_act 307 = .ok (.ishr, 1) := by decide +kernel
theorem dL_act_308 : decode cL_act 308 = .ok (.sipush 10000, 3) := by decide +kernel
theorem dL_act_311 : decode cL_act 311 = .ok (.invokestatic 26, 3) := by decide +kernel
theorem dL_act_314 : decode cL_act 314 = .ok (.iload 5, 2) := by decide +kernel
theorem dL_act_316 : decode cL_act 316 = .ok (.iload_n 2, 1) := by decide +kernel
theorem dL_act_317 : decode cL_act 317 = .ok (.iconst 4, 1) := by decide +kernel
theorem dL_act_318 : decode cL_act 318 = .ok (.ishr, 1) := by decide +kernel
theorem dL_act_319 : decode cL_act 319 = .ok (.iconst 1, 1) := by decide +kernel
theorem dL_act_320 : decode cL_act 320 = .ok (.iand, 1) := by decide +kernel
theorem dL_act_321 : decode cL_act 321 = .ok (.invokevirtual 124, 3) := by decide +kernel
theorem dL_act_324 : decode cL_act 324 = .ok (.i2l, 1) := by decide +kernel
theorem dL_act_325 : decode cL_act 325 = .ok (.lreturn, 1) := by decide +kernel
theorem dL_act_326 : decode cL_act 326 = .ok (.aload_n 0, 1) := by decide +kernel
theorem dL_act_327 : decode cL_act 327 = .ok (.iload_n 1, 1) := by decide +kernel
theorem dL_act_328 : decode cL_act 328 = .ok (.iconst 4, 1) := by decide +kernel
theorem dL_act_329 : decode cL_act 329 = .ok (.ishr, 1) := by decide +kernel
theorem dL_act_330 : decode cL_act 330 = .ok (.sipush 10000, 3) := by decide +kernel
theorem dL_act_333 : decode cL_act 333 = .ok (.invokestatic 26, 3) := by decide +kernel
theorem dL_act_336 : decode cL_act 336 = .ok (.iload_n 2, 1) := by decide +kernel
theorem dL_act_337 : decode cL_act 337 = .ok (.iconst 1, 1) := by decide +kernel
theorem dL_act_338 : decode cL_act 338 = .ok (.iand, 1) := by decide +kernel
theorem dL_act_339 : decode cL_act 339 = .ok (.invokevirtual 127, 3) := by decide +kernel
theorem dL_act_342 : decode cL_act 342 = .ok (.i2l, 1) := by decide +kernel
theorem dL_act_343 : decode cL_act 343 = .ok (.lreturn, 1) := by decide +kernel
theorem dL_act_344 : decode cL_act 344 = .ok (.iload_n 1, 1) := by decide +kernel
theorem dL_act_345 : decode cL_act 345 = .ok (.bipush 16, 2) := by decide +kernel
theorem dL_act_347 : decode cL_act 347 = .ok (.iand, 1) := by decide +kernel
theorem dL_act_348 : decode cL_act 348 = .ok (.ifCond .eq 11, 3) := by decide +kernel
theorem dL_act_351 : decode cL_act 351 = .ok (.aload_n 0, 1) := by decide +kernel
theorem dL_act_352 : decode cL_act 352 = .ok (.invokevirtual 130, 3) := by decide +kernel
theorem dL_act_355 : decode cL_act 355 = .ok (.i2l, 1) := by decide +kernel
theorem dL_act_356 : decode cL_act 356 = .ok (.goto 8, 3) := by decide +kernel
theorem dL_act_359 : decode cL_act 359 = .ok (.aload_n 0, 1) := by decide +kernel
theorem dL_act_360 : decode cL_act 360 = .ok (.invokevirtual 133, 3) := by decide +kernel
theorem dL_act_363 : decode cL_act 363 = .ok (.i2l, 1) := by decide +kernel
theorem dL_act_364 : decode cL_act 364 = .ok (.lreturn, 1) := by decide +kernel
theorem dL_law_0 : decode cL_law 0 = .ok (.new 10, 3) := by decide +kernel
theorem dL_law_3 : decode cL_law 3 = .ok (.dup, 1) := by decide +kernel
theorem dL_law_4 : decode cL_law 4 = .ok (.invokespecial 136, 3) := by decide +kernel
theorem dL_law_7 : decode cL_law 7 = .ok (.astore_n 1, 1) := by decide +kernel
theorem dL_law_8 : decode cL_law 8 = .ok (.new 10, 3) := by decide +kernel
theorem dL_law_11 : decode cL_law 11 = .ok (.dup, 1) := by decide +kernel
theorem dL_law_12 : decode cL_law 12 = .ok (.invokespecial 136, 3) := by decide +kernel
theorem dL_law_15 : decode cL_law 15 = .ok (.astore_n 2, 1) := by decide +kernel
theorem dL_law_16 : decode cL_law 16 = .ok (.bipush 41, 2) := by decide +kernel
theorem dL_law_18 : decode cL_law 18 = .ok (.newarray .int, 2) := by decide +kernel
theorem dL_law_20 : decode cL_law 20 = .ok (.astore_n 3, 1) := by decide +kernel
theorem dL_law_21 : decode cL_law 21 = .ok (.bipush 21, 2) := by decide +kernel
theorem dL_law_23 : decode cL_law 23 = .ok (.newarray .int, 2) := by decide +kernel
theorem dL_law_25 : decode cL_law 25 = .ok (.astore 4, 2) := by decide +kernel
theorem dL_law_27 : decode cL_law 27 = .ok (.aload_n 1, 1) := by decide +kernel
theorem dL_law_28 : decode cL_law 28 = .ok (.aload_n 0, 1) := by decide +kernel
theorem dL_law_29 : decode cL_law 29 = .ok (.iconst 0, 1) := by decide +kernel
theorem dL_law_30 : decode cL_law 30 = .ok (.aload_n 3, 1) := by decide +kernel
theorem dL_law_31 : decode cL_law 31 = .ok (.aload 4, 2) := by decide +kernel
theorem dL_law_33 : decode cL_law 33 = .ok (.invokestatic 137, 3) := by decide +kernel
theorem dL_law_36 : decode cL_law 36 = .ok (.ifCond .ne 5, 3) := by decide +kernel
theorem dL_law_39 : decode cL_law 39 = .ok (.iconst 0, 1) := by decide +kernel
theorem dL_law_40 : decode cL_law 40 = .ok (.ireturn, 1) := by decide +kernel
theorem dL_law_41 : decode cL_law 41 = .ok (.iconst 0, 1) := by decide +kernel
theorem dL_law_42 : decode cL_law 42 = .ok (.istore 5, 2) := by decide +kernel
theorem dL_law_44 : decode cL_law 44 = .ok (.iload 5, 2) := by decide +kernel
theorem dL_law_46 : decode cL_law 46 = .ok (.bipush 41, 2) := by decide +kernel
theorem dL_law_48 : decode cL_law 48 = .ok (.if_icmp .ge 14, 3) := by decide +kernel
theorem dL_law_51 : decode cL_law 51 = .ok (.aload_n 3, 1) := by decide +kernel
theorem dL_law_52 : decode cL_law 52 = .ok (.iload 5, 2) := by decide +kernel
theorem dL_law_54 : decode cL_law 54 = .ok (.iconst 0, 1) := by decide +kernel
theorem dL_law_55 : decode cL_law 55 = .ok (.iastore, 1) := by decide +kernel
theorem dL_law_56 : decode cL_law 56 = .ok (.iinc 5 1, 3) := by decide +kernel
theorem dL_law_59 : decode cL_law 59 = .ok (.goto (-15), 3) := by decide +kernel
theorem dL_law_62 : decode cL_law 62 = .ok (.aload_n 2, 1) := by decide +kernel
theorem dL_law_63 : decode cL_law 63 = .ok (.aload_n 0, 1) := by decide +kernel
theorem dL_law_64 : decode cL_law 64 = .ok (.iconst 0, 1) := by decide +kernel
theorem dL_law_65 : decode cL_law 65 = .ok (.aload_n 3, 1) := by decide +kernel
theorem dL_law_66 : decode cL_law 66 = .ok (.aload 4, 2) := by decide +kernel
theorem dL_law_68 : decode cL_law 68 = .ok (.invokestatic 137, 3) := by decide +kernel
theorem dL_law_71 : decode cL_law 71 = .ok (.ifCond .ne 5, 3) := by decide +kernel
theorem dL_law_74 : decode cL_law 74 = .ok (.iconst 0, 1) := by decide +kernel
theorem dL_law_75 : decode cL_law 75 = .ok (.ireturn, 1) := by decide +kernel
theorem dL_law_76 : decode cL_law 76 = .ok (.iconst 0, 1) := by decide +kernel
theorem dL_law_77 : decode cL_law 77 = .ok (.istore 5, 2) := by decide +kernel
theorem dL_law_79 : decode cL_law 79 = .ok (.iload 5, 2) := by decide +kernel
theorem dL_law_81 : decode cL_law 81 = .ok (.bipush 40, 2) := by decide +kernel
theorem dL_law_83 : decode cL_law 83 = .ok (.if_icmp .ge 437, 3) := by decide +kernel
theorem dL_law_86 : decode cL_law 86 = .ok (.aload_n 0, 1) := by decide +kernel
theorem dL_law_87 : decode cL_law 87 = .ok (.bipush 8, 2) := by decide +kernel
theorem dL_law_89 : decode cL_law 89 = .ok (.iconst 2, 1) := by decide +kernel
theorem dL_law_90 : decode cL_law 90 = .ok (.iload 5, 2) := by decide +kernel
theorem dL_law_92 : decode cL_law 92 = .ok (.imul, 1) := by decide +kernel
theorem dL_law_93 : decode cL_law 93 = .ok (.iadd, 1) := by decide +kernel
theorem dL_law_94 : decode cL_law 94 = .ok (.invokestatic 21, 3) := by decide +kernel
theorem dL_law_97 : decode cL_law 97 = .ok (.istore 6, 2) := by decide +kernel
theorem dL_law_99 : decode cL_law 99 = .ok (.aload_n 0, 1) := by decide +kernel
theorem dL_law_100 : decode cL_law 100 = .ok (.bipush 9, 2) := by decide +kernel
theorem dL_law_102 : decode cL_law 102 = .ok (.iconst 2, 1) := by decide +kernel
theorem dL_law_103 : decode cL_law 103 = .ok (.iload 5, 2) := by decide +kernel
theorem dL_law_105 : decode cL_law 105 = .ok (.imul, 1) := by decide +kernel
theorem dL_law_106 : decode cL_law 106 = .ok (.iadd, 1) := by decide +kernel
theorem dL_law_107 : decode cL_law 107 = .ok (.invokestatic 21, 3) := by decide +kernel
theorem dL_law_110 : decode cL_law 110 = .ok (.istore 7, 2) := by decide +kernel
theorem dL_law_112 : decode cL_law 112 = .ok (.aload_n 2, 1) := by decide +kernel
theorem dL_law_113 : decode cL_law 113 = .ok (.bipush 9, 2) := by decide +kernel
theorem dL_law_115 : decode cL_law 115 = .ok (.lconst 0, 1) := by decide +kernel
theorem dL_law_116 : decode cL_law 116 = .ok (.invokevirtual 9, 3) := by decide +kernel
theorem dL_law_119 : decode cL_law 119 = .ok (.iconst (-1), 1) := by decide +kernel
theorem dL_law_120 : decode cL_law 120 = .ok (.if_icmp .ne 190, 3) := by decide +kernel
theorem dL_law_123 : decode cL_law 123 = .ok (.aload_n 2, 1) := by decide +kernel
theorem dL_law_124 : decode cL_law 124 = .ok (.bipush 8, 2) := by decide +kernel
theorem dL_law_126 : decode cL_law 126 = .ok (.iconst 0, 1) := by decide +kernel
theorem dL_law_127 : decode cL_law 127 = .ok (.invokevirtual 141, 3) := by decide +kernel
theorem dL_law_130 : decode cL_law 130 = .ok (.iconst (-1), 1) := by decide +kernel
theorem dL_law_131 : decode cL_law 131 = .ok (.if_icmp .ne 179, 3) := by decide +kernel
theorem dL_law_134 : decode cL_law 134 = .ok (.aload_n 2, 1) := by decide +kernel
theorem dL_law_135 : decode cL_law 135 = .ok (.iconst 3, 1) := by decide +kernel
theorem dL_law_136 : decode cL_law 136 = .ok (.invokevirtual 68, 3) := by decide +kernel
theorem dL_law_139 : decode cL_law 139 = .ok (.iconst (-1), 1) := by decide +kernel
theorem dL_law_140 : decode cL_law 140 = .ok (.if_icmp .ne 170, 3) := by decide +kernel
theorem dL_law_143 : decode cL_law 143 = .ok (.aload_n 2, 1) := by decide +kernel
theorem dL_law_144 : decode cL_law 144 = .ok (.iconst 3, 1) := by decide +kernel
theorem dL_law_145 : decode cL_law 145 = .ok (.invokevirtual 72, 3) := by decide +kernel
theorem dL_law_148 : decode cL_law 148 = .ok (.ldc2_w 56, 3) := by decide +kernel
theorem dL_law_151 : decode cL_law 151 = .ok (.lcmp, 1) := by decide +kernel
theorem dL_law_152 : decode cL_law 152 = .ok (.ifCond .ne 158, 3) := by decide +kernel
theorem dL_law_155 : decode cL_law 155 = .ok (.aload_n 2, 1) := by decide +kernel
theorem dL_law_156 : decode cL_law 156 = .ok (.bipush 8, 2) := by decide +kernel
theorem dL_law_158 : decode cL_law 158 = .ok (.iconst 0, 1) := by decide +kernel
theorem dL_law_159 : decode cL_law 159 = .ok (.invokevirtual 76, 3) := by decide +kernel
theorem dL_law_162 : decode cL_law 162 = .ok (.ldc2_w 144, 3) := by decide +kernel
theorem dL_law_165 : decode cL_law 165 = .ok (.lcmp, 1) := by decide +kernel
theorem dL_law_166 : decode cL_law 166 = .ok (.ifCond .ge 144, 3) := by decide +kernel
theorem dL_law_169 : decode cL_law 169 = .ok (.aload_n 2, 1) := by decide +kernel
theorem dL_law_170 : decode cL_law 170 = .ok (.iconst 2, 1) := by decide +kernel
theorem dL_law_171 : decode cL_law 171 = .ok (.invokevirtual 80, 3) := by decide +kernel
theorem dL_law_174 : decode cL_law 174 = .ok (.ldc2_w 56, 3) := by decide +kernel
theorem dL_law_177 : decode cL_law 177 = .ok (.lcmp, 1) := by decide +kernel
theorem dL_law_178 : decode cL_law 178 = .ok (.ifCond .ne 132, 3) := by decide +kernel
theorem dL_law_181 : decode cL_law 181 = .ok (.aload_n 2, 1) := by decide +kernel
theorem dL_law_182 : decode cL_law 182 = .ok (.iconst 0, 1) := by decide +kernel
theorem dL_law_183 : decode cL_law 183 = .ok (.bipush 31, 2) := by decide +kernel
theorem dL_law_185 : decode cL_law 185 = .ok (.invokevirtual 83, 3) := by decide +kernel
theorem dL_law_188 : decode cL_law 188 = .ok (.iconst (-1), 1) := by decide +kernel
theorem dL_law_189 : decode cL_law 189 = .ok (.if_icmp .ne 121, 3) := by decide +kernel
theorem dL_law_192 : decode cL_law 192 = .ok (.aload_n 2, 1) := by decide +kernel
theorem dL_law_193 : decode cL_law 193 = .ok (.iconst 2, 1) := by decide +kernel
theorem dL_law_194 : decode cL_law 194 = .ok (.invokevirtual 91, 3) := by decide +kernel
theorem dL_law_197 : decode cL_law 197 = .ok (.iconst (-1), 1) := by decide +kernel
theorem dL_law_198 : decode cL_law 198 = .ok (.if_icmp .ne 112, 3) := by decide +kernel
theorem dL_law_201 : decode cL_law 201 = .ok (.aload_n 2, 1) := by decide +kernel
theorem dL_law_202 : decode cL_law 202 = .ok (.bipush 8, 2) := by decide +kernel
theorem dL_law_204 : decode cL_law 204 = .ok (.invokevirtual 94, 3) := by decide +kernel
theorem dL_law_207 : decode cL_law 207 = .ok (.ldc2_w 56, 3) := by decide +kernel
theorem dL_law_210 : decode cL_law 210 = .ok (.lcmp, 1) := by decide +kernel
theorem dL_law_211 : decode cL_law 211 = .ok (.ifCond .ne 99, 3) := by decide +kernel
theorem dL_law_214 : decode cL_law 214 = .ok (.aload_n 2, 1) := by decide +kernel
theorem dL_law_215 : decode cL_law 215 = .ok (.iconst 2, 1) := by decide +kernel
theorem dL_law_216 : decode cL_law 216 = .ok (.invokevirtual 101, 3) := by decide +kernel
theorem dL_law_219 : decode cL_law 219 = .ok (.ldc2_w 56, 3) := by decide +kernel
theorem dL_law_222 : decode cL_law 222 = .ok (.lcmp, 1) := by decide +kernel
theorem dL_law_223 : decode cL_law 223 = .ok (.ifCond .ne 87, 3) := by decide +kernel
theorem dL_law_226 : decode cL_law 226 = .ok (.aload_n 2, 1) := by decide +kernel
theorem dL_law_227 : decode cL_law 227 = .ok (.bipush 11, 2) := by decide +kernel
theorem dL_law_229 : decode cL_law 229 = .ok (.invokevirtual 110, 3) := by decide +kernel
theorem dL_law_232 : decode cL_law 232 = .ok (.iconst (-1), 1) := by decide +kernel
theorem dL_law_233 : decode cL_law 233 = .ok (.if_icmp .ne 77, 3) := by decide +kernel
theorem dL_law_236 : decode cL_law 236 = .ok (.aload_n 2, 1) := by decide +kernel
theorem dL_law_237 : decode cL_law 237 = .ok (.bipush 100, 2) := by decide +kernel
theorem dL_law_239 : decode cL_law 239 = .ok (.iconst 0, 1) := by decide +kernel
theorem dL_law_240 : decode cL_law 240 = .ok (.invokevirtual 113, 3) := by decide +kernel
theorem dL_law_243 : decode cL_law 243 = .ok (.ldc2_w 56, 3) := by decide +kernel
theorem dL_law_246 : decode cL_law 246 = .ok (.lcmp, 1) := by decide +kernel
theorem dL_law_247 : decode cL_law 247 = .ok (.ifCond .ne 63, 3) := by decide +kernel
theorem dL_law_250 : decode cL_law 250 = .ok (.aload_n 2, 1) := by decide +kernel
theorem dL_law_251 : decode cL_law 251 = .ok (.bipush 100, 2) := by decide +kernel
theorem dL_law_253 : decode cL_law 253 = .ok (.invokevirtual 118, 3) := by decide +kernel
theorem dL_law_256 : decode cL_law 256 = .ok (.iconst (-1), 1) := by decide +kernel
theorem dL_law_257 : decode cL_law 257 = .ok (.if_icmp .ne 53, 3) := by decide +kernel
theorem dL_law_260 : decode cL_law 260 = .ok (.aload_n 2, 1) := by decide +kernel
theorem dL_law_261 : decode cL_law 261 = .ok (.iconst 3, 1) := by decide +kernel
theorem dL_law_262 : decode cL_law 262 = .ok (.invokevirtual 121, 3) := by decide +kernel
theorem dL_law_265 : decode cL_law 265 = .ok (.ldc2_w 56, 3) := by decide +kernel
theorem dL_law_268 : decode cL_law 268 = .ok (.lcmp, 1) := by decide +kernel
theorem dL_law_269 : decode cL_law 269 = .ok (.ifCond .ne 41, 3) := by decide +kernel
theorem dL_law_272 : decode cL_law 272 = .ok (.aload_n 2, 1) := by decide +kernel
theorem dL_law_273 : decode cL_law 273 = .ok (.iconst 0, 1) := by decide +kernel
theorem dL_law_274 : decode cL_law 274 = .ok (.bipush 8, 2) := by decide +kernel
theorem dL_law_276 : decode cL_law 276 = .ok (.iconst 0, 1) := by decide +kernel
theorem dL_law_277 : decode cL_law 277 = .ok (.invokevirtual 124, 3) := by decide +kernel
theorem dL_law_280 : decode cL_law 280 = .ok (.sipush (-1001), 3) := by decide +kernel
theorem dL_law_283 : decode cL_law 283 = .ok (.if_icmp .ne 27, 3) := by decide +kernel
theorem dL_law_286 : decode cL_law 286 = .ok (.aload_n 2, 1) := by decide +kernel
theorem dL_law_287 : decode cL_law 287 = .ok (.iconst 0, 1) := by decide +kernel
theorem dL_law_288 : decode cL_law 288 = .ok (.iconst 2, 1) := by decide +kernel
theorem dL_law_289 : decode cL_law 289 = .ok (.invokevirtual 127, 3) := by decide +kernel
theorem dL_law_292 : decode cL_law 292 = .ok (.iconst (-1), 1) := by decide +kernel
theorem dL_law_293 : decode cL_law 293 = .ok (.if_icmp .ne 17, 3) := by decide +kernel
theorem dL_law_296 : decode cL_law 296 = .ok (.aload_n 2, 1) := by decide +kernel
theorem dL_law_297 : decode cL_law 297 = .ok (.bipush 7, 2) := by decide +kernel
theorem dL_law_299 : decode cL_law 299 = .ok (.invokevirtual 146, 3) := by decide +kernel
theorem dL_law_302 : decode cL_law 302 = .ok (.iconst (-1), 1) := by decide +kernel
theorem dL_law_303 : decode cL_law 303 = .ok (.if_icmp .ne 7, 3) := by decide +kernel
theorem dL_law_306 : decode cL_law 306 = .ok (.iconst 1, 1) := by decide +kernel
theorem dL_law_307 : decode cL_law 307 = .ok (.goto 4, 3) := by decide +kernel
theorem dL_law_310 : decode cL_law 310 = .ok (.iconst 0, 1) := by decide +kernel
theorem dL_law_311 : decode cL_law 311 = .ok (.istore 8, 2) := by decide +kernel
theorem dL_law_313 : decode cL_law 313 = .ok (.iload 8, 2) := by decide +kernel
theorem dL_law_315 : decode cL_law 315 = .ok (.ifCond .eq 35, 3) := by decide +kernel
theorem dL_law_318 : decode cL_law 318 = .ok (.aload_n 1, 1) := by decide +kernel
theorem dL_law_319 : decode cL_law 319 = .ok (.iload 6, 2) := by decide +kernel
theorem dL_law_321 : decode cL_law 321 = .ok (.iload 7, 2) := by decide +kernel
theorem dL_law_323 : decode cL_law 323 = .ok (.aload_n 3, 1) := by decide +kernel
theorem dL_law_324 : decode cL_law 324 = .ok (.iconst 0, 1) := by decide +kernel
theorem dL_law_325 : decode cL_law 325 = .ok (.iaload, 1) := by decide +kernel
theorem dL_law_326 : decode cL_law 326 = .ok (.aload_n 3, 1) := by decide +kernel
theorem dL_law_327 : decode cL_law 327 = .ok (.iconst 3, 1) := by decide +kernel
theorem dL_law_328 : decode cL_law 328 = .ok (.iaload, 1) := by decide +kernel
theorem dL_law_329 : decode cL_law 329 = .ok (.invokestatic 149, 3) := by decide +kernel
theorem dL_law_332 : decode cL_law 332 = .ok (.aload_n 2, 1) := by decide +kernel
theorem dL_law_333 : decode cL_law 333 = .ok (.iload 6, 2) := by decide +kernel
theorem dL_law_335 : decode cL_law 335 = .ok (.iload 7, 2) := by decide +kernel
theorem dL_law_337 : decode cL_law 337 = .ok (.aload_n 3, 1) := by decide +kernel
theorem dL_law_338 : decode cL_law 338 = .ok (.iconst 0, 1) := by decide +kernel
theorem dL_law_339 : decode cL_law 339 = .ok (.iaload, 1) := by decide +kernel
theorem dL_law_340 : decode cL_law 340 = .ok (.aload_n 3, 1) := by decide +kernel
theorem dL_law_341 : decode cL_law 341 = .ok (.iconst 3, 1) := by decide +kernel
theorem dL_law_342 : decode cL_law 342 = .ok (.iaload, 1) := by decide +kernel
theorem dL_law_343 : decode cL_law 343 = .ok (.invokestatic 149, 3) := by decide +kernel
theorem dL_law_346 : decode cL_law 346 = .ok (.lcmp, 1) := by decide +kernel
theorem dL_law_347 : decode cL_law 347 = .ok (.ifCond .eq 5, 3) := by decide +kernel
theorem dL_law_350 : decode cL_law 350 = .ok (.iconst 0, 1) := by decide +kernel
theorem dL_law_351 : decode cL_law 351 = .ok (.ireturn, 1) := by decide +kernel
theorem dL_law_352 : decode cL_law 352 = .ok (.aload_n 1, 1) := by decide +kernel
theorem dL_law_353 : decode cL_law 353 = .ok (.invokevirtual 86, 3) := by decide +kernel
theorem dL_law_356 : decode cL_law 356 = .ok (.aload_n 2, 1) := by decide +kernel
theorem dL_law_357 : decode cL_law 357 = .ok (.invokevirtual 86, 3) := by decide +kernel
theorem dL_law_360 : decode cL_law 360 = .ok (.if_icmp .ne 51, 3) := by decide +kernel
theorem dL_law_363 : decode cL_law 363 = .ok (.aload_n 1, 1) := by decide +kernel
theorem dL_law_364 : decode cL_law 364 = .ok (.iconst 0, 1) := by decide +kernel
theorem dL_law_365 : decode cL_law 365 = .ok (.invokevirtual 72, 3) := by decide +kernel
theorem dL_law_368 : decode cL_law 368 = .ok (.aload_n 2, 1) := by decide +kernel
theorem dL_law_369 : decode cL_law 369 = .ok (.iconst 0, 1) := by decide +kernel
theorem dL_law_370 : decode cL_law 370 = .ok (.invokevirtual 72, 3) := by decide +kernel
theorem dL_law_373 : decode cL_law 373 = .ok (.lcmp, 1) := by decide +kernel
theorem dL_law_374 : decode cL_law 374 = .ok (.ifCond .ne 37, 3) := by decide +kernel
theorem dL_law_377 : decode cL_law 377 = .ok (.aload_n 1, 1) := by decide +kernel
theorem dL_law_378 : decode cL_law 378 = .ok (.iconst 0, 1) := by decide +kernel
theorem dL_law_379 : decode cL_law 379 = .ok (.invokevirtual 91, 3) := by decide +kernel
theorem dL_law_382 : decode cL_law 382 = .ok (.aload_n 2, 1) := by decide +kernel
theorem dL_law_383 : decode cL_law 383 = .ok (.iconst 0, 1) := by decide +kernel
theorem dL_law_384 : decode cL_law 384 = .ok (.invokevirtual 91, 3) := by decide +kernel
theorem dL_law_387 : decode cL_law 387 = .ok (.if_icmp .ne 24, 3) := by decide +kernel
theorem dL_law_390 : decode cL_law 390 = .ok (.aload_n 1, 1) := by decide +kernel
theorem dL_law_391 : decode cL_law 391 = .ok (.iload 5, 2) := by decide +kernel
theorem dL_law_393 : decode cL_law 393 = .ok (.iconst 0, 1) := by decide +kernel
theorem dL_law_394 : decode cL_law 394 = .ok (.invokevirtual 127, 3) := by decide +kernel
theorem dL_law_397 : decode cL_law 397 = .ok (.aload_n 2, 1) := by decide +kernel
theorem dL_law_398 : decode cL_law 398 = .ok (.iload 5, 2) := by decide +kernel
theorem dL_law_400 : decode cL_law 400 = .ok (.iconst 0, 1) := by decide +kernel
theorem dL_law_401 : decode cL_law 401 = .ok (.invokevirtual 127, 3) := by decide +kernel
theorem dL_law_404 : decode cL_law 404 = .ok (.if_icmp .ne 7, 3) := by decide +kernel
theorem dL_law_407 : decode cL_law 407 = .ok (.iconst 1, 1) := by decide +kernel
theorem dL_law_408 : decode cL_law 408 = .ok (.goto 4, 3) := by decide +kernel
theorem dL_law_411 : decode cL_law 411 = .ok (.iconst 0, 1) := by decide +kernel
theorem dL_law_412 : decode cL_law 412 = .ok (.istore 9, 2) := by decide +kernel
theorem dL_law_414 : decode cL_law 414 = .ok (.iconst 0, 1) := by decide +kernel
theorem dL_law_415 : decode cL_law 415 = .ok (.istore 10, 2) := by decide +kernel
theorem dL_law_417 : decode cL_law 417 = .ok (.iload 10, 2) := by decide +kernel
theorem dL_law_419 : decode cL_law 419 = .ok (.bipush 7, 2) := by decide +kernel
theorem dL_law_421 : decode cL_law 421 = .ok (.if_icmp .ge 45, 3) := by decide +kernel
theorem dL_law_424 : decode cL_law 424 = .ok (.iload 9, 2) := by decide +kernel
theorem dL_law_426 : decode cL_law 426 = .ok (.ifCond .eq 31, 3) := by decide +kernel
theorem dL_law_429 : decode cL_law 429 = .ok (.aload_n 1, 1) := by decide +kernel
theorem dL_law_430 : decode cL_law 430 = .ok (.iload 10, 2) := by decide +kernel
theorem dL_law_432 : decode cL_law 432 = .ok (.invokevirtual 146, 3) := by decide +kernel
theorem dL_law_435 : decode cL_law 435 = .ok (.aload_n 2, 1) := by decide +kernel
theorem dL_law_436 : decode cL_law 436 = .ok (.iload 10, 2) := by decide +kernel
theorem dL_law_438 : decode cL_law 438 = .ok (.invokevirtual 146, 3) := by decide +kernel
theorem dL_law_441 : decode cL_law 441 = .ok (.if_icmp .ne 16, 3) := by decide +kernel
theorem dL_law_444 : decode cL_law 444 = .ok (.aload_n 1, 1) := by decide +kernel
theorem dL_law_445 : decode cL_law 445 = .ok (.iload 10, 2) := by decide +kernel
theorem dL_law_447 : decode cL_law 447 = .ok (.invokevirtual 146, 3) := by decide +kernel
theorem dL_law_450 : decode cL_law 450 = .ok (.ifCond .lt 7, 3) := by decide +kernel
theorem dL_law_453 : decode cL_law 453 = .ok (.iconst 1, 1) := by decide +kernel
theorem dL_law_454 : decode cL_law 454 = .ok (.goto 4, 3) := by decide +kernel
theorem dL_law_457 : decode cL_law 457 = .ok (.iconst 0, 1) := by decide +kernel
theorem dL_law_458 : decode cL_law 458 = .ok (.istore 9, 2) := by decide +kernel
theorem dL_law_460 : decode cL_law 460 = .ok (.iinc 10 1, 3) := by decide +kernel
theorem dL_law_463 : decode cL_law 463 = .ok (.goto (-46), 3) := by decide +kernel
theorem dL_law_466 : decode cL_law 466 = .ok (.iload 9, 2) := by decide +kernel
theorem dL_law_468 : decode cL_law 468 = .ok (.ifCond .eq 44, 3) := by decide +kernel
theorem dL_law_471 : decode cL_law 471 = .ok (.aload_n 1, 1) := by decide +kernel
theorem dL_law_472 : decode cL_law 472 = .ok (.iconst 0, 1) := by decide +kernel
theorem dL_law_473 : decode cL_law 473 = .ok (.invokevirtual 146, 3) := by decide +kernel
theorem dL_law_476 : decode cL_law 476 = .ok (.aload_n 3, 1) := by decide +kernel
theorem dL_law_477 : decode cL_law 477 = .ok (.iconst 0, 1) := by decide +kernel
theorem dL_law_478 : decode cL_law 478 = .ok (.iaload, 1) := by decide +kernel
theorem dL_law_479 : decode cL_law 479 = .ok (.if_icmp .ne 33, 3) := by decide +kernel
theorem dL_law_482 : decode cL_law 482 = .ok (.aload_n 1, 1) := by decide +kernel
theorem dL_law_483 : decode cL_law 483 = .ok (.iconst 1, 1) := by decide +kernel
theorem dL_law_484 : decode cL_law 484 = .ok (.invokevirtual 146, 3) := by decide +kernel
theorem dL_law_487 : decode cL_law 487 = .ok (.aload_n 3, 1) := by decide +kernel
theorem dL_law_488 : decode cL_law 488 = .ok (.iconst 0, 1) := by decide +kernel
theorem dL_law_489 : decode cL_law 489 = .ok (.iaload, 1) := by decide +kernel
theorem dL_law_490 : decode cL_law 490 = .ok (.if_icmp .gt 22, 3) := by decide +kernel
theorem dL_law_493 : decode cL_law 493 = .ok (.aload_n 1, 1) := by decide +kernel
theorem dL_law_494 : decode cL_law 494 = .ok (.iconst 4, 1) := by decide +kernel
theorem dL_law_495 : decode cL_law 495 = .ok (.invokevirtual 146, 3) := by decide +kernel
theorem dL_law_498 : decode cL_law 498 = .ok (.iconst 2, 1) := by decide +kernel
theorem dL_law_499 : decode cL_law 499 = .ok (.if_icmp .gt 13, 3) := by decide +kernel
theorem dL_law_502 : decode cL_law 502 = .ok (.aload_n 1, 1) := by decide +kernel
theorem dL_law_503 : decode cL_law 503 = .ok (.iconst 0, 1) := by decide +kernel
theorem dL_law_504 : decode cL_law 504 = .ok (.invokevirtual 72, 3) := by decide +kernel
theorem dL_law_507 : decode cL_law 507 = .ok (.lconst 0, 1) := by decide +kernel
theorem dL_law_508 : decode cL_law 508 = .ok (.lcmp, 1) := by decide +kernel
theorem dL_law_509 : decode cL_law 509 = .ok (.ifCond .ge 5, 3) := by decide +kernel
theorem dL_law_512 : decode cL_law 512 = .ok (.iconst 0, 1) := by decide +kernel
theorem dL_law_513 : decode cL_law 513 = .ok (.ireturn, 1) := by decide +kernel
theorem dL_law_514 : decode cL_law 514 = .ok (.iinc 5 1, 3) := by decide +kernel
theorem dL_law_517 : decode cL_law 517 = .ok (.goto (-438), 3) := by decide +kernel
theorem dL_law_520 : decode cL_law 520 = .ok (.iconst 1, 1) := by decide +kernel
theorem dL_law_521 : decode cL_law 521 = .ok (.ireturn, 1) := by decide +kernel
end
section
/-! abstract world: a pool of np cells by index; S.1 ints, S.2.1 longs, S.2.2 references (as indices), by cell and slot -/
abbrev Gl : Type := va_G × (ClassId × ClassId) × (Nat → Nat) × Nat
abbrev St : Type := (Nat → Nat → Int32) × (Nat → Nat → Int64) × (Nat → Nat → Nat)
def ad (g : Gl) (i : Nat) : Nat := g.2.2.1 i
def npl (g : Gl) : Nat := g.2.2.2
def tysW (g : Gl) : List (ClassId × FieldType) := [(g.2.1.1, .int), (g.2.1.2, .long)]
def kdL : List Nat := [9, 7, 11, 3, 11, 2, 6, 11, 11, 11, 11, 11, 11, 11, 11, 2, 6, 11, 11, 11, 11, 11, 11, 11, 11, 0, 11, 11, 11, 11, 11, 11, 11, 11, 11, 11, 0, 11, 11, 11, 11, 11, 11, 11, 11, 11, 11, 1, 2, 6, 11, 11, 11, 11, 11, 11, 11, 11, 0, 11, 11, 11, 11, 11, 11, 11, 11, 11, 11, 11, 11, 11, 11, 8, 12, 12, 11, 12, 11, 8, 12, 12, 11, 12, 11, 4, 0, 11, 11, 11, 11, 11, 11, 11, 11, 11, 11, 11, 12, 11, 5, 11, 11, 10, 11, 11, 11, 11, 11, 11, 11, 11, 11, 11, 11, 11, 11, 11, 11, 11, 11, 11, 11, 11, 11, 11, 12, 12, 12]
def lnL : List Nat := [0, 0, 300, 0, 5, 0, 0, 6, 6, 6, 6, 18, 18, 8, 8, 0, 0, 6, 6, 6, 6, 18, 18, 8, 8, 0, 8, 8, 8, 8, 8, 8, 8, 24, 24, 8, 0, 8, 8, 8, 8, 8, 8, 8, 24, 24, 8, 0, 0, 0, 6, 6, 6, 6, 18, 18, 8, 8, 0, 8, 8, 8, 8, 8, 8, 8, 24, 24, 8, 8, 9, 9, 9, 0, 8, 8, 8, 9, 9, 0, 8, 8, 8, 9, 9, 0, 0, 8, 8, 8, 8, 8, 8, 8, 24, 24, 8, 8, 549, 8, 0, 16, 2, 0, 300, 20, 2, 12, 12, 12, 12, 12, 12, 12, 36, 36, 8, 8, 3, 24, 5, 8, 8, 8, 8, 8, 8100, 900, 900]
def kdT (i : Nat) : Nat := kdL.getD i 99
def lnT (i : Nat) : Nat := lnL.getD i 0
def kd (g : Gl) (i : Nat) : Nat := if i < npl g then kdT i else 99
/-- an object or row that is there from the class's own constructor on -/
def kdE (i : Nat) : Nat := if i < 103 then kdT i else 99
def up2 {α : Type} (f : Nat → Nat → α) (c k : Nat) (v : α) : Nat → Nat → α := fun a => if a = c then (fun b => if b = k then v else f c b) else f a
theorem up2_at {α : Type} (f : Nat → Nat → α) (c k : Nat) (v : α) : up2 f c k v c = fun b => if b = k then v else f c b := if_pos rfl
theorem up2_ne {α : Type} (f : Nat → Nat → α) {c a : Nat} (k : Nat) (v : α) (h : a ≠ c) : up2 f c k v a = f a := if_neg h
/-- the whole of one row anew -/
def up1 {α : Type} (f : Nat → Nat → α) (c : Nat) (r : Nat → α) : Nat → Nat → α := fun a => if a = c then r else f a
theorem up1_at {α : Type} (f : Nat → Nat → α) (c : Nat) (r : Nat → α) : up1 f c r c = r := if_pos rfl
theorem up1_ne {α : Type} (f : Nat → Nat → α) {c a : Nat} (r : Nat → α) (h : a ≠ c) : up1 f c r a = f a := if_neg h
def pI (S : St) (c k : Nat) (v : Int32) : St := (up2 S.1 c k v, S.2.1, S.2.2)
def pJ (S : St) (c k : Nat) (v : Int64) : St := (S.1, up2 S.2.1 c k v, S.2.2)
def pR (S : St) (c k : Nat) (v : Nat) : St := (S.1, S.2.1, up2 S.2.2 c k v)
def pRow (S : St) (c : Nat) (r : Nat → Int32) : St := (up1 S.1 c r, S.2.1, S.2.2)
def fs0 (g : Gl) (i : Nat) (fI : Nat → Int32) (fJ : Nat → Int64) (fR : Nat → Nat) : List Value := [.int (fI 0), .ref (ad g (i + 1)), .ref (ad g (i + 2)), .ref (ad g (i + 3)), .ref (ad g (i + 4)), .ref (ad g (i + 5)), .ref (ad g (i + 6)), .ref (ad g (i + 7)), .ref (ad g (i + 8)), .ref (ad g (i + 9)), .ref (ad g (i + 10))]
def fs1 (g : Gl) (i : Nat) (fI : Nat → Int32) (fJ : Nat → Int64) (fR : Nat → Nat) : List Value := [.ref (ad g (fR 0)), .ref (ad g (fR 1)), .int (fI 2), .int (fI 3), .int (fI 4), .int (fI 5), .int (fI 6), .ref (ad g (i + 22)), .ref (ad g (i + 23)), .ref (ad g (i + 24)), .ref (ad g (i + 25))]
def fs2 (g : Gl) (i : Nat) (fI : Nat → Int32) (fJ : Nat → Int64) (fR : Nat → Nat) : List Value := [.int (fI 0), .int (fI 1), .int (fI 2), .int (fI 3), .int (fI 4), .int (fI 5), .int (fI 6), .int (fI 7), .int (fI 8), .int (fI 9), .ref (ad g (i + 1))]
def fs3 (g : Gl) (i : Nat) (fI : Nat → Int32) (fJ : Nat → Int64) (fR : Nat → Nat) : List Value := [.ref (ad g (i + 1)), .int (fI 1)]
def fs4 (g : Gl) (i : Nat) (fI : Nat → Int32) (fJ : Nat → Int64) (fR : Nat → Nat) : List Value := [.ref (ad g (fR 0)), .int (fI 1), .int (fI 2), .int (fI 3), .ref (ad g (i + 12)), .ref (ad g (i + 13))]
def fs5 (g : Gl) (i : Nat) (fI : Nat → Int32) (fJ : Nat → Int64) (fR : Nat → Nat) : List Value := [.int (fI 0), .ref (ad g (i + 1)), .ref (ad g (i + 2))]
def fs6 (g : Gl) (i : Nat) (fI : Nat → Int32) (fJ : Nat → Int64) (fR : Nat → Nat) : List Value := [.int (fI 0), .int (fI 1), .ref (ad g (i + 1)), .ref (ad g (i + 2)), .ref (ad g (i + 3)), .ref (ad g (i + 4)), .ref (ad g (i + 5)), .ref (ad g (i + 6)), .ref (ad g (i + 7)), .ref (ad g (i + 8))]
def fs7 (g : Gl) (i : Nat) (fI : Nat → Int32) (fJ : Nat → Int64) (fR : Nat → Nat) : List Value := [.ref (ad g (i + 1)), .int (fI 1)]
def fs8 (g : Gl) (i : Nat) (fI : Nat → Int32) (fJ : Nat → Int64) (fR : Nat → Nat) : List Value := [.long (fJ 0), .long (fJ 1), .long (fJ 2), .long (fJ 3), .long (fJ 4), .ref (ad g (i + 1)), .ref (ad g (i + 2)), .ref (ad g (i + 3)), .ref (ad g (i + 4)), .ref (ad g (i + 5))]
def fs9 (g : Gl) (i : Nat) (fI : Nat → Int32) (fJ : Nat → Int64) (fR : Nat → Nat) : List Value := [.ref (ad g (i + 1)), .ref (ad g (i + 3)), .ref (ad g (fR 2)), .ref (ad g (fR 3)), .ref (ad g (i + 25)), .ref (ad g (i + 36)), .ref (ad g (i + 47)), .ref (ad g (i + 73)), .ref (ad g (i + 79)), .ref (ad g (i + 85)), .ref (ad g (i + 99)), .int (fI 11), .ref (ad g (i + 100)), .int (fI 13), .int (fI 14), .int (fI 15), .int (fI 16), .long (fJ 17), .long (fJ 18)]
def cellOf (g : Gl) (k i : Nat) (fI : Nat → Int32) (fJ : Nat → Int64) (fR : Nat → Nat) : va_E :=
  if k = 0 then .inr (0, fs0 g i fI fJ fR) else
  if k = 1 then .inr (1, fs1 g i fI fJ fR) else
  if k = 2 then .inr (2, fs2 g i fI fJ fR) else
  if k = 3 then .inr (3, fs3 g i fI fJ fR) else
  if k = 4 then .inr (4, fs4 g i fI fJ fR) else
  if k = 5 then .inr (5, fs5 g i fI fJ fR) else
  if k = 6 then .inr (6, fs6 g i fI fJ fR) else
  if k = 7 then .inr (7, fs7 g i fI fJ fR) else
  if k = 8 then .inr (8, fs8 g i fI fJ fR) else
  if k = 9 then .inr (9, fs9 g i fI fJ fR) else
  if k = 11 then .inl (g.2.1.1, lnT i, .inl fI) else .inl (g.2.1.2, lnT i, .inr (.inl fJ))
def cell (g : Gl) (S : St) (i : Nat) : va_E := cellOf g (kdT i) i (S.1 i) (S.2.1 i) (S.2.2 i)
def pool (g : Gl) (S : St) : va_W := (List.range (npl g)).map (fun i => (ad g i, cell g S i))
def GOK (g : Gl) : Prop := (npl g = 103 ∨ npl g = 129) ∧ ∀ i j, i < npl g → j < npl g → ad g i = ad g j → i = j
def Ap (g : Gl) : Nat → Prop := fun q => ∃ i, i < npl g ∧ ad g i = q
theorem kd_lt {g : Gl} {i k : Nat} (h : kd g i = k) (hk : k < 99) : i < npl g ∧ kdT i = k := by
  unfold kd at h
  by_cases hi : i < npl g
  · rw [if_pos hi] at h; exact ⟨hi, h⟩
  · rw [if_neg hi] at h; omega
theorem kd_of {g : Gl} (hg : GOK g) {i k : Nat} (h : kdE i = k) (hk : k < 99) : kd g i = k := by
  unfold kdE at h
  by_cases hi : i < 103
  · rw [if_pos hi] at h
    have : i < npl g := by rcases hg.1 with e | e <;> omega
    unfold kd; rw [if_pos this]; exact h
  · rw [if_neg hi] at h; omega
theorem pool_get {g : Gl} {S : St} {i : Nat} (h : i < npl g) : (pool g S)[i]? = some (ad g i, cell g S i) := by
  unfold pool
  rw [List.getElem?_map, List.getElem?_range h]; rfl
theorem pool_len (g : Gl) (S : St) : (pool g S).length = npl g := by unfold pool; rw [List.length_map, List.length_range]
theorem pool_some {g : Gl} {S : St} {k : Nat} {q : Nat × va_E} (h : (pool g S)[k]? = some q) : k < npl g ∧ q = (ad g k, cell g S k) := by
  have hk : k < npl g := by
    rcases Nat.lt_or_ge k (npl g) with h1 | h1
    · exact h1
    · rw [List.getElem?_eq_none (by rw [pool_len]; exact h1)] at h; cases h
  rw [pool_get hk] at h
  exact ⟨hk, (Option.some.inj h).symm⟩
theorem pool_D {g : Gl} {S : St} {A : Nat → Prop} (hg : GOK g) (hA : ∀ i, i < npl g → A (ad g i)) : va_D A (pool g S) := by
  refine ⟨fun i j p q hi hj h => ?_, fun k q hk => ?_⟩
  · obtain ⟨h1, rfl⟩ := pool_some hi
    obtain ⟨h2, rfl⟩ := pool_some hj
    exact hg.2 i j h1 h2 h
  · obtain ⟨h1, rfl⟩ := pool_some hk
    exact hA k h1
theorem pool_set {g : Gl} {S S' : St} {i : Nat} {e : va_E} (h : i < npl g) (he : e = cell g S' i) (ho : ∀ j, j ≠ i → cell g S' j = cell g S j) : (pool g S).set i (ad g i, e) = pool g S' := by
  apply List.ext_getElem?
  intro j
  by_cases hj : j < npl g
  · by_cases hji : j = i
    · subst hji
      rw [List.getElem?_set_self (by rw [pool_len]; exact h), pool_get h, he]
    · rw [List.getElem?_set_ne (fun e => hji e.symm), pool_get hj, pool_get hj, ho j hji]
  · rw [List.getElem?_eq_none (by rw [List.length_set, pool_len]; omega), List.getElem?_eq_none (by rw [pool_len]; omega)]
theorem cell_pI {g : Gl} {S : St} {c k : Nat} {v : Int32} : ∀ j, j ≠ c → cell g (pI S c k v) j = cell g S j := fun j h => by
  unfold cell pI; dsimp only; rw [up2_ne _ _ _ h]
theorem cell_pJ {g : Gl} {S : St} {c k : Nat} {v : Int64} : ∀ j, j ≠ c → cell g (pJ S c k v) j = cell g S j := fun j h => by
  unfold cell pJ; dsimp only; rw [up2_ne _ _ _ h]
theorem cell_pR {g : Gl} {S : St} {c k : Nat} {v : Nat} : ∀ j, j ≠ c → cell g (pR S c k v) j = cell g S j := fun j h => by
  unfold cell pR; dsimp only; rw [up2_ne _ _ _ h]
theorem cell_pRow {g : Gl} {S : St} {c : Nat} {r : Nat → Int32} : ∀ j, j ≠ c → cell g (pRow S c r) j = cell g S j := fun j h => by
  unfold cell pRow; dsimp only; rw [up1_ne _ _ h]
theorem cell_eqI {g : Gl} {S : St} {i : Nat} (h : kdT i = 11) : cell g S i = .inl (g.2.1.1, lnT i, .inl (S.1 i)) := by unfold cell; rw [h]; rfl
theorem cell_eqJ {g : Gl} {S : St} {i : Nat} (h : kdT i = 12) : cell g S i = .inl (g.2.1.2, lnT i, .inr (.inl (S.2.1 i))) := by unfold cell; rw [h]; rfl
/-! checks that the functional text makes -/
def ob {α : Type} (i : Int32) (n : Nat) (k : Option α) : Option α := if i < 0 ∨ n ≤ i.toNatClampNeg then none else k
theorem ob_some {α : Type} {i : Int32} {n : Nat} {k : Option α} {r : α} (h : ob i n k = some r) : vp_in i n ∧ k = some r := by
  unfold ob at h
  by_cases hc : i < 0 ∨ n ≤ i.toNatClampNeg
  · rw [if_pos hc] at h; cases h
  · rw [if_neg hc] at h; exact ⟨hc, h⟩
theorem ob_in {α : Type} {i : Int32} {n : Nat} {k : Option α} (h : vp_in i n) : ob i n k = k := if_neg h
def ck {α : Type} (p : Prop) [Decidable p] (k : Option α) : Option α := if p then k else none
theorem ck_some {α : Type} {p : Prop} [Decidable p] {k : Option α} {r : α} (h : ck p k = some r) : p ∧ k = some r := by
  unfold ck at h
  by_cases hc : p
  · rw [if_pos hc] at h; exact ⟨hc, h⟩
  · rw [if_neg hc] at h; cases h
def bd {α β : Type} (o : Option (α × St)) (k : α → St → Option β) : Option β := match o with
  | none => none
  | some q => k q.1 q.2
theorem bd_some {α β : Type} {o : Option (α × St)} {k : α → St → Option β} {r : β} (h : bd o k = some r) : ∃ v S, o = some (v, S) ∧ k v S = some r := by
  cases o with
  | none => cases h
  | some q => exact ⟨q.1, q.2, rfl, h⟩
def sq {α β : Type} (a : α) (k : α → β) : β := k a
theorem sq_eq {α β : Type} {a : α} {k : α → Option β} {r : β} (h : sq a k = some r) : k a = some r := h
def imax (x y : Int32) : Int32 := if x < y then y else x
def imin (x y : Int32) : Int32 := if y < x then y else x
def FU : Nat := 10000
def lvg : List (Nat × Value) → Nat → Option Value
  | [], _ => none
  | q :: t, i => if q.1 = i then some q.2 else lvg t i
theorem lvg_mem : ∀ {lv : List (Nat × Value)} {i : Nat} {v : Value}, lvg lv i = some v → (i, v) ∈ lv
  | [], _, _, h => by cases h
  | q :: t, i, v, h => by
    unfold lvg at h
    by_cases hq : q.1 = i
    · rw [if_pos hq] at h
      have : q = (i, v) := by rw [← hq, ← Option.some.inj h]
      rw [this]; exact List.mem_cons_self
    · rw [if_neg hq] at h; exact List.mem_cons_of_mem _ (lvg_mem h)
theorem lvg_at {ls : Array Slot} {nL : Nat} {lv : List (Nat × Value)} {i : Nat} {v : Value} (hl : lv_has ls nL lv) (h : lvg lv i = some v) : ls[i]? = some (.val v) := hl.2.2 (i, v) (lvg_mem h)
/-- the list lv' says nothing that lv doesn't -/
def lvsub (lv : List (Nat × Value)) : List (Nat × Value) → Prop
  | [] => True
  | q :: t => lvg lv q.1 = some q.2 ∧ lvsub lv t
theorem lvsub_has {ls : Array Slot} {nL : Nat} {lv : List (Nat × Value)} (hl : lv_has ls nL lv) : ∀ {lv' : List (Nat × Value)}, lvsub lv lv' → lv_has ls nL lv'
  | [], _ => ⟨hl.1, hl.2.1, fun _ h => absurd h List.not_mem_nil⟩
  | q :: t, h => ⟨hl.1, hl.2.1, fun r hr => by
      rcases List.mem_cons.mp hr with rfl | hr
      · exact lvg_at hl h.1
      · exact (lvsub_has hl h.2).2.2 r hr⟩
/-- the tables' words that a call keeps, and those of nest mates, which it keeps in their own way -/
def lw_g : List Cond := lw_tbl.filter goodWord
theorem lwm (i : Nat) {w : Cond} (h : lw_tbl[i]? = some w) (hg : goodWord w = true) : w ∈ lw_g := List.mem_filter.mpr ⟨List.mem_of_getElem? h, hg⟩
def isNest : Cond → Bool
  | .methodLinkNest .. => true
  | _ => false
def NW (s : State) : Prop := ∀ w ∈ lw_tbl, isNest w = true → va_Nw w s
theorem NW.warm {s U : State} (hW : s.WarmedH U.vm) (h : NW s) : NW U := fun w hw hn => by
  cases w <;> first | (exact va_Nw.warmM hW (h _ hw hn)) | (cases hn)
theorem NW.same {s U : State} (hv : s.vm = U.vm) (h : NW s) : NW U := fun w hw hn => by
  cases w <;> first | (exact va_Nw.same rfl hv (h _ hw hn)) | (cases hn)
def Cx (p : Program) (s : State) (m : MethodId) (args : Array Value) (meth : Method) (c : Code) (cc : ByteArray) (nL : Nat) (ret : Option FieldType) (own : String) (g : Gl) (A : Nat → Prop) : Prop :=
  p.tables.exec = Jvm.exec ∧ c.code = cc ∧ c.maxLocals = nL ∧ s.vm.findClass own = some m.cls ∧ (∀ w ∈ lw_g, w.before args s = true) ∧ va_K g.1 vwCl (tysW g) s ∧ GOK g ∧ (∀ i, i < npl g → A (ad g i)) ∧ meth.sig.returnType = ret ∧ meth.locks = false ∧ NW s
section WAR
variable {p : Program} {l : Launch} {e : Env} {R : Room} {s : State} {m : MethodId} {args : Array Value} {below : List Frame} {meth : Method} {c : Code} {cells slots : Nat} {Q : State → Prop} {cc : ByteArray} {nL : Nat} {ret : Option FieldType} {own : String} {g : Gl} {A : Nat → Prop}
def WA (p : Program) (l : Launch) (e : Env) (R : Room) (s : State) (m : MethodId) (args : Array Value) (below : List Frame) (meth : Method) (c : Code) (cells slots : Nat) (Q : State → Prop) (nL : Nat) (g : Gl) (A : Nat → Prop) (S : St) (pc : Nat) (lv : List (Nat × Value)) (st : List Value) : Prop :=
  ∀ (H : Heap) (locs : List Loc) (ls : Array Slot), va_P g.1 vwCl (pool g S) H → va_S A s.heap H locs → lv_has ls nL lv → W p l e R s m args below meth c H locs cells slots Q (F0 m pc ls st)
variable {S : St} {pc : Nat} {lv : List (Nat × Value)} {st : List Value}
theorem wa_sub {lv' : List (Nat × Value)} (h : lvsub lv lv') (k : WA p l e R s m args below meth c cells slots Q nL g A S pc lv' st) : WA p l e R s m args below meth c cells slots Q nL g A S pc lv st := fun H locs ls hP hS hl => k H locs ls hP hS (lvsub_has hl h)
theorem wa_iconst (cx : Cx p s m args meth c cc nL ret own g A) {n : Int} (hdg : decode cc pc = .ok (.iconst n, 1)) (v : Int32) (hv : Int32.ofInt n = v) (k : WA p l e R s m args below meth c cells slots Q nL g A S (pc + 1) lv (.int v :: st)) : WA p l e R s m args below meth c cells slots Q nL g A S pc lv st := fun H locs ls hP hS hl => lv_iconst cx.1 cx.2.1 hdg hv (k H locs ls hP hS hl)
theorem wa_bipush (cx : Cx p s m args meth c cc nL ret own g A) {n : Int} (hdg : decode cc pc = .ok (.bipush n, 2)) (v : Int32) (hv : (Int8.ofInt n).toInt32 = v) (k : WA p l e R s m args below meth c cells slots Q nL g A S (pc + 2) lv (.int v :: st)) : WA p l e R s m args below meth c cells slots Q nL g A S pc lv st := fun H locs ls hP hS hl => lv_bipush cx.1 cx.2.1 hdg hv (k H locs ls hP hS hl)
theorem wa_sipush (cx : Cx p s m args meth c cc nL ret own g A) {n : Int} (hdg : decode cc pc = .ok (.sipush n, 3)) (v : Int32) (hv : (Int16.ofInt n).toInt32 = v) (k : WA p l e R s m args below meth c cells slots Q nL g A S (pc + 3) lv (.int v :: st)) : WA p l e R s m args below meth c cells slots Q nL g A S pc lv st := fun H locs ls hP hS hl => lv_sipush cx.1 cx.2.1 hdg hv (k H locs ls hP hS hl)
theorem wa_lconst (cx : Cx p s m args meth c cc nL ret own g A) {n : Fin 2} (hdg : decode cc pc = .ok (.lconst n, 1)) (v : Int64) (hv : Int64.ofNat (n : Nat) = v) (k : WA p l e R s m args below meth c cells slots Q nL g A S (pc + 1) lv (.long v :: st)) : WA p l e R s m args below meth c cells slots Q nL g A S pc lv st := fun H locs ls hP hS hl => lv_lconst cx.1 cx.2.1 hdg hv (k H locs ls hP hS hl)
theorem wa_ldc2 (cx : Cx p s m args meth c cc nL ret own g A) {index : Nat} (hdg : decode cc pc = .ok (.ldc2_w index, 3)) (v : Int64) (hc : Cond.constantLong own index v ∈ lw_g) (k : WA p l e R s m args below meth c cells slots Q nL g A S (pc + 3) lv (.long v :: st)) : WA p l e R s m args below meth c cells slots Q nL g A S pc lv st := fun H locs ls hP hS hl => lv_ldc2 cx.1 cx.2.1 cx.2.2.2.1 (cx.2.2.2.2.1 _ hc) hdg (k H locs ls hP hS hl)
theorem wa_ldc (cx : Cx p s m args meth c cc nL ret own g A) {index : Nat} (hdg : decode cc pc = .ok (.ldc index, 2)) (v : Int32) (hc : Cond.constant own index v ∈ lw_g) (k : WA p l e R s m args below meth c cells slots Q nL g A S (pc + 2) lv (.int v :: st)) : WA p l e R s m args below meth c cells slots Q nL g A S pc lv st := fun H locs ls hP hS hl => lv_ldc cx.1 cx.2.1 cx.2.2.2.1 (cx.2.2.2.2.1 _ hc) hdg (k H locs ls hP hS hl)
theorem wa_ishr (cx : Cx p s m args meth c cc nL ret own g A) {x y : Int32} (hdg : decode cc pc = .ok (.ishr, 1)) (k : WA p l e R s m args below meth c cells slots Q nL g A S (pc + 1) lv (.int (x >>> (y &&& 31)) :: st)) : WA p l e R s m args below meth c cells slots Q nL g A S pc lv (.int y :: .int x :: st) := fun H locs ls hP hS hl => lv_ishr cx.1 cx.2.1 hdg (k H locs ls hP hS hl)
theorem wa_iload_n (cx : Cx p s m args meth c cc nL ret own g A) {k0 : Fin 4} {i : Nat} {x : Int32} (hdg : decode cc pc = .ok (.iload_n k0, 1)) (hi : (k0 : Nat) = i) (hv : lvg lv i = some (.int x)) (k : WA p l e R s m args below meth c cells slots Q nL g A S (pc + 1) lv (.int x :: st)) : WA p l e R s m args below meth c cells slots Q nL g A S pc lv st := fun H locs ls hP hS hl => lv_iload_n cx.1 cx.2.1 hdg hi (lvg_at hl hv) (k H locs ls hP hS hl)
theorem wa_iload (cx : Cx p s m args meth c cc nL ret own g A) {i : Nat} {x : Int32} (hdg : decode cc pc = .ok (.iload i, 2)) (hv : lvg lv i = some (.int x)) (k : WA p l e R s m args below meth c cells slots Q nL g A S (pc + 2) lv (.int x :: st)) : WA p l e R s m args below meth c cells slots Q nL g A S pc lv st := fun H locs ls hP hS hl => lv_iload cx.1 cx.2.1 hdg (lvg_at hl hv) (k H locs ls hP hS hl)
theorem wa_istore_n (cx : Cx p s m args meth c cc nL ret own g A) {k0 : Fin 4} {i : Nat} {x : Int32} {lv1 : List (Nat × Value)} (hdg : decode cc pc = .ok (.istore_n k0, 1)) (lv2 : List (Nat × Value)) (hi : (k0 : Nat) = i) (hn : i < nL) (hf : (i, Value.int x) :: lv.filter (fun q => !(q.1 == i) && !(q.1 + 1 == i && q.2.category == 2)) = lv1) (hsub : lvsub lv1 lv2) (k : WA p l e R s m args below meth c cells slots Q nL g A S (pc + 1) lv2 st) : WA p l e R s m args below meth c cells slots Q nL g A S pc lv (.int x :: st) := fun H locs ls hP hS hl => lv_istore_n cx.1 cx.2.1 hdg hi hl hn hf (fun ls2 hl2 => k H locs ls2 hP hS (lvsub_has hl2 hsub))
theorem wa_istore (cx : Cx p s m args meth c cc nL ret own g A) {i : Nat} {x : Int32} {lv1 : List (Nat × Value)} (hdg : decode cc pc = .ok (.istore i, 2)) (lv2 : List (Nat × Value)) (hn : i < nL) (hf : (i, Value.int x) :: lv.filter (fun q => !(q.1 == i) && !(q.1 + 1 == i && q.2.category == 2)) = lv1) (hsub : lvsub lv1 lv2) (k : WA p l e R s m args below meth c cells slots Q nL g A S (pc + 2) lv2 st) : WA p l e R s m args below meth c cells slots Q nL g A S pc lv (.int x :: st) := fun H locs ls hP hS hl => lv_istore cx.1 cx.2.1 hdg hl hn hf (fun ls2 hl2 => k H locs ls2 hP hS (lvsub_has hl2 hsub))
theorem wa_lload_n (cx : Cx p s m args meth c cc nL ret own g A) {k0 : Fin 4} {i : Nat} {x : Int64} (hdg : decode cc pc = .ok (.lload_n k0, 1)) (hi : (k0 : Nat) = i) (hv : lvg lv i = some (.long x)) (k : WA p l e R s m args below meth c cells slots Q nL g A S (pc + 1) lv (.long x :: st)) : WA p l e R s m args below meth c cells slots Q nL g A S pc lv st := fun H locs ls hP hS hl => lv_lload_n cx.1 cx.2.1 hdg hi (lvg_at hl hv) (k H locs ls hP hS hl)
theorem wa_lload (cx : Cx p s m args meth c cc nL ret own g A) {i : Nat} {x : Int64} (hdg : decode cc pc = .ok (.lload i, 2)) (hv : lvg lv i = some (.long x)) (k : WA p l e R s m args below meth c cells slots Q nL g A S (pc + 2) lv (.long x :: st)) : WA p l e R s m args below meth c cells slots Q nL g A S pc lv st := fun H locs ls hP hS hl => lv_lload cx.1 cx.2.1 hdg (lvg_at hl hv) (k H locs ls hP hS hl)
theorem wa_lstore_n (cx : Cx p s m args meth c cc nL ret own g A) {k0 : Fin 4} {i : Nat} {x : Int64} {lv1 : List (Nat × Value)} (hdg : decode cc pc = .ok (.lstore_n k0, 1)) (lv2 : List (Nat × Value)) (hi : (k0 : Nat) = i) (hn : i + 1 < nL) (hf : (i, Value.long x) :: lv.filter (fun q => !(q.1 == i) && (!(q.1 == i + 1) && !(q.1 + 1 == i && q.2.category == 2))) = lv1) (hsub : lvsub lv1 lv2) (k : WA p l e R s m args below meth c cells slots Q nL g A S (pc + 1) lv2 st) : WA p l e R s m args below meth c cells slots Q nL g A S pc lv (.long x :: st) := fun H locs ls hP hS hl => lv_lstore_n cx.1 cx.2.1 hdg hi hl hn hf (fun ls2 hl2 => k H locs ls2 hP hS (lvsub_has hl2 hsub))
theorem wa_lstore (cx : Cx p s m args meth c cc nL ret own g A) {i : Nat} {x : Int64} {lv1 : List (Nat × Value)} (hdg : decode cc pc = .ok (.lstore i, 2)) (lv2 : List (Nat × Value)) (hn : i + 1 < nL) (hf : (i, Value.long x) :: lv.filter (fun q => !(q.1 == i) && (!(q.1 == i + 1) && !(q.1 + 1 == i && q.2.category == 2))) = lv1) (hsub : lvsub lv1 lv2) (k : WA p l e R s m args below meth c cells slots Q nL g A S (pc + 2) lv2 st) : WA p l e R s m args below meth c cells slots Q nL g A S pc lv (.long x :: st) := fun H locs ls hP hS hl => lv_lstore cx.1 cx.2.1 hdg hl hn hf (fun ls2 hl2 => k H locs ls2 hP hS (lvsub_has hl2 hsub))
theorem wa_aload_n (cx : Cx p s m args meth c cc nL ret own g A) {k0 : Fin 4} {i : Nat} {x : Nat} (hdg : decode cc pc = .ok (.aload_n k0, 1)) (hi : (k0 : Nat) = i) (hv : lvg lv i = some (.ref x)) (k : WA p l e R s m args below meth c cells slots Q nL g A S (pc + 1) lv (.ref x :: st)) : WA p l e R s m args below meth c cells slots Q nL g A S pc lv st := fun H locs ls hP hS hl => lv_aload_n cx.1 cx.2.1 hdg hi (lvg_at hl hv) (k H locs ls hP hS hl)
theorem wa_aload (cx : Cx p s m args meth c cc nL ret own g A) {i : Nat} {x : Nat} (hdg : decode cc pc = .ok (.aload i, 2)) (hv : lvg lv i = some (.ref x)) (k : WA p l e R s m args below meth c cells slots Q nL g A S (pc + 2) lv (.ref x :: st)) : WA p l e R s m args below meth c cells slots Q nL g A S pc lv st := fun H locs ls hP hS hl => lv_aload cx.1 cx.2.1 hdg (lvg_at hl hv) (k H locs ls hP hS hl)
theorem wa_astore_n (cx : Cx p s m args meth c cc nL ret own g A) {k0 : Fin 4} {i : Nat} {x : Nat} {lv1 : List (Nat × Value)} (hdg : decode cc pc = .ok (.astore_n k0, 1)) (lv2 : List (Nat × Value)) (hi : (k0 : Nat) = i) (hn : i < nL) (hf : (i, Value.ref x) :: lv.filter (fun q => !(q.1 == i) && !(q.1 + 1 == i && q.2.category == 2)) = lv1) (hsub : lvsub lv1 lv2) (k : WA p l e R s m args below meth c cells slots Q nL g A S (pc + 1) lv2 st) : WA p l e R s m args below meth c cells slots Q nL g A S pc lv (.ref x :: st) := fun H locs ls hP hS hl => lv_astore_n cx.1 cx.2.1 hdg hi hl hn hf (fun ls2 hl2 => k H locs ls2 hP hS (lvsub_has hl2 hsub))
theorem wa_astore (cx : Cx p s m args meth c cc nL ret own g A) {i : Nat} {x : Nat} {lv1 : List (Nat × Value)} (hdg : decode cc pc = .ok (.astore i, 2)) (lv2 : List (Nat × Value)) (hn : i < nL) (hf : (i, Value.ref x) :: lv.filter (fun q => !(q.1 == i) && !(q.1 + 1 == i && q.2.category == 2)) = lv1) (hsub : lvsub lv1 lv2) (k : WA p l e R s m args below meth c cells slots Q nL g A S (pc + 2) lv2 st) : WA p l e R s m args below meth c cells slots Q nL g A S pc lv (.ref x :: st) := fun H locs ls hP hS hl => lv_astore cx.1 cx.2.1 hdg hl hn hf (fun ls2 hl2 => k H locs ls2 hP hS (lvsub_has hl2 hsub))
theorem lvg_ix : ∀ {lv : List (Nat × Value)} {i : Nat} {v : Value}, lvg lv i = some v → ∃ k : Nat, lv[k]? = some (i, v) := fun h => List.getElem?_of_mem (lvg_mem h)
theorem wa_iinc (cx : Cx p s m args meth c cc nL ret own g A) {i : Nat} {n : Int} {x : Int32} {lv1 : List (Nat × Value)} (hdg : decode cc pc = .ok (.iinc i n, 3)) (v : Int32) (lv2 : List (Nat × Value)) (hv : x + Int32.ofInt n = v) (hx : lvg lv i = some (.int x)) (hn : i < nL) (hf : (i, Value.int v) :: lv.filter (fun q => !(q.1 == i) && !(q.1 + 1 == i && q.2.category == 2)) = lv1) (hsub : lvsub lv1 lv2) (k : WA p l e R s m args below meth c cells slots Q nL g A S (pc + 3) lv2 st) : WA p l e R s m args below meth c cells slots Q nL g A S pc lv st := fun H locs ls hP hS hl => by
  obtain ⟨j, hj⟩ := lvg_ix hx
  exact lv_iinc cx.1 cx.2.1 hdg hl hj hv hn hf (fun ls2 hl2 => k H locs ls2 hP hS (lvsub_has hl2 hsub))
theorem wa_iadd (cx : Cx p s m args meth c cc nL ret own g A) {x y : Int32} (hdg : decode cc pc = .ok (.iadd, 1)) (k : WA p l e R s m args below meth c cells slots Q nL g A S (pc + 1) lv (.int (x + y) :: st)) : WA p l e R s m args below meth c cells slots Q nL g A S pc lv (.int y :: .int x :: st) := fun H locs ls hP hS hl => lv_iadd cx.1 cx.2.1 hdg (k H locs ls hP hS hl)
theorem wa_isub (cx : Cx p s m args meth c cc nL ret own g A) {x y : Int32} (hdg : decode cc pc = .ok (.isub, 1)) (k : WA p l e R s m args below meth c cells slots Q nL g A S (pc + 1) lv (.int (x - y) :: st)) : WA p l e R s m args below meth c cells slots Q nL g A S pc lv (.int y :: .int x :: st) := fun H locs ls hP hS hl => lv_isub cx.1 cx.2.1 hdg (k H locs ls hP hS hl)
theorem wa_imul (cx : Cx p s m args meth c cc nL ret own g A) {x y : Int32} (hdg : decode cc pc = .ok (.imul, 1)) (k : WA p l e R s m args below meth c cells slots Q nL g A S (pc + 1) lv (.int (x * y) :: st)) : WA p l e R s m args below meth c cells slots Q nL g A S pc lv (.int y :: .int x :: st) := fun H locs ls hP hS hl => lv_imul cx.1 cx.2.1 hdg (k H locs ls hP hS hl)
theorem wa_iand (cx : Cx p s m args meth c cc nL ret own g A) {x y : Int32} (hdg : decode cc pc = .ok (.iand, 1)) (k : WA p l e R s m args below meth c cells slots Q nL g A S (pc + 1) lv (.int (x &&& y) :: st)) : WA p l e R s m args below meth c cells slots Q nL g A S pc lv (.int y :: .int x :: st) := fun H locs ls hP hS hl => lv_iand cx.1 cx.2.1 hdg (k H locs ls hP hS hl)
theorem wa_idiv (cx : Cx p s m args meth c cc nL ret own g A) {x y : Int32} (hdg : decode cc pc = .ok (.idiv, 1)) (hne : ¬ y = 0) (k : WA p l e R s m args below meth c cells slots Q nL g A S (pc + 1) lv (.int (x / y) :: st)) : WA p l e R s m args below meth c cells slots Q nL g A S pc lv (.int y :: .int x :: st) := fun H locs ls hP hS hl => lv_idiv cx.1 cx.2.1 hdg hne (k H locs ls hP hS hl)
theorem wa_irem (cx : Cx p s m args meth c cc nL ret own g A) {x y : Int32} (hdg : decode cc pc = .ok (.irem, 1)) (hne : ¬ y = 0) (k : WA p l e R s m args below meth c cells slots Q nL g A S (pc + 1) lv (.int (x - x / y * y) :: st)) : WA p l e R s m args below meth c cells slots Q nL g A S pc lv (.int y :: .int x :: st) := fun H locs ls hP hS hl => lv_irem cx.1 cx.2.1 hdg hne (k H locs ls hP hS hl)
theorem wa_ladd (cx : Cx p s m args meth c cc nL ret own g A) {x y : Int64} (hdg : decode cc pc = .ok (.ladd, 1)) (k : WA p l e R s m args below meth c cells slots Q nL g A S (pc + 1) lv (.long (x + y) :: st)) : WA p l e R s m args below meth c cells slots Q nL g A S pc lv (.long y :: .long x :: st) := fun H locs ls hP hS hl => lv_ladd cx.1 cx.2.1 hdg (k H locs ls hP hS hl)
theorem wa_lsub (cx : Cx p s m args meth c cc nL ret own g A) {x y : Int64} (hdg : decode cc pc = .ok (.lsub, 1)) (k : WA p l e R s m args below meth c cells slots Q nL g A S (pc + 1) lv (.long (x - y) :: st)) : WA p l e R s m args below meth c cells slots Q nL g A S pc lv (.long y :: .long x :: st) := fun H locs ls hP hS hl => lv_lsub cx.1 cx.2.1 hdg (k H locs ls hP hS hl)
theorem wa_lmul (cx : Cx p s m args meth c cc nL ret own g A) {x y : Int64} (hdg : decode cc pc = .ok (.lmul, 1)) (k : WA p l e R s m args below meth c cells slots Q nL g A S (pc + 1) lv (.long (x * y) :: st)) : WA p l e R s m args below meth c cells slots Q nL g A S pc lv (.long y :: .long x :: st) := fun H locs ls hP hS hl => lv_lmul cx.1 cx.2.1 hdg (k H locs ls hP hS hl)
theorem wa_land (cx : Cx p s m args meth c cc nL ret own g A) {x y : Int64} (hdg : decode cc pc = .ok (.land, 1)) (k : WA p l e R s m args below meth c cells slots Q nL g A S (pc + 1) lv (.long (x &&& y) :: st)) : WA p l e R s m args below meth c cells slots Q nL g A S pc lv (.long y :: .long x :: st) := fun H locs ls hP hS hl => lv_land cx.1 cx.2.1 hdg (k H locs ls hP hS hl)
theorem wa_lor (cx : Cx p s m args meth c cc nL ret own g A) {x y : Int64} (hdg : decode cc pc = .ok (.lor, 1)) (k : WA p l e R s m args below meth c cells slots Q nL g A S (pc + 1) lv (.long (x ||| y) :: st)) : WA p l e R s m args below meth c cells slots Q nL g A S pc lv (.long y :: .long x :: st) := fun H locs ls hP hS hl => lv_lor cx.1 cx.2.1 hdg (k H locs ls hP hS hl)
theorem wa_ldiv (cx : Cx p s m args meth c cc nL ret own g A) {x y : Int64} (hdg : decode cc pc = .ok (.ldiv, 1)) (hne : ¬ y = 0) (k : WA p l e R s m args below meth c cells slots Q nL g A S (pc + 1) lv (.long (x / y) :: st)) : WA p l e R s m args below meth c cells slots Q nL g A S pc lv (.long y :: .long x :: st) := fun H locs ls hP hS hl => lv_ldiv cx.1 cx.2.1 hdg hne (k H locs ls hP hS hl)
theorem wa_lrem (cx : Cx p s m args meth c cc nL ret own g A) {x y : Int64} (hdg : decode cc pc = .ok (.lrem, 1)) (hne : ¬ y = 0) (k : WA p l e R s m args below meth c cells slots Q nL g A S (pc + 1) lv (.long (x - x / y * y) :: st)) : WA p l e R s m args below meth c cells slots Q nL g A S pc lv (.long y :: .long x :: st) := fun H locs ls hP hS hl => lv_lrem cx.1 cx.2.1 hdg hne (k H locs ls hP hS hl)
theorem wa_lshl (cx : Cx p s m args meth c cc nL ret own g A) {x : Int64} {y : Int32} (hdg : decode cc pc = .ok (.lshl, 1)) (k : WA p l e R s m args below meth c cells slots Q nL g A S (pc + 1) lv (.long (x <<< (y.toInt64 &&& 63)) :: st)) : WA p l e R s m args below meth c cells slots Q nL g A S pc lv (.int y :: .long x :: st) := fun H locs ls hP hS hl => lv_lshl cx.1 cx.2.1 hdg rfl (k H locs ls hP hS hl)
theorem wa_lshr (cx : Cx p s m args meth c cc nL ret own g A) {x : Int64} {y : Int32} (hdg : decode cc pc = .ok (.lshr, 1)) (k : WA p l e R s m args below meth c cells slots Q nL g A S (pc + 1) lv (.long (x >>> (y.toInt64 &&& 63)) :: st)) : WA p l e R s m args below meth c cells slots Q nL g A S pc lv (.int y :: .long x :: st) := fun H locs ls hP hS hl => lv_lshr cx.1 cx.2.1 hdg rfl (k H locs ls hP hS hl)
theorem wa_lushr (cx : Cx p s m args meth c cc nL ret own g A) {x : Int64} {y : Int32} (hdg : decode cc pc = .ok (.lushr, 1)) (k : WA p l e R s m args below meth c cells slots Q nL g A S (pc + 1) lv (.long ((x.toUInt64 >>> (y.toInt64.toUInt64 &&& Int64.toUInt64 63)).toInt64) :: st)) : WA p l e R s m args below meth c cells slots Q nL g A S pc lv (.int y :: .long x :: st) := fun H locs ls hP hS hl => lv_lushr cx.1 cx.2.1 hdg rfl (k H locs ls hP hS hl)
theorem wa_i2l (cx : Cx p s m args meth c cc nL ret own g A) {x : Int32} (hdg : decode cc pc = .ok (.i2l, 1)) (k : WA p l e R s m args below meth c cells slots Q nL g A S (pc + 1) lv (.long x.toInt64 :: st)) : WA p l e R s m args below meth c cells slots Q nL g A S pc lv (.int x :: st) := fun H locs ls hP hS hl => lv_i2l cx.1 cx.2.1 hdg rfl (k H locs ls hP hS hl)
theorem wa_l2i (cx : Cx p s m args meth c cc nL ret own g A) {x : Int64} (hdg : decode cc pc = .ok (.l2i, 1)) (k : WA p l e R s m args below meth c cells slots Q nL g A S (pc + 1) lv (.int x.toInt32 :: st)) : WA p l e R s m args below meth c cells slots Q nL g A S pc lv (.long x :: st) := fun H locs ls hP hS hl => lv_l2i cx.1 cx.2.1 hdg rfl (k H locs ls hP hS hl)
theorem wa_dup (cx : Cx p s m args meth c cc nL ret own g A) {v : Value} (hdg : decode cc pc = .ok (.dup, 1)) (hv : v.category = 1) (k : WA p l e R s m args below meth c cells slots Q nL g A S (pc + 1) lv (v :: v :: st)) : WA p l e R s m args below meth c cells slots Q nL g A S pc lv (v :: st) := fun H locs ls hP hS hl => lv_dup cx.1 cx.2.1 hdg hv (k H locs ls hP hS hl)
theorem wa_dup2 (cx : Cx p s m args meth c cc nL ret own g A) {v u : Value} (hdg : decode cc pc = .ok (.dup2, 1)) (hv : v.category = 1) (hu : u.category = 1) (k : WA p l e R s m args below meth c cells slots Q nL g A S (pc + 1) lv (v :: u :: v :: u :: st)) : WA p l e R s m args below meth c cells slots Q nL g A S pc lv (v :: u :: st) := fun H locs ls hP hS hl => lv_dup2_11 cx.1 cx.2.1 hdg hv hu (k H locs ls hP hS hl)
theorem wa_dup2l (cx : Cx p s m args meth c cc nL ret own g A) {v : Value} (hdg : decode cc pc = .ok (.dup2, 1)) (hv : v.category = 2) (k : WA p l e R s m args below meth c cells slots Q nL g A S (pc + 1) lv (v :: v :: st)) : WA p l e R s m args below meth c cells slots Q nL g A S pc lv (v :: st) := fun H locs ls hP hS hl => lv_dup2_2 cx.1 cx.2.1 hdg hv (k H locs ls hP hS hl)
theorem wa_pop (cx : Cx p s m args meth c cc nL ret own g A) {v : Value} (hdg : decode cc pc = .ok (.pop, 1)) (hv : v.category = 1) (k : WA p l e R s m args below meth c cells slots Q nL g A S (pc + 1) lv st) : WA p l e R s m args below meth c cells slots Q nL g A S pc lv (v :: st) := fun H locs ls hP hS hl => lv_pop cx.1 cx.2.1 hdg hv (k H locs ls hP hS hl)
theorem wa_goto (cx : Cx p s m args meth c cc nL ret own g A) {off : Int} (hdg : decode cc pc = .ok (.goto off, 3)) (tgt : Nat) (ht : (pc : Int) + off = (tgt : Int)) (k : WA p l e R s m args below meth c cells slots Q nL g A S tgt lv st) : WA p l e R s m args below meth c cells slots Q nL g A S pc lv st := fun H locs ls hP hS hl => lv_goto cx.1 cx.2.1 hdg ht (k H locs ls hP hS hl)
theorem wa_icmp_eq (cx : Cx p s m args meth c cc nL ret own g A) {x y : Int32} {off : Int} (hdg : decode cc pc = .ok (.if_icmp .eq off, 3)) (tgt : Nat) (ht : (pc : Int) + off = (tgt : Int)) (kt : x = y → WA p l e R s m args below meth c cells slots Q nL g A S tgt lv st) (kf : ¬ x = y → WA p l e R s m args below meth c cells slots Q nL g A S (pc + 3) lv st) : WA p l e R s m args below meth c cells slots Q nL g A S pc lv (.int y :: .int x :: st) := fun H locs ls hP hS hl => lv_icmp_eq cx.1 cx.2.1 hdg ht (fun h => kt h H locs ls hP hS hl) (fun h => kf h H locs ls hP hS hl)
theorem wa_if_eq (cx : Cx p s m args meth c cc nL ret own g A) {x : Int32} {off : Int} (hdg : decode cc pc = .ok (.ifCond .eq off, 3)) (tgt : Nat) (ht : (pc : Int) + off = (tgt : Int)) (kt : x = 0 → WA p l e R s m args below meth c cells slots Q nL g A S tgt lv st) (kf : ¬ x = 0 → WA p l e R s m args below meth c cells slots Q nL g A S (pc + 3) lv st) : WA p l e R s m args below meth c cells slots Q nL g A S pc lv (.int x :: st) := fun H locs ls hP hS hl => lv_if_eq cx.1 cx.2.1 hdg ht (fun h => kt h H locs ls hP hS hl) (fun h => kf h H locs ls hP hS hl)
theorem wa_lcmp_eq (cx : Cx p s m args meth c cc nL ret own g A) {x y : Int64} {off : Int} (hdg : decode cc pc = .ok (.lcmp, 1)) (hdg2 : decode cc (pc + 1) = .ok (.ifCond .eq off, 3)) (tgt : Nat) (ht : ((pc + 1 : Nat) : Int) + off = (tgt : Int)) (kt : x = y → WA p l e R s m args below meth c cells slots Q nL g A S tgt lv st) (kf : ¬ x = y → WA p l e R s m args below meth c cells slots Q nL g A S (pc + 1 + 3) lv st) : WA p l e R s m args below meth c cells slots Q nL g A S pc lv (.long y :: .long x :: st) := fun H locs ls hP hS hl => W.lcmp cx.1 cx.2.1 hdg (lv_if_eq cx.1 cx.2.1 hdg2 ht (fun h => kt ((lg_cmp_eq x y).mp h) H locs ls hP hS hl) (fun h => kf (fun e => h ((lg_cmp_eq x y).mpr e)) H locs ls hP hS hl))
theorem wa_icmp_ne (cx : Cx p s m args meth c cc nL ret own g A) {x y : Int32} {off : Int} (hdg : decode cc pc = .ok (.if_icmp .ne off, 3)) (tgt : Nat) (ht : (pc : Int) + off = (tgt : Int)) (kt : ¬ x = y → WA p l e R s m args below meth c cells slots Q nL g A S tgt lv st) (kf : x = y → WA p l e R s m args below meth c cells slots Q nL g A S (pc + 3) lv st) : WA p l e R s m args below meth c cells slots Q nL g A S pc lv (.int y :: .int x :: st) := fun H locs ls hP hS hl => lv_icmp_ne cx.1 cx.2.1 hdg ht (fun h => kt h H locs ls hP hS hl) (fun h => kf h H locs ls hP hS hl)
theorem wa_if_ne (cx : Cx p s m args meth c cc nL ret own g A) {x : Int32} {off : Int} (hdg : decode cc pc = .ok (.ifCond .ne off, 3)) (tgt : Nat) (ht : (pc : Int) + off = (tgt : Int)) (kt : ¬ x = 0 → WA p l e R s m args below meth c cells slots Q nL g A S tgt lv st) (kf : x = 0 → WA p l e R s m args below meth c cells slots Q nL g A S (pc + 3) lv st) : WA p l e R s m args below meth c cells slots Q nL g A S pc lv (.int x :: st) := fun H locs ls hP hS hl => lv_if_ne cx.1 cx.2.1 hdg ht (fun h => kt h H locs ls hP hS hl) (fun h => kf h H locs ls hP hS hl)
theorem wa_lcmp_ne (cx : Cx p s m args meth c cc nL ret own g A) {x y : Int64} {off : Int} (hdg : decode cc pc = .ok (.lcmp, 1)) (hdg2 : decode cc (pc + 1) = .ok (.ifCond .ne off, 3)) (tgt : Nat) (ht : ((pc + 1 : Nat) : Int) + off = (tgt : Int)) (kt : ¬ x = y → WA p l e R s m args below meth c cells slots Q nL g A S tgt lv st) (kf : x = y → WA p l e R s m args below meth c cells slots Q nL g A S (pc + 1 + 3) lv st) : WA p l e R s m args below meth c cells slots Q nL g A S pc lv (.long y :: .long x :: st) := fun H locs ls hP hS hl => W.lcmp cx.1 cx.2.1 hdg (lv_if_ne cx.1 cx.2.1 hdg2 ht (fun h => kt (fun e => h ((lg_cmp_eq x y).mpr e)) H locs ls hP hS hl) (fun h => kf ((lg_cmp_eq x y).mp h) H locs ls hP hS hl))
theorem wa_icmp_lt (cx : Cx p s m args meth c cc nL ret own g A) {x y : Int32} {off : Int} (hdg : decode cc pc = .ok (.if_icmp .lt off, 3)) (tgt : Nat) (ht : (pc : Int) + off = (tgt : Int)) (kt : x < y → WA p l e R s m args below meth c cells slots Q nL g A S tgt lv st) (kf : ¬ x < y → WA p l e R s m args below meth c cells slots Q nL g A S (pc + 3) lv st) : WA p l e R s m args below meth c cells slots Q nL g A S pc lv (.int y :: .int x :: st) := fun H locs ls hP hS hl => lv_icmp_lt cx.1 cx.2.1 hdg ht (fun h => kt h H locs ls hP hS hl) (fun h => kf h H locs ls hP hS hl)
theorem wa_if_lt (cx : Cx p s m args meth c cc nL ret own g A) {x : Int32} {off : Int} (hdg : decode cc pc = .ok (.ifCond .lt off, 3)) (tgt : Nat) (ht : (pc : Int) + off = (tgt : Int)) (kt : x < 0 → WA p l e R s m args below meth c cells slots Q nL g A S tgt lv st) (kf : ¬ x < 0 → WA p l e R s m args below meth c cells slots Q nL g A S (pc + 3) lv st) : WA p l e R s m args below meth c cells slots Q nL g A S pc lv (.int x :: st) := fun H locs ls hP hS hl => lv_if_lt cx.1 cx.2.1 hdg ht (fun h => kt h H locs ls hP hS hl) (fun h => kf h H locs ls hP hS hl)
theorem wa_lcmp_lt (cx : Cx p s m args meth c cc nL ret own g A) {x y : Int64} {off : Int} (hdg : decode cc pc = .ok (.lcmp, 1)) (hdg2 : decode cc (pc + 1) = .ok (.ifCond .lt off, 3)) (tgt : Nat) (ht : ((pc + 1 : Nat) : Int) + off = (tgt : Int)) (kt : x < y → WA p l e R s m args below meth c cells slots Q nL g A S tgt lv st) (kf : ¬ x < y → WA p l e R s m args below meth c cells slots Q nL g A S (pc + 1 + 3) lv st) : WA p l e R s m args below meth c cells slots Q nL g A S pc lv (.long y :: .long x :: st) := fun H locs ls hP hS hl => W.lcmp cx.1 cx.2.1 hdg (lv_if_lt cx.1 cx.2.1 hdg2 ht (fun h => kt ((lg_cmp_lt x y).mp h) H locs ls hP hS hl) (fun h => kf (fun e => h ((lg_cmp_lt x y).mpr e)) H locs ls hP hS hl))
theorem wa_icmp_ge (cx : Cx p s m args meth c cc nL ret own g A) {x y : Int32} {off : Int} (hdg : decode cc pc = .ok (.if_icmp .ge off, 3)) (tgt : Nat) (ht : (pc : Int) + off = (tgt : Int)) (kt : y ≤ x → WA p l e R s m args below meth c cells slots Q nL g A S tgt lv st) (kf : ¬ y ≤ x → WA p l e R s m args below meth c cells slots Q nL g A S (pc + 3) lv st) : WA p l e R s m args below meth c cells slots Q nL g A S pc lv (.int y :: .int x :: st) := fun H locs ls hP hS hl => lv_icmp_ge cx.1 cx.2.1 hdg ht (fun h => kt h H locs ls hP hS hl) (fun h => kf h H locs ls hP hS hl)
theorem wa_if_ge (cx : Cx p s m args meth c cc nL ret own g A) {x : Int32} {off : Int} (hdg : decode cc pc = .ok (.ifCond .ge off, 3)) (tgt : Nat) (ht : (pc : Int) + off = (tgt : Int)) (kt : 0 ≤ x → WA p l e R s m args below meth c cells slots Q nL g A S tgt lv st) (kf : ¬ 0 ≤ x → WA p l e R s m args below meth c cells slots Q nL g A S (pc + 3) lv st) : WA p l e R s m args below meth c cells slots Q nL g A S pc lv (.int x :: st) := fun H locs ls hP hS hl => lv_if_ge cx.1 cx.2.1 hdg ht (fun h => kt h H locs ls hP hS hl) (fun h => kf h H locs ls hP hS hl)
theorem wa_lcmp_ge (cx : Cx p s m args meth c cc nL ret own g A) {x y : Int64} {off : Int} (hdg : decode cc pc = .ok (.lcmp, 1)) (hdg2 : decode cc (pc + 1) = .ok (.ifCond .ge off, 3)) (tgt : Nat) (ht : ((pc + 1 : Nat) : Int) + off = (tgt : Int)) (kt : y ≤ x → WA p l e R s m args below meth c cells slots Q nL g A S tgt lv st) (kf : ¬ y ≤ x → WA p l e R s m args below meth c cells slots Q nL g A S (pc + 1 + 3) lv st) : WA p l e R s m args below meth c cells slots Q nL g A S pc lv (.long y :: .long x :: st) := fun H locs ls hP hS hl => W.lcmp cx.1 cx.2.1 hdg (lv_if_ge cx.1 cx.2.1 hdg2 ht (fun h => kt ((lg_cmp_ge x y).mp h) H locs ls hP hS hl) (fun h => kf (fun e => h ((lg_cmp_ge x y).mpr e)) H locs ls hP hS hl))
theorem wa_icmp_gt (cx : Cx p s m args meth c cc nL ret own g A) {x y : Int32} {off : Int} (hdg : decode cc pc = .ok (.if_icmp .gt off, 3)) (tgt : Nat) (ht : (pc : Int) + off = (tgt : Int)) (kt : y < x → WA p l e R s m args below meth c cells slots Q nL g A S tgt lv st) (kf : ¬ y < x → WA p l e R s m args below meth c cells slots Q nL g A S (pc + 3) lv st) : WA p l e R s m args below meth c cells slots Q nL g A S pc lv (.int y :: .int x :: st) := fun H locs ls hP hS hl => lv_icmp_gt cx.1 cx.2.1 hdg ht (fun h => kt h H locs ls hP hS hl) (fun h => kf h H locs ls hP hS hl)
theorem wa_if_gt (cx : Cx p s m args meth c cc nL ret own g A) {x : Int32} {off : Int} (hdg : decode cc pc = .ok (.ifCond .gt off, 3)) (tgt : Nat) (ht : (pc : Int) + off = (tgt : Int)) (kt : 0 < x → WA p l e R s m args below meth c cells slots Q nL g A S tgt lv st) (kf : ¬ 0 < x → WA p l e R s m args below meth c cells slots Q nL g A S (pc + 3) lv st) : WA p l e R s m args below meth c cells slots Q nL g A S pc lv (.int x :: st) := fun H locs ls hP hS hl => lv_if_gt cx.1 cx.2.1 hdg ht (fun h => kt h H locs ls hP hS hl) (fun h => kf h H locs ls hP hS hl)
theorem wa_lcmp_gt (cx : Cx p s m args meth c cc nL ret own g A) {x y : Int64} {off : Int} (hdg : decode cc pc = .ok (.lcmp, 1)) (hdg2 : decode cc (pc + 1) = .ok (.ifCond .gt off, 3)) (tgt : Nat) (ht : ((pc + 1 : Nat) : Int) + off = (tgt : Int)) (kt : y < x → WA p l e R s m args below meth c cells slots Q nL g A S tgt lv st) (kf : ¬ y < x → WA p l e R s m args below meth c cells slots Q nL g A S (pc + 1 + 3) lv st) : WA p l e R s m args below meth c cells slots Q nL g A S pc lv (.long y :: .long x :: st) := fun H locs ls hP hS hl => W.lcmp cx.1 cx.2.1 hdg (lv_if_gt cx.1 cx.2.1 hdg2 ht (fun h => kt ((lg_cmp_gt x y).mp h) H locs ls hP hS hl) (fun h => kf (fun e => h ((lg_cmp_gt x y).mpr e)) H locs ls hP hS hl))
theorem wa_icmp_le (cx : Cx p s m args meth c cc nL ret own g A) {x y : Int32} {off : Int} (hdg : decode cc pc = .ok (.if_icmp .le off, 3)) (tgt : Nat) (ht : (pc : Int) + off = (tgt : Int)) (kt : x ≤ y → WA p l e R s m args below meth c cells slots Q nL g A S tgt lv st) (kf : ¬ x ≤ y → WA p l e R s m args below meth c cells slots Q nL g A S (pc + 3) lv st) : WA p l e R s m args below meth c cells slots Q nL g A S pc lv (.int y :: .int x :: st) := fun H locs ls hP hS hl => lv_icmp_le cx.1 cx.2.1 hdg ht (fun h => kt h H locs ls hP hS hl) (fun h => kf h H locs ls hP hS hl)
theorem wa_if_le (cx : Cx p s m args meth c cc nL ret own g A) {x : Int32} {off : Int} (hdg : decode cc pc = .ok (.ifCond .le off, 3)) (tgt : Nat) (ht : (pc : Int) + off = (tgt : Int)) (kt : x ≤ 0 → WA p l e R s m args below meth c cells slots Q nL g A S tgt lv st) (kf : ¬ x ≤ 0 → WA p l e R s m args below meth c cells slots Q nL g A S (pc + 3) lv st) : WA p l e R s m args below meth c cells slots Q nL g A S pc lv (.int x :: st) := fun H locs ls hP hS hl => lv_if_le cx.1 cx.2.1 hdg ht (fun h => kt h H locs ls hP hS hl) (fun h => kf h H locs ls hP hS hl)
theorem wa_lcmp_le (cx : Cx p s m args meth c cc nL ret own g A) {x y : Int64} {off : Int} (hdg : decode cc pc = .ok (.lcmp, 1)) (hdg2 : decode cc (pc + 1) = .ok (.ifCond .le off, 3)) (tgt : Nat) (ht : ((pc + 1 : Nat) : Int) + off = (tgt : Int)) (kt : x ≤ y → WA p l e R s m args below meth c cells slots Q nL g A S tgt lv st) (kf : ¬ x ≤ y → WA p l e R s m args below meth c cells slots Q nL g A S (pc + 1 + 3) lv st) : WA p l e R s m args below meth c cells slots Q nL g A S pc lv (.long y :: .long x :: st) := fun H locs ls hP hS hl => W.lcmp cx.1 cx.2.1 hdg (lv_if_le cx.1 cx.2.1 hdg2 ht (fun h => kt ((lg_cmp_le x y).mp h) H locs ls hP hS hl) (fun h => kf (fun e => h ((lg_cmp_le x y).mpr e)) H locs ls hP hS hl))
theorem wa_tabIn (cx : Cx p s m args meth c cc nL ret own g A) {dflt lo hi : Int} {offs : Array Int} {len : Nat} {x : Int32} {off : Int} (hdg : decode cc pc = .ok (.tableswitch dflt lo hi offs, len)) (tgt : Nat) (h1 : ¬ x.toInt < lo) (h2 : ¬ hi < x.toInt) (ho : offs[(x.toInt - lo).toNat]? = some off) (ht : (pc : Int) + off = (tgt : Int)) (k : WA p l e R s m args below meth c cells slots Q nL g A S tgt lv st) : WA p l e R s m args below meth c cells slots Q nL g A S pc lv (.int x :: st) := fun H locs ls hP hS hl => lv_tableIn cx.1 cx.2.1 hdg h1 h2 ho ht (k H locs ls hP hS hl)
theorem wa_tabOut (cx : Cx p s m args meth c cc nL ret own g A) {dflt lo hi : Int} {offs : Array Int} {len : Nat} {x : Int32} (hdg : decode cc pc = .ok (.tableswitch dflt lo hi offs, len)) (tgt : Nat) (h : x.toInt < lo ∨ hi < x.toInt) (ht : (pc : Int) + dflt = (tgt : Int)) (k : WA p l e R s m args below meth c cells slots Q nL g A S tgt lv st) : WA p l e R s m args below meth c cells slots Q nL g A S pc lv (.int x :: st) := fun H locs ls hP hS hl => lv_tableOut cx.1 cx.2.1 hdg h ht (k H locs ls hP hS hl)
theorem wa_lookup (cx : Cx p s m args meth c cc nL ret own g A) {dflt : Int} {ps : Array (Int × Int)} {len : Nat} {x : Int32} {off : Int} (hdg : decode cc pc = .ok (.lookupswitch dflt ps, len)) (tgt : Nat) (hp : (ps.toList.zip (ps.toList.drop 1)).all (fun (a, next) => a.1 < next.1) = true) (ho : Op.lookupswitch.offset ps.toList dflt x.toInt = off) (ht : (pc : Int) + off = (tgt : Int)) (k : WA p l e R s m args below meth c cells slots Q nL g A S tgt lv st) : WA p l e R s m args below meth c cells slots Q nL g A S pc lv (.int x :: st) := fun H locs ls hP hS hl => lv_lookup cx.1 cx.2.1 hdg hp ho ht (k H locs ls hP hS hl)
theorem ne_toInt {x y : Int32} (h : ¬ x = y) : ¬ x.toInt = y.toInt := fun e => h (Int32.toInt_inj.mp e)
theorem wa_iald (cx : Cx p s m args meth c cc nL ret own g A) {a n : Nat} {i : Int32} (hdg : decode cc pc = .ok (.iaload, 1)) (hk : kd g a = 11 ∧ lnT a = n) (hin : vp_in i n) (k : WA p l e R s m args below meth c cells slots Q nL g A S (pc + 1) lv (.int (S.1 a i.toNatClampNeg) :: st)) : WA p l e R s m args below meth c cells slots Q nL g A S pc lv (.int i :: .ref (ad g a) :: st) := fun H locs ls hP hS hl => by
  obtain ⟨h1, h2⟩ := kd_lt hk.1 (by decide)
  exact va_iald cx.1 cx.2.1 cx.2.2.2.2.2.1 hP a 0 ((pool_get h1).trans (congrArg (fun z => some (ad g a, z)) (cell_eqI h2))) rfl (by rw [hk.2]; exact hin) hdg (k H locs ls hP hS hl)
theorem wa_lald (cx : Cx p s m args meth c cc nL ret own g A) {a n : Nat} {i : Int32} (hdg : decode cc pc = .ok (.laload, 1)) (hk : kd g a = 12 ∧ lnT a = n) (hin : vp_in i n) (k : WA p l e R s m args below meth c cells slots Q nL g A S (pc + 1) lv (.long (S.2.1 a i.toNatClampNeg) :: st)) : WA p l e R s m args below meth c cells slots Q nL g A S pc lv (.int i :: .ref (ad g a) :: st) := fun H locs ls hP hS hl => by
  obtain ⟨h1, h2⟩ := kd_lt hk.1 (by decide)
  exact va_lald cx.1 cx.2.1 cx.2.2.2.2.2.1 hP a 1 ((pool_get h1).trans (congrArg (fun z => some (ad g a, z)) (cell_eqJ h2))) rfl (by rw [hk.2]; exact hin) hdg (k H locs ls hP hS hl)
theorem wa_iast (cx : Cx p s m args meth c cc nL ret own g A) {a n : Nat} {i : Int32} {x : Int32} (hdg : decode cc pc = .ok (.iastore, 1)) (hk : kd g a = 11 ∧ lnT a = n) (hin : vp_in i n) (k : WA p l e R s m args below meth c cells slots Q nL g A (pI S a i.toNatClampNeg x) (pc + 1) lv st) : WA p l e R s m args below meth c cells slots Q nL g A S pc lv (.int x :: .int i :: .ref (ad g a) :: st) := fun H locs ls hP hS hl => by
  obtain ⟨h1, h2⟩ := kd_lt hk.1 (by decide)
  refine va_iast cx.1 cx.2.1 cx.2.2.2.2.2.1 hP (pool_D cx.2.2.2.2.2.2.1 cx.2.2.2.2.2.2.2.1) hS a 0 ((pool_get h1).trans (congrArg (fun z => some (ad g a, z)) (cell_eqI h2))) rfl (by rw [hk.2]; exact hin) hdg (fun H1 locs1 hP1 _ hS1 => k H1 locs1 ls ?_ hS1 hl)
  refine Eq.mp (congrArg (fun z => va_P g.1 vwCl z H1) (pool_set h1 ?_ cell_pI)) hP1
  rw [cell_eqI h2]; unfold pI; dsimp only; rw [up2_at]; rfl
theorem wa_last (cx : Cx p s m args meth c cc nL ret own g A) {a n : Nat} {i : Int32} {x : Int64} (hdg : decode cc pc = .ok (.lastore, 1)) (hk : kd g a = 12 ∧ lnT a = n) (hin : vp_in i n) (k : WA p l e R s m args below meth c cells slots Q nL g A (pJ S a i.toNatClampNeg x) (pc + 1) lv st) : WA p l e R s m args below meth c cells slots Q nL g A S pc lv (.long x :: .int i :: .ref (ad g a) :: st) := fun H locs ls hP hS hl => by
  obtain ⟨h1, h2⟩ := kd_lt hk.1 (by decide)
  refine va_last cx.1 cx.2.1 cx.2.2.2.2.2.1 hP (pool_D cx.2.2.2.2.2.2.1 cx.2.2.2.2.2.2.2.1) hS a 1 ((pool_get h1).trans (congrArg (fun z => some (ad g a, z)) (cell_eqJ h2))) rfl (by rw [hk.2]; exact hin) hdg (fun H1 locs1 hP1 _ hS1 => k H1 locs1 ls ?_ hS1 hl)
  refine Eq.mp (congrArg (fun z => va_P g.1 vwCl z H1) (pool_set h1 ?_ cell_pJ)) hP1
  rw [cell_eqJ h2]; unfold pJ; dsimp only; rw [up2_at]; rfl
theorem wa_alen (cx : Cx p s m args meth c cc nL ret own g A) {a : Nat} (hdg : decode cc pc = .ok (.arraylength, 1)) (v : Int32) (hk : (kd g a = 11 ∨ kd g a = 12) ∧ nI (lnT a) = v) (k : WA p l e R s m args below meth c cells slots Q nL g A S (pc + 1) lv (.int v :: st)) : WA p l e R s m args below meth c cells slots Q nL g A S pc lv (.ref (ad g a) :: st) := fun H locs ls hP hS hl => by
  rcases hk.1 with hk1 | hk1
  · obtain ⟨h1, h2⟩ := kd_lt hk1 (by decide)
    exact va_alen cx.1 cx.2.1 cx.2.2.2.2.2.1 hP a 0 ((pool_get h1).trans (congrArg (fun z => some (ad g a, z)) (cell_eqI h2))) rfl hk.2 hdg (k H locs ls hP hS hl)
  · obtain ⟨h1, h2⟩ := kd_lt hk1 (by decide)
    exact va_alen cx.1 cx.2.1 cx.2.2.2.2.2.1 hP a 1 ((pool_get h1).trans (congrArg (fun z => some (ad g a, z)) (cell_eqJ h2))) rfl hk.2 hdg (k H locs ls hP hS hl)
def allne (x : Int) : List Int → Prop
  | [] => True
  | k :: t => ¬ x = k ∧ allne x t
theorem allne_mem {x : Int} : ∀ {l : List Int}, allne x l → ∀ k ∈ l, ¬ x = k
  | [], _, _, h => absurd h List.not_mem_nil
  | _ :: _, h, _, hk => by
    rcases List.mem_cons.mp hk with rfl | hk
    · exact h.1
    · exact allne_mem h.2 _ hk
theorem wa_tabDef (cx : Cx p s m args meth c cc nL ret own g A) {dflt lo hi : Int} {offs : Array Int} {len : Nat} {x : Int32} (hdg : decode cc pc = .ok (.tableswitch dflt lo hi offs, len)) (tgt : Nat) (ks : List Int) (hsz : hi - lo < (offs.size : Int)) (hall : (List.range offs.size).all (fun j => decide (offs[j]? = some dflt) || ks.contains (lo + (j : Int))) = true) (hne : allne x.toInt ks) (ht : (pc : Int) + dflt = (tgt : Int)) (k : WA p l e R s m args below meth c cells slots Q nL g A S tgt lv st) : WA p l e R s m args below meth c cells slots Q nL g A S pc lv (.int x :: st) := by
  by_cases h1 : x.toInt < lo
  · exact wa_tabOut cx hdg tgt (Or.inl h1) ht k
  by_cases h2 : hi < x.toInt
  · exact wa_tabOut cx hdg tgt (Or.inr h2) ht k
  have hj : (x.toInt - lo).toNat < offs.size := by omega
  have hq := List.all_eq_true.mp hall _ (List.mem_range.mpr hj)
  rcases (Bool.or_eq_true _ _).mp hq with hq | hq
  · exact wa_tabIn cx hdg tgt h1 h2 (of_decide_eq_true hq) ht k
  · have hm : lo + ((x.toInt - lo).toNat : Int) ∈ ks := List.contains_iff_mem.mp hq
    have he : lo + ((x.toInt - lo).toNat : Int) = x.toInt := by omega
    rw [he] at hm
    exact absurd rfl (allne_mem hne _ hm)
theorem wa_mmax (cx : Cx p s m args meth c cc nL ret own g A) {index : Nat} {x y : Int32} (hdg : decode cc pc = .ok (.invokestatic index, 3)) (h1 : Cond.methodLink own index Lib.Math.max.name ∈ lw_g) (h2 : Cond.static Lib.Math.max.name ∈ lw_g) (h3 : Cond.initialized "java/lang/Math" ∈ lw_g) (h4 : Cond.code Lib.Math.max.name Lib.Math.max.code 2 (some .int) ∈ lw_g) (hR : 1 ≤ R.frames ∧ (st.map fun v => v.category).sum + 13 ≤ R.locals) (hc : cells ≤ R.cells ∧ slots ≤ R.slots) (k : WA p l e R s m args below meth c cells slots Q nL g A S (pc + 3) lv (.int (imax x y) :: st)) : WA p l e R s m args below meth c cells slots Q nL g A S pc lv (.int y :: .int x :: st) := fun H locs ls hP hS hl => va_mmax cx.1 cx.2.1 (by rw [cx.2.2.1]; exact hl.1.symm) cx.2.2.2.1 (cx.2.2.2.2.1 _ h1) (cx.2.2.2.2.1 _ h2) (cx.2.2.2.2.1 _ h3) (cx.2.2.2.2.1 _ h4) hR.1 hR.2 hc.1 hc.2 hdg (k H locs ls hP hS hl)
theorem wa_mmin (cx : Cx p s m args meth c cc nL ret own g A) {index : Nat} {x y : Int32} (hdg : decode cc pc = .ok (.invokestatic index, 3)) (h1 : Cond.methodLink own index Lib.Math.min.name ∈ lw_g) (h2 : Cond.static Lib.Math.min.name ∈ lw_g) (h3 : Cond.initialized "java/lang/Math" ∈ lw_g) (h4 : Cond.code Lib.Math.min.name Lib.Math.min.code 2 (some .int) ∈ lw_g) (hR : 1 ≤ R.frames ∧ (st.map fun v => v.category).sum + 13 ≤ R.locals) (hc : cells ≤ R.cells ∧ slots ≤ R.slots) (k : WA p l e R s m args below meth c cells slots Q nL g A S (pc + 3) lv (.int (imin x y) :: st)) : WA p l e R s m args below meth c cells slots Q nL g A S pc lv (.int y :: .int x :: st) := fun H locs ls hP hS hl => va_mmin cx.1 cx.2.1 (by rw [cx.2.2.1]; exact hl.1.symm) cx.2.2.2.1 (cx.2.2.2.2.1 _ h1) (cx.2.2.2.2.1 _ h2) (cx.2.2.2.2.1 _ h3) (cx.2.2.2.2.1 _ h4) hR.1 hR.2 hc.1 hc.2 hdg (k H locs ls hP hS hl)
theorem wa_acopy (cx : Cx p s m args meth c cc nL ret own g A) {index a b na nb : Nat} {sp dp n : Int32} (hdg : decode cc pc = .ok (.invokestatic index, 3)) (h1 : Cond.methodLink own index arraycopyName ∈ lw_g) (h2 : Cond.native arraycopyName ∈ lw_g) (h3 : Cond.static arraycopyName ∈ lw_g) (h4 : Cond.initialized "java/lang/System" ∈ lw_g) (hka : kd g a = 11 ∧ lnT a = na) (hkb : kd g b = 11 ∧ lnT b = nb) (hok : ¬ sp < 0 ∧ ¬ dp < 0 ∧ ¬ n < 0 ∧ sp.toNatClampNeg + n.toNatClampNeg ≤ na ∧ dp.toNatClampNeg + n.toNatClampNeg ≤ nb) (hR : 1 ≤ R.frames ∧ (st.map fun v => v.category).sum + (nativeFrameWords "java/lang/System" "arraycopy" 5 + 11) ≤ R.locals) (k : WA p l e R s m args below meth c cells slots Q nL g A (pRow S b (va_cpy (S.1 a) (S.1 b) sp.toNatClampNeg dp.toNatClampNeg n.toNatClampNeg)) (pc + 3) lv st) : WA p l e R s m args below meth c cells slots Q nL g A S pc lv (.int n :: .int dp :: .ref (ad g b) :: .int sp :: .ref (ad g a) :: st) := fun H locs ls hP hS hl => by
  obtain ⟨a1, a2⟩ := kd_lt hka.1 (by decide)
  obtain ⟨b1, b2⟩ := kd_lt hkb.1 (by decide)
  refine va_copyi cx.1 cx.2.1 (by rw [cx.2.2.1]; exact hl.1.symm) cx.2.2.2.1 (cx.2.2.2.2.1 _ h1) (cx.2.2.2.2.1 _ h2) (cx.2.2.2.2.1 _ h3) (cx.2.2.2.2.1 _ h4) cx.2.2.2.2.2.1 hP (pool_D cx.2.2.2.2.2.2.1 cx.2.2.2.2.2.2.2.1) hS a b 0 0 ((pool_get a1).trans (congrArg (fun z => some (ad g a, z)) (cell_eqI a2))) ((pool_get b1).trans (congrArg (fun z => some (ad g b, z)) (cell_eqI b2))) rfl rfl rfl hok.1 hok.2.1 hok.2.2.1 (by rw [hka.2]; exact hok.2.2.2.1) (by rw [hkb.2]; exact hok.2.2.2.2) (fun _ _ => rfl) hR.1 hR.2 hdg (fun H1 locs1 hP1 _ hS1 => k H1 locs1 ls ?_ hS1 hl)
  refine Eq.mp (congrArg (fun z => va_P g.1 vwCl z H1) (pool_set b1 ?_ cell_pRow)) hP1
  rw [cell_eqI b2]; unfold pRow; dsimp only; rw [up1_at]
theorem wa_get (cx : Cx p s m args meth c cc nL ret own g A) {i ci index k N : Nat} {C : String} {T : u_T} {fs : List Value} {v : Value} (hk : kd g i = ci) (h99 : ci < 99) (hcell : cell g S i = .inr (ci, fs)) (hc : vwCl[ci]? = some (C, T, N)) (hin : ∀ w ∈ u_ws C T N, w ∈ lw_g) (hkN : k < N) (hl : Cond.fieldLink own index (T k).1 (T k).2.1 (T k).2.2.1 ∈ lw_g) (hv : fs[k]? = some v) (hdg : decode cc pc = .ok (.getfield index, 3)) (kk : WA p l e R s m args below meth c cells slots Q nL g A S (pc + 3) lv (v :: st)) : WA p l e R s m args below meth c cells slots Q nL g A S pc lv (.ref (ad g i) :: st) := fun H locs ls hP hS hl2 => by
  obtain ⟨h1, h2⟩ := kd_lt hk h99
  exact va_get cx.1 cx.2.1 cx.2.2.2.2.1 hin cx.2.2.2.1 cx.2.2.2.2.2.1 hP i ((pool_get h1).trans (congrArg (fun z => some (ad g i, z)) hcell)) hc k hkN (cx.2.2.2.2.1 _ hl) (fun _ h => h) hv hdg (kk H locs ls hP hS hl2)
theorem wa_put (cx : Cx p s m args meth c cc nL ret own g A) {S2 : St} {i ci index k N : Nat} {C : String} {T : u_T} {fs : List Value} {v : Value} {ty : FieldType} (ty0 : Nat → FieldType) (hk : kd g i = ci) (h99 : ci < 99) (hcell : cell g S i = .inr (ci, fs)) (hcell2 : cell g S2 i = .inr (ci, fs.set k v)) (ho : ∀ j, j ≠ i → cell g S2 j = cell g S j) (hc : vwCl[ci]? = some (C, T, N)) (hin : ∀ w ∈ u_ws C T N, w ∈ lw_g) (hty : ∀ k, k < N → parseFieldDescriptor (T k).2.2.1 = some (ty0 k)) (hnm : ∀ a, a < N → ∀ b, b < N → a ≠ b → (T a).2.1 ≠ (T b).2.1) (hkN : k < N) (hl : Cond.fieldLink own index (T k).1 (T k).2.1 (T k).2.2.1 ∈ lw_g) (hfin : (T k).2.2.2 = false) (hd : parseFieldDescriptor (T k).2.2.1 = some ty) (hn : narrow ty v = v) (hfit : fits ty v = true) (hlen : k < fs.length) (hdg : decode cc pc = .ok (.putfield index, 3)) (kk : WA p l e R s m args below meth c cells slots Q nL g A S2 (pc + 3) lv st) : WA p l e R s m args below meth c cells slots Q nL g A S pc lv (v :: .ref (ad g i) :: st) := fun H locs ls hP hS hl2 => by
  obtain ⟨h1, h2⟩ := kd_lt hk h99
  refine va_put cx.1 cx.2.1 cx.2.2.2.2.1 hin ty0 hty hnm cx.2.2.2.1 cx.2.2.2.2.2.1 hP (pool_D cx.2.2.2.2.2.2.1 cx.2.2.2.2.2.2.2.1) hS i ((pool_get h1).trans (congrArg (fun z => some (ad g i, z)) hcell)) hc k hkN (cx.2.2.2.2.1 _ hl) (fun _ h => h) hfin hd hn hfit hlen hdg (fun H1 locs1 hP1 _ hS1 => kk H1 locs1 ls ?_ hS1 hl2)
  exact Eq.mp (congrArg (fun z => va_P g.1 vwCl z H1) (pool_set h1 hcell2.symm ho)) hP1
end WAR
theorem cell_eq0 {g : Gl} {S : St} {i : Nat} (h : kdT i = 0) : cell g S i = .inr (0, fs0 g i (S.1 i) (S.2.1 i) (S.2.2 i)) := by unfold cell; rw [h]; rfl
theorem cell_eq1 {g : Gl} {S : St} {i : Nat} (h : kdT i = 1) : cell g S i = .inr (1, fs1 g i (S.1 i) (S.2.1 i) (S.2.2 i)) := by unfold cell; rw [h]; rfl
theorem cell_eq2 {g : Gl} {S : St} {i : Nat} (h : kdT i = 2) : cell g S i = .inr (2, fs2 g i (S.1 i) (S.2.1 i) (S.2.2 i)) := by unfold cell; rw [h]; rfl
theorem cell_eq3 {g : Gl} {S : St} {i : Nat} (h : kdT i = 3) : cell g S i = .inr (3, fs3 g i (S.1 i) (S.2.1 i) (S.2.2 i)) := by unfold cell; rw [h]; rfl
theorem cell_eq4 {g : Gl} {S : St} {i : Nat} (h : kdT i = 4) : cell g S i = .inr (4, fs4 g i (S.1 i) (S.2.1 i) (S.2.2 i)) := by unfold cell; rw [h]; rfl
theorem cell_eq5 {g : Gl} {S : St} {i : Nat} (h : kdT i = 5) : cell g S i = .inr (5, fs5 g i (S.1 i) (S.2.1 i) (S.2.2 i)) := by unfold cell; rw [h]; rfl
theorem cell_eq6 {g : Gl} {S : St} {i : Nat} (h : kdT i = 6) : cell g S i = .inr (6, fs6 g i (S.1 i) (S.2.1 i) (S.2.2 i)) := by unfold cell; rw [h]; rfl
theorem cell_eq7 {g : Gl} {S : St} {i : Nat} (h : kdT i = 7) : cell g S i = .inr (7, fs7 g i (S.1 i) (S.2.1 i) (S.2.2 i)) := by unfold cell; rw [h]; rfl
theorem cell_eq8 {g : Gl} {S : St} {i : Nat} (h : kdT i = 8) : cell g S i = .inr (8, fs8 g i (S.1 i) (S.2.1 i) (S.2.2 i)) := by unfold cell; rw [h]; rfl
theorem cell_eq9 {g : Gl} {S : St} {i : Nat} (h : kdT i = 9) : cell g S i = .inr (9, fs9 g i (S.1 i) (S.2.1 i) (S.2.2 i)) := by unfold cell; rw [h]; rfl
end
section
/-! contracts over the whole pool; start and calls -/
theorem lw_good : ∀ w ∈ lw_g, goodWord w = true := fun _ h => (List.mem_filter.mp h).2
def PcW (g : Gl) (S : St) (av : List Value) : Array Value → State → Prop := va_Pc av (fun U => va_P g.1 vwCl (pool g S) U.heap ∧ va_K g.1 vwCl (tysW g) U ∧ NW U)
theorem PcW_blind {g : Gl} {S : St} {av : List Value} : FrameBlind (PcW g S av) := fun a U gf mk q => ⟨q.1, q.2.1, va_K.moved (u := U) (U := U.calling gf mk a) (Vm.Alike.refl U.vm) q.2.2.1, NW.same (s := U) (U := U.calling gf mk a) rfl q.2.2.2⟩
def BW (g : Gl) (S : St) : Unit → State → Prop := fun _ t => va_P g.1 vwCl (pool g S) t.heap
def BWr (g : Gl) (r : Nat × St) : Unit → Nat → State → Prop := fun _ a t => a = ad g r.1 ∧ va_P g.1 vwCl (pool g r.2) t.heap
def QWi (g : Gl) (r : Int32 × St) : Array Value → State → Outcome → State → Prop := va_Qi (fun v (_ : Unit) => v = r.1) (BW g r.2) (Ap g)
def QWl (g : Gl) (r : Int64 × St) : Array Value → State → Outcome → State → Prop := va_Ql (fun v (_ : Unit) => v = r.1) (BW g r.2) (Ap g)
def QWv (g : Gl) (r : Unit × St) : Array Value → State → Outcome → State → Prop := va_Qv (fun _ : Unit => True) (BW g r.2) (Ap g)
def QWr (g : Gl) (r : Nat × St) : Array Value → State → Outcome → State → Prop := va_Qr (fun _ : Unit => True) (BWr g r) (Ap g)
def wsM (y : MethodName) (code : ByteArray) (nL : Nat) (ret : Option FieldType) : List Cond := .code y code nL ret :: lw_g
def MW (l : Launch) (y : MethodName) (code : ByteArray) (nL : Nat) (ret : Option FieldType) (rm : Room) (g : Gl) (S : St) (av : List Value) (Qc : Array Value → State → Outcome → State → Prop) : Prop := Met l y (wsM y code nL ret) rm (PcW g S av) Qc 0 0 (Ap g)
theorem startW {l : Launch} {y : MethodName} {code : ByteArray} {nL : Nat} {ret : Option FieldType} {rm : Room} {g : Gl} {S : St} {av : List Value} {Qc : Array Value → State → Outcome → State → Prop} (lv : List (Nat × Value)) (hy : plainName y.cls = true) (hav : (lg_sl av).length ≤ nL) (hlv : lv_args 0 av = lv) (hg : GOK g)
    (body : ∀ (p : Program) (e : Env) (s : State) (m : MethodId) (args : Array Value) (below : List Frame) (meth : Method) (c : Code), Cx p s m args meth c code nL ret y.cls g (Ap g) → WA p l e rm s m args below meth c 0 0 (MQ below Qc args s 0 0 (Ap g)) nL g (Ap g) S 0 lv []) : MW l y code nL ret rm g S av Qc := by
  refine Met.ofW (cc := code) (maxL := nL) (ret := ret) hy rfl ?_
  intro p e s m args below meth c s₁ B hml hv
  obtain ⟨rfl, hP, hK, hN⟩ := hv
  have hts := atoms_spec (ws := wsM y code nL ret) B.pre
  have cx : Cx p s m av.toArray meth c code nL ret y.cls g (Ap g) := ⟨B.exec, B.bytes, hml, findClass_of_methodNamed B.named, fun w h => hts w (List.mem_cons_of_mem _ h), hK, hg, fun i hi => ⟨i, hi, rfl⟩, B.returns, B.notSynchronized, hN⟩
  have hl := lv_entry av (n := nL) hav
  rw [lg_entry_eq]
  generalize (lg_sl av ++ List.replicate (nL - (lg_sl av).length) Slot.unset).toArray = ls at hl ⊢
  rw [hlv] at hl
  exact body p e s m _ below meth c cx s.heap [] ls hP va_S.rf hl
def VL (own : String) (idx : Nat) (y : MethodName) (code : ByteArray) (nLy : Nat) (rety : Option FieldType) (n : Nat) : Prop := (Cond.methodLink own idx y ∈ lw_g ∧ Cond.instanceMethod y ∈ lw_g ∧ Cond.selects y.cls y y ∈ lw_g ∧ Cond.initialized y.cls ∈ lw_g ∧ Cond.code y code nLy rety ∈ lw_g) ∧ y.cls ≠ "java/lang/invoke/MethodHandle" ∧ y.cls ≠ "java/lang/invoke/VarHandle" ∧ (parseMethodDescriptor y.desc).map (fun d => d.parameters.length) = some n
def SL (own : String) (idx : Nat) (y : MethodName) (code : ByteArray) (nLy : Nat) (rety : Option FieldType) (n : Nat) : Prop := (Cond.methodLink own idx y ∈ lw_g ∧ Cond.static y ∈ lw_g ∧ Cond.initialized y.cls ∈ lw_g ∧ Cond.code y code nLy rety ∈ lw_g) ∧ y.cls ≠ "java/lang/invoke/MethodHandle" ∧ y.cls ≠ "java/lang/invoke/VarHandle" ∧ (parseMethodDescriptor y.desc).map (fun d => d.parameters.length) = some n
def NL (own host : String) (idx : Nat) (y : MethodName) (code : ByteArray) (nLy : Nat) (rety : Option FieldType) (n : Nat) : Prop := (Cond.methodLinkNest own idx y host ∈ lw_tbl ∧ Cond.static y ∈ lw_g ∧ Cond.initialized y.cls ∈ lw_g ∧ Cond.code y code nLy rety ∈ lw_g) ∧ y.cls ≠ "java/lang/invoke/MethodHandle" ∧ y.cls ≠ "java/lang/invoke/VarHandle" ∧ (parseMethodDescriptor y.desc).map (fun d => d.parameters.length) = some n
theorem goodIn_ws {y : MethodName} {code : ByteArray} {nLy : Nat} {rety : Option FieldType} (h : Cond.code y code nLy rety ∈ lw_g) : GoodIn lw_g (wsM y code nLy rety) := fun w hw => by
  rcases List.mem_cons.mp hw with rfl | hw
  · exact ⟨h, good_of_word (lw_good _ h)⟩
  · exact ⟨hw, good_of_word (lw_good _ hw)⟩
theorem goodIn_l (ws1 : List Cond) {ws : List Cond} (h1 : ∀ w ∈ ws1, w ∈ lw_g) (h : GoodIn lw_g ws) : GoodIn lw_g (ws1 ++ ws) := fun w hw => by
  rcases List.mem_append.mp hw with hw | hw
  · exact ⟨h1 w hw, good_of_word (lw_good _ (h1 w hw))⟩
  · exact h w hw
section WAC
variable {p : Program} {l : Launch} {e : Env} {R : Room} {s : State} {m : MethodId} {args : Array Value} {below : List Frame} {meth : Method} {c : Code} {cells slots : Nat} {Q : State → Prop} {cc : ByteArray} {nL : Nat} {ret : Option FieldType} {own : String} {g : Gl} {A : Nat → Prop}
variable {S : St} {pc : Nat} {lv : List (Nat × Value)} {st : List Value}
theorem run_V (cx : Cx p s m args meth c cc nL ret own g A) {y : MethodName} {code : ByteArray} {nLy n idx b ci : Nat} {rety : Option FieldType} {rm : Room} {as : List Value} {Qc : Array Value → State → Outcome → State → Prop} {q : vw_C} (hM : MW l y code nLy rety rm g S (.ref (ad g b) :: as) Qc) (vl : VL own idx y code nLy rety n) (hk : kd g b = ci) (h99 : ci < 99) (hc : vwCl[ci]? = some q) (hq : q.1 = y.cls) (hcell : ∃ fs, cell g S b = .inr (ci, fs)) (hR : rm.frames + 1 ≤ R.frames ∧ 8 + (nLy + 11) + rm.locals ≤ R.locals) (h00 : rm.cells = 0 ∧ rm.slots = 0) (hcs : cells ≤ R.cells ∧ slots ≤ R.slots) (hlen : as.length = n) (hst : (st.map fun v => v.category).sum ≤ 8) (hdg : decode cc pc = .ok (.invokevirtual idx, 3)) {stk : List Value} (hstk : stk = as.reverse ++ .ref (ad g b) :: st)
    {H : Heap} {locs : List Loc} {ls : Array Slot} (hP : va_P g.1 vwCl (pool g S) H) (hl : lv_has ls nL lv) : va_Run p l e R s m args below meth c H locs cells slots 0 0 (F0 m pc ls stk) st (Qc (Value.ref (ad g b) :: as).toArray) (Ap g) := by
  obtain ⟨⟨v1, v2, v3, v4, v5⟩, v6, v7, v8⟩ := vl
  obtain ⟨b1, b2⟩ := kd_lt hk h99
  obtain ⟨fs, hcell⟩ := hcell
  have cw : CallW R s args own y.cls idx y code nLy rety (wsM y code nLy rety) rm 0 0 n := cwV n cx.2.2.2.2.1 (goodIn_l [.methodLink own idx y, .instanceMethod y, .selects y.cls y y, .initialized y.cls] (fun w hw => by
    rcases List.mem_cons.mp hw with rfl | hw
    · exact v1
    rcases List.mem_cons.mp hw with rfl | hw
    · exact v2
    rcases List.mem_cons.mp hw with rfl | hw
    · exact v3
    rcases List.mem_cons.mp hw with rfl | hw
    · exact v4
    exact absurd hw List.not_mem_nil) (goodIn_ws v5)) rfl h00.1 h00.2 ⟨rfl, v6, v7, v8⟩ hR
  have hrecv := va_recv cx.2.2.2.2.2.1 hP hc ((pool_get b1).trans (congrArg (fun z => some (ad g b, z)) hcell))
  rw [hq] at hrecv
  exact va_runV ⟨cx.1, cx.2.1, cx.2.2.1, cx.2.2.2.1, cx.2.2.2.2.1⟩ hM cw ⟨PcW_blind, hrecv, fun U hU hW => ⟨rfl, by rw [hU]; exact hP, va_K.moved hW.alike cx.2.2.2.2.2.1, NW.warm hW cx.2.2.2.2.2.2.2.2.2.2⟩⟩ rfl hlen hl.1 hstk (lv_room hst) hdg hcs
theorem run_S (cx : Cx p s m args meth c cc nL ret own g A) {y : MethodName} {code : ByteArray} {nLy n idx : Nat} {rety : Option FieldType} {rm : Room} {as : List Value} {Qc : Array Value → State → Outcome → State → Prop} (hM : MW l y code nLy rety rm g S as Qc) (vl : SL own idx y code nLy rety n) (hR : rm.frames + 1 ≤ R.frames ∧ 8 + (nLy + 11) + rm.locals ≤ R.locals) (h00 : rm.cells = 0 ∧ rm.slots = 0) (hcs : cells ≤ R.cells ∧ slots ≤ R.slots) (hlen : as.length = n) (hst : (st.map fun v => v.category).sum ≤ 8) (hdg : decode cc pc = .ok (.invokestatic idx, 3)) {stk : List Value} (hstk : stk = as.reverse ++ st)
    {H : Heap} {locs : List Loc} {ls : Array Slot} (hP : va_P g.1 vwCl (pool g S) H) (hl : lv_has ls nL lv) : va_Run p l e R s m args below meth c H locs cells slots 0 0 (F0 m pc ls stk) st (Qc as.toArray) (Ap g) := by
  obtain ⟨⟨v1, v2, v3, v4⟩, v6, v7, v8⟩ := vl
  have ht := cx.2.2.2.2.1
  exact va_runS ⟨cx.1, cx.2.1, cx.2.2.1, cx.2.2.2.1, ht⟩ hM ⟨callB_of n ht (goodIn_ws v4) rfl h00.1 h00.2 (ht _ v3) (ht _ v1) ⟨v6, v7, v8⟩ hR, ht _ v2⟩ ⟨PcW_blind, fun U hU hW => ⟨rfl, by rw [hU]; exact hP, va_K.moved hW.alike cx.2.2.2.2.2.1, NW.warm hW cx.2.2.2.2.2.2.2.2.2.2⟩⟩ rfl hlen hl.1 hstk (lv_room hst) hdg hcs
theorem run_N (cx : Cx p s m args meth c cc nL ret own g A) {host : String} {y : MethodName} {code : ByteArray} {nLy n idx : Nat} {rety : Option FieldType} {rm : Room} {as : List Value} {Qc : Array Value → State → Outcome → State → Prop} (hM : MW l y code nLy rety rm g S as Qc) (vl : NL own host idx y code nLy rety n) (hR : rm.frames + 1 ≤ R.frames ∧ 8 + (nLy + 11) + rm.locals ≤ R.locals) (h00 : rm.cells = 0 ∧ rm.slots = 0) (hcs : cells ≤ R.cells ∧ slots ≤ R.slots) (hlen : as.length = n) (hst : (st.map fun v => v.category).sum ≤ 8) (hdg : decode cc pc = .ok (.invokestatic idx, 3)) {stk : List Value} (hstk : stk = as.reverse ++ st)
    {H : Heap} {locs : List Loc} {ls : Array Slot} (hP : va_P g.1 vwCl (pool g S) H) (hl : lv_has ls nL lv) : va_Run p l e R s m args below meth c H locs cells slots 0 0 (F0 m pc ls stk) st (Qc as.toArray) (Ap g) := by
  obtain ⟨⟨v1, v2, v3, v4⟩, v6, v7, v8⟩ := vl
  have ht := cx.2.2.2.2.1
  exact va_runSN ⟨cx.1, cx.2.1, cx.2.2.1, cx.2.2.2.1, ht⟩ hM ⟨va_cnB n ht (goodIn_ws v4) rfl h00.1 h00.2 (cx.2.2.2.2.2.2.2.2.2.2 _ v1 rfl) (ht _ v3) ⟨v6, v7, v8⟩ hR, ht _ v2, trivial⟩ ⟨PcW_blind, fun U hU hW => ⟨rfl, by rw [hU]; exact hP, va_K.moved hW.alike cx.2.2.2.2.2.1, NW.warm hW cx.2.2.2.2.2.2.2.2.2.2⟩⟩ rfl hlen hl.1 hstk (lv_room hst) hdg hcs
theorem wa_callVi (cx : Cx p s m args meth c cc nL ret own g A) {y : MethodName} {code : ByteArray} {nLy n idx b ci : Nat} {rety : Option FieldType} {rm : Room} {as : List Value} {v0 : Int32} {S2 : St} {q : vw_C} (hM : MW l y code nLy rety rm g S (.ref (ad g b) :: as) (QWi g (v0, S2))) (vl : VL own idx y code nLy rety n) (hk : kd g b = ci) (h99 : ci < 99) (hc : vwCl[ci]? = some q) (hq : q.1 = y.cls) (hcell : ∃ fs, cell g S b = .inr (ci, fs)) (hR : rm.frames + 1 ≤ R.frames ∧ 8 + (nLy + 11) + rm.locals ≤ R.locals) (h00 : rm.cells = 0 ∧ rm.slots = 0) (hcs : cells ≤ R.cells ∧ slots ≤ R.slots) (hlen : as.length = n) (hst : (st.map fun v => v.category).sum ≤ 8) (hdg : decode cc pc = .ok (.invokevirtual idx, 3)) {stk : List Value} (hstk : stk = as.reverse ++ .ref (ad g b) :: st) (k : WA p l e R s m args below meth c cells slots Q nL g A S2 (pc + 3) lv (.int v0 :: st)) : WA p l e R s m args below meth c cells slots Q nL g A S pc lv stk := fun H locs ls hP hS hl => by
  have hfr : ∀ q, Ap g q → A q := fun q h => by obtain ⟨i, hi, rfl⟩ := h; exact cx.2.2.2.2.2.2.2.1 i hi
  refine va_calli (run_V cx hM vl hk h99 hc hq hcell hR h00 hcs hlen hst hdg hstk hP hl) hS (fun q _ h => hfr q h) hfr (fun v u t H1 locs1 ht hvm hp hb hz hk hS1 => ?_)
  have hp : v = v0 := hp
  subst hp
  exact k H1 locs1 ls (by rw [← ht]; exact hb) hS1 hl
theorem wa_callSi (cx : Cx p s m args meth c cc nL ret own g A) {y : MethodName} {code : ByteArray} {nLy n idx : Nat} {rety : Option FieldType} {rm : Room} {as : List Value} {v0 : Int32} {S2 : St} (hM : MW l y code nLy rety rm g S as (QWi g (v0, S2))) (vl : SL own idx y code nLy rety n) (hR : rm.frames + 1 ≤ R.frames ∧ 8 + (nLy + 11) + rm.locals ≤ R.locals) (h00 : rm.cells = 0 ∧ rm.slots = 0) (hcs : cells ≤ R.cells ∧ slots ≤ R.slots) (hlen : as.length = n) (hst : (st.map fun v => v.category).sum ≤ 8) (hdg : decode cc pc = .ok (.invokestatic idx, 3)) {stk : List Value} (hstk : stk = as.reverse ++ st) (k : WA p l e R s m args below meth c cells slots Q nL g A S2 (pc + 3) lv (.int v0 :: st)) : WA p l e R s m args below meth c cells slots Q nL g A S pc lv stk := fun H locs ls hP hS hl => by
  have hfr : ∀ q, Ap g q → A q := fun q h => by obtain ⟨i, hi, rfl⟩ := h; exact cx.2.2.2.2.2.2.2.1 i hi
  refine va_calli (run_S cx hM vl hR h00 hcs hlen hst hdg hstk hP hl) hS (fun q _ h => hfr q h) hfr (fun v u t H1 locs1 ht hvm hp hb hz hk hS1 => ?_)
  have hp : v = v0 := hp
  subst hp
  exact k H1 locs1 ls (by rw [← ht]; exact hb) hS1 hl
theorem wa_callNi (cx : Cx p s m args meth c cc nL ret own g A) {y : MethodName} {code : ByteArray} {nLy n idx : Nat} {rety : Option FieldType} {rm : Room} {as : List Value} {v0 : Int32} {S2 : St} {host : String} (hM : MW l y code nLy rety rm g S as (QWi g (v0, S2))) (vl : NL own host idx y code nLy rety n) (hR : rm.frames + 1 ≤ R.frames ∧ 8 + (nLy + 11) + rm.locals ≤ R.locals) (h00 : rm.cells = 0 ∧ rm.slots = 0) (hcs : cells ≤ R.cells ∧ slots ≤ R.slots) (hlen : as.length = n) (hst : (st.map fun v => v.category).sum ≤ 8) (hdg : decode cc pc = .ok (.invokestatic idx, 3)) {stk : List Value} (hstk : stk = as.reverse ++ st) (k : WA p l e R s m args below meth c cells slots Q nL g A S2 (pc + 3) lv (.int v0 :: st)) : WA p l e R s m args below meth c cells slots Q nL g A S pc lv stk := fun H locs ls hP hS hl => by
  have hfr : ∀ q, Ap g q → A q := fun q h => by obtain ⟨i, hi, rfl⟩ := h; exact cx.2.2.2.2.2.2.2.1 i hi
  refine va_calli (run_N cx hM vl hR h00 hcs hlen hst hdg hstk hP hl) hS (fun q _ h => hfr q h) hfr (fun v u t H1 locs1 ht hvm hp hb hz hk hS1 => ?_)
  have hp : v = v0 := hp
  subst hp
  exact k H1 locs1 ls (by rw [← ht]; exact hb) hS1 hl
theorem wa_callVl (cx : Cx p s m args meth c cc nL ret own g A) {y : MethodName} {code : ByteArray} {nLy n idx b ci : Nat} {rety : Option FieldType} {rm : Room} {as : List Value} {v0 : Int64} {S2 : St} {q : vw_C} (hM : MW l y code nLy rety rm g S (.ref (ad g b) :: as) (QWl g (v0, S2))) (vl : VL own idx y code nLy rety n) (hk : kd g b = ci) (h99 : ci < 99) (hc : vwCl[ci]? = some q) (hq : q.1 = y.cls) (hcell : ∃ fs, cell g S b = .inr (ci, fs)) (hR : rm.frames + 1 ≤ R.frames ∧ 8 + (nLy + 11) + rm.locals ≤ R.locals) (h00 : rm.cells = 0 ∧ rm.slots = 0) (hcs : cells ≤ R.cells ∧ slots ≤ R.slots) (hlen : as.length = n) (hst : (st.map fun v => v.category).sum ≤ 8) (hdg : decode cc pc = .ok (.invokevirtual idx, 3)) {stk : List Value} (hstk : stk = as.reverse ++ .ref (ad g b) :: st) (k : WA p l e R s m args below meth c cells slots Q nL g A S2 (pc + 3) lv (.long v0 :: st)) : WA p l e R s m args below meth c cells slots Q nL g A S pc lv stk := fun H locs ls hP hS hl => by
  have hfr : ∀ q, Ap g q → A q := fun q h => by obtain ⟨i, hi, rfl⟩ := h; exact cx.2.2.2.2.2.2.2.1 i hi
  refine va_calll (run_V cx hM vl hk h99 hc hq hcell hR h00 hcs hlen hst hdg hstk hP hl) hS (fun q _ h => hfr q h) hfr (fun v u t H1 locs1 ht hvm hp hb hz hk hS1 => ?_)
  have hp : v = v0 := hp
  subst hp
  exact k H1 locs1 ls (by rw [← ht]; exact hb) hS1 hl
theorem wa_callSl (cx : Cx p s m args meth c cc nL ret own g A) {y : MethodName} {code : ByteArray} {nLy n idx : Nat} {rety : Option FieldType} {rm : Room} {as : List Value} {v0 : Int64} {S2 : St} (hM : MW l y code nLy rety rm g S as (QWl g (v0, S2))) (vl : SL own idx y code nLy rety n) (hR : rm.frames + 1 ≤ R.frames ∧ 8 + (nLy + 11) + rm.locals ≤ R.locals) (h00 : rm.cells = 0 ∧ rm.slots = 0) (hcs : cells ≤ R.cells ∧ slots ≤ R.slots) (hlen : as.length = n) (hst : (st.map fun v => v.category).sum ≤ 8) (hdg : decode cc pc = .ok (.invokestatic idx, 3)) {stk : List Value} (hstk : stk = as.reverse ++ st) (k : WA p l e R s m args below meth c cells slots Q nL g A S2 (pc + 3) lv (.long v0 :: st)) : WA p l e R s m args below meth c cells slots Q nL g A S pc lv stk := fun H locs ls hP hS hl => by
  have hfr : ∀ q, Ap g q → A q := fun q h => by obtain ⟨i, hi, rfl⟩ := h; exact cx.2.2.2.2.2.2.2.1 i hi
  refine va_calll (run_S cx hM vl hR h00 hcs hlen hst hdg hstk hP hl) hS (fun q _ h => hfr q h) hfr (fun v u t H1 locs1 ht hvm hp hb hz hk hS1 => ?_)
  have hp : v = v0 := hp
  subst hp
  exact k H1 locs1 ls (by rw [← ht]; exact hb) hS1 hl
theorem wa_callNl (cx : Cx p s m args meth c cc nL ret own g A) {y : MethodName} {code : ByteArray} {nLy n idx : Nat} {rety : Option FieldType} {rm : Room} {as : List Value} {v0 : Int64} {S2 : St} {host : String} (hM : MW l y code nLy rety rm g S as (QWl g (v0, S2))) (vl : NL own host idx y code nLy rety n) (hR : rm.frames + 1 ≤ R.frames ∧ 8 + (nLy + 11) + rm.locals ≤ R.locals) (h00 : rm.cells = 0 ∧ rm.slots = 0) (hcs : cells ≤ R.cells ∧ slots ≤ R.slots) (hlen : as.length = n) (hst : (st.map fun v => v.category).sum ≤ 8) (hdg : decode cc pc = .ok (.invokestatic idx, 3)) {stk : List Value} (hstk : stk = as.reverse ++ st) (k : WA p l e R s m args below meth c cells slots Q nL g A S2 (pc + 3) lv (.long v0 :: st)) : WA p l e R s m args below meth c cells slots Q nL g A S pc lv stk := fun H locs ls hP hS hl => by
  have hfr : ∀ q, Ap g q → A q := fun q h => by obtain ⟨i, hi, rfl⟩ := h; exact cx.2.2.2.2.2.2.2.1 i hi
  refine va_calll (run_N cx hM vl hR h00 hcs hlen hst hdg hstk hP hl) hS (fun q _ h => hfr q h) hfr (fun v u t H1 locs1 ht hvm hp hb hz hk hS1 => ?_)
  have hp : v = v0 := hp
  subst hp
  exact k H1 locs1 ls (by rw [← ht]; exact hb) hS1 hl
theorem wa_callVv (cx : Cx p s m args meth c cc nL ret own g A) {y : MethodName} {code : ByteArray} {nLy n idx b ci : Nat} {rety : Option FieldType} {rm : Room} {as : List Value} {v0 : Unit} {S2 : St} {q : vw_C} (hM : MW l y code nLy rety rm g S (.ref (ad g b) :: as) (QWv g (v0, S2))) (vl : VL own idx y code nLy rety n) (hk : kd g b = ci) (h99 : ci < 99) (hc : vwCl[ci]? = some q) (hq : q.1 = y.cls) (hcell : ∃ fs, cell g S b = .inr (ci, fs)) (hR : rm.frames + 1 ≤ R.frames ∧ 8 + (nLy + 11) + rm.locals ≤ R.locals) (h00 : rm.cells = 0 ∧ rm.slots = 0) (hcs : cells ≤ R.cells ∧ slots ≤ R.slots) (hlen : as.length = n) (hst : (st.map fun v => v.category).sum ≤ 8) (hdg : decode cc pc = .ok (.invokevirtual idx, 3)) {stk : List Value} (hstk : stk = as.reverse ++ .ref (ad g b) :: st) (k : WA p l e R s m args below meth c cells slots Q nL g A S2 (pc + 3) lv (st)) : WA p l e R s m args below meth c cells slots Q nL g A S pc lv stk := fun H locs ls hP hS hl => by
  have hfr : ∀ q, Ap g q → A q := fun q h => by obtain ⟨i, hi, rfl⟩ := h; exact cx.2.2.2.2.2.2.2.1 i hi
  refine va_callv (run_V cx hM vl hk h99 hc hq hcell hR h00 hcs hlen hst hdg hstk hP hl) hS (fun q _ h => hfr q h) hfr (fun u t H1 locs1 ht hvm hp hb hz hk hS1 => ?_)
  skip
  exact k H1 locs1 ls (by rw [← ht]; exact hb) hS1 hl
theorem wa_callSv (cx : Cx p s m args meth c cc nL ret own g A) {y : MethodName} {code : ByteArray} {nLy n idx : Nat} {rety : Option FieldType} {rm : Room} {as : List Value} {v0 : Unit} {S2 : St} (hM : MW l y code nLy rety rm g S as (QWv g (v0, S2))) (vl : SL own idx y code nLy rety n) (hR : rm.frames + 1 ≤ R.frames ∧ 8 + (nLy + 11) + rm.locals ≤ R.locals) (h00 : rm.cells = 0 ∧ rm.slots = 0) (hcs : cells ≤ R.cells ∧ slots ≤ R.slots) (hlen : as.length = n) (hst : (st.map fun v => v.category).sum ≤ 8) (hdg : decode cc pc = .ok (.invokestatic idx, 3)) {stk : List Value} (hstk : stk = as.reverse ++ st) (k : WA p l e R s m args below meth c cells slots Q nL g A S2 (pc + 3) lv (st)) : WA p l e R s m args below meth c cells slots Q nL g A S pc lv stk := fun H locs ls hP hS hl => by
  have hfr : ∀ q, Ap g q → A q := fun q h => by obtain ⟨i, hi, rfl⟩ := h; exact cx.2.2.2.2.2.2.2.1 i hi
  refine va_callv (run_S cx hM vl hR h00 hcs hlen hst hdg hstk hP hl) hS (fun q _ h => hfr q h) hfr (fun u t H1 locs1 ht hvm hp hb hz hk hS1 => ?_)
  skip
  exact k H1 locs1 ls (by rw [← ht]; exact hb) hS1 hl
theorem wa_callNv (cx : Cx p s m args meth c cc nL ret own g A) {y : MethodName} {code : ByteArray} {nLy n idx : Nat} {rety : Option FieldType} {rm : Room} {as : List Value} {v0 : Unit} {S2 : St} {host : String} (hM : MW l y code nLy rety rm g S as (QWv g (v0, S2))) (vl : NL own host idx y code nLy rety n) (hR : rm.frames + 1 ≤ R.frames ∧ 8 + (nLy + 11) + rm.locals ≤ R.locals) (h00 : rm.cells = 0 ∧ rm.slots = 0) (hcs : cells ≤ R.cells ∧ slots ≤ R.slots) (hlen : as.length = n) (hst : (st.map fun v => v.category).sum ≤ 8) (hdg : decode cc pc = .ok (.invokestatic idx, 3)) {stk : List Value} (hstk : stk = as.reverse ++ st) (k : WA p l e R s m args below meth c cells slots Q nL g A S2 (pc + 3) lv (st)) : WA p l e R s m args below meth c cells slots Q nL g A S pc lv stk := fun H locs ls hP hS hl => by
  have hfr : ∀ q, Ap g q → A q := fun q h => by obtain ⟨i, hi, rfl⟩ := h; exact cx.2.2.2.2.2.2.2.1 i hi
  refine va_callv (run_N cx hM vl hR h00 hcs hlen hst hdg hstk hP hl) hS (fun q _ h => hfr q h) hfr (fun u t H1 locs1 ht hvm hp hb hz hk hS1 => ?_)
  skip
  exact k H1 locs1 ls (by rw [← ht]; exact hb) hS1 hl
theorem wa_callVr (cx : Cx p s m args meth c cc nL ret own g A) {y : MethodName} {code : ByteArray} {nLy n idx b ci : Nat} {rety : Option FieldType} {rm : Room} {as : List Value} {v0 : Nat} {S2 : St} {q : vw_C} (hM : MW l y code nLy rety rm g S (.ref (ad g b) :: as) (QWr g (v0, S2))) (vl : VL own idx y code nLy rety n) (hk : kd g b = ci) (h99 : ci < 99) (hc : vwCl[ci]? = some q) (hq : q.1 = y.cls) (hcell : ∃ fs, cell g S b = .inr (ci, fs)) (hR : rm.frames + 1 ≤ R.frames ∧ 8 + (nLy + 11) + rm.locals ≤ R.locals) (h00 : rm.cells = 0 ∧ rm.slots = 0) (hcs : cells ≤ R.cells ∧ slots ≤ R.slots) (hlen : as.length = n) (hst : (st.map fun v => v.category).sum ≤ 8) (hdg : decode cc pc = .ok (.invokevirtual idx, 3)) {stk : List Value} (hstk : stk = as.reverse ++ .ref (ad g b) :: st) (k : WA p l e R s m args below meth c cells slots Q nL g A S2 (pc + 3) lv (.ref (ad g v0) :: st)) : WA p l e R s m args below meth c cells slots Q nL g A S pc lv stk := fun H locs ls hP hS hl => by
  have hfr : ∀ q, Ap g q → A q := fun q h => by obtain ⟨i, hi, rfl⟩ := h; exact cx.2.2.2.2.2.2.2.1 i hi
  refine va_callr (run_V cx hM vl hk h99 hc hq hcell hR h00 hcs hlen hst hdg hstk hP hl) hS (fun q _ h => hfr q h) hfr (fun u ra t H1 locs1 ht hvm hp hb hz hk hS1 => ?_)
  skip
  have hra : ra = ad g v0 := hb.1
  subst hra
  exact k H1 locs1 ls (by rw [← ht]; exact hb.2) hS1 hl
theorem wa_callSr (cx : Cx p s m args meth c cc nL ret own g A) {y : MethodName} {code : ByteArray} {nLy n idx : Nat} {rety : Option FieldType} {rm : Room} {as : List Value} {v0 : Nat} {S2 : St} (hM : MW l y code nLy rety rm g S as (QWr g (v0, S2))) (vl : SL own idx y code nLy rety n) (hR : rm.frames + 1 ≤ R.frames ∧ 8 + (nLy + 11) + rm.locals ≤ R.locals) (h00 : rm.cells = 0 ∧ rm.slots = 0) (hcs : cells ≤ R.cells ∧ slots ≤ R.slots) (hlen : as.length = n) (hst : (st.map fun v => v.category).sum ≤ 8) (hdg : decode cc pc = .ok (.invokestatic idx, 3)) {stk : List Value} (hstk : stk = as.reverse ++ st) (k : WA p l e R s m args below meth c cells slots Q nL g A S2 (pc + 3) lv (.ref (ad g v0) :: st)) : WA p l e R s m args below meth c cells slots Q nL g A S pc lv stk := fun H locs ls hP hS hl => by
  have hfr : ∀ q, Ap g q → A q := fun q h => by obtain ⟨i, hi, rfl⟩ := h; exact cx.2.2.2.2.2.2.2.1 i hi
  refine va_callr (run_S cx hM vl hR h00 hcs hlen hst hdg hstk hP hl) hS (fun q _ h => hfr q h) hfr (fun u ra t H1 locs1 ht hvm hp hb hz hk hS1 => ?_)
  skip
  have hra : ra = ad g v0 := hb.1
  subst hra
  exact k H1 locs1 ls (by rw [← ht]; exact hb.2) hS1 hl
theorem wa_callNr (cx : Cx p s m args meth c cc nL ret own g A) {y : MethodName} {code : ByteArray} {nLy n idx : Nat} {rety : Option FieldType} {rm : Room} {as : List Value} {v0 : Nat} {S2 : St} {host : String} (hM : MW l y code nLy rety rm g S as (QWr g (v0, S2))) (vl : NL own host idx y code nLy rety n) (hR : rm.frames + 1 ≤ R.frames ∧ 8 + (nLy + 11) + rm.locals ≤ R.locals) (h00 : rm.cells = 0 ∧ rm.slots = 0) (hcs : cells ≤ R.cells ∧ slots ≤ R.slots) (hlen : as.length = n) (hst : (st.map fun v => v.category).sum ≤ 8) (hdg : decode cc pc = .ok (.invokestatic idx, 3)) {stk : List Value} (hstk : stk = as.reverse ++ st) (k : WA p l e R s m args below meth c cells slots Q nL g A S2 (pc + 3) lv (.ref (ad g v0) :: st)) : WA p l e R s m args below meth c cells slots Q nL g A S pc lv stk := fun H locs ls hP hS hl => by
  have hfr : ∀ q, Ap g q → A q := fun q h => by obtain ⟨i, hi, rfl⟩ := h; exact cx.2.2.2.2.2.2.2.1 i hi
  refine va_callr (run_N cx hM vl hR h00 hcs hlen hst hdg hstk hP hl) hS (fun q _ h => hfr q h) hfr (fun u ra t H1 locs1 ht hvm hp hb hz hk hS1 => ?_)
  skip
  have hra : ra = ad g v0 := hb.1
  subst hra
  exact k H1 locs1 ls (by rw [← ht]; exact hb.2) hS1 hl
end WAC
section WAE
variable {p : Program} {l : Launch} {e : Env} {R : Room} {s : State} {m : MethodId} {args : Array Value} {below : List Frame} {meth : Method} {c : Code} {cc : ByteArray} {nL : Nat} {ret : Option FieldType} {own : String} {g : Gl}
variable {S : St} {pc : Nat} {lv : List (Nat × Value)}
theorem wa_iret (cx : Cx p s m args meth c cc nL (some .int) own g (Ap g)) {x : Int32} {r : Int32 × St} (h : some (x, S) = some r) (hdg : decode cc pc = .ok (.ireturn, 1)) : WA p l e R s m args below meth c 0 0 (MQ below (QWi g r) args s 0 0 (Ap g)) nL g (Ap g) S pc lv [.int x] := fun H locs ls hP hS hl => by
  cases h
  exact W.iret cx.1 cx.2.1 cx.2.2.2.2.2.2.2.2.1 (fun t ht hW => ⟨⟨x, (), rfl, rfl, by show va_P _ _ _ t.heap; rw [ht]; exact hP⟩, hS.F ht⟩) hS.2.2 hdg cx.2.2.2.2.2.2.2.2.2.1
theorem wa_zret (cx : Cx p s m args meth c cc nL (some .boolean) own g (Ap g)) {x : Int32} {r : Int32 × St} (hx : x = 0 ∨ x = 1) (h : some (x, S) = some r) (hdg : decode cc pc = .ok (.ireturn, 1)) : WA p l e R s m args below meth c 0 0 (MQ below (QWi g r) args s 0 0 (Ap g)) nL g (Ap g) S pc lv [.int x] := fun H locs ls hP hS hl => by
  cases h
  exact W.zret cx.1 cx.2.1 cx.2.2.2.2.2.2.2.2.1 (by rcases hx with rfl | rfl <;> decide) (fun t ht hW => ⟨⟨x, (), rfl, rfl, by show va_P _ _ _ t.heap; rw [ht]; exact hP⟩, hS.F ht⟩) hS.2.2 hdg cx.2.2.2.2.2.2.2.2.2.1
theorem wa_lret (cx : Cx p s m args meth c cc nL (some .long) own g (Ap g)) {x : Int64} {r : Int64 × St} (h : some (x, S) = some r) (hdg : decode cc pc = .ok (.lreturn, 1)) : WA p l e R s m args below meth c 0 0 (MQ below (QWl g r) args s 0 0 (Ap g)) nL g (Ap g) S pc lv [.long x] := fun H locs ls hP hS hl => by
  cases h
  exact W.lret cx.1 cx.2.1 cx.2.2.2.2.2.2.2.2.1 (fun t ht hW => ⟨⟨x, (), rfl, rfl, by show va_P _ _ _ t.heap; rw [ht]; exact hP⟩, hS.F ht⟩) hS.2.2 hdg cx.2.2.2.2.2.2.2.2.2.1
theorem wa_vret (cx : Cx p s m args meth c cc nL none own g (Ap g)) {r : Unit × St} (h : some ((), S) = some r) (hdg : decode cc pc = .ok (.return_, 1)) : WA p l e R s m args below meth c 0 0 (MQ below (QWv g r) args s 0 0 (Ap g)) nL g (Ap g) S pc lv [] := fun H locs ls hP hS hl => by
  cases h
  exact W.vret cx.1 cx.2.1 cx.2.2.2.2.2.2.2.2.1 (fun t ht hW => ⟨⟨(), rfl, trivial, by show va_P _ _ _ t.heap; rw [ht]; exact hP⟩, hS.F ht⟩) hS.2.2 hdg cx.2.2.2.2.2.2.2.2.2.1
theorem wa_aret {C : String} (cx : Cx p s m args meth c cc nL (some (.object C)) own g (Ap g)) {x : Nat} {r : Nat × St} (h : some (x, S) = some r) (hdg : decode cc pc = .ok (.areturn, 1)) : WA p l e R s m args below meth c 0 0 (MQ below (QWr g r) args s 0 0 (Ap g)) nL g (Ap g) S pc lv [.ref (ad g x)] := fun H locs ls hP hS hl => by
  cases h
  exact W.aret cx.1 cx.2.1 cx.2.2.2.2.2.2.2.2.1 (Or.inl ⟨_, rfl⟩) (Or.inr ⟨_, rfl⟩) (fun t ht hW => ⟨⟨(), _, rfl, trivial, rfl, by show va_P _ _ _ t.heap; rw [ht]; exact hP⟩, hS.F ht⟩) hS.2.2 hdg cx.2.2.2.2.2.2.2.2.2.1
end WAE
end
section
theorem off_ne {x d : Int} : ∀ {l : List (Int × Int)}, allne x (l.map (·.1)) → Op.lookupswitch.offset l d x = d
  | [], _ => rfl
  | (a, o) :: t, h => by rw [Op.lookupswitch.offset_cons, if_neg (fun e => h.1 e.symm)]; exact off_ne h.2
theorem inW0 : ∀ w ∈ u_ws RX0 TX0 11, w ∈ lw_g := by decide +kernel
theorem kq0_1 {g : Gl} (hg : GOK g) {i : Nat} (h : kd g i = 0) : kd g (i + 1) = 11 ∧ lnT (i + 1) = 8 := by
  obtain ⟨h1, h2⟩ := kd_lt h (by decide)
  have hb : i < 129 := by rcases hg.1 with e | e <;> omega
  obtain ⟨q1, q2, q3, q4⟩ := (show ∀ i, i < 129 → kdT i = 0 → (i < 103 → i + 1 < 103) ∧ i + 1 < 129 ∧ kdT (i + 1) = 11 ∧ lnT (i + 1) = 8 from by decide +kernel) i hb h2
  have hlt : i + 1 < npl g := by rcases hg.1 with e | e <;> omega
  exact ⟨by unfold kd; rw [if_pos hlt]; exact q3, q4⟩
theorem kq0_2 {g : Gl} (hg : GOK g) {i : Nat} (h : kd g i = 0) : kd g (i + 2) = 11 ∧ lnT (i + 2) = 8 := by
  obtain ⟨h1, h2⟩ := kd_lt h (by decide)
  have hb : i < 129 := by rcases hg.1 with e | e <;> omega
  obtain ⟨q1, q2, q3, q4⟩ := (show ∀ i, i < 129 → kdT i = 0 → (i < 103 → i + 2 < 103) ∧ i + 2 < 129 ∧ kdT (i + 2) = 11 ∧ lnT (i + 2) = 8 from by decide +kernel) i hb h2
  have hlt : i + 2 < npl g := by rcases hg.1 with e | e <;> omega
  exact ⟨by unfold kd; rw [if_pos hlt]; exact q3, q4⟩
theorem kq0_3 {g : Gl} (hg : GOK g) {i : Nat} (h : kd g i = 0) : kd g (i + 3) = 11 ∧ lnT (i + 3) = 8 := by
  obtain ⟨h1, h2⟩ := kd_lt h (by decide)
  have hb : i < 129 := by rcases hg.1 with e | e <;> omega
  obtain ⟨q1, q2, q3, q4⟩ := (show ∀ i, i < 129 → kdT i = 0 → (i < 103 → i + 3 < 103) ∧ i + 3 < 129 ∧ kdT (i + 3) = 11 ∧ lnT (i + 3) = 8 from by decide +kernel) i hb h2
  have hlt : i + 3 < npl g := by rcases hg.1 with e | e <;> omega
  exact ⟨by unfold kd; rw [if_pos hlt]; exact q3, q4⟩
theorem kq0_4 {g : Gl} (hg : GOK g) {i : Nat} (h : kd g i = 0) : kd g (i + 4) = 11 ∧ lnT (i + 4) = 8 := by
  obtain ⟨h1, h2⟩ := kd_lt h (by decide)
  have hb : i < 129 := by rcases hg.1 with e | e <;> omega
  obtain ⟨q1, q2, q3, q4⟩ := (show ∀ i, i < 129 → kdT i = 0 → (i < 103 → i + 4 < 103) ∧ i + 4 < 129 ∧ kdT (i + 4) = 11 ∧ lnT (i + 4) = 8 from by decide +kernel) i hb h2
  have hlt : i + 4 < npl g := by rcases hg.1 with e | e <;> omega
  exact ⟨by unfold kd; rw [if_pos hlt]; exact q3, q4⟩
theorem kq0_5 {g : Gl} (hg : GOK g) {i : Nat} (h : kd g i = 0) : kd g (i + 5) = 11 ∧ lnT (i + 5) = 8 := by
  obtain ⟨h1, h2⟩ := kd_lt h (by decide)
  have hb : i < 129 := by rcases hg.1 with e | e <;> omega
  obtain ⟨q1, q2, q3, q4⟩ := (show ∀ i, i < 129 → kdT i = 0 → (i < 103 → i + 5 < 103) ∧ i + 5 < 129 ∧ kdT (i + 5) = 11 ∧ lnT (i + 5) = 8 from by decide +kernel) i hb h2
  have hlt : i + 5 < npl g := by rcases hg.1 with e | e <;> omega
  exact ⟨by unfold kd; rw [if_pos hlt]; exact q3, q4⟩
theorem kq0_6 {g : Gl} (hg : GOK g) {i : Nat} (h : kd g i = 0) : kd g (i + 6) = 11 ∧ lnT (i + 6) = 8 := by
  obtain ⟨h1, h2⟩ := kd_lt h (by decide)
  have hb : i < 129 := by rcases hg.1 with e | e <;> omega
  obtain ⟨q1, q2, q3, q4⟩ := (show ∀ i, i < 129 → kdT i = 0 → (i < 103 → i + 6 < 103) ∧ i + 6 < 129 ∧ kdT (i + 6) = 11 ∧ lnT (i + 6) = 8 from by decide +kernel) i hb h2
  have hlt : i + 6 < npl g := by rcases hg.1 with e | e <;> omega
  exact ⟨by unfold kd; rw [if_pos hlt]; exact q3, q4⟩
theorem kq0_7 {g : Gl} (hg : GOK g) {i : Nat} (h : kd g i = 0) : kd g (i + 7) = 11 ∧ lnT (i + 7) = 8 := by
  obtain ⟨h1, h2⟩ := kd_lt h (by decide)
  have hb : i < 129 := by rcases hg.1 with e | e <;> omega
  obtain ⟨q1, q2, q3, q4⟩ := (show ∀ i, i < 129 → kdT i = 0 → (i < 103 → i + 7 < 103) ∧ i + 7 < 129 ∧ kdT (i + 7) = 11 ∧ lnT (i + 7) = 8 from by decide +kernel) i hb h2
  have hlt : i + 7 < npl g := by rcases hg.1 with e | e <;> omega
  exact ⟨by unfold kd; rw [if_pos hlt]; exact q3, q4⟩
theorem kq0_8 {g : Gl} (hg : GOK g) {i : Nat} (h : kd g i = 0) : kd g (i + 8) = 11 ∧ lnT (i + 8) = 24 := by
  obtain ⟨h1, h2⟩ := kd_lt h (by decide)
  have hb : i < 129 := by rcases hg.1 with e | e <;> omega
  obtain ⟨q1, q2, q3, q4⟩ := (show ∀ i, i < 129 → kdT i = 0 → (i < 103 → i + 8 < 103) ∧ i + 8 < 129 ∧ kdT (i + 8) = 11 ∧ lnT (i + 8) = 24 from by decide +kernel) i hb h2
  have hlt : i + 8 < npl g := by rcases hg.1 with e | e <;> omega
  exact ⟨by unfold kd; rw [if_pos hlt]; exact q3, q4⟩
theorem kq0_9 {g : Gl} (hg : GOK g) {i : Nat} (h : kd g i = 0) : kd g (i + 9) = 11 ∧ lnT (i + 9) = 24 := by
  obtain ⟨h1, h2⟩ := kd_lt h (by decide)
  have hb : i < 129 := by rcases hg.1 with e | e <;> omega
  obtain ⟨q1, q2, q3, q4⟩ := (show ∀ i, i < 129 → kdT i = 0 → (i < 103 → i + 9 < 103) ∧ i + 9 < 129 ∧ kdT (i + 9) = 11 ∧ lnT (i + 9) = 24 from by decide +kernel) i hb h2
  have hlt : i + 9 < npl g := by rcases hg.1 with e | e <;> omega
  exact ⟨by unfold kd; rw [if_pos hlt]; exact q3, q4⟩
theorem kq0_10 {g : Gl} (hg : GOK g) {i : Nat} (h : kd g i = 0) : kd g (i + 10) = 11 ∧ lnT (i + 10) = 8 := by
  obtain ⟨h1, h2⟩ := kd_lt h (by decide)
  have hb : i < 129 := by rcases hg.1 with e | e <;> omega
  obtain ⟨q1, q2, q3, q4⟩ := (show ∀ i, i < 129 → kdT i = 0 → (i < 103 → i + 10 < 103) ∧ i + 10 < 129 ∧ kdT (i + 10) = 11 ∧ lnT (i + 10) = 8 from by decide +kernel) i hb h2
  have hlt : i + 10 < npl g := by rcases hg.1 with e | e <;> omega
  exact ⟨by unfold kd; rw [if_pos hlt]; exact q3, q4⟩
theorem inW1 : ∀ w ∈ u_ws RX1 TX1 11, w ∈ lw_g := by decide +kernel
theorem kq1_7 {g : Gl} (hg : GOK g) {i : Nat} (h : kd g i = 1) : kd g (i + 22) = 11 ∧ lnT (i + 22) = 8 := by
  obtain ⟨h1, h2⟩ := kd_lt h (by decide)
  have hb : i < 129 := by rcases hg.1 with e | e <;> omega
  obtain ⟨q1, q2, q3, q4⟩ := (show ∀ i, i < 129 → kdT i = 1 → (i < 103 → i + 22 < 103) ∧ i + 22 < 129 ∧ kdT (i + 22) = 11 ∧ lnT (i + 22) = 8 from by decide +kernel) i hb h2
  have hlt : i + 22 < npl g := by rcases hg.1 with e | e <;> omega
  exact ⟨by unfold kd; rw [if_pos hlt]; exact q3, q4⟩
theorem kq1_8 {g : Gl} (hg : GOK g) {i : Nat} (h : kd g i = 1) : kd g (i + 23) = 11 ∧ lnT (i + 23) = 9 := by
  obtain ⟨h1, h2⟩ := kd_lt h (by decide)
  have hb : i < 129 := by rcases hg.1 with e | e <;> omega
  obtain ⟨q1, q2, q3, q4⟩ := (show ∀ i, i < 129 → kdT i = 1 → (i < 103 → i + 23 < 103) ∧ i + 23 < 129 ∧ kdT (i + 23) = 11 ∧ lnT (i + 23) = 9 from by decide +kernel) i hb h2
  have hlt : i + 23 < npl g := by rcases hg.1 with e | e <;> omega
  exact ⟨by unfold kd; rw [if_pos hlt]; exact q3, q4⟩
theorem kq1_9 {g : Gl} (hg : GOK g) {i : Nat} (h : kd g i = 1) : kd g (i + 24) = 11 ∧ lnT (i + 24) = 9 := by
  obtain ⟨h1, h2⟩ := kd_lt h (by decide)
  have hb : i < 129 := by rcases hg.1 with e | e <;> omega
  obtain ⟨q1, q2, q3, q4⟩ := (show ∀ i, i < 129 → kdT i = 1 → (i < 103 → i + 24 < 103) ∧ i + 24 < 129 ∧ kdT (i + 24) = 11 ∧ lnT (i + 24) = 9 from by decide +kernel) i hb h2
  have hlt : i + 24 < npl g := by rcases hg.1 with e | e <;> omega
  exact ⟨by unfold kd; rw [if_pos hlt]; exact q3, q4⟩
theorem kq1_10 {g : Gl} (hg : GOK g) {i : Nat} (h : kd g i = 1) : kd g (i + 25) = 11 ∧ lnT (i + 25) = 9 := by
  obtain ⟨h1, h2⟩ := kd_lt h (by decide)
  have hb : i < 129 := by rcases hg.1 with e | e <;> omega
  obtain ⟨q1, q2, q3, q4⟩ := (show ∀ i, i < 129 → kdT i = 1 → (i < 103 → i + 25 < 103) ∧ i + 25 < 129 ∧ kdT (i + 25) = 11 ∧ lnT (i + 25) = 9 from by decide +kernel) i hb h2
  have hlt : i + 25 < npl g := by rcases hg.1 with e | e <;> omega
  exact ⟨by unfold kd; rw [if_pos hlt]; exact q3, q4⟩
theorem inW2 : ∀ w ∈ u_ws RX2 TX2 11, w ∈ lw_g := by decide +kernel
theorem kq2_10 {g : Gl} (hg : GOK g) {i : Nat} (h : kd g i = 2) : kd g (i + 1) = 6 := by
  obtain ⟨h1, h2⟩ := kd_lt h (by decide)
  have hb : i < 129 := by rcases hg.1 with e | e <;> omega
  obtain ⟨q1, q2, q3⟩ := (show ∀ i, i < 129 → kdT i = 2 → (i < 103 → i + 1 < 103) ∧ i + 1 < 129 ∧ kdT (i + 1) = 6 from by decide +kernel) i hb h2
  have hlt : i + 1 < npl g := by rcases hg.1 with e | e <;> omega
  exact by unfold kd; rw [if_pos hlt]; exact q3
theorem inW3 : ∀ w ∈ u_ws RX3 TX3 2, w ∈ lw_g := by decide +kernel
theorem kq3_0 {g : Gl} (hg : GOK g) {i : Nat} (h : kd g i = 3) : kd g (i + 1) = 11 ∧ lnT (i + 1) = 5 := by
  obtain ⟨h1, h2⟩ := kd_lt h (by decide)
  have hb : i < 129 := by rcases hg.1 with e | e <;> omega
  obtain ⟨q1, q2, q3, q4⟩ := (show ∀ i, i < 129 → kdT i = 3 → (i < 103 → i + 1 < 103) ∧ i + 1 < 129 ∧ kdT (i + 1) = 11 ∧ lnT (i + 1) = 5 from by decide +kernel) i hb h2
  have hlt : i + 1 < npl g := by rcases hg.1 with e | e <;> omega
  exact ⟨by unfold kd; rw [if_pos hlt]; exact q3, q4⟩
theorem inW4 : ∀ w ∈ u_ws RX4 TX4 6, w ∈ lw_g := by decide +kernel
theorem kq4_4 {g : Gl} (hg : GOK g) {i : Nat} (h : kd g i = 4) : kd g (i + 12) = 11 ∧ lnT (i + 12) = 8 := by
  obtain ⟨h1, h2⟩ := kd_lt h (by decide)
  have hb : i < 129 := by rcases hg.1 with e | e <;> omega
  obtain ⟨q1, q2, q3, q4⟩ := (show ∀ i, i < 129 → kdT i = 4 → (i < 103 → i + 12 < 103) ∧ i + 12 < 129 ∧ kdT (i + 12) = 11 ∧ lnT (i + 12) = 8 from by decide +kernel) i hb h2
  have hlt : i + 12 < npl g := by rcases hg.1 with e | e <;> omega
  exact ⟨by unfold kd; rw [if_pos hlt]; exact q3, q4⟩
theorem kq4_5 {g : Gl} (hg : GOK g) {i : Nat} (h : kd g i = 4) : kd g (i + 13) = 12 ∧ lnT (i + 13) = 549 := by
  obtain ⟨h1, h2⟩ := kd_lt h (by decide)
  have hb : i < 129 := by rcases hg.1 with e | e <;> omega
  obtain ⟨q1, q2, q3, q4⟩ := (show ∀ i, i < 129 → kdT i = 4 → (i < 103 → i + 13 < 103) ∧ i + 13 < 129 ∧ kdT (i + 13) = 12 ∧ lnT (i + 13) = 549 from by decide +kernel) i hb h2
  have hlt : i + 13 < npl g := by rcases hg.1 with e | e <;> omega
  exact ⟨by unfold kd; rw [if_pos hlt]; exact q3, q4⟩
theorem inW5 : ∀ w ∈ u_ws RX5 TX5 3, w ∈ lw_g := by decide +kernel
theorem kq5_1 {g : Gl} (hg : GOK g) {i : Nat} (h : kd g i = 5) : kd g (i + 1) = 11 ∧ lnT (i + 1) = 16 := by
  obtain ⟨h1, h2⟩ := kd_lt h (by decide)
  have hb : i < 129 := by rcases hg.1 with e | e <;> omega
  obtain ⟨q1, q2, q3, q4⟩ := (show ∀ i, i < 129 → kdT i = 5 → (i < 103 → i + 1 < 103) ∧ i + 1 < 129 ∧ kdT (i + 1) = 11 ∧ lnT (i + 1) = 16 from by decide +kernel) i hb h2
  have hlt : i + 1 < npl g := by rcases hg.1 with e | e <;> omega
  exact ⟨by unfold kd; rw [if_pos hlt]; exact q3, q4⟩
theorem kq5_2 {g : Gl} (hg : GOK g) {i : Nat} (h : kd g i = 5) : kd g (i + 2) = 11 ∧ lnT (i + 2) = 2 := by
  obtain ⟨h1, h2⟩ := kd_lt h (by decide)
  have hb : i < 129 := by rcases hg.1 with e | e <;> omega
  obtain ⟨q1, q2, q3, q4⟩ := (show ∀ i, i < 129 → kdT i = 5 → (i < 103 → i + 2 < 103) ∧ i + 2 < 129 ∧ kdT (i + 2) = 11 ∧ lnT (i + 2) = 2 from by decide +kernel) i hb h2
  have hlt : i + 2 < npl g := by rcases hg.1 with e | e <;> omega
  exact ⟨by unfold kd; rw [if_pos hlt]; exact q3, q4⟩
theorem inW6 : ∀ w ∈ u_ws RX6 TX6 10, w ∈ lw_g := by decide +kernel
theorem kq6_2 {g : Gl} (hg : GOK g) {i : Nat} (h : kd g i = 6) : kd g (i + 1) = 11 ∧ lnT (i + 1) = 6 := by
  obtain ⟨h1, h2⟩ := kd_lt h (by decide)
  have hb : i < 129 := by rcases hg.1 with e | e <;> omega
  obtain ⟨q1, q2, q3, q4⟩ := (show ∀ i, i < 129 → kdT i = 6 → (i < 103 → i + 1 < 103) ∧ i + 1 < 129 ∧ kdT (i + 1) = 11 ∧ lnT (i + 1) = 6 from by decide +kernel) i hb h2
  have hlt : i + 1 < npl g := by rcases hg.1 with e | e <;> omega
  exact ⟨by unfold kd; rw [if_pos hlt]; exact q3, q4⟩
theorem kq6_3 {g : Gl} (hg : GOK g) {i : Nat} (h : kd g i = 6) : kd g (i + 2) = 11 ∧ lnT (i + 2) = 6 := by
  obtain ⟨h1, h2⟩ := kd_lt h (by decide)
  have hb : i < 129 := by rcases hg.1 with e | e <;> omega
  obtain ⟨q1, q2, q3, q4⟩ := (show ∀ i, i < 129 → kdT i = 6 → (i < 103 → i + 2 < 103) ∧ i + 2 < 129 ∧ kdT (i + 2) = 11 ∧ lnT (i + 2) = 6 from by decide +kernel) i hb h2
  have hlt : i + 2 < npl g := by rcases hg.1 with e | e <;> omega
  exact ⟨by unfold kd; rw [if_pos hlt]; exact q3, q4⟩
theorem kq6_4 {g : Gl} (hg : GOK g) {i : Nat} (h : kd g i = 6) : kd g (i + 3) = 11 ∧ lnT (i + 3) = 6 := by
  obtain ⟨h1, h2⟩ := kd_lt h (by decide)
  have hb : i < 129 := by rcases hg.1 with e | e <;> omega
  obtain ⟨q1, q2, q3, q4⟩ := (show ∀ i, i < 129 → kdT i = 6 → (i < 103 → i + 3 < 103) ∧ i + 3 < 129 ∧ kdT (i + 3) = 11 ∧ lnT (i + 3) = 6 from by decide +kernel) i hb h2
  have hlt : i + 3 < npl g := by rcases hg.1 with e | e <;> omega
  exact ⟨by unfold kd; rw [if_pos hlt]; exact q3, q4⟩
theorem kq6_5 {g : Gl} (hg : GOK g) {i : Nat} (h : kd g i = 6) : kd g (i + 4) = 11 ∧ lnT (i + 4) = 6 := by
  obtain ⟨h1, h2⟩ := kd_lt h (by decide)
  have hb : i < 129 := by rcases hg.1 with e | e <;> omega
  obtain ⟨q1, q2, q3, q4⟩ := (show ∀ i, i < 129 → kdT i = 6 → (i < 103 → i + 4 < 103) ∧ i + 4 < 129 ∧ kdT (i + 4) = 11 ∧ lnT (i + 4) = 6 from by decide +kernel) i hb h2
  have hlt : i + 4 < npl g := by rcases hg.1 with e | e <;> omega
  exact ⟨by unfold kd; rw [if_pos hlt]; exact q3, q4⟩
theorem kq6_6 {g : Gl} (hg : GOK g) {i : Nat} (h : kd g i = 6) : kd g (i + 5) = 11 ∧ lnT (i + 5) = 18 := by
  obtain ⟨h1, h2⟩ := kd_lt h (by decide)
  have hb : i < 129 := by rcases hg.1 with e | e <;> omega
  obtain ⟨q1, q2, q3, q4⟩ := (show ∀ i, i < 129 → kdT i = 6 → (i < 103 → i + 5 < 103) ∧ i + 5 < 129 ∧ kdT (i + 5) = 11 ∧ lnT (i + 5) = 18 from by decide +kernel) i hb h2
  have hlt : i + 5 < npl g := by rcases hg.1 with e | e <;> omega
  exact ⟨by unfold kd; rw [if_pos hlt]; exact q3, q4⟩
theorem kq6_7 {g : Gl} (hg : GOK g) {i : Nat} (h : kd g i = 6) : kd g (i + 6) = 11 ∧ lnT (i + 6) = 18 := by
  obtain ⟨h1, h2⟩ := kd_lt h (by decide)
  have hb : i < 129 := by rcases hg.1 with e | e <;> omega
  obtain ⟨q1, q2, q3, q4⟩ := (show ∀ i, i < 129 → kdT i = 6 → (i < 103 → i + 6 < 103) ∧ i + 6 < 129 ∧ kdT (i + 6) = 11 ∧ lnT (i + 6) = 18 from by decide +kernel) i hb h2
  have hlt : i + 6 < npl g := by rcases hg.1 with e | e <;> omega
  exact ⟨by unfold kd; rw [if_pos hlt]; exact q3, q4⟩
theorem kq6_8 {g : Gl} (hg : GOK g) {i : Nat} (h : kd g i = 6) : kd g (i + 7) = 11 ∧ lnT (i + 7) = 8 := by
  obtain ⟨h1, h2⟩ := kd_lt h (by decide)
  have hb : i < 129 := by rcases hg.1 with e | e <;> omega
  obtain ⟨q1, q2, q3, q4⟩ := (show ∀ i, i < 129 → kdT i = 6 → (i < 103 → i + 7 < 103) ∧ i + 7 < 129 ∧ kdT (i + 7) = 11 ∧ lnT (i + 7) = 8 from by decide +kernel) i hb h2
  have hlt : i + 7 < npl g := by rcases hg.1 with e | e <;> omega
  exact ⟨by unfold kd; rw [if_pos hlt]; exact q3, q4⟩
theorem kq6_9 {g : Gl} (hg : GOK g) {i : Nat} (h : kd g i = 6) : kd g (i + 8) = 11 ∧ lnT (i + 8) = 8 := by
  obtain ⟨h1, h2⟩ := kd_lt h (by decide)
  have hb : i < 129 := by rcases hg.1 with e | e <;> omega
  obtain ⟨q1, q2, q3, q4⟩ := (show ∀ i, i < 129 → kdT i = 6 → (i < 103 → i + 8 < 103) ∧ i + 8 < 129 ∧ kdT (i + 8) = 11 ∧ lnT (i + 8) = 8 from by decide +kernel) i hb h2
  have hlt : i + 8 < npl g := by rcases hg.1 with e | e <;> omega
  exact ⟨by unfold kd; rw [if_pos hlt]; exact q3, q4⟩
theorem inW7 : ∀ w ∈ u_ws RX7 TX7 2, w ∈ lw_g := by decide +kernel
theorem kq7_0 {g : Gl} (hg : GOK g) {i : Nat} (h : kd g i = 7) : kd g (i + 1) = 11 ∧ lnT (i + 1) = 300 := by
  obtain ⟨h1, h2⟩ := kd_lt h (by decide)
  have hb : i < 129 := by rcases hg.1 with e | e <;> omega
  obtain ⟨q1, q2, q3, q4⟩ := (show ∀ i, i < 129 → kdT i = 7 → (i < 103 → i + 1 < 103) ∧ i + 1 < 129 ∧ kdT (i + 1) = 11 ∧ lnT (i + 1) = 300 from by decide +kernel) i hb h2
  have hlt : i + 1 < npl g := by rcases hg.1 with e | e <;> omega
  exact ⟨by unfold kd; rw [if_pos hlt]; exact q3, q4⟩
theorem inW8 : ∀ w ∈ u_ws RX8 TX8 10, w ∈ lw_g := by decide +kernel
theorem kq8_5 {g : Gl} (hg : GOK g) {i : Nat} (h : kd g i = 8) : kd g (i + 1) = 12 ∧ lnT (i + 1) = 8 := by
  obtain ⟨h1, h2⟩ := kd_lt h (by decide)
  have hb : i < 129 := by rcases hg.1 with e | e <;> omega
  obtain ⟨q1, q2, q3, q4⟩ := (show ∀ i, i < 129 → kdT i = 8 → (i < 103 → i + 1 < 103) ∧ i + 1 < 129 ∧ kdT (i + 1) = 12 ∧ lnT (i + 1) = 8 from by decide +kernel) i hb h2
  have hlt : i + 1 < npl g := by rcases hg.1 with e | e <;> omega
  exact ⟨by unfold kd; rw [if_pos hlt]; exact q3, q4⟩
theorem kq8_6 {g : Gl} (hg : GOK g) {i : Nat} (h : kd g i = 8) : kd g (i + 2) = 12 ∧ lnT (i + 2) = 8 := by
  obtain ⟨h1, h2⟩ := kd_lt h (by decide)
  have hb : i < 129 := by rcases hg.1 with e | e <;> omega
  obtain ⟨q1, q2, q3, q4⟩ := (show ∀ i, i < 129 → kdT i = 8 → (i < 103 → i + 2 < 103) ∧ i + 2 < 129 ∧ kdT (i + 2) = 12 ∧ lnT (i + 2) = 8 from by decide +kernel) i hb h2
  have hlt : i + 2 < npl g := by rcases hg.1 with e | e <;> omega
  exact ⟨by unfold kd; rw [if_pos hlt]; exact q3, q4⟩
theorem kq8_7 {g : Gl} (hg : GOK g) {i : Nat} (h : kd g i = 8) : kd g (i + 3) = 11 ∧ lnT (i + 3) = 8 := by
  obtain ⟨h1, h2⟩ := kd_lt h (by decide)
  have hb : i < 129 := by rcases hg.1 with e | e <;> omega
  obtain ⟨q1, q2, q3, q4⟩ := (show ∀ i, i < 129 → kdT i = 8 → (i < 103 → i + 3 < 103) ∧ i + 3 < 129 ∧ kdT (i + 3) = 11 ∧ lnT (i + 3) = 8 from by decide +kernel) i hb h2
  have hlt : i + 3 < npl g := by rcases hg.1 with e | e <;> omega
  exact ⟨by unfold kd; rw [if_pos hlt]; exact q3, q4⟩
theorem kq8_8 {g : Gl} (hg : GOK g) {i : Nat} (h : kd g i = 8) : kd g (i + 4) = 12 ∧ lnT (i + 4) = 9 := by
  obtain ⟨h1, h2⟩ := kd_lt h (by decide)
  have hb : i < 129 := by rcases hg.1 with e | e <;> omega
  obtain ⟨q1, q2, q3, q4⟩ := (show ∀ i, i < 129 → kdT i = 8 → (i < 103 → i + 4 < 103) ∧ i + 4 < 129 ∧ kdT (i + 4) = 12 ∧ lnT (i + 4) = 9 from by decide +kernel) i hb h2
  have hlt : i + 4 < npl g := by rcases hg.1 with e | e <;> omega
  exact ⟨by unfold kd; rw [if_pos hlt]; exact q3, q4⟩
theorem kq8_9 {g : Gl} (hg : GOK g) {i : Nat} (h : kd g i = 8) : kd g (i + 5) = 11 ∧ lnT (i + 5) = 9 := by
  obtain ⟨h1, h2⟩ := kd_lt h (by decide)
  have hb : i < 129 := by rcases hg.1 with e | e <;> omega
  obtain ⟨q1, q2, q3, q4⟩ := (show ∀ i, i < 129 → kdT i = 8 → (i < 103 → i + 5 < 103) ∧ i + 5 < 129 ∧ kdT (i + 5) = 11 ∧ lnT (i + 5) = 9 from by decide +kernel) i hb h2
  have hlt : i + 5 < npl g := by rcases hg.1 with e | e <;> omega
  exact ⟨by unfold kd; rw [if_pos hlt]; exact q3, q4⟩
theorem inW9 : ∀ w ∈ u_ws RX9 TX9 19, w ∈ lw_g := by decide +kernel
theorem kq9_0 {g : Gl} (hg : GOK g) {i : Nat} (h : kd g i = 9) : kd g (i + 1) = 7 := by
  obtain ⟨h1, h2⟩ := kd_lt h (by decide)
  have hb : i < 129 := by rcases hg.1 with e | e <;> omega
  obtain ⟨q1, q2, q3⟩ := (show ∀ i, i < 129 → kdT i = 9 → (i < 103 → i + 1 < 103) ∧ i + 1 < 129 ∧ kdT (i + 1) = 7 from by decide +kernel) i hb h2
  have hlt : i + 1 < npl g := by rcases hg.1 with e | e <;> omega
  exact by unfold kd; rw [if_pos hlt]; exact q3
theorem kq9_1 {g : Gl} (hg : GOK g) {i : Nat} (h : kd g i = 9) : kd g (i + 3) = 3 := by
  obtain ⟨h1, h2⟩ := kd_lt h (by decide)
  have hb : i < 129 := by rcases hg.1 with e | e <;> omega
  obtain ⟨q1, q2, q3⟩ := (show ∀ i, i < 129 → kdT i = 9 → (i < 103 → i + 3 < 103) ∧ i + 3 < 129 ∧ kdT (i + 3) = 3 from by decide +kernel) i hb h2
  have hlt : i + 3 < npl g := by rcases hg.1 with e | e <;> omega
  exact by unfold kd; rw [if_pos hlt]; exact q3
theorem kq9_4 {g : Gl} (hg : GOK g) {i : Nat} (h : kd g i = 9) : kd g (i + 25) = 0 := by
  obtain ⟨h1, h2⟩ := kd_lt h (by decide)
  have hb : i < 129 := by rcases hg.1 with e | e <;> omega
  obtain ⟨q1, q2, q3⟩ := (show ∀ i, i < 129 → kdT i = 9 → (i < 103 → i + 25 < 103) ∧ i + 25 < 129 ∧ kdT (i + 25) = 0 from by decide +kernel) i hb h2
  have hlt : i + 25 < npl g := by rcases hg.1 with e | e <;> omega
  exact by unfold kd; rw [if_pos hlt]; exact q3
theorem kq9_5 {g : Gl} (hg : GOK g) {i : Nat} (h : kd g i = 9) : kd g (i + 36) = 0 := by
  obtain ⟨h1, h2⟩ := kd_lt h (by decide)
  have hb : i < 129 := by rcases hg.1 with e | e <;> omega
  obtain ⟨q1, q2, q3⟩ := (show ∀ i, i < 129 → kdT i = 9 → (i < 103 → i + 36 < 103) ∧ i + 36 < 129 ∧ kdT (i + 36) = 0 from by decide +kernel) i hb h2
  have hlt : i + 36 < npl g := by rcases hg.1 with e | e <;> omega
  exact by unfold kd; rw [if_pos hlt]; exact q3
theorem kq9_6 {g : Gl} (hg : GOK g) {i : Nat} (h : kd g i = 9) : kd g (i + 47) = 1 := by
  obtain ⟨h1, h2⟩ := kd_lt h (by decide)
  have hb : i < 129 := by rcases hg.1 with e | e <;> omega
  obtain ⟨q1, q2, q3⟩ := (show ∀ i, i < 129 → kdT i = 9 → (i < 103 → i + 47 < 103) ∧ i + 47 < 129 ∧ kdT (i + 47) = 1 from by decide +kernel) i hb h2
  have hlt : i + 47 < npl g := by rcases hg.1 with e | e <;> omega
  exact by unfold kd; rw [if_pos hlt]; exact q3
theorem kq9_7 {g : Gl} (hg : GOK g) {i : Nat} (h : kd g i = 9) : kd g (i + 73) = 8 := by
  obtain ⟨h1, h2⟩ := kd_lt h (by decide)
  have hb : i < 129 := by rcases hg.1 with e | e <;> omega
  obtain ⟨q1, q2, q3⟩ := (show ∀ i, i < 129 → kdT i = 9 → (i < 103 → i + 73 < 103) ∧ i + 73 < 129 ∧ kdT (i + 73) = 8 from by decide +kernel) i hb h2
  have hlt : i + 73 < npl g := by rcases hg.1 with e | e <;> omega
  exact by unfold kd; rw [if_pos hlt]; exact q3
theorem kq9_8 {g : Gl} (hg : GOK g) {i : Nat} (h : kd g i = 9) : kd g (i + 79) = 8 := by
  obtain ⟨h1, h2⟩ := kd_lt h (by decide)
  have hb : i < 129 := by rcases hg.1 with e | e <;> omega
  obtain ⟨q1, q2, q3⟩ := (show ∀ i, i < 129 → kdT i = 9 → (i < 103 → i + 79 < 103) ∧ i + 79 < 129 ∧ kdT (i + 79) = 8 from by decide +kernel) i hb h2
  have hlt : i + 79 < npl g := by rcases hg.1 with e | e <;> omega
  exact by unfold kd; rw [if_pos hlt]; exact q3
theorem kq9_9 {g : Gl} (hg : GOK g) {i : Nat} (h : kd g i = 9) : kd g (i + 85) = 4 := by
  obtain ⟨h1, h2⟩ := kd_lt h (by decide)
  have hb : i < 129 := by rcases hg.1 with e | e <;> omega
  obtain ⟨q1, q2, q3⟩ := (show ∀ i, i < 129 → kdT i = 9 → (i < 103 → i + 85 < 103) ∧ i + 85 < 129 ∧ kdT (i + 85) = 4 from by decide +kernel) i hb h2
  have hlt : i + 85 < npl g := by rcases hg.1 with e | e <;> omega
  exact by unfold kd; rw [if_pos hlt]; exact q3
theorem kq9_10 {g : Gl} (hg : GOK g) {i : Nat} (h : kd g i = 9) : kd g (i + 99) = 11 ∧ lnT (i + 99) = 8 := by
  obtain ⟨h1, h2⟩ := kd_lt h (by decide)
  have hb : i < 129 := by rcases hg.1 with e | e <;> omega
  obtain ⟨q1, q2, q3, q4⟩ := (show ∀ i, i < 129 → kdT i = 9 → (i < 103 → i + 99 < 103) ∧ i + 99 < 129 ∧ kdT (i + 99) = 11 ∧ lnT (i + 99) = 8 from by decide +kernel) i hb h2
  have hlt : i + 99 < npl g := by rcases hg.1 with e | e <;> omega
  exact ⟨by unfold kd; rw [if_pos hlt]; exact q3, q4⟩
theorem kq9_12 {g : Gl} (hg : GOK g) {i : Nat} (h : kd g i = 9) : kd g (i + 100) = 5 := by
  obtain ⟨h1, h2⟩ := kd_lt h (by decide)
  have hb : i < 129 := by rcases hg.1 with e | e <;> omega
  obtain ⟨q1, q2, q3⟩ := (show ∀ i, i < 129 → kdT i = 9 → (i < 103 → i + 100 < 103) ∧ i + 100 < 129 ∧ kdT (i + 100) = 5 from by decide +kernel) i hb h2
  have hlt : i + 100 < npl g := by rcases hg.1 with e | e <;> omega
  exact by unfold kd; rw [if_pos hlt]; exact q3
theorem gl_X7_9 : Cond.fieldLink RX7 9 (TX7 0).1 (TX7 0).2.1 (TX7 0).2.2.1 ∈ lw_g := (lwm 54 (by decide +kernel) rfl)
theorem gf_X7_9 {p : Program} {l : Launch} {e : Env} {R : Room} {s : State} {m : MethodId} {args : Array Value} {below : List Frame} {meth : Method} {c : Code} {cells slots : Nat} {Q : State → Prop} {cc : ByteArray} {nL : Nat} {ret : Option FieldType} {g : Gl} {A : Nat → Prop} {S : St} {pc : Nat} {lv : List (Nat × Value)} {st : List Value} (cx : Cx p s m args meth c cc nL ret RX7 g A) {i : Nat} (hk : kd g i = 7) (hdg : decode cc pc = .ok (.getfield 9, 3)) (kk : WA p l e R s m args below meth c cells slots Q nL g A S (pc + 3) lv (.ref (ad g (i + 1)) :: st)) : WA p l e R s m args below meth c cells slots Q nL g A S pc lv (.ref (ad g i) :: st) := wa_get cx hk (by decide) (cell_eq7 (kd_lt hk (by decide)).2) rfl inW7 (k := 0) (by decide) gl_X7_9 rfl hdg kk
theorem gl_X7_13 : Cond.fieldLink RX7 13 (TX7 1).1 (TX7 1).2.1 (TX7 1).2.2.1 ∈ lw_g := (lwm 55 (by decide +kernel) rfl)
theorem gf_X7_13 {p : Program} {l : Launch} {e : Env} {R : Room} {s : State} {m : MethodId} {args : Array Value} {below : List Frame} {meth : Method} {c : Code} {cells slots : Nat} {Q : State → Prop} {cc : ByteArray} {nL : Nat} {ret : Option FieldType} {g : Gl} {A : Nat → Prop} {S : St} {pc : Nat} {lv : List (Nat × Value)} {st : List Value} (cx : Cx p s m args meth c cc nL ret RX7 g A) {i : Nat} (hk : kd g i = 7) (hdg : decode cc pc = .ok (.getfield 13, 3)) (kk : WA p l e R s m args below meth c cells slots Q nL g A S (pc + 3) lv (.int (S.1 i 1) :: st)) : WA p l e R s m args below meth c cells slots Q nL g A S pc lv (.ref (ad g i) :: st) := wa_get cx hk (by decide) (cell_eq7 (kd_lt hk (by decide)).2) rfl inW7 (k := 1) (by decide) gl_X7_13 rfl hdg kk
theorem pf_X7_13 {p : Program} {l : Launch} {e : Env} {R : Room} {s : State} {m : MethodId} {args : Array Value} {below : List Frame} {meth : Method} {c : Code} {cells slots : Nat} {Q : State → Prop} {cc : ByteArray} {nL : Nat} {ret : Option FieldType} {g : Gl} {A : Nat → Prop} {S : St} {pc : Nat} {lv : List (Nat × Value)} {st : List Value} (cx : Cx p s m args meth c cc nL ret RX7 g A) {i : Nat} {x : Int32} (hk : kd g i = 7) (hdg : decode cc pc = .ok (.putfield 13, 3)) (kk : WA p l e R s m args below meth c cells slots Q nL g A (pI S i 1 x) (pc + 3) lv st) : WA p l e R s m args below meth c cells slots Q nL g A S pc lv (.int x :: .ref (ad g i) :: st) := wa_put (S2 := pI S i 1 x) (ty := .int) tyX7 hk (by decide) (cell_eq7 (kd_lt hk (by decide)).2) (by rw [cell_eq7 (kd_lt hk (by decide)).2]; unfold pI; dsimp only; rw [up2_at]; rfl) cell_pI rfl inW7 tyX7_ok nmX7 (k := 1) (by decide) gl_X7_13 rfl (by decide +kernel) rfl rfl (Nat.le_of_ble_eq_true rfl) hdg (cx := cx) kk
theorem gl_X3_26 : Cond.fieldLink RX3 26 (TX7 1).1 (TX7 1).2.1 (TX7 1).2.2.1 ∈ lw_g := (lwm 56 (by decide +kernel) rfl)
theorem gf_X3_26 {p : Program} {l : Launch} {e : Env} {R : Room} {s : State} {m : MethodId} {args : Array Value} {below : List Frame} {meth : Method} {c : Code} {cells slots : Nat} {Q : State → Prop} {cc : ByteArray} {nL : Nat} {ret : Option FieldType} {g : Gl} {A : Nat → Prop} {S : St} {pc : Nat} {lv : List (Nat × Value)} {st : List Value} (cx : Cx p s m args meth c cc nL ret RX3 g A) {i : Nat} (hk : kd g i = 7) (hdg : decode cc pc = .ok (.getfield 26, 3)) (kk : WA p l e R s m args below meth c cells slots Q nL g A S (pc + 3) lv (.int (S.1 i 1) :: st)) : WA p l e R s m args below meth c cells slots Q nL g A S pc lv (.ref (ad g i) :: st) := wa_get cx hk (by decide) (cell_eq7 (kd_lt hk (by decide)).2) rfl inW7 (k := 1) (by decide) gl_X3_26 rfl hdg kk
theorem pf_X3_26 {p : Program} {l : Launch} {e : Env} {R : Room} {s : State} {m : MethodId} {args : Array Value} {below : List Frame} {meth : Method} {c : Code} {cells slots : Nat} {Q : State → Prop} {cc : ByteArray} {nL : Nat} {ret : Option FieldType} {g : Gl} {A : Nat → Prop} {S : St} {pc : Nat} {lv : List (Nat × Value)} {st : List Value} (cx : Cx p s m args meth c cc nL ret RX3 g A) {i : Nat} {x : Int32} (hk : kd g i = 7) (hdg : decode cc pc = .ok (.putfield 26, 3)) (kk : WA p l e R s m args below meth c cells slots Q nL g A (pI S i 1 x) (pc + 3) lv st) : WA p l e R s m args below meth c cells slots Q nL g A S pc lv (.int x :: .ref (ad g i) :: st) := wa_put (S2 := pI S i 1 x) (ty := .int) tyX7 hk (by decide) (cell_eq7 (kd_lt hk (by decide)).2) (by rw [cell_eq7 (kd_lt hk (by decide)).2]; unfold pI; dsimp only; rw [up2_at]; rfl) cell_pI rfl inW7 tyX7_ok nmX7 (k := 1) (by decide) gl_X3_26 rfl (by decide +kernel) rfl rfl (Nat.le_of_ble_eq_true rfl) hdg (cx := cx) kk
theorem gl_X9_110 : Cond.fieldLink RX9 110 (TX7 1).1 (TX7 1).2.1 (TX7 1).2.2.1 ∈ lw_g := (lwm 57 (by decide +kernel) rfl)
theorem gf_X9_110 {p : Program} {l : Launch} {e : Env} {R : Room} {s : State} {m : MethodId} {args : Array Value} {below : List Frame} {meth : Method} {c : Code} {cells slots : Nat} {Q : State → Prop} {cc : ByteArray} {nL : Nat} {ret : Option FieldType} {g : Gl} {A : Nat → Prop} {S : St} {pc : Nat} {lv : List (Nat × Value)} {st : List Value} (cx : Cx p s m args meth c cc nL ret RX9 g A) {i : Nat} (hk : kd g i = 7) (hdg : decode cc pc = .ok (.getfield 110, 3)) (kk : WA p l e R s m args below meth c cells slots Q nL g A S (pc + 3) lv (.int (S.1 i 1) :: st)) : WA p l e R s m args below meth c cells slots Q nL g A S pc lv (.ref (ad g i) :: st) := wa_get cx hk (by decide) (cell_eq7 (kd_lt hk (by decide)).2) rfl inW7 (k := 1) (by decide) gl_X9_110 rfl hdg kk
theorem pf_X9_110 {p : Program} {l : Launch} {e : Env} {R : Room} {s : State} {m : MethodId} {args : Array Value} {below : List Frame} {meth : Method} {c : Code} {cells slots : Nat} {Q : State → Prop} {cc : ByteArray} {nL : Nat} {ret : Option FieldType} {g : Gl} {A : Nat → Prop} {S : St} {pc : Nat} {lv : List (Nat × Value)} {st : List Value} (cx : Cx p s m args meth c cc nL ret RX9 g A) {i : Nat} {x : Int32} (hk : kd g i = 7) (hdg : decode cc pc = .ok (.putfield 110, 3)) (kk : WA p l e R s m args below meth c cells slots Q nL g A (pI S i 1 x) (pc + 3) lv st) : WA p l e R s m args below meth c cells slots Q nL g A S pc lv (.int x :: .ref (ad g i) :: st) := wa_put (S2 := pI S i 1 x) (ty := .int) tyX7 hk (by decide) (cell_eq7 (kd_lt hk (by decide)).2) (by rw [cell_eq7 (kd_lt hk (by decide)).2]; unfold pI; dsimp only; rw [up2_at]; rfl) cell_pI rfl inW7 tyX7_ok nmX7 (k := 1) (by decide) gl_X9_110 rfl (by decide +kernel) rfl rfl (Nat.le_of_ble_eq_true rfl) hdg (cx := cx) kk
theorem gl_X3_11 : Cond.fieldLink RX3 11 (TX3 0).1 (TX3 0).2.1 (TX3 0).2.2.1 ∈ lw_g := (lwm 70 (by decide +kernel) rfl)
theorem gf_X3_11 {p : Program} {l : Launch} {e : Env} {R : Room} {s : State} {m : MethodId} {args : Array Value} {below : List Frame} {meth : Method} {c : Code} {cells slots : Nat} {Q : State → Prop} {cc : ByteArray} {nL : Nat} {ret : Option FieldType} {g : Gl} {A : Nat → Prop} {S : St} {pc : Nat} {lv : List (Nat × Value)} {st : List Value} (cx : Cx p s m args meth c cc nL ret RX3 g A) {i : Nat} (hk : kd g i = 3) (hdg : decode cc pc = .ok (.getfield 11, 3)) (kk : WA p l e R s m args below meth c cells slots Q nL g A S (pc + 3) lv (.ref (ad g (i + 1)) :: st)) : WA p l e R s m args below meth c cells slots Q nL g A S pc lv (.ref (ad g i) :: st) := wa_get cx hk (by decide) (cell_eq3 (kd_lt hk (by decide)).2) rfl inW3 (k := 0) (by decide) gl_X3_11 rfl hdg kk
theorem gl_X3_20 : Cond.fieldLink RX3 20 (TX3 1).1 (TX3 1).2.1 (TX3 1).2.2.1 ∈ lw_g := (lwm 71 (by decide +kernel) rfl)
theorem gf_X3_20 {p : Program} {l : Launch} {e : Env} {R : Room} {s : State} {m : MethodId} {args : Array Value} {below : List Frame} {meth : Method} {c : Code} {cells slots : Nat} {Q : State → Prop} {cc : ByteArray} {nL : Nat} {ret : Option FieldType} {g : Gl} {A : Nat → Prop} {S : St} {pc : Nat} {lv : List (Nat × Value)} {st : List Value} (cx : Cx p s m args meth c cc nL ret RX3 g A) {i : Nat} (hk : kd g i = 3) (hdg : decode cc pc = .ok (.getfield 20, 3)) (kk : WA p l e R s m args below meth c cells slots Q nL g A S (pc + 3) lv (.int (S.1 i 1) :: st)) : WA p l e R s m args below meth c cells slots Q nL g A S pc lv (.ref (ad g i) :: st) := wa_get cx hk (by decide) (cell_eq3 (kd_lt hk (by decide)).2) rfl inW3 (k := 1) (by decide) gl_X3_20 rfl hdg kk
theorem pf_X3_20 {p : Program} {l : Launch} {e : Env} {R : Room} {s : State} {m : MethodId} {args : Array Value} {below : List Frame} {meth : Method} {c : Code} {cells slots : Nat} {Q : State → Prop} {cc : ByteArray} {nL : Nat} {ret : Option FieldType} {g : Gl} {A : Nat → Prop} {S : St} {pc : Nat} {lv : List (Nat × Value)} {st : List Value} (cx : Cx p s m args meth c cc nL ret RX3 g A) {i : Nat} {x : Int32} (hk : kd g i = 3) (hdg : decode cc pc = .ok (.putfield 20, 3)) (kk : WA p l e R s m args below meth c cells slots Q nL g A (pI S i 1 x) (pc + 3) lv st) : WA p l e R s m args below meth c cells slots Q nL g A S pc lv (.int x :: .ref (ad g i) :: st) := wa_put (S2 := pI S i 1 x) (ty := .int) tyX3 hk (by decide) (cell_eq3 (kd_lt hk (by decide)).2) (by rw [cell_eq3 (kd_lt hk (by decide)).2]; unfold pI; dsimp only; rw [up2_at]; rfl) cell_pI rfl inW3 tyX3_ok nmX3 (k := 1) (by decide) gl_X3_20 rfl (by decide +kernel) rfl rfl (Nat.le_of_ble_eq_true rfl) hdg (cx := cx) kk
theorem gl_X6_34 : Cond.fieldLink RX6 34 (TX6 0).1 (TX6 0).2.1 (TX6 0).2.2.1 ∈ lw_g := (lwm 89 (by decide +kernel) rfl)
theorem gf_X6_34 {p : Program} {l : Launch} {e : Env} {R : Room} {s : State} {m : MethodId} {args : Array Value} {below : List Frame} {meth : Method} {c : Code} {cells slots : Nat} {Q : State → Prop} {cc : ByteArray} {nL : Nat} {ret : Option FieldType} {g : Gl} {A : Nat → Prop} {S : St} {pc : Nat} {lv : List (Nat × Value)} {st : List Value} (cx : Cx p s m args meth c cc nL ret RX6 g A) {i : Nat} (hk : kd g i = 6) (hdg : decode cc pc = .ok (.getfield 34, 3)) (kk : WA p l e R s m args below meth c cells slots Q nL g A S (pc + 3) lv (.int (S.1 i 0) :: st)) : WA p l e R s m args below meth c cells slots Q nL g A S pc lv (.ref (ad g i) :: st) := wa_get cx hk (by decide) (cell_eq6 (kd_lt hk (by decide)).2) rfl inW6 (k := 0) (by decide) gl_X6_34 rfl hdg kk
theorem pf_X6_34 {p : Program} {l : Launch} {e : Env} {R : Room} {s : State} {m : MethodId} {args : Array Value} {below : List Frame} {meth : Method} {c : Code} {cells slots : Nat} {Q : State → Prop} {cc : ByteArray} {nL : Nat} {ret : Option FieldType} {g : Gl} {A : Nat → Prop} {S : St} {pc : Nat} {lv : List (Nat × Value)} {st : List Value} (cx : Cx p s m args meth c cc nL ret RX6 g A) {i : Nat} {x : Int32} (hk : kd g i = 6) (hdg : decode cc pc = .ok (.putfield 34, 3)) (kk : WA p l e R s m args below meth c cells slots Q nL g A (pI S i 0 x) (pc + 3) lv st) : WA p l e R s m args below meth c cells slots Q nL g A S pc lv (.int x :: .ref (ad g i) :: st) := wa_put (S2 := pI S i 0 x) (ty := .int) tyX6 hk (by decide) (cell_eq6 (kd_lt hk (by decide)).2) (by rw [cell_eq6 (kd_lt hk (by decide)).2]; unfold pI; dsimp only; rw [up2_at]; rfl) cell_pI rfl inW6 tyX6_ok nmX6 (k := 0) (by decide) gl_X6_34 rfl (by decide +kernel) rfl rfl (Nat.le_of_ble_eq_true rfl) hdg (cx := cx) kk
theorem gl_X9_117 : Cond.fieldLink RX9 117 (TX6 0).1 (TX6 0).2.1 (TX6 0).2.2.1 ∈ lw_g := (lwm 90 (by decide +kernel) rfl)
theorem gf_X9_117 {p : Program} {l : Launch} {e : Env} {R : Room} {s : State} {m : MethodId} {args : Array Value} {below : List Frame} {meth : Method} {c : Code} {cells slots : Nat} {Q : State → Prop} {cc : ByteArray} {nL : Nat} {ret : Option FieldType} {g : Gl} {A : Nat → Prop} {S : St} {pc : Nat} {lv : List (Nat × Value)} {st : List Value} (cx : Cx p s m args meth c cc nL ret RX9 g A) {i : Nat} (hk : kd g i = 6) (hdg : decode cc pc = .ok (.getfield 117, 3)) (kk : WA p l e R s m args below meth c cells slots Q nL g A S (pc + 3) lv (.int (S.1 i 0) :: st)) : WA p l e R s m args below meth c cells slots Q nL g A S pc lv (.ref (ad g i) :: st) := wa_get cx hk (by decide) (cell_eq6 (kd_lt hk (by decide)).2) rfl inW6 (k := 0) (by decide) gl_X9_117 rfl hdg kk
theorem pf_X9_117 {p : Program} {l : Launch} {e : Env} {R : Room} {s : State} {m : MethodId} {args : Array Value} {below : List Frame} {meth : Method} {c : Code} {cells slots : Nat} {Q : State → Prop} {cc : ByteArray} {nL : Nat} {ret : Option FieldType} {g : Gl} {A : Nat → Prop} {S : St} {pc : Nat} {lv : List (Nat × Value)} {st : List Value} (cx : Cx p s m args meth c cc nL ret RX9 g A) {i : Nat} {x : Int32} (hk : kd g i = 6) (hdg : decode cc pc = .ok (.putfield 117, 3)) (kk : WA p l e R s m args below meth c cells slots Q nL g A (pI S i 0 x) (pc + 3) lv st) : WA p l e R s m args below meth c cells slots Q nL g A S pc lv (.int x :: .ref (ad g i) :: st) := wa_put (S2 := pI S i 0 x) (ty := .int) tyX6 hk (by decide) (cell_eq6 (kd_lt hk (by decide)).2) (by rw [cell_eq6 (kd_lt hk (by decide)).2]; unfold pI; dsimp only; rw [up2_at]; rfl) cell_pI rfl inW6 tyX6_ok nmX6 (k := 0) (by decide) gl_X9_117 rfl (by decide +kernel) rfl rfl (Nat.le_of_ble_eq_true rfl) hdg (cx := cx) kk
theorem gl_X6_38 : Cond.fieldLink RX6 38 (TX6 1).1 (TX6 1).2.1 (TX6 1).2.2.1 ∈ lw_g := (lwm 91 (by decide +kernel) rfl)
theorem gf_X6_38 {p : Program} {l : Launch} {e : Env} {R : Room} {s : State} {m : MethodId} {args : Array Value} {below : List Frame} {meth : Method} {c : Code} {cells slots : Nat} {Q : State → Prop} {cc : ByteArray} {nL : Nat} {ret : Option FieldType} {g : Gl} {A : Nat → Prop} {S : St} {pc : Nat} {lv : List (Nat × Value)} {st : List Value} (cx : Cx p s m args meth c cc nL ret RX6 g A) {i : Nat} (hk : kd g i = 6) (hdg : decode cc pc = .ok (.getfield 38, 3)) (kk : WA p l e R s m args below meth c cells slots Q nL g A S (pc + 3) lv (.int (S.1 i 1) :: st)) : WA p l e R s m args below meth c cells slots Q nL g A S pc lv (.ref (ad g i) :: st) := wa_get cx hk (by decide) (cell_eq6 (kd_lt hk (by decide)).2) rfl inW6 (k := 1) (by decide) gl_X6_38 rfl hdg kk
theorem pf_X6_38 {p : Program} {l : Launch} {e : Env} {R : Room} {s : State} {m : MethodId} {args : Array Value} {below : List Frame} {meth : Method} {c : Code} {cells slots : Nat} {Q : State → Prop} {cc : ByteArray} {nL : Nat} {ret : Option FieldType} {g : Gl} {A : Nat → Prop} {S : St} {pc : Nat} {lv : List (Nat × Value)} {st : List Value} (cx : Cx p s m args meth c cc nL ret RX6 g A) {i : Nat} {x : Int32} (hk : kd g i = 6) (hdg : decode cc pc = .ok (.putfield 38, 3)) (kk : WA p l e R s m args below meth c cells slots Q nL g A (pI S i 1 x) (pc + 3) lv st) : WA p l e R s m args below meth c cells slots Q nL g A S pc lv (.int x :: .ref (ad g i) :: st) := wa_put (S2 := pI S i 1 x) (ty := .int) tyX6 hk (by decide) (cell_eq6 (kd_lt hk (by decide)).2) (by rw [cell_eq6 (kd_lt hk (by decide)).2]; unfold pI; dsimp only; rw [up2_at]; rfl) cell_pI rfl inW6 tyX6_ok nmX6 (k := 1) (by decide) gl_X6_38 rfl (by decide +kernel) rfl rfl (Nat.le_of_ble_eq_true rfl) hdg (cx := cx) kk
theorem gl_X0_50 : Cond.fieldLink RX0 50 (TX6 1).1 (TX6 1).2.1 (TX6 1).2.2.1 ∈ lw_g := (lwm 92 (by decide +kernel) rfl)
theorem gf_X0_50 {p : Program} {l : Launch} {e : Env} {R : Room} {s : State} {m : MethodId} {args : Array Value} {below : List Frame} {meth : Method} {c : Code} {cells slots : Nat} {Q : State → Prop} {cc : ByteArray} {nL : Nat} {ret : Option FieldType} {g : Gl} {A : Nat → Prop} {S : St} {pc : Nat} {lv : List (Nat × Value)} {st : List Value} (cx : Cx p s m args meth c cc nL ret RX0 g A) {i : Nat} (hk : kd g i = 6) (hdg : decode cc pc = .ok (.getfield 50, 3)) (kk : WA p l e R s m args below meth c cells slots Q nL g A S (pc + 3) lv (.int (S.1 i 1) :: st)) : WA p l e R s m args below meth c cells slots Q nL g A S pc lv (.ref (ad g i) :: st) := wa_get cx hk (by decide) (cell_eq6 (kd_lt hk (by decide)).2) rfl inW6 (k := 1) (by decide) gl_X0_50 rfl hdg kk
theorem pf_X0_50 {p : Program} {l : Launch} {e : Env} {R : Room} {s : State} {m : MethodId} {args : Array Value} {below : List Frame} {meth : Method} {c : Code} {cells slots : Nat} {Q : State → Prop} {cc : ByteArray} {nL : Nat} {ret : Option FieldType} {g : Gl} {A : Nat → Prop} {S : St} {pc : Nat} {lv : List (Nat × Value)} {st : List Value} (cx : Cx p s m args meth c cc nL ret RX0 g A) {i : Nat} {x : Int32} (hk : kd g i = 6) (hdg : decode cc pc = .ok (.putfield 50, 3)) (kk : WA p l e R s m args below meth c cells slots Q nL g A (pI S i 1 x) (pc + 3) lv st) : WA p l e R s m args below meth c cells slots Q nL g A S pc lv (.int x :: .ref (ad g i) :: st) := wa_put (S2 := pI S i 1 x) (ty := .int) tyX6 hk (by decide) (cell_eq6 (kd_lt hk (by decide)).2) (by rw [cell_eq6 (kd_lt hk (by decide)).2]; unfold pI; dsimp only; rw [up2_at]; rfl) cell_pI rfl inW6 tyX6_ok nmX6 (k := 1) (by decide) gl_X0_50 rfl (by decide +kernel) rfl rfl (Nat.le_of_ble_eq_true rfl) hdg (cx := cx) kk
theorem gl_X9_138 : Cond.fieldLink RX9 138 (TX6 1).1 (TX6 1).2.1 (TX6 1).2.2.1 ∈ lw_g := (lwm 93 (by decide +kernel) rfl)
theorem gf_X9_138 {p : Program} {l : Launch} {e : Env} {R : Room} {s : State} {m : MethodId} {args : Array Value} {below : List Frame} {meth : Method} {c : Code} {cells slots : Nat} {Q : State → Prop} {cc : ByteArray} {nL : Nat} {ret : Option FieldType} {g : Gl} {A : Nat → Prop} {S : St} {pc : Nat} {lv : List (Nat × Value)} {st : List Value} (cx : Cx p s m args meth c cc nL ret RX9 g A) {i : Nat} (hk : kd g i = 6) (hdg : decode cc pc = .ok (.getfield 138, 3)) (kk : WA p l e R s m args below meth c cells slots Q nL g A S (pc + 3) lv (.int (S.1 i 1) :: st)) : WA p l e R s m args below meth c cells slots Q nL g A S pc lv (.ref (ad g i) :: st) := wa_get cx hk (by decide) (cell_eq6 (kd_lt hk (by decide)).2) rfl inW6 (k := 1) (by decide) gl_X9_138 rfl hdg kk
theorem pf_X9_138 {p : Program} {l : Launch} {e : Env} {R : Room} {s : State} {m : MethodId} {args : Array Value} {below : List Frame} {meth : Method} {c : Code} {cells slots : Nat} {Q : State → Prop} {cc : ByteArray} {nL : Nat} {ret : Option FieldType} {g : Gl} {A : Nat → Prop} {S : St} {pc : Nat} {lv : List (Nat × Value)} {st : List Value} (cx : Cx p s m args meth c cc nL ret RX9 g A) {i : Nat} {x : Int32} (hk : kd g i = 6) (hdg : decode cc pc = .ok (.putfield 138, 3)) (kk : WA p l e R s m args below meth c cells slots Q nL g A (pI S i 1 x) (pc + 3) lv st) : WA p l e R s m args below meth c cells slots Q nL g A S pc lv (.int x :: .ref (ad g i) :: st) := wa_put (S2 := pI S i 1 x) (ty := .int) tyX6 hk (by decide) (cell_eq6 (kd_lt hk (by decide)).2) (by rw [cell_eq6 (kd_lt hk (by decide)).2]; unfold pI; dsimp only; rw [up2_at]; rfl) cell_pI rfl inW6 tyX6_ok nmX6 (k := 1) (by decide) gl_X9_138 rfl (by decide +kernel) rfl rfl (Nat.le_of_ble_eq_true rfl) hdg (cx := cx) kk
theorem gl_X6_9 : Cond.fieldLink RX6 9 (TX6 2).1 (TX6 2).2.1 (TX6 2).2.2.1 ∈ lw_g := (lwm 94 (by decide +kernel) rfl)
theorem gf_X6_9 {p : Program} {l : Launch} {e : Env} {R : Room} {s : State} {m : MethodId} {args : Array Value} {below : List Frame} {meth : Method} {c : Code} {cells slots : Nat} {Q : State → Prop} {cc : ByteArray} {nL : Nat} {ret : Option FieldType} {g : Gl} {A : Nat → Prop} {S : St} {pc : Nat} {lv : List (Nat × Value)} {st : List Value} (cx : Cx p s m args meth c cc nL ret RX6 g A) {i : Nat} (hk : kd g i = 6) (hdg : decode cc pc = .ok (.getfield 9, 3)) (kk : WA p l e R s m args below meth c cells slots Q nL g A S (pc + 3) lv (.ref (ad g (i + 1)) :: st)) : WA p l e R s m args below meth c cells slots Q nL g A S pc lv (.ref (ad g i) :: st) := wa_get cx hk (by decide) (cell_eq6 (kd_lt hk (by decide)).2) rfl inW6 (k := 2) (by decide) gl_X6_9 rfl hdg kk
theorem gl_X0_54 : Cond.fieldLink RX0 54 (TX6 2).1 (TX6 2).2.1 (TX6 2).2.2.1 ∈ lw_g := (lwm 95 (by decide +kernel) rfl)
theorem gf_X0_54 {p : Program} {l : Launch} {e : Env} {R : Room} {s : State} {m : MethodId} {args : Array Value} {below : List Frame} {meth : Method} {c : Code} {cells slots : Nat} {Q : State → Prop} {cc : ByteArray} {nL : Nat} {ret : Option FieldType} {g : Gl} {A : Nat → Prop} {S : St} {pc : Nat} {lv : List (Nat × Value)} {st : List Value} (cx : Cx p s m args meth c cc nL ret RX0 g A) {i : Nat} (hk : kd g i = 6) (hdg : decode cc pc = .ok (.getfield 54, 3)) (kk : WA p l e R s m args below meth c cells slots Q nL g A S (pc + 3) lv (.ref (ad g (i + 1)) :: st)) : WA p l e R s m args below meth c cells slots Q nL g A S pc lv (.ref (ad g i) :: st) := wa_get cx hk (by decide) (cell_eq6 (kd_lt hk (by decide)).2) rfl inW6 (k := 2) (by decide) gl_X0_54 rfl hdg kk
theorem gl_X9_152 : Cond.fieldLink RX9 152 (TX6 2).1 (TX6 2).2.1 (TX6 2).2.2.1 ∈ lw_g := (lwm 96 (by decide +kernel) rfl)
theorem gf_X9_152 {p : Program} {l : Launch} {e : Env} {R : Room} {s : State} {m : MethodId} {args : Array Value} {below : List Frame} {meth : Method} {c : Code} {cells slots : Nat} {Q : State → Prop} {cc : ByteArray} {nL : Nat} {ret : Option FieldType} {g : Gl} {A : Nat → Prop} {S : St} {pc : Nat} {lv : List (Nat × Value)} {st : List Value} (cx : Cx p s m args meth c cc nL ret RX9 g A) {i : Nat} (hk : kd g i = 6) (hdg : decode cc pc = .ok (.getfield 152, 3)) (kk : WA p l e R s m args below meth c cells slots Q nL g A S (pc + 3) lv (.ref (ad g (i + 1)) :: st)) : WA p l e R s m args below meth c cells slots Q nL g A S pc lv (.ref (ad g i) :: st) := wa_get cx hk (by decide) (cell_eq6 (kd_lt hk (by decide)).2) rfl inW6 (k := 2) (by decide) gl_X9_152 rfl hdg kk
theorem gl_X6_13 : Cond.fieldLink RX6 13 (TX6 3).1 (TX6 3).2.1 (TX6 3).2.2.1 ∈ lw_g := (lwm 97 (by decide +kernel) rfl)
theorem gf_X6_13 {p : Program} {l : Launch} {e : Env} {R : Room} {s : State} {m : MethodId} {args : Array Value} {below : List Frame} {meth : Method} {c : Code} {cells slots : Nat} {Q : State → Prop} {cc : ByteArray} {nL : Nat} {ret : Option FieldType} {g : Gl} {A : Nat → Prop} {S : St} {pc : Nat} {lv : List (Nat × Value)} {st : List Value} (cx : Cx p s m args meth c cc nL ret RX6 g A) {i : Nat} (hk : kd g i = 6) (hdg : decode cc pc = .ok (.getfield 13, 3)) (kk : WA p l e R s m args below meth c cells slots Q nL g A S (pc + 3) lv (.ref (ad g (i + 2)) :: st)) : WA p l e R s m args below meth c cells slots Q nL g A S pc lv (.ref (ad g i) :: st) := wa_get cx hk (by decide) (cell_eq6 (kd_lt hk (by decide)).2) rfl inW6 (k := 3) (by decide) gl_X6_13 rfl hdg kk
theorem gl_X0_72 : Cond.fieldLink RX0 72 (TX6 3).1 (TX6 3).2.1 (TX6 3).2.2.1 ∈ lw_g := (lwm 98 (by decide +kernel) rfl)
theorem gf_X0_72 {p : Program} {l : Launch} {e : Env} {R : Room} {s : State} {m : MethodId} {args : Array Value} {below : List Frame} {meth : Method} {c : Code} {cells slots : Nat} {Q : State → Prop} {cc : ByteArray} {nL : Nat} {ret : Option FieldType} {g : Gl} {A : Nat → Prop} {S : St} {pc : Nat} {lv : List (Nat × Value)} {st : List Value} (cx : Cx p s m args meth c cc nL ret RX0 g A) {i : Nat} (hk : kd g i = 6) (hdg : decode cc pc = .ok (.getfield 72, 3)) (kk : WA p l e R s m args below meth c cells slots Q nL g A S (pc + 3) lv (.ref (ad g (i + 2)) :: st)) : WA p l e R s m args below meth c cells slots Q nL g A S pc lv (.ref (ad g i) :: st) := wa_get cx hk (by decide) (cell_eq6 (kd_lt hk (by decide)).2) rfl inW6 (k := 3) (by decide) gl_X0_72 rfl hdg kk
theorem gl_X6_16 : Cond.fieldLink RX6 16 (TX6 4).1 (TX6 4).2.1 (TX6 4).2.2.1 ∈ lw_g := (lwm 99 (by decide +kernel) rfl)
theorem gf_X6_16 {p : Program} {l : Launch} {e : Env} {R : Room} {s : State} {m : MethodId} {args : Array Value} {below : List Frame} {meth : Method} {c : Code} {cells slots : Nat} {Q : State → Prop} {cc : ByteArray} {nL : Nat} {ret : Option FieldType} {g : Gl} {A : Nat → Prop} {S : St} {pc : Nat} {lv : List (Nat × Value)} {st : List Value} (cx : Cx p s m args meth c cc nL ret RX6 g A) {i : Nat} (hk : kd g i = 6) (hdg : decode cc pc = .ok (.getfield 16, 3)) (kk : WA p l e R s m args below meth c cells slots Q nL g A S (pc + 3) lv (.ref (ad g (i + 3)) :: st)) : WA p l e R s m args below meth c cells slots Q nL g A S pc lv (.ref (ad g i) :: st) := wa_get cx hk (by decide) (cell_eq6 (kd_lt hk (by decide)).2) rfl inW6 (k := 4) (by decide) gl_X6_16 rfl hdg kk
theorem gl_X0_73 : Cond.fieldLink RX0 73 (TX6 4).1 (TX6 4).2.1 (TX6 4).2.2.1 ∈ lw_g := (lwm 100 (by decide +kernel) rfl)
theorem gf_X0_73 {p : Program} {l : Launch} {e : Env} {R : Room} {s : State} {m : MethodId} {args : Array Value} {below : List Frame} {meth : Method} {c : Code} {cells slots : Nat} {Q : State → Prop} {cc : ByteArray} {nL : Nat} {ret : Option FieldType} {g : Gl} {A : Nat → Prop} {S : St} {pc : Nat} {lv : List (Nat × Value)} {st : List Value} (cx : Cx p s m args meth c cc nL ret RX0 g A) {i : Nat} (hk : kd g i = 6) (hdg : decode cc pc = .ok (.getfield 73, 3)) (kk : WA p l e R s m args below meth c cells slots Q nL g A S (pc + 3) lv (.ref (ad g (i + 3)) :: st)) : WA p l e R s m args below meth c cells slots Q nL g A S pc lv (.ref (ad g i) :: st) := wa_get cx hk (by decide) (cell_eq6 (kd_lt hk (by decide)).2) rfl inW6 (k := 4) (by decide) gl_X0_73 rfl hdg kk
theorem gl_X6_19 : Cond.fieldLink RX6 19 (TX6 5).1 (TX6 5).2.1 (TX6 5).2.2.1 ∈ lw_g := (lwm 101 (by decide +kernel) rfl)
theorem gf_X6_19 {p : Program} {l : Launch} {e : Env} {R : Room} {s : State} {m : MethodId} {args : Array Value} {below : List Frame} {meth : Method} {c : Code} {cells slots : Nat} {Q : State → Prop} {cc : ByteArray} {nL : Nat} {ret : Option FieldType} {g : Gl} {A : Nat → Prop} {S : St} {pc : Nat} {lv : List (Nat × Value)} {st : List Value} (cx : Cx p s m args meth c cc nL ret RX6 g A) {i : Nat} (hk : kd g i = 6) (hdg : decode cc pc = .ok (.getfield 19, 3)) (kk : WA p l e R s m args below meth c cells slots Q nL g A S (pc + 3) lv (.ref (ad g (i + 4)) :: st)) : WA p l e R s m args below meth c cells slots Q nL g A S pc lv (.ref (ad g i) :: st) := wa_get cx hk (by decide) (cell_eq6 (kd_lt hk (by decide)).2) rfl inW6 (k := 5) (by decide) gl_X6_19 rfl hdg kk
theorem gl_X0_74 : Cond.fieldLink RX0 74 (TX6 5).1 (TX6 5).2.1 (TX6 5).2.2.1 ∈ lw_g := (lwm 102 (by decide +kernel) rfl)
theorem gf_X0_74 {p : Program} {l : Launch} {e : Env} {R : Room} {s : State} {m : MethodId} {args : Array Value} {below : List Frame} {meth : Method} {c : Code} {cells slots : Nat} {Q : State → Prop} {cc : ByteArray} {nL : Nat} {ret : Option FieldType} {g : Gl} {A : Nat → Prop} {S : St} {pc : Nat} {lv : List (Nat × Value)} {st : List Value} (cx : Cx p s m args meth c cc nL ret RX0 g A) {i : Nat} (hk : kd g i = 6) (hdg : decode cc pc = .ok (.getfield 74, 3)) (kk : WA p l e R s m args below meth c cells slots Q nL g A S (pc + 3) lv (.ref (ad g (i + 4)) :: st)) : WA p l e R s m args below meth c cells slots Q nL g A S pc lv (.ref (ad g i) :: st) := wa_get cx hk (by decide) (cell_eq6 (kd_lt hk (by decide)).2) rfl inW6 (k := 5) (by decide) gl_X0_74 rfl hdg kk
theorem gl_X6_22 : Cond.fieldLink RX6 22 (TX6 6).1 (TX6 6).2.1 (TX6 6).2.2.1 ∈ lw_g := (lwm 103 (by decide +kernel) rfl)
theorem gf_X6_22 {p : Program} {l : Launch} {e : Env} {R : Room} {s : State} {m : MethodId} {args : Array Value} {below : List Frame} {meth : Method} {c : Code} {cells slots : Nat} {Q : State → Prop} {cc : ByteArray} {nL : Nat} {ret : Option FieldType} {g : Gl} {A : Nat → Prop} {S : St} {pc : Nat} {lv : List (Nat × Value)} {st : List Value} (cx : Cx p s m args meth c cc nL ret RX6 g A) {i : Nat} (hk : kd g i = 6) (hdg : decode cc pc = .ok (.getfield 22, 3)) (kk : WA p l e R s m args below meth c cells slots Q nL g A S (pc + 3) lv (.ref (ad g (i + 5)) :: st)) : WA p l e R s m args below meth c cells slots Q nL g A S pc lv (.ref (ad g i) :: st) := wa_get cx hk (by decide) (cell_eq6 (kd_lt hk (by decide)).2) rfl inW6 (k := 6) (by decide) gl_X6_22 rfl hdg kk
theorem gl_X0_75 : Cond.fieldLink RX0 75 (TX6 6).1 (TX6 6).2.1 (TX6 6).2.2.1 ∈ lw_g := (lwm 104 (by decide +kernel) rfl)
theorem gf_X0_75 {p : Program} {l : Launch} {e : Env} {R : Room} {s : State} {m : MethodId} {args : Array Value} {below : List Frame} {meth : Method} {c : Code} {cells slots : Nat} {Q : State → Prop} {cc : ByteArray} {nL : Nat} {ret : Option FieldType} {g : Gl} {A : Nat → Prop} {S : St} {pc : Nat} {lv : List (Nat × Value)} {st : List Value} (cx : Cx p s m args meth c cc nL ret RX0 g A) {i : Nat} (hk : kd g i = 6) (hdg : decode cc pc = .ok (.getfield 75, 3)) (kk : WA p l e R s m args below meth c cells slots Q nL g A S (pc + 3) lv (.ref (ad g (i + 5)) :: st)) : WA p l e R s m args below meth c cells slots Q nL g A S pc lv (.ref (ad g i) :: st) := wa_get cx hk (by decide) (cell_eq6 (kd_lt hk (by decide)).2) rfl inW6 (k := 6) (by decide) gl_X0_75 rfl hdg kk
theorem gl_X6_25 : Cond.fieldLink RX6 25 (TX6 7).1 (TX6 7).2.1 (TX6 7).2.2.1 ∈ lw_g := (lwm 105 (by decide +kernel) rfl)
theorem gf_X6_25 {p : Program} {l : Launch} {e : Env} {R : Room} {s : State} {m : MethodId} {args : Array Value} {below : List Frame} {meth : Method} {c : Code} {cells slots : Nat} {Q : State → Prop} {cc : ByteArray} {nL : Nat} {ret : Option FieldType} {g : Gl} {A : Nat → Prop} {S : St} {pc : Nat} {lv : List (Nat × Value)} {st : List Value} (cx : Cx p s m args meth c cc nL ret RX6 g A) {i : Nat} (hk : kd g i = 6) (hdg : decode cc pc = .ok (.getfield 25, 3)) (kk : WA p l e R s m args below meth c cells slots Q nL g A S (pc + 3) lv (.ref (ad g (i + 6)) :: st)) : WA p l e R s m args below meth c cells slots Q nL g A S pc lv (.ref (ad g i) :: st) := wa_get cx hk (by decide) (cell_eq6 (kd_lt hk (by decide)).2) rfl inW6 (k := 7) (by decide) gl_X6_25 rfl hdg kk
theorem gl_X0_76 : Cond.fieldLink RX0 76 (TX6 7).1 (TX6 7).2.1 (TX6 7).2.2.1 ∈ lw_g := (lwm 106 (by decide +kernel) rfl)
theorem gf_X0_76 {p : Program} {l : Launch} {e : Env} {R : Room} {s : State} {m : MethodId} {args : Array Value} {below : List Frame} {meth : Method} {c : Code} {cells slots : Nat} {Q : State → Prop} {cc : ByteArray} {nL : Nat} {ret : Option FieldType} {g : Gl} {A : Nat → Prop} {S : St} {pc : Nat} {lv : List (Nat × Value)} {st : List Value} (cx : Cx p s m args meth c cc nL ret RX0 g A) {i : Nat} (hk : kd g i = 6) (hdg : decode cc pc = .ok (.getfield 76, 3)) (kk : WA p l e R s m args below meth c cells slots Q nL g A S (pc + 3) lv (.ref (ad g (i + 6)) :: st)) : WA p l e R s m args below meth c cells slots Q nL g A S pc lv (.ref (ad g i) :: st) := wa_get cx hk (by decide) (cell_eq6 (kd_lt hk (by decide)).2) rfl inW6 (k := 7) (by decide) gl_X0_76 rfl hdg kk
theorem gl_X6_28 : Cond.fieldLink RX6 28 (TX6 8).1 (TX6 8).2.1 (TX6 8).2.2.1 ∈ lw_g := (lwm 107 (by decide +kernel) rfl)
theorem gf_X6_28 {p : Program} {l : Launch} {e : Env} {R : Room} {s : State} {m : MethodId} {args : Array Value} {below : List Frame} {meth : Method} {c : Code} {cells slots : Nat} {Q : State → Prop} {cc : ByteArray} {nL : Nat} {ret : Option FieldType} {g : Gl} {A : Nat → Prop} {S : St} {pc : Nat} {lv : List (Nat × Value)} {st : List Value} (cx : Cx p s m args meth c cc nL ret RX6 g A) {i : Nat} (hk : kd g i = 6) (hdg : decode cc pc = .ok (.getfield 28, 3)) (kk : WA p l e R s m args below meth c cells slots Q nL g A S (pc + 3) lv (.ref (ad g (i + 7)) :: st)) : WA p l e R s m args below meth c cells slots Q nL g A S pc lv (.ref (ad g i) :: st) := wa_get cx hk (by decide) (cell_eq6 (kd_lt hk (by decide)).2) rfl inW6 (k := 8) (by decide) gl_X6_28 rfl hdg kk
theorem gl_X0_55 : Cond.fieldLink RX0 55 (TX6 8).1 (TX6 8).2.1 (TX6 8).2.2.1 ∈ lw_g := (lwm 108 (by decide +kernel) rfl)
theorem gf_X0_55 {p : Program} {l : Launch} {e : Env} {R : Room} {s : State} {m : MethodId} {args : Array Value} {below : List Frame} {meth : Method} {c : Code} {cells slots : Nat} {Q : State → Prop} {cc : ByteArray} {nL : Nat} {ret : Option FieldType} {g : Gl} {A : Nat → Prop} {S : St} {pc : Nat} {lv : List (Nat × Value)} {st : List Value} (cx : Cx p s m args meth c cc nL ret RX0 g A) {i : Nat} (hk : kd g i = 6) (hdg : decode cc pc = .ok (.getfield 55, 3)) (kk : WA p l e R s m args below meth c cells slots Q nL g A S (pc + 3) lv (.ref (ad g (i + 7)) :: st)) : WA p l e R s m args below meth c cells slots Q nL g A S pc lv (.ref (ad g i) :: st) := wa_get cx hk (by decide) (cell_eq6 (kd_lt hk (by decide)).2) rfl inW6 (k := 8) (by decide) gl_X0_55 rfl hdg kk
theorem gl_X6_31 : Cond.fieldLink RX6 31 (TX6 9).1 (TX6 9).2.1 (TX6 9).2.2.1 ∈ lw_g := (lwm 109 (by decide +kernel) rfl)
theorem gf_X6_31 {p : Program} {l : Launch} {e : Env} {R : Room} {s : State} {m : MethodId} {args : Array Value} {below : List Frame} {meth : Method} {c : Code} {cells slots : Nat} {Q : State → Prop} {cc : ByteArray} {nL : Nat} {ret : Option FieldType} {g : Gl} {A : Nat → Prop} {S : St} {pc : Nat} {lv : List (Nat × Value)} {st : List Value} (cx : Cx p s m args meth c cc nL ret RX6 g A) {i : Nat} (hk : kd g i = 6) (hdg : decode cc pc = .ok (.getfield 31, 3)) (kk : WA p l e R s m args below meth c cells slots Q nL g A S (pc + 3) lv (.ref (ad g (i + 8)) :: st)) : WA p l e R s m args below meth c cells slots Q nL g A S pc lv (.ref (ad g i) :: st) := wa_get cx hk (by decide) (cell_eq6 (kd_lt hk (by decide)).2) rfl inW6 (k := 9) (by decide) gl_X6_31 rfl hdg kk
theorem gl_X0_58 : Cond.fieldLink RX0 58 (TX6 9).1 (TX6 9).2.1 (TX6 9).2.2.1 ∈ lw_g := (lwm 110 (by decide +kernel) rfl)
theorem gf_X0_58 {p : Program} {l : Launch} {e : Env} {R : Room} {s : State} {m : MethodId} {args : Array Value} {below : List Frame} {meth : Method} {c : Code} {cells slots : Nat} {Q : State → Prop} {cc : ByteArray} {nL : Nat} {ret : Option FieldType} {g : Gl} {A : Nat → Prop} {S : St} {pc : Nat} {lv : List (Nat × Value)} {st : List Value} (cx : Cx p s m args meth c cc nL ret RX0 g A) {i : Nat} (hk : kd g i = 6) (hdg : decode cc pc = .ok (.getfield 58, 3)) (kk : WA p l e R s m args below meth c cells slots Q nL g A S (pc + 3) lv (.ref (ad g (i + 8)) :: st)) : WA p l e R s m args below meth c cells slots Q nL g A S pc lv (.ref (ad g i) :: st) := wa_get cx hk (by decide) (cell_eq6 (kd_lt hk (by decide)).2) rfl inW6 (k := 9) (by decide) gl_X0_58 rfl hdg kk
theorem gl_X2_16 : Cond.fieldLink RX2 16 (TX2 0).1 (TX2 0).2.1 (TX2 0).2.2.1 ∈ lw_g := (lwm 132 (by decide +kernel) rfl)
theorem gf_X2_16 {p : Program} {l : Launch} {e : Env} {R : Room} {s : State} {m : MethodId} {args : Array Value} {below : List Frame} {meth : Method} {c : Code} {cells slots : Nat} {Q : State → Prop} {cc : ByteArray} {nL : Nat} {ret : Option FieldType} {g : Gl} {A : Nat → Prop} {S : St} {pc : Nat} {lv : List (Nat × Value)} {st : List Value} (cx : Cx p s m args meth c cc nL ret RX2 g A) {i : Nat} (hk : kd g i = 2) (hdg : decode cc pc = .ok (.getfield 16, 3)) (kk : WA p l e R s m args below meth c cells slots Q nL g A S (pc + 3) lv (.int (S.1 i 0) :: st)) : WA p l e R s m args below meth c cells slots Q nL g A S pc lv (.ref (ad g i) :: st) := wa_get cx hk (by decide) (cell_eq2 (kd_lt hk (by decide)).2) rfl inW2 (k := 0) (by decide) gl_X2_16 rfl hdg kk
theorem pf_X2_16 {p : Program} {l : Launch} {e : Env} {R : Room} {s : State} {m : MethodId} {args : Array Value} {below : List Frame} {meth : Method} {c : Code} {cells slots : Nat} {Q : State → Prop} {cc : ByteArray} {nL : Nat} {ret : Option FieldType} {g : Gl} {A : Nat → Prop} {S : St} {pc : Nat} {lv : List (Nat × Value)} {st : List Value} (cx : Cx p s m args meth c cc nL ret RX2 g A) {i : Nat} {x : Int32} (hk : kd g i = 2) (hdg : decode cc pc = .ok (.putfield 16, 3)) (kk : WA p l e R s m args below meth c cells slots Q nL g A (pI S i 0 x) (pc + 3) lv st) : WA p l e R s m args below meth c cells slots Q nL g A S pc lv (.int x :: .ref (ad g i) :: st) := wa_put (S2 := pI S i 0 x) (ty := .int) tyX2 hk (by decide) (cell_eq2 (kd_lt hk (by decide)).2) (by rw [cell_eq2 (kd_lt hk (by decide)).2]; unfold pI; dsimp only; rw [up2_at]; rfl) cell_pI rfl inW2 tyX2_ok nmX2 (k := 0) (by decide) gl_X2_16 rfl (by decide +kernel) rfl rfl (Nat.le_of_ble_eq_true rfl) hdg (cx := cx) kk
theorem gl_X4_28 : Cond.fieldLink RX4 28 (TX2 0).1 (TX2 0).2.1 (TX2 0).2.2.1 ∈ lw_g := (lwm 133 (by decide +kernel) rfl)
theorem gf_X4_28 {p : Program} {l : Launch} {e : Env} {R : Room} {s : State} {m : MethodId} {args : Array Value} {below : List Frame} {meth : Method} {c : Code} {cells slots : Nat} {Q : State → Prop} {cc : ByteArray} {nL : Nat} {ret : Option FieldType} {g : Gl} {A : Nat → Prop} {S : St} {pc : Nat} {lv : List (Nat × Value)} {st : List Value} (cx : Cx p s m args meth c cc nL ret RX4 g A) {i : Nat} (hk : kd g i = 2) (hdg : decode cc pc = .ok (.getfield 28, 3)) (kk : WA p l e R s m args below meth c cells slots Q nL g A S (pc + 3) lv (.int (S.1 i 0) :: st)) : WA p l e R s m args below meth c cells slots Q nL g A S pc lv (.ref (ad g i) :: st) := wa_get cx hk (by decide) (cell_eq2 (kd_lt hk (by decide)).2) rfl inW2 (k := 0) (by decide) gl_X4_28 rfl hdg kk
theorem pf_X4_28 {p : Program} {l : Launch} {e : Env} {R : Room} {s : State} {m : MethodId} {args : Array Value} {below : List Frame} {meth : Method} {c : Code} {cells slots : Nat} {Q : State → Prop} {cc : ByteArray} {nL : Nat} {ret : Option FieldType} {g : Gl} {A : Nat → Prop} {S : St} {pc : Nat} {lv : List (Nat × Value)} {st : List Value} (cx : Cx p s m args meth c cc nL ret RX4 g A) {i : Nat} {x : Int32} (hk : kd g i = 2) (hdg : decode cc pc = .ok (.putfield 28, 3)) (kk : WA p l e R s m args below meth c cells slots Q nL g A (pI S i 0 x) (pc + 3) lv st) : WA p l e R s m args below meth c cells slots Q nL g A S pc lv (.int x :: .ref (ad g i) :: st) := wa_put (S2 := pI S i 0 x) (ty := .int) tyX2 hk (by decide) (cell_eq2 (kd_lt hk (by decide)).2) (by rw [cell_eq2 (kd_lt hk (by decide)).2]; unfold pI; dsimp only; rw [up2_at]; rfl) cell_pI rfl inW2 tyX2_ok nmX2 (k := 0) (by decide) gl_X4_28 rfl (by decide +kernel) rfl rfl (Nat.le_of_ble_eq_true rfl) hdg (cx := cx) kk
theorem gl_X1_42 : Cond.fieldLink RX1 42 (TX2 0).1 (TX2 0).2.1 (TX2 0).2.2.1 ∈ lw_g := (lwm 134 (by decide +kernel) rfl)
theorem gf_X1_42 {p : Program} {l : Launch} {e : Env} {R : Room} {s : State} {m : MethodId} {args : Array Value} {below : List Frame} {meth : Method} {c : Code} {cells slots : Nat} {Q : State → Prop} {cc : ByteArray} {nL : Nat} {ret : Option FieldType} {g : Gl} {A : Nat → Prop} {S : St} {pc : Nat} {lv : List (Nat × Value)} {st : List Value} (cx : Cx p s m args meth c cc nL ret RX1 g A) {i : Nat} (hk : kd g i = 2) (hdg : decode cc pc = .ok (.getfield 42, 3)) (kk : WA p l e R s m args below meth c cells slots Q nL g A S (pc + 3) lv (.int (S.1 i 0) :: st)) : WA p l e R s m args below meth c cells slots Q nL g A S pc lv (.ref (ad g i) :: st) := wa_get cx hk (by decide) (cell_eq2 (kd_lt hk (by decide)).2) rfl inW2 (k := 0) (by decide) gl_X1_42 rfl hdg kk
theorem pf_X1_42 {p : Program} {l : Launch} {e : Env} {R : Room} {s : State} {m : MethodId} {args : Array Value} {below : List Frame} {meth : Method} {c : Code} {cells slots : Nat} {Q : State → Prop} {cc : ByteArray} {nL : Nat} {ret : Option FieldType} {g : Gl} {A : Nat → Prop} {S : St} {pc : Nat} {lv : List (Nat × Value)} {st : List Value} (cx : Cx p s m args meth c cc nL ret RX1 g A) {i : Nat} {x : Int32} (hk : kd g i = 2) (hdg : decode cc pc = .ok (.putfield 42, 3)) (kk : WA p l e R s m args below meth c cells slots Q nL g A (pI S i 0 x) (pc + 3) lv st) : WA p l e R s m args below meth c cells slots Q nL g A S pc lv (.int x :: .ref (ad g i) :: st) := wa_put (S2 := pI S i 0 x) (ty := .int) tyX2 hk (by decide) (cell_eq2 (kd_lt hk (by decide)).2) (by rw [cell_eq2 (kd_lt hk (by decide)).2]; unfold pI; dsimp only; rw [up2_at]; rfl) cell_pI rfl inW2 tyX2_ok nmX2 (k := 0) (by decide) gl_X1_42 rfl (by decide +kernel) rfl rfl (Nat.le_of_ble_eq_true rfl) hdg (cx := cx) kk
theorem gl_X9_209 : Cond.fieldLink RX9 209 (TX2 0).1 (TX2 0).2.1 (TX2 0).2.2.1 ∈ lw_g := (lwm 135 (by decide +kernel) rfl)
theorem gf_X9_209 {p : Program} {l : Launch} {e : Env} {R : Room} {s : State} {m : MethodId} {args : Array Value} {below : List Frame} {meth : Method} {c : Code} {cells slots : Nat} {Q : State → Prop} {cc : ByteArray} {nL : Nat} {ret : Option FieldType} {g : Gl} {A : Nat → Prop} {S : St} {pc : Nat} {lv : List (Nat × Value)} {st : List Value} (cx : Cx p s m args meth c cc nL ret RX9 g A) {i : Nat} (hk : kd g i = 2) (hdg : decode cc pc = .ok (.getfield 209, 3)) (kk : WA p l e R s m args below meth c cells slots Q nL g A S (pc + 3) lv (.int (S.1 i 0) :: st)) : WA p l e R s m args below meth c cells slots Q nL g A S pc lv (.ref (ad g i) :: st) := wa_get cx hk (by decide) (cell_eq2 (kd_lt hk (by decide)).2) rfl inW2 (k := 0) (by decide) gl_X9_209 rfl hdg kk
theorem pf_X9_209 {p : Program} {l : Launch} {e : Env} {R : Room} {s : State} {m : MethodId} {args : Array Value} {below : List Frame} {meth : Method} {c : Code} {cells slots : Nat} {Q : State → Prop} {cc : ByteArray} {nL : Nat} {ret : Option FieldType} {g : Gl} {A : Nat → Prop} {S : St} {pc : Nat} {lv : List (Nat × Value)} {st : List Value} (cx : Cx p s m args meth c cc nL ret RX9 g A) {i : Nat} {x : Int32} (hk : kd g i = 2) (hdg : decode cc pc = .ok (.putfield 209, 3)) (kk : WA p l e R s m args below meth c cells slots Q nL g A (pI S i 0 x) (pc + 3) lv st) : WA p l e R s m args below meth c cells slots Q nL g A S pc lv (.int x :: .ref (ad g i) :: st) := wa_put (S2 := pI S i 0 x) (ty := .int) tyX2 hk (by decide) (cell_eq2 (kd_lt hk (by decide)).2) (by rw [cell_eq2 (kd_lt hk (by decide)).2]; unfold pI; dsimp only; rw [up2_at]; rfl) cell_pI rfl inW2 tyX2_ok nmX2 (k := 0) (by decide) gl_X9_209 rfl (by decide +kernel) rfl rfl (Nat.le_of_ble_eq_true rfl) hdg (cx := cx) kk
theorem gl_X2_20 : Cond.fieldLink RX2 20 (TX2 1).1 (TX2 1).2.1 (TX2 1).2.2.1 ∈ lw_g := (lwm 136 (by decide +kernel) rfl)
theorem gf_X2_20 {p : Program} {l : Launch} {e : Env} {R : Room} {s : State} {m : MethodId} {args : Array Value} {below : List Frame} {meth : Method} {c : Code} {cells slots : Nat} {Q : State → Prop} {cc : ByteArray} {nL : Nat} {ret : Option FieldType} {g : Gl} {A : Nat → Prop} {S : St} {pc : Nat} {lv : List (Nat × Value)} {st : List Value} (cx : Cx p s m args meth c cc nL ret RX2 g A) {i : Nat} (hk : kd g i = 2) (hdg : decode cc pc = .ok (.getfield 20, 3)) (kk : WA p l e R s m args below meth c cells slots Q nL g A S (pc + 3) lv (.int (S.1 i 1) :: st)) : WA p l e R s m args below meth c cells slots Q nL g A S pc lv (.ref (ad g i) :: st) := wa_get cx hk (by decide) (cell_eq2 (kd_lt hk (by decide)).2) rfl inW2 (k := 1) (by decide) gl_X2_20 rfl hdg kk
theorem pf_X2_20 {p : Program} {l : Launch} {e : Env} {R : Room} {s : State} {m : MethodId} {args : Array Value} {below : List Frame} {meth : Method} {c : Code} {cells slots : Nat} {Q : State → Prop} {cc : ByteArray} {nL : Nat} {ret : Option FieldType} {g : Gl} {A : Nat → Prop} {S : St} {pc : Nat} {lv : List (Nat × Value)} {st : List Value} (cx : Cx p s m args meth c cc nL ret RX2 g A) {i : Nat} {x : Int32} (hk : kd g i = 2) (hdg : decode cc pc = .ok (.putfield 20, 3)) (kk : WA p l e R s m args below meth c cells slots Q nL g A (pI S i 1 x) (pc + 3) lv st) : WA p l e R s m args below meth c cells slots Q nL g A S pc lv (.int x :: .ref (ad g i) :: st) := wa_put (S2 := pI S i 1 x) (ty := .int) tyX2 hk (by decide) (cell_eq2 (kd_lt hk (by decide)).2) (by rw [cell_eq2 (kd_lt hk (by decide)).2]; unfold pI; dsimp only; rw [up2_at]; rfl) cell_pI rfl inW2 tyX2_ok nmX2 (k := 1) (by decide) gl_X2_20 rfl (by decide +kernel) rfl rfl (Nat.le_of_ble_eq_true rfl) hdg (cx := cx) kk
theorem gl_X4_35 : Cond.fieldLink RX4 35 (TX2 1).1 (TX2 1).2.1 (TX2 1).2.2.1 ∈ lw_g := (lwm 137 (by decide +kernel) rfl)
theorem gf_X4_35 {p : Program} {l : Launch} {e : Env} {R : Room} {s : State} {m : MethodId} {args : Array Value} {below : List Frame} {meth : Method} {c : Code} {cells slots : Nat} {Q : State → Prop} {cc : ByteArray} {nL : Nat} {ret : Option FieldType} {g : Gl} {A : Nat → Prop} {S : St} {pc : Nat} {lv : List (Nat × Value)} {st : List Value} (cx : Cx p s m args meth c cc nL ret RX4 g A) {i : Nat} (hk : kd g i = 2) (hdg : decode cc pc = .ok (.getfield 35, 3)) (kk : WA p l e R s m args below meth c cells slots Q nL g A S (pc + 3) lv (.int (S.1 i 1) :: st)) : WA p l e R s m args below meth c cells slots Q nL g A S pc lv (.ref (ad g i) :: st) := wa_get cx hk (by decide) (cell_eq2 (kd_lt hk (by decide)).2) rfl inW2 (k := 1) (by decide) gl_X4_35 rfl hdg kk
theorem pf_X4_35 {p : Program} {l : Launch} {e : Env} {R : Room} {s : State} {m : MethodId} {args : Array Value} {below : List Frame} {meth : Method} {c : Code} {cells slots : Nat} {Q : State → Prop} {cc : ByteArray} {nL : Nat} {ret : Option FieldType} {g : Gl} {A : Nat → Prop} {S : St} {pc : Nat} {lv : List (Nat × Value)} {st : List Value} (cx : Cx p s m args meth c cc nL ret RX4 g A) {i : Nat} {x : Int32} (hk : kd g i = 2) (hdg : decode cc pc = .ok (.putfield 35, 3)) (kk : WA p l e R s m args below meth c cells slots Q nL g A (pI S i 1 x) (pc + 3) lv st) : WA p l e R s m args below meth c cells slots Q nL g A S pc lv (.int x :: .ref (ad g i) :: st) := wa_put (S2 := pI S i 1 x) (ty := .int) tyX2 hk (by decide) (cell_eq2 (kd_lt hk (by decide)).2) (by rw [cell_eq2 (kd_lt hk (by decide)).2]; unfold pI; dsimp only; rw [up2_at]; rfl) cell_pI rfl inW2 tyX2_ok nmX2 (k := 1) (by decide) gl_X4_35 rfl (by decide +kernel) rfl rfl (Nat.le_of_ble_eq_true rfl) hdg (cx := cx) kk
theorem gl_X1_106 : Cond.fieldLink RX1 106 (TX2 1).1 (TX2 1).2.1 (TX2 1).2.2.1 ∈ lw_g := (lwm 138 (by decide +kernel) rfl)
theorem gf_X1_106 {p : Program} {l : Launch} {e : Env} {R : Room} {s : State} {m : MethodId} {args : Array Value} {below : List Frame} {meth : Method} {c : Code} {cells slots : Nat} {Q : State → Prop} {cc : ByteArray} {nL : Nat} {ret : Option FieldType} {g : Gl} {A : Nat → Prop} {S : St} {pc : Nat} {lv : List (Nat × Value)} {st : List Value} (cx : Cx p s m args meth c cc nL ret RX1 g A) {i : Nat} (hk : kd g i = 2) (hdg : decode cc pc = .ok (.getfield 106, 3)) (kk : WA p l e R s m args below meth c cells slots Q nL g A S (pc + 3) lv (.int (S.1 i 1) :: st)) : WA p l e R s m args below meth c cells slots Q nL g A S pc lv (.ref (ad g i) :: st) := wa_get cx hk (by decide) (cell_eq2 (kd_lt hk (by decide)).2) rfl inW2 (k := 1) (by decide) gl_X1_106 rfl hdg kk
end
section
theorem pf_X1_106 {p : Program} {l : Launch} {e : Env} {R : Room} {s : State} {m : MethodId} {args : Array Value} {below : List Frame} {meth : Method} {c : Code} {cells slots : Nat} {Q : State → Prop} {cc : ByteArray} {nL : Nat} {ret : Option FieldType} {g : Gl} {A : Nat → Prop} {S : St} {pc : Nat} {lv : List (Nat × Value)} {st : List Value} (cx : Cx p s m args meth c cc nL ret RX1 g A) {i : Nat} {x : Int32} (hk : kd g i = 2) (hdg : decode cc pc = .ok (.putfield 106, 3)) (kk : WA p l e R s m args below meth c cells slots Q nL g A (pI S i 1 x) (pc + 3) lv st) : WA p l e R s m args below meth c cells slots Q nL g A S pc lv (.int x :: .ref (ad g i) :: st) := wa_put (S2 := pI S i 1 x) (ty := .int) tyX2 hk (by decide) (cell_eq2 (kd_lt hk (by decide)).2) (by rw [cell_eq2 (kd_lt hk (by decide)).2]; unfold pI; dsimp only; rw [up2_at]; rfl) cell_pI rfl inW2 tyX2_ok nmX2 (k := 1) (by decide) gl_X1_106 rfl (by decide +kernel) rfl rfl (Nat.le_of_ble_eq_true rfl) hdg (cx := cx) kk
theorem gl_X9_212 : Cond.fieldLink RX9 212 (TX2 1).1 (TX2 1).2.1 (TX2 1).2.2.1 ∈ lw_g := (lwm 139 (by decide +kernel) rfl)
theorem gf_X9_212 {p : Program} {l : Launch} {e : Env} {R : Room} {s : State} {m : MethodId} {args : Array Value} {below : List Frame} {meth : Method} {c : Code} {cells slots : Nat} {Q : State → Prop} {cc : ByteArray} {nL : Nat} {ret : Option FieldType} {g : Gl} {A : Nat → Prop} {S : St} {pc : Nat} {lv : List (Nat × Value)} {st : List Value} (cx : Cx p s m args meth c cc nL ret RX9 g A) {i : Nat} (hk : kd g i = 2) (hdg : decode cc pc = .ok (.getfield 212, 3)) (kk : WA p l e R s m args below meth c cells slots Q nL g A S (pc + 3) lv (.int (S.1 i 1) :: st)) : WA p l e R s m args below meth c cells slots Q nL g A S pc lv (.ref (ad g i) :: st) := wa_get cx hk (by decide) (cell_eq2 (kd_lt hk (by decide)).2) rfl inW2 (k := 1) (by decide) gl_X9_212 rfl hdg kk
theorem pf_X9_212 {p : Program} {l : Launch} {e : Env} {R : Room} {s : State} {m : MethodId} {args : Array Value} {below : List Frame} {meth : Method} {c : Code} {cells slots : Nat} {Q : State → Prop} {cc : ByteArray} {nL : Nat} {ret : Option FieldType} {g : Gl} {A : Nat → Prop} {S : St} {pc : Nat} {lv : List (Nat × Value)} {st : List Value} (cx : Cx p s m args meth c cc nL ret RX9 g A) {i : Nat} {x : Int32} (hk : kd g i = 2) (hdg : decode cc pc = .ok (.putfield 212, 3)) (kk : WA p l e R s m args below meth c cells slots Q nL g A (pI S i 1 x) (pc + 3) lv st) : WA p l e R s m args below meth c cells slots Q nL g A S pc lv (.int x :: .ref (ad g i) :: st) := wa_put (S2 := pI S i 1 x) (ty := .int) tyX2 hk (by decide) (cell_eq2 (kd_lt hk (by decide)).2) (by rw [cell_eq2 (kd_lt hk (by decide)).2]; unfold pI; dsimp only; rw [up2_at]; rfl) cell_pI rfl inW2 tyX2_ok nmX2 (k := 1) (by decide) gl_X9_212 rfl (by decide +kernel) rfl rfl (Nat.le_of_ble_eq_true rfl) hdg (cx := cx) kk
theorem gl_X9_95 : Cond.fieldLink RX9 95 (TX2 2).1 (TX2 2).2.1 (TX2 2).2.2.1 ∈ lw_g := (lwm 140 (by decide +kernel) rfl)
theorem gf_X9_95 {p : Program} {l : Launch} {e : Env} {R : Room} {s : State} {m : MethodId} {args : Array Value} {below : List Frame} {meth : Method} {c : Code} {cells slots : Nat} {Q : State → Prop} {cc : ByteArray} {nL : Nat} {ret : Option FieldType} {g : Gl} {A : Nat → Prop} {S : St} {pc : Nat} {lv : List (Nat × Value)} {st : List Value} (cx : Cx p s m args meth c cc nL ret RX9 g A) {i : Nat} (hk : kd g i = 2) (hdg : decode cc pc = .ok (.getfield 95, 3)) (kk : WA p l e R s m args below meth c cells slots Q nL g A S (pc + 3) lv (.int (S.1 i 2) :: st)) : WA p l e R s m args below meth c cells slots Q nL g A S pc lv (.ref (ad g i) :: st) := wa_get cx hk (by decide) (cell_eq2 (kd_lt hk (by decide)).2) rfl inW2 (k := 2) (by decide) gl_X9_95 rfl hdg kk
theorem pf_X9_95 {p : Program} {l : Launch} {e : Env} {R : Room} {s : State} {m : MethodId} {args : Array Value} {below : List Frame} {meth : Method} {c : Code} {cells slots : Nat} {Q : State → Prop} {cc : ByteArray} {nL : Nat} {ret : Option FieldType} {g : Gl} {A : Nat → Prop} {S : St} {pc : Nat} {lv : List (Nat × Value)} {st : List Value} (cx : Cx p s m args meth c cc nL ret RX9 g A) {i : Nat} {x : Int32} (hk : kd g i = 2) (hdg : decode cc pc = .ok (.putfield 95, 3)) (kk : WA p l e R s m args below meth c cells slots Q nL g A (pI S i 2 x) (pc + 3) lv st) : WA p l e R s m args below meth c cells slots Q nL g A S pc lv (.int x :: .ref (ad g i) :: st) := wa_put (S2 := pI S i 2 x) (ty := .int) tyX2 hk (by decide) (cell_eq2 (kd_lt hk (by decide)).2) (by rw [cell_eq2 (kd_lt hk (by decide)).2]; unfold pI; dsimp only; rw [up2_at]; rfl) cell_pI rfl inW2 tyX2_ok nmX2 (k := 2) (by decide) gl_X9_95 rfl (by decide +kernel) rfl rfl (Nat.le_of_ble_eq_true rfl) hdg (cx := cx) kk
theorem gl_X2_23 : Cond.fieldLink RX2 23 (TX2 2).1 (TX2 2).2.1 (TX2 2).2.2.1 ∈ lw_g := (lwm 141 (by decide +kernel) rfl)
theorem gf_X2_23 {p : Program} {l : Launch} {e : Env} {R : Room} {s : State} {m : MethodId} {args : Array Value} {below : List Frame} {meth : Method} {c : Code} {cells slots : Nat} {Q : State → Prop} {cc : ByteArray} {nL : Nat} {ret : Option FieldType} {g : Gl} {A : Nat → Prop} {S : St} {pc : Nat} {lv : List (Nat × Value)} {st : List Value} (cx : Cx p s m args meth c cc nL ret RX2 g A) {i : Nat} (hk : kd g i = 2) (hdg : decode cc pc = .ok (.getfield 23, 3)) (kk : WA p l e R s m args below meth c cells slots Q nL g A S (pc + 3) lv (.int (S.1 i 2) :: st)) : WA p l e R s m args below meth c cells slots Q nL g A S pc lv (.ref (ad g i) :: st) := wa_get cx hk (by decide) (cell_eq2 (kd_lt hk (by decide)).2) rfl inW2 (k := 2) (by decide) gl_X2_23 rfl hdg kk
theorem pf_X2_23 {p : Program} {l : Launch} {e : Env} {R : Room} {s : State} {m : MethodId} {args : Array Value} {below : List Frame} {meth : Method} {c : Code} {cells slots : Nat} {Q : State → Prop} {cc : ByteArray} {nL : Nat} {ret : Option FieldType} {g : Gl} {A : Nat → Prop} {S : St} {pc : Nat} {lv : List (Nat × Value)} {st : List Value} (cx : Cx p s m args meth c cc nL ret RX2 g A) {i : Nat} {x : Int32} (hk : kd g i = 2) (hdg : decode cc pc = .ok (.putfield 23, 3)) (kk : WA p l e R s m args below meth c cells slots Q nL g A (pI S i 2 x) (pc + 3) lv st) : WA p l e R s m args below meth c cells slots Q nL g A S pc lv (.int x :: .ref (ad g i) :: st) := wa_put (S2 := pI S i 2 x) (ty := .int) tyX2 hk (by decide) (cell_eq2 (kd_lt hk (by decide)).2) (by rw [cell_eq2 (kd_lt hk (by decide)).2]; unfold pI; dsimp only; rw [up2_at]; rfl) cell_pI rfl inW2 tyX2_ok nmX2 (k := 2) (by decide) gl_X2_23 rfl (by decide +kernel) rfl rfl (Nat.le_of_ble_eq_true rfl) hdg (cx := cx) kk
theorem gl_X3_70 : Cond.fieldLink RX3 70 (TX2 2).1 (TX2 2).2.1 (TX2 2).2.2.1 ∈ lw_g := (lwm 142 (by decide +kernel) rfl)
theorem gf_X3_70 {p : Program} {l : Launch} {e : Env} {R : Room} {s : State} {m : MethodId} {args : Array Value} {below : List Frame} {meth : Method} {c : Code} {cells slots : Nat} {Q : State → Prop} {cc : ByteArray} {nL : Nat} {ret : Option FieldType} {g : Gl} {A : Nat → Prop} {S : St} {pc : Nat} {lv : List (Nat × Value)} {st : List Value} (cx : Cx p s m args meth c cc nL ret RX3 g A) {i : Nat} (hk : kd g i = 2) (hdg : decode cc pc = .ok (.getfield 70, 3)) (kk : WA p l e R s m args below meth c cells slots Q nL g A S (pc + 3) lv (.int (S.1 i 2) :: st)) : WA p l e R s m args below meth c cells slots Q nL g A S pc lv (.ref (ad g i) :: st) := wa_get cx hk (by decide) (cell_eq2 (kd_lt hk (by decide)).2) rfl inW2 (k := 2) (by decide) gl_X3_70 rfl hdg kk
theorem pf_X3_70 {p : Program} {l : Launch} {e : Env} {R : Room} {s : State} {m : MethodId} {args : Array Value} {below : List Frame} {meth : Method} {c : Code} {cells slots : Nat} {Q : State → Prop} {cc : ByteArray} {nL : Nat} {ret : Option FieldType} {g : Gl} {A : Nat → Prop} {S : St} {pc : Nat} {lv : List (Nat × Value)} {st : List Value} (cx : Cx p s m args meth c cc nL ret RX3 g A) {i : Nat} {x : Int32} (hk : kd g i = 2) (hdg : decode cc pc = .ok (.putfield 70, 3)) (kk : WA p l e R s m args below meth c cells slots Q nL g A (pI S i 2 x) (pc + 3) lv st) : WA p l e R s m args below meth c cells slots Q nL g A S pc lv (.int x :: .ref (ad g i) :: st) := wa_put (S2 := pI S i 2 x) (ty := .int) tyX2 hk (by decide) (cell_eq2 (kd_lt hk (by decide)).2) (by rw [cell_eq2 (kd_lt hk (by decide)).2]; unfold pI; dsimp only; rw [up2_at]; rfl) cell_pI rfl inW2 tyX2_ok nmX2 (k := 2) (by decide) gl_X3_70 rfl (by decide +kernel) rfl rfl (Nat.le_of_ble_eq_true rfl) hdg (cx := cx) kk
theorem gl_X2_26 : Cond.fieldLink RX2 26 (TX2 3).1 (TX2 3).2.1 (TX2 3).2.2.1 ∈ lw_g := (lwm 143 (by decide +kernel) rfl)
theorem gf_X2_26 {p : Program} {l : Launch} {e : Env} {R : Room} {s : State} {m : MethodId} {args : Array Value} {below : List Frame} {meth : Method} {c : Code} {cells slots : Nat} {Q : State → Prop} {cc : ByteArray} {nL : Nat} {ret : Option FieldType} {g : Gl} {A : Nat → Prop} {S : St} {pc : Nat} {lv : List (Nat × Value)} {st : List Value} (cx : Cx p s m args meth c cc nL ret RX2 g A) {i : Nat} (hk : kd g i = 2) (hdg : decode cc pc = .ok (.getfield 26, 3)) (kk : WA p l e R s m args below meth c cells slots Q nL g A S (pc + 3) lv (.int (S.1 i 3) :: st)) : WA p l e R s m args below meth c cells slots Q nL g A S pc lv (.ref (ad g i) :: st) := wa_get cx hk (by decide) (cell_eq2 (kd_lt hk (by decide)).2) rfl inW2 (k := 3) (by decide) gl_X2_26 rfl hdg kk
theorem pf_X2_26 {p : Program} {l : Launch} {e : Env} {R : Room} {s : State} {m : MethodId} {args : Array Value} {below : List Frame} {meth : Method} {c : Code} {cells slots : Nat} {Q : State → Prop} {cc : ByteArray} {nL : Nat} {ret : Option FieldType} {g : Gl} {A : Nat → Prop} {S : St} {pc : Nat} {lv : List (Nat × Value)} {st : List Value} (cx : Cx p s m args meth c cc nL ret RX2 g A) {i : Nat} {x : Int32} (hk : kd g i = 2) (hdg : decode cc pc = .ok (.putfield 26, 3)) (kk : WA p l e R s m args below meth c cells slots Q nL g A (pI S i 3 x) (pc + 3) lv st) : WA p l e R s m args below meth c cells slots Q nL g A S pc lv (.int x :: .ref (ad g i) :: st) := wa_put (S2 := pI S i 3 x) (ty := .int) tyX2 hk (by decide) (cell_eq2 (kd_lt hk (by decide)).2) (by rw [cell_eq2 (kd_lt hk (by decide)).2]; unfold pI; dsimp only; rw [up2_at]; rfl) cell_pI rfl inW2 tyX2_ok nmX2 (k := 3) (by decide) gl_X2_26 rfl (by decide +kernel) rfl rfl (Nat.le_of_ble_eq_true rfl) hdg (cx := cx) kk
theorem gl_X1_56 : Cond.fieldLink RX1 56 (TX2 3).1 (TX2 3).2.1 (TX2 3).2.2.1 ∈ lw_g := (lwm 144 (by decide +kernel) rfl)
theorem gf_X1_56 {p : Program} {l : Launch} {e : Env} {R : Room} {s : State} {m : MethodId} {args : Array Value} {below : List Frame} {meth : Method} {c : Code} {cells slots : Nat} {Q : State → Prop} {cc : ByteArray} {nL : Nat} {ret : Option FieldType} {g : Gl} {A : Nat → Prop} {S : St} {pc : Nat} {lv : List (Nat × Value)} {st : List Value} (cx : Cx p s m args meth c cc nL ret RX1 g A) {i : Nat} (hk : kd g i = 2) (hdg : decode cc pc = .ok (.getfield 56, 3)) (kk : WA p l e R s m args below meth c cells slots Q nL g A S (pc + 3) lv (.int (S.1 i 3) :: st)) : WA p l e R s m args below meth c cells slots Q nL g A S pc lv (.ref (ad g i) :: st) := wa_get cx hk (by decide) (cell_eq2 (kd_lt hk (by decide)).2) rfl inW2 (k := 3) (by decide) gl_X1_56 rfl hdg kk
theorem pf_X1_56 {p : Program} {l : Launch} {e : Env} {R : Room} {s : State} {m : MethodId} {args : Array Value} {below : List Frame} {meth : Method} {c : Code} {cells slots : Nat} {Q : State → Prop} {cc : ByteArray} {nL : Nat} {ret : Option FieldType} {g : Gl} {A : Nat → Prop} {S : St} {pc : Nat} {lv : List (Nat × Value)} {st : List Value} (cx : Cx p s m args meth c cc nL ret RX1 g A) {i : Nat} {x : Int32} (hk : kd g i = 2) (hdg : decode cc pc = .ok (.putfield 56, 3)) (kk : WA p l e R s m args below meth c cells slots Q nL g A (pI S i 3 x) (pc + 3) lv st) : WA p l e R s m args below meth c cells slots Q nL g A S pc lv (.int x :: .ref (ad g i) :: st) := wa_put (S2 := pI S i 3 x) (ty := .int) tyX2 hk (by decide) (cell_eq2 (kd_lt hk (by decide)).2) (by rw [cell_eq2 (kd_lt hk (by decide)).2]; unfold pI; dsimp only; rw [up2_at]; rfl) cell_pI rfl inW2 tyX2_ok nmX2 (k := 3) (by decide) gl_X1_56 rfl (by decide +kernel) rfl rfl (Nat.le_of_ble_eq_true rfl) hdg (cx := cx) kk
theorem gl_X3_73 : Cond.fieldLink RX3 73 (TX2 3).1 (TX2 3).2.1 (TX2 3).2.2.1 ∈ lw_g := (lwm 145 (by decide +kernel) rfl)
theorem gf_X3_73 {p : Program} {l : Launch} {e : Env} {R : Room} {s : State} {m : MethodId} {args : Array Value} {below : List Frame} {meth : Method} {c : Code} {cells slots : Nat} {Q : State → Prop} {cc : ByteArray} {nL : Nat} {ret : Option FieldType} {g : Gl} {A : Nat → Prop} {S : St} {pc : Nat} {lv : List (Nat × Value)} {st : List Value} (cx : Cx p s m args meth c cc nL ret RX3 g A) {i : Nat} (hk : kd g i = 2) (hdg : decode cc pc = .ok (.getfield 73, 3)) (kk : WA p l e R s m args below meth c cells slots Q nL g A S (pc + 3) lv (.int (S.1 i 3) :: st)) : WA p l e R s m args below meth c cells slots Q nL g A S pc lv (.ref (ad g i) :: st) := wa_get cx hk (by decide) (cell_eq2 (kd_lt hk (by decide)).2) rfl inW2 (k := 3) (by decide) gl_X3_73 rfl hdg kk
theorem pf_X3_73 {p : Program} {l : Launch} {e : Env} {R : Room} {s : State} {m : MethodId} {args : Array Value} {below : List Frame} {meth : Method} {c : Code} {cells slots : Nat} {Q : State → Prop} {cc : ByteArray} {nL : Nat} {ret : Option FieldType} {g : Gl} {A : Nat → Prop} {S : St} {pc : Nat} {lv : List (Nat × Value)} {st : List Value} (cx : Cx p s m args meth c cc nL ret RX3 g A) {i : Nat} {x : Int32} (hk : kd g i = 2) (hdg : decode cc pc = .ok (.putfield 73, 3)) (kk : WA p l e R s m args below meth c cells slots Q nL g A (pI S i 3 x) (pc + 3) lv st) : WA p l e R s m args below meth c cells slots Q nL g A S pc lv (.int x :: .ref (ad g i) :: st) := wa_put (S2 := pI S i 3 x) (ty := .int) tyX2 hk (by decide) (cell_eq2 (kd_lt hk (by decide)).2) (by rw [cell_eq2 (kd_lt hk (by decide)).2]; unfold pI; dsimp only; rw [up2_at]; rfl) cell_pI rfl inW2 tyX2_ok nmX2 (k := 3) (by decide) gl_X3_73 rfl (by decide +kernel) rfl rfl (Nat.le_of_ble_eq_true rfl) hdg (cx := cx) kk
theorem gl_X4_39 : Cond.fieldLink RX4 39 (TX2 4).1 (TX2 4).2.1 (TX2 4).2.2.1 ∈ lw_g := (lwm 146 (by decide +kernel) rfl)
theorem gf_X4_39 {p : Program} {l : Launch} {e : Env} {R : Room} {s : State} {m : MethodId} {args : Array Value} {below : List Frame} {meth : Method} {c : Code} {cells slots : Nat} {Q : State → Prop} {cc : ByteArray} {nL : Nat} {ret : Option FieldType} {g : Gl} {A : Nat → Prop} {S : St} {pc : Nat} {lv : List (Nat × Value)} {st : List Value} (cx : Cx p s m args meth c cc nL ret RX4 g A) {i : Nat} (hk : kd g i = 2) (hdg : decode cc pc = .ok (.getfield 39, 3)) (kk : WA p l e R s m args below meth c cells slots Q nL g A S (pc + 3) lv (.int (S.1 i 4) :: st)) : WA p l e R s m args below meth c cells slots Q nL g A S pc lv (.ref (ad g i) :: st) := wa_get cx hk (by decide) (cell_eq2 (kd_lt hk (by decide)).2) rfl inW2 (k := 4) (by decide) gl_X4_39 rfl hdg kk
theorem pf_X4_39 {p : Program} {l : Launch} {e : Env} {R : Room} {s : State} {m : MethodId} {args : Array Value} {below : List Frame} {meth : Method} {c : Code} {cells slots : Nat} {Q : State → Prop} {cc : ByteArray} {nL : Nat} {ret : Option FieldType} {g : Gl} {A : Nat → Prop} {S : St} {pc : Nat} {lv : List (Nat × Value)} {st : List Value} (cx : Cx p s m args meth c cc nL ret RX4 g A) {i : Nat} {x : Int32} (hk : kd g i = 2) (hdg : decode cc pc = .ok (.putfield 39, 3)) (kk : WA p l e R s m args below meth c cells slots Q nL g A (pI S i 4 x) (pc + 3) lv st) : WA p l e R s m args below meth c cells slots Q nL g A S pc lv (.int x :: .ref (ad g i) :: st) := wa_put (S2 := pI S i 4 x) (ty := .int) tyX2 hk (by decide) (cell_eq2 (kd_lt hk (by decide)).2) (by rw [cell_eq2 (kd_lt hk (by decide)).2]; unfold pI; dsimp only; rw [up2_at]; rfl) cell_pI rfl inW2 tyX2_ok nmX2 (k := 4) (by decide) gl_X4_39 rfl (by decide +kernel) rfl rfl (Nat.le_of_ble_eq_true rfl) hdg (cx := cx) kk
theorem gl_X2_29 : Cond.fieldLink RX2 29 (TX2 4).1 (TX2 4).2.1 (TX2 4).2.2.1 ∈ lw_g := (lwm 147 (by decide +kernel) rfl)
theorem gf_X2_29 {p : Program} {l : Launch} {e : Env} {R : Room} {s : State} {m : MethodId} {args : Array Value} {below : List Frame} {meth : Method} {c : Code} {cells slots : Nat} {Q : State → Prop} {cc : ByteArray} {nL : Nat} {ret : Option FieldType} {g : Gl} {A : Nat → Prop} {S : St} {pc : Nat} {lv : List (Nat × Value)} {st : List Value} (cx : Cx p s m args meth c cc nL ret RX2 g A) {i : Nat} (hk : kd g i = 2) (hdg : decode cc pc = .ok (.getfield 29, 3)) (kk : WA p l e R s m args below meth c cells slots Q nL g A S (pc + 3) lv (.int (S.1 i 4) :: st)) : WA p l e R s m args below meth c cells slots Q nL g A S pc lv (.ref (ad g i) :: st) := wa_get cx hk (by decide) (cell_eq2 (kd_lt hk (by decide)).2) rfl inW2 (k := 4) (by decide) gl_X2_29 rfl hdg kk
theorem pf_X2_29 {p : Program} {l : Launch} {e : Env} {R : Room} {s : State} {m : MethodId} {args : Array Value} {below : List Frame} {meth : Method} {c : Code} {cells slots : Nat} {Q : State → Prop} {cc : ByteArray} {nL : Nat} {ret : Option FieldType} {g : Gl} {A : Nat → Prop} {S : St} {pc : Nat} {lv : List (Nat × Value)} {st : List Value} (cx : Cx p s m args meth c cc nL ret RX2 g A) {i : Nat} {x : Int32} (hk : kd g i = 2) (hdg : decode cc pc = .ok (.putfield 29, 3)) (kk : WA p l e R s m args below meth c cells slots Q nL g A (pI S i 4 x) (pc + 3) lv st) : WA p l e R s m args below meth c cells slots Q nL g A S pc lv (.int x :: .ref (ad g i) :: st) := wa_put (S2 := pI S i 4 x) (ty := .int) tyX2 hk (by decide) (cell_eq2 (kd_lt hk (by decide)).2) (by rw [cell_eq2 (kd_lt hk (by decide)).2]; unfold pI; dsimp only; rw [up2_at]; rfl) cell_pI rfl inW2 tyX2_ok nmX2 (k := 4) (by decide) gl_X2_29 rfl (by decide +kernel) rfl rfl (Nat.le_of_ble_eq_true rfl) hdg (cx := cx) kk
theorem gl_X3_76 : Cond.fieldLink RX3 76 (TX2 4).1 (TX2 4).2.1 (TX2 4).2.2.1 ∈ lw_g := (lwm 148 (by decide +kernel) rfl)
theorem gf_X3_76 {p : Program} {l : Launch} {e : Env} {R : Room} {s : State} {m : MethodId} {args : Array Value} {below : List Frame} {meth : Method} {c : Code} {cells slots : Nat} {Q : State → Prop} {cc : ByteArray} {nL : Nat} {ret : Option FieldType} {g : Gl} {A : Nat → Prop} {S : St} {pc : Nat} {lv : List (Nat × Value)} {st : List Value} (cx : Cx p s m args meth c cc nL ret RX3 g A) {i : Nat} (hk : kd g i = 2) (hdg : decode cc pc = .ok (.getfield 76, 3)) (kk : WA p l e R s m args below meth c cells slots Q nL g A S (pc + 3) lv (.int (S.1 i 4) :: st)) : WA p l e R s m args below meth c cells slots Q nL g A S pc lv (.ref (ad g i) :: st) := wa_get cx hk (by decide) (cell_eq2 (kd_lt hk (by decide)).2) rfl inW2 (k := 4) (by decide) gl_X3_76 rfl hdg kk
theorem pf_X3_76 {p : Program} {l : Launch} {e : Env} {R : Room} {s : State} {m : MethodId} {args : Array Value} {below : List Frame} {meth : Method} {c : Code} {cells slots : Nat} {Q : State → Prop} {cc : ByteArray} {nL : Nat} {ret : Option FieldType} {g : Gl} {A : Nat → Prop} {S : St} {pc : Nat} {lv : List (Nat × Value)} {st : List Value} (cx : Cx p s m args meth c cc nL ret RX3 g A) {i : Nat} {x : Int32} (hk : kd g i = 2) (hdg : decode cc pc = .ok (.putfield 76, 3)) (kk : WA p l e R s m args below meth c cells slots Q nL g A (pI S i 4 x) (pc + 3) lv st) : WA p l e R s m args below meth c cells slots Q nL g A S pc lv (.int x :: .ref (ad g i) :: st) := wa_put (S2 := pI S i 4 x) (ty := .int) tyX2 hk (by decide) (cell_eq2 (kd_lt hk (by decide)).2) (by rw [cell_eq2 (kd_lt hk (by decide)).2]; unfold pI; dsimp only; rw [up2_at]; rfl) cell_pI rfl inW2 tyX2_ok nmX2 (k := 4) (by decide) gl_X3_76 rfl (by decide +kernel) rfl rfl (Nat.le_of_ble_eq_true rfl) hdg (cx := cx) kk
theorem gl_X1_113 : Cond.fieldLink RX1 113 (TX2 4).1 (TX2 4).2.1 (TX2 4).2.2.1 ∈ lw_g := (lwm 149 (by decide +kernel) rfl)
theorem gf_X1_113 {p : Program} {l : Launch} {e : Env} {R : Room} {s : State} {m : MethodId} {args : Array Value} {below : List Frame} {meth : Method} {c : Code} {cells slots : Nat} {Q : State → Prop} {cc : ByteArray} {nL : Nat} {ret : Option FieldType} {g : Gl} {A : Nat → Prop} {S : St} {pc : Nat} {lv : List (Nat × Value)} {st : List Value} (cx : Cx p s m args meth c cc nL ret RX1 g A) {i : Nat} (hk : kd g i = 2) (hdg : decode cc pc = .ok (.getfield 113, 3)) (kk : WA p l e R s m args below meth c cells slots Q nL g A S (pc + 3) lv (.int (S.1 i 4) :: st)) : WA p l e R s m args below meth c cells slots Q nL g A S pc lv (.ref (ad g i) :: st) := wa_get cx hk (by decide) (cell_eq2 (kd_lt hk (by decide)).2) rfl inW2 (k := 4) (by decide) gl_X1_113 rfl hdg kk
theorem pf_X1_113 {p : Program} {l : Launch} {e : Env} {R : Room} {s : State} {m : MethodId} {args : Array Value} {below : List Frame} {meth : Method} {c : Code} {cells slots : Nat} {Q : State → Prop} {cc : ByteArray} {nL : Nat} {ret : Option FieldType} {g : Gl} {A : Nat → Prop} {S : St} {pc : Nat} {lv : List (Nat × Value)} {st : List Value} (cx : Cx p s m args meth c cc nL ret RX1 g A) {i : Nat} {x : Int32} (hk : kd g i = 2) (hdg : decode cc pc = .ok (.putfield 113, 3)) (kk : WA p l e R s m args below meth c cells slots Q nL g A (pI S i 4 x) (pc + 3) lv st) : WA p l e R s m args below meth c cells slots Q nL g A S pc lv (.int x :: .ref (ad g i) :: st) := wa_put (S2 := pI S i 4 x) (ty := .int) tyX2 hk (by decide) (cell_eq2 (kd_lt hk (by decide)).2) (by rw [cell_eq2 (kd_lt hk (by decide)).2]; unfold pI; dsimp only; rw [up2_at]; rfl) cell_pI rfl inW2 tyX2_ok nmX2 (k := 4) (by decide) gl_X1_113 rfl (by decide +kernel) rfl rfl (Nat.le_of_ble_eq_true rfl) hdg (cx := cx) kk
theorem gl_X2_32 : Cond.fieldLink RX2 32 (TX2 5).1 (TX2 5).2.1 (TX2 5).2.2.1 ∈ lw_g := (lwm 150 (by decide +kernel) rfl)
theorem gf_X2_32 {p : Program} {l : Launch} {e : Env} {R : Room} {s : State} {m : MethodId} {args : Array Value} {below : List Frame} {meth : Method} {c : Code} {cells slots : Nat} {Q : State → Prop} {cc : ByteArray} {nL : Nat} {ret : Option FieldType} {g : Gl} {A : Nat → Prop} {S : St} {pc : Nat} {lv : List (Nat × Value)} {st : List Value} (cx : Cx p s m args meth c cc nL ret RX2 g A) {i : Nat} (hk : kd g i = 2) (hdg : decode cc pc = .ok (.getfield 32, 3)) (kk : WA p l e R s m args below meth c cells slots Q nL g A S (pc + 3) lv (.int (S.1 i 5) :: st)) : WA p l e R s m args below meth c cells slots Q nL g A S pc lv (.ref (ad g i) :: st) := wa_get cx hk (by decide) (cell_eq2 (kd_lt hk (by decide)).2) rfl inW2 (k := 5) (by decide) gl_X2_32 rfl hdg kk
theorem pf_X2_32 {p : Program} {l : Launch} {e : Env} {R : Room} {s : State} {m : MethodId} {args : Array Value} {below : List Frame} {meth : Method} {c : Code} {cells slots : Nat} {Q : State → Prop} {cc : ByteArray} {nL : Nat} {ret : Option FieldType} {g : Gl} {A : Nat → Prop} {S : St} {pc : Nat} {lv : List (Nat × Value)} {st : List Value} (cx : Cx p s m args meth c cc nL ret RX2 g A) {i : Nat} {x : Int32} (hk : kd g i = 2) (hdg : decode cc pc = .ok (.putfield 32, 3)) (kk : WA p l e R s m args below meth c cells slots Q nL g A (pI S i 5 x) (pc + 3) lv st) : WA p l e R s m args below meth c cells slots Q nL g A S pc lv (.int x :: .ref (ad g i) :: st) := wa_put (S2 := pI S i 5 x) (ty := .int) tyX2 hk (by decide) (cell_eq2 (kd_lt hk (by decide)).2) (by rw [cell_eq2 (kd_lt hk (by decide)).2]; unfold pI; dsimp only; rw [up2_at]; rfl) cell_pI rfl inW2 tyX2_ok nmX2 (k := 5) (by decide) gl_X2_32 rfl (by decide +kernel) rfl rfl (Nat.le_of_ble_eq_true rfl) hdg (cx := cx) kk
theorem gl_X1_46 : Cond.fieldLink RX1 46 (TX2 5).1 (TX2 5).2.1 (TX2 5).2.2.1 ∈ lw_g := (lwm 151 (by decide +kernel) rfl)
theorem gf_X1_46 {p : Program} {l : Launch} {e : Env} {R : Room} {s : State} {m : MethodId} {args : Array Value} {below : List Frame} {meth : Method} {c : Code} {cells slots : Nat} {Q : State → Prop} {cc : ByteArray} {nL : Nat} {ret : Option FieldType} {g : Gl} {A : Nat → Prop} {S : St} {pc : Nat} {lv : List (Nat × Value)} {st : List Value} (cx : Cx p s m args meth c cc nL ret RX1 g A) {i : Nat} (hk : kd g i = 2) (hdg : decode cc pc = .ok (.getfield 46, 3)) (kk : WA p l e R s m args below meth c cells slots Q nL g A S (pc + 3) lv (.int (S.1 i 5) :: st)) : WA p l e R s m args below meth c cells slots Q nL g A S pc lv (.ref (ad g i) :: st) := wa_get cx hk (by decide) (cell_eq2 (kd_lt hk (by decide)).2) rfl inW2 (k := 5) (by decide) gl_X1_46 rfl hdg kk
theorem pf_X1_46 {p : Program} {l : Launch} {e : Env} {R : Room} {s : State} {m : MethodId} {args : Array Value} {below : List Frame} {meth : Method} {c : Code} {cells slots : Nat} {Q : State → Prop} {cc : ByteArray} {nL : Nat} {ret : Option FieldType} {g : Gl} {A : Nat → Prop} {S : St} {pc : Nat} {lv : List (Nat × Value)} {st : List Value} (cx : Cx p s m args meth c cc nL ret RX1 g A) {i : Nat} {x : Int32} (hk : kd g i = 2) (hdg : decode cc pc = .ok (.putfield 46, 3)) (kk : WA p l e R s m args below meth c cells slots Q nL g A (pI S i 5 x) (pc + 3) lv st) : WA p l e R s m args below meth c cells slots Q nL g A S pc lv (.int x :: .ref (ad g i) :: st) := wa_put (S2 := pI S i 5 x) (ty := .int) tyX2 hk (by decide) (cell_eq2 (kd_lt hk (by decide)).2) (by rw [cell_eq2 (kd_lt hk (by decide)).2]; unfold pI; dsimp only; rw [up2_at]; rfl) cell_pI rfl inW2 tyX2_ok nmX2 (k := 5) (by decide) gl_X1_46 rfl (by decide +kernel) rfl rfl (Nat.le_of_ble_eq_true rfl) hdg (cx := cx) kk
theorem gl_X2_35 : Cond.fieldLink RX2 35 (TX2 6).1 (TX2 6).2.1 (TX2 6).2.2.1 ∈ lw_g := (lwm 152 (by decide +kernel) rfl)
theorem gf_X2_35 {p : Program} {l : Launch} {e : Env} {R : Room} {s : State} {m : MethodId} {args : Array Value} {below : List Frame} {meth : Method} {c : Code} {cells slots : Nat} {Q : State → Prop} {cc : ByteArray} {nL : Nat} {ret : Option FieldType} {g : Gl} {A : Nat → Prop} {S : St} {pc : Nat} {lv : List (Nat × Value)} {st : List Value} (cx : Cx p s m args meth c cc nL ret RX2 g A) {i : Nat} (hk : kd g i = 2) (hdg : decode cc pc = .ok (.getfield 35, 3)) (kk : WA p l e R s m args below meth c cells slots Q nL g A S (pc + 3) lv (.int (S.1 i 6) :: st)) : WA p l e R s m args below meth c cells slots Q nL g A S pc lv (.ref (ad g i) :: st) := wa_get cx hk (by decide) (cell_eq2 (kd_lt hk (by decide)).2) rfl inW2 (k := 6) (by decide) gl_X2_35 rfl hdg kk
theorem pf_X2_35 {p : Program} {l : Launch} {e : Env} {R : Room} {s : State} {m : MethodId} {args : Array Value} {below : List Frame} {meth : Method} {c : Code} {cells slots : Nat} {Q : State → Prop} {cc : ByteArray} {nL : Nat} {ret : Option FieldType} {g : Gl} {A : Nat → Prop} {S : St} {pc : Nat} {lv : List (Nat × Value)} {st : List Value} (cx : Cx p s m args meth c cc nL ret RX2 g A) {i : Nat} {x : Int32} (hk : kd g i = 2) (hdg : decode cc pc = .ok (.putfield 35, 3)) (kk : WA p l e R s m args below meth c cells slots Q nL g A (pI S i 6 x) (pc + 3) lv st) : WA p l e R s m args below meth c cells slots Q nL g A S pc lv (.int x :: .ref (ad g i) :: st) := wa_put (S2 := pI S i 6 x) (ty := .int) tyX2 hk (by decide) (cell_eq2 (kd_lt hk (by decide)).2) (by rw [cell_eq2 (kd_lt hk (by decide)).2]; unfold pI; dsimp only; rw [up2_at]; rfl) cell_pI rfl inW2 tyX2_ok nmX2 (k := 6) (by decide) gl_X2_35 rfl (by decide +kernel) rfl rfl (Nat.le_of_ble_eq_true rfl) hdg (cx := cx) kk
theorem gl_X1_93 : Cond.fieldLink RX1 93 (TX2 6).1 (TX2 6).2.1 (TX2 6).2.2.1 ∈ lw_g := (lwm 153 (by decide +kernel) rfl)
theorem gf_X1_93 {p : Program} {l : Launch} {e : Env} {R : Room} {s : State} {m : MethodId} {args : Array Value} {below : List Frame} {meth : Method} {c : Code} {cells slots : Nat} {Q : State → Prop} {cc : ByteArray} {nL : Nat} {ret : Option FieldType} {g : Gl} {A : Nat → Prop} {S : St} {pc : Nat} {lv : List (Nat × Value)} {st : List Value} (cx : Cx p s m args meth c cc nL ret RX1 g A) {i : Nat} (hk : kd g i = 2) (hdg : decode cc pc = .ok (.getfield 93, 3)) (kk : WA p l e R s m args below meth c cells slots Q nL g A S (pc + 3) lv (.int (S.1 i 6) :: st)) : WA p l e R s m args below meth c cells slots Q nL g A S pc lv (.ref (ad g i) :: st) := wa_get cx hk (by decide) (cell_eq2 (kd_lt hk (by decide)).2) rfl inW2 (k := 6) (by decide) gl_X1_93 rfl hdg kk
theorem pf_X1_93 {p : Program} {l : Launch} {e : Env} {R : Room} {s : State} {m : MethodId} {args : Array Value} {below : List Frame} {meth : Method} {c : Code} {cells slots : Nat} {Q : State → Prop} {cc : ByteArray} {nL : Nat} {ret : Option FieldType} {g : Gl} {A : Nat → Prop} {S : St} {pc : Nat} {lv : List (Nat × Value)} {st : List Value} (cx : Cx p s m args meth c cc nL ret RX1 g A) {i : Nat} {x : Int32} (hk : kd g i = 2) (hdg : decode cc pc = .ok (.putfield 93, 3)) (kk : WA p l e R s m args below meth c cells slots Q nL g A (pI S i 6 x) (pc + 3) lv st) : WA p l e R s m args below meth c cells slots Q nL g A S pc lv (.int x :: .ref (ad g i) :: st) := wa_put (S2 := pI S i 6 x) (ty := .int) tyX2 hk (by decide) (cell_eq2 (kd_lt hk (by decide)).2) (by rw [cell_eq2 (kd_lt hk (by decide)).2]; unfold pI; dsimp only; rw [up2_at]; rfl) cell_pI rfl inW2 tyX2_ok nmX2 (k := 6) (by decide) gl_X1_93 rfl (by decide +kernel) rfl rfl (Nat.le_of_ble_eq_true rfl) hdg (cx := cx) kk
theorem gl_X2_42 : Cond.fieldLink RX2 42 (TX2 7).1 (TX2 7).2.1 (TX2 7).2.2.1 ∈ lw_g := (lwm 154 (by decide +kernel) rfl)
theorem gf_X2_42 {p : Program} {l : Launch} {e : Env} {R : Room} {s : State} {m : MethodId} {args : Array Value} {below : List Frame} {meth : Method} {c : Code} {cells slots : Nat} {Q : State → Prop} {cc : ByteArray} {nL : Nat} {ret : Option FieldType} {g : Gl} {A : Nat → Prop} {S : St} {pc : Nat} {lv : List (Nat × Value)} {st : List Value} (cx : Cx p s m args meth c cc nL ret RX2 g A) {i : Nat} (hk : kd g i = 2) (hdg : decode cc pc = .ok (.getfield 42, 3)) (kk : WA p l e R s m args below meth c cells slots Q nL g A S (pc + 3) lv (.int (S.1 i 7) :: st)) : WA p l e R s m args below meth c cells slots Q nL g A S pc lv (.ref (ad g i) :: st) := wa_get cx hk (by decide) (cell_eq2 (kd_lt hk (by decide)).2) rfl inW2 (k := 7) (by decide) gl_X2_42 rfl hdg kk
theorem pf_X2_42 {p : Program} {l : Launch} {e : Env} {R : Room} {s : State} {m : MethodId} {args : Array Value} {below : List Frame} {meth : Method} {c : Code} {cells slots : Nat} {Q : State → Prop} {cc : ByteArray} {nL : Nat} {ret : Option FieldType} {g : Gl} {A : Nat → Prop} {S : St} {pc : Nat} {lv : List (Nat × Value)} {st : List Value} (cx : Cx p s m args meth c cc nL ret RX2 g A) {i : Nat} {x : Int32} (hk : kd g i = 2) (hdg : decode cc pc = .ok (.putfield 42, 3)) (kk : WA p l e R s m args below meth c cells slots Q nL g A (pI S i 7 x) (pc + 3) lv st) : WA p l e R s m args below meth c cells slots Q nL g A S pc lv (.int x :: .ref (ad g i) :: st) := wa_put (S2 := pI S i 7 x) (ty := .int) tyX2 hk (by decide) (cell_eq2 (kd_lt hk (by decide)).2) (by rw [cell_eq2 (kd_lt hk (by decide)).2]; unfold pI; dsimp only; rw [up2_at]; rfl) cell_pI rfl inW2 tyX2_ok nmX2 (k := 7) (by decide) gl_X2_42 rfl (by decide +kernel) rfl rfl (Nat.le_of_ble_eq_true rfl) hdg (cx := cx) kk
theorem gl_X1_72 : Cond.fieldLink RX1 72 (TX2 7).1 (TX2 7).2.1 (TX2 7).2.2.1 ∈ lw_g := (lwm 155 (by decide +kernel) rfl)
theorem gf_X1_72 {p : Program} {l : Launch} {e : Env} {R : Room} {s : State} {m : MethodId} {args : Array Value} {below : List Frame} {meth : Method} {c : Code} {cells slots : Nat} {Q : State → Prop} {cc : ByteArray} {nL : Nat} {ret : Option FieldType} {g : Gl} {A : Nat → Prop} {S : St} {pc : Nat} {lv : List (Nat × Value)} {st : List Value} (cx : Cx p s m args meth c cc nL ret RX1 g A) {i : Nat} (hk : kd g i = 2) (hdg : decode cc pc = .ok (.getfield 72, 3)) (kk : WA p l e R s m args below meth c cells slots Q nL g A S (pc + 3) lv (.int (S.1 i 7) :: st)) : WA p l e R s m args below meth c cells slots Q nL g A S pc lv (.ref (ad g i) :: st) := wa_get cx hk (by decide) (cell_eq2 (kd_lt hk (by decide)).2) rfl inW2 (k := 7) (by decide) gl_X1_72 rfl hdg kk
theorem pf_X1_72 {p : Program} {l : Launch} {e : Env} {R : Room} {s : State} {m : MethodId} {args : Array Value} {below : List Frame} {meth : Method} {c : Code} {cells slots : Nat} {Q : State → Prop} {cc : ByteArray} {nL : Nat} {ret : Option FieldType} {g : Gl} {A : Nat → Prop} {S : St} {pc : Nat} {lv : List (Nat × Value)} {st : List Value} (cx : Cx p s m args meth c cc nL ret RX1 g A) {i : Nat} {x : Int32} (hk : kd g i = 2) (hdg : decode cc pc = .ok (.putfield 72, 3)) (kk : WA p l e R s m args below meth c cells slots Q nL g A (pI S i 7 x) (pc + 3) lv st) : WA p l e R s m args below meth c cells slots Q nL g A S pc lv (.int x :: .ref (ad g i) :: st) := wa_put (S2 := pI S i 7 x) (ty := .int) tyX2 hk (by decide) (cell_eq2 (kd_lt hk (by decide)).2) (by rw [cell_eq2 (kd_lt hk (by decide)).2]; unfold pI; dsimp only; rw [up2_at]; rfl) cell_pI rfl inW2 tyX2_ok nmX2 (k := 7) (by decide) gl_X1_72 rfl (by decide +kernel) rfl rfl (Nat.le_of_ble_eq_true rfl) hdg (cx := cx) kk
theorem gl_X9_266 : Cond.fieldLink RX9 266 (TX2 7).1 (TX2 7).2.1 (TX2 7).2.2.1 ∈ lw_g := (lwm 156 (by decide +kernel) rfl)
theorem gf_X9_266 {p : Program} {l : Launch} {e : Env} {R : Room} {s : State} {m : MethodId} {args : Array Value} {below : List Frame} {meth : Method} {c : Code} {cells slots : Nat} {Q : State → Prop} {cc : ByteArray} {nL : Nat} {ret : Option FieldType} {g : Gl} {A : Nat → Prop} {S : St} {pc : Nat} {lv : List (Nat × Value)} {st : List Value} (cx : Cx p s m args meth c cc nL ret RX9 g A) {i : Nat} (hk : kd g i = 2) (hdg : decode cc pc = .ok (.getfield 266, 3)) (kk : WA p l e R s m args below meth c cells slots Q nL g A S (pc + 3) lv (.int (S.1 i 7) :: st)) : WA p l e R s m args below meth c cells slots Q nL g A S pc lv (.ref (ad g i) :: st) := wa_get cx hk (by decide) (cell_eq2 (kd_lt hk (by decide)).2) rfl inW2 (k := 7) (by decide) gl_X9_266 rfl hdg kk
theorem pf_X9_266 {p : Program} {l : Launch} {e : Env} {R : Room} {s : State} {m : MethodId} {args : Array Value} {below : List Frame} {meth : Method} {c : Code} {cells slots : Nat} {Q : State → Prop} {cc : ByteArray} {nL : Nat} {ret : Option FieldType} {g : Gl} {A : Nat → Prop} {S : St} {pc : Nat} {lv : List (Nat × Value)} {st : List Value} (cx : Cx p s m args meth c cc nL ret RX9 g A) {i : Nat} {x : Int32} (hk : kd g i = 2) (hdg : decode cc pc = .ok (.putfield 266, 3)) (kk : WA p l e R s m args below meth c cells slots Q nL g A (pI S i 7 x) (pc + 3) lv st) : WA p l e R s m args below meth c cells slots Q nL g A S pc lv (.int x :: .ref (ad g i) :: st) := wa_put (S2 := pI S i 7 x) (ty := .int) tyX2 hk (by decide) (cell_eq2 (kd_lt hk (by decide)).2) (by rw [cell_eq2 (kd_lt hk (by decide)).2]; unfold pI; dsimp only; rw [up2_at]; rfl) cell_pI rfl inW2 tyX2_ok nmX2 (k := 7) (by decide) gl_X9_266 rfl (by decide +kernel) rfl rfl (Nat.le_of_ble_eq_true rfl) hdg (cx := cx) kk
theorem gl_X2_45 : Cond.fieldLink RX2 45 (TX2 8).1 (TX2 8).2.1 (TX2 8).2.2.1 ∈ lw_g := (lwm 157 (by decide +kernel) rfl)
theorem gf_X2_45 {p : Program} {l : Launch} {e : Env} {R : Room} {s : State} {m : MethodId} {args : Array Value} {below : List Frame} {meth : Method} {c : Code} {cells slots : Nat} {Q : State → Prop} {cc : ByteArray} {nL : Nat} {ret : Option FieldType} {g : Gl} {A : Nat → Prop} {S : St} {pc : Nat} {lv : List (Nat × Value)} {st : List Value} (cx : Cx p s m args meth c cc nL ret RX2 g A) {i : Nat} (hk : kd g i = 2) (hdg : decode cc pc = .ok (.getfield 45, 3)) (kk : WA p l e R s m args below meth c cells slots Q nL g A S (pc + 3) lv (.int (S.1 i 8) :: st)) : WA p l e R s m args below meth c cells slots Q nL g A S pc lv (.ref (ad g i) :: st) := wa_get cx hk (by decide) (cell_eq2 (kd_lt hk (by decide)).2) rfl inW2 (k := 8) (by decide) gl_X2_45 rfl hdg kk
theorem pf_X2_45 {p : Program} {l : Launch} {e : Env} {R : Room} {s : State} {m : MethodId} {args : Array Value} {below : List Frame} {meth : Method} {c : Code} {cells slots : Nat} {Q : State → Prop} {cc : ByteArray} {nL : Nat} {ret : Option FieldType} {g : Gl} {A : Nat → Prop} {S : St} {pc : Nat} {lv : List (Nat × Value)} {st : List Value} (cx : Cx p s m args meth c cc nL ret RX2 g A) {i : Nat} {x : Int32} (hk : kd g i = 2) (hdg : decode cc pc = .ok (.putfield 45, 3)) (kk : WA p l e R s m args below meth c cells slots Q nL g A (pI S i 8 x) (pc + 3) lv st) : WA p l e R s m args below meth c cells slots Q nL g A S pc lv (.int x :: .ref (ad g i) :: st) := wa_put (S2 := pI S i 8 x) (ty := .int) tyX2 hk (by decide) (cell_eq2 (kd_lt hk (by decide)).2) (by rw [cell_eq2 (kd_lt hk (by decide)).2]; unfold pI; dsimp only; rw [up2_at]; rfl) cell_pI rfl inW2 tyX2_ok nmX2 (k := 8) (by decide) gl_X2_45 rfl (by decide +kernel) rfl rfl (Nat.le_of_ble_eq_true rfl) hdg (cx := cx) kk
theorem gl_X1_100 : Cond.fieldLink RX1 100 (TX2 8).1 (TX2 8).2.1 (TX2 8).2.2.1 ∈ lw_g := (lwm 158 (by decide +kernel) rfl)
theorem gf_X1_100 {p : Program} {l : Launch} {e : Env} {R : Room} {s : State} {m : MethodId} {args : Array Value} {below : List Frame} {meth : Method} {c : Code} {cells slots : Nat} {Q : State → Prop} {cc : ByteArray} {nL : Nat} {ret : Option FieldType} {g : Gl} {A : Nat → Prop} {S : St} {pc : Nat} {lv : List (Nat × Value)} {st : List Value} (cx : Cx p s m args meth c cc nL ret RX1 g A) {i : Nat} (hk : kd g i = 2) (hdg : decode cc pc = .ok (.getfield 100, 3)) (kk : WA p l e R s m args below meth c cells slots Q nL g A S (pc + 3) lv (.int (S.1 i 8) :: st)) : WA p l e R s m args below meth c cells slots Q nL g A S pc lv (.ref (ad g i) :: st) := wa_get cx hk (by decide) (cell_eq2 (kd_lt hk (by decide)).2) rfl inW2 (k := 8) (by decide) gl_X1_100 rfl hdg kk
theorem pf_X1_100 {p : Program} {l : Launch} {e : Env} {R : Room} {s : State} {m : MethodId} {args : Array Value} {below : List Frame} {meth : Method} {c : Code} {cells slots : Nat} {Q : State → Prop} {cc : ByteArray} {nL : Nat} {ret : Option FieldType} {g : Gl} {A : Nat → Prop} {S : St} {pc : Nat} {lv : List (Nat × Value)} {st : List Value} (cx : Cx p s m args meth c cc nL ret RX1 g A) {i : Nat} {x : Int32} (hk : kd g i = 2) (hdg : decode cc pc = .ok (.putfield 100, 3)) (kk : WA p l e R s m args below meth c cells slots Q nL g A (pI S i 8 x) (pc + 3) lv st) : WA p l e R s m args below meth c cells slots Q nL g A S pc lv (.int x :: .ref (ad g i) :: st) := wa_put (S2 := pI S i 8 x) (ty := .int) tyX2 hk (by decide) (cell_eq2 (kd_lt hk (by decide)).2) (by rw [cell_eq2 (kd_lt hk (by decide)).2]; unfold pI; dsimp only; rw [up2_at]; rfl) cell_pI rfl inW2 tyX2_ok nmX2 (k := 8) (by decide) gl_X1_100 rfl (by decide +kernel) rfl rfl (Nat.le_of_ble_eq_true rfl) hdg (cx := cx) kk
theorem gl_X2_38 : Cond.fieldLink RX2 38 (TX2 9).1 (TX2 9).2.1 (TX2 9).2.2.1 ∈ lw_g := (lwm 159 (by decide +kernel) rfl)
theorem gf_X2_38 {p : Program} {l : Launch} {e : Env} {R : Room} {s : State} {m : MethodId} {args : Array Value} {below : List Frame} {meth : Method} {c : Code} {cells slots : Nat} {Q : State → Prop} {cc : ByteArray} {nL : Nat} {ret : Option FieldType} {g : Gl} {A : Nat → Prop} {S : St} {pc : Nat} {lv : List (Nat × Value)} {st : List Value} (cx : Cx p s m args meth c cc nL ret RX2 g A) {i : Nat} (hk : kd g i = 2) (hdg : decode cc pc = .ok (.getfield 38, 3)) (kk : WA p l e R s m args below meth c cells slots Q nL g A S (pc + 3) lv (.int (S.1 i 9) :: st)) : WA p l e R s m args below meth c cells slots Q nL g A S pc lv (.ref (ad g i) :: st) := wa_get cx hk (by decide) (cell_eq2 (kd_lt hk (by decide)).2) rfl inW2 (k := 9) (by decide) gl_X2_38 rfl hdg kk
theorem pf_X2_38 {p : Program} {l : Launch} {e : Env} {R : Room} {s : State} {m : MethodId} {args : Array Value} {below : List Frame} {meth : Method} {c : Code} {cells slots : Nat} {Q : State → Prop} {cc : ByteArray} {nL : Nat} {ret : Option FieldType} {g : Gl} {A : Nat → Prop} {S : St} {pc : Nat} {lv : List (Nat × Value)} {st : List Value} (cx : Cx p s m args meth c cc nL ret RX2 g A) {i : Nat} {x : Int32} (hx : x = 0 ∨ x = 1) (hk : kd g i = 2) (hdg : decode cc pc = .ok (.putfield 38, 3)) (kk : WA p l e R s m args below meth c cells slots Q nL g A (pI S i 9 x) (pc + 3) lv st) : WA p l e R s m args below meth c cells slots Q nL g A S pc lv (.int x :: .ref (ad g i) :: st) := wa_put (S2 := pI S i 9 x) (ty := .boolean) tyX2 hk (by decide) (cell_eq2 (kd_lt hk (by decide)).2) (by rw [cell_eq2 (kd_lt hk (by decide)).2]; unfold pI; dsimp only; rw [up2_at]; rfl) cell_pI rfl inW2 tyX2_ok nmX2 (k := 9) (by decide) gl_X2_38 rfl (by decide +kernel) (by rcases hx with rfl | rfl <;> decide) (by rcases hx with rfl | rfl <;> decide) (Nat.le_of_ble_eq_true rfl) hdg (cx := cx) kk
theorem gl_X3_82 : Cond.fieldLink RX3 82 (TX2 9).1 (TX2 9).2.1 (TX2 9).2.2.1 ∈ lw_g := (lwm 160 (by decide +kernel) rfl)
theorem gf_X3_82 {p : Program} {l : Launch} {e : Env} {R : Room} {s : State} {m : MethodId} {args : Array Value} {below : List Frame} {meth : Method} {c : Code} {cells slots : Nat} {Q : State → Prop} {cc : ByteArray} {nL : Nat} {ret : Option FieldType} {g : Gl} {A : Nat → Prop} {S : St} {pc : Nat} {lv : List (Nat × Value)} {st : List Value} (cx : Cx p s m args meth c cc nL ret RX3 g A) {i : Nat} (hk : kd g i = 2) (hdg : decode cc pc = .ok (.getfield 82, 3)) (kk : WA p l e R s m args below meth c cells slots Q nL g A S (pc + 3) lv (.int (S.1 i 9) :: st)) : WA p l e R s m args below meth c cells slots Q nL g A S pc lv (.ref (ad g i) :: st) := wa_get cx hk (by decide) (cell_eq2 (kd_lt hk (by decide)).2) rfl inW2 (k := 9) (by decide) gl_X3_82 rfl hdg kk
theorem pf_X3_82 {p : Program} {l : Launch} {e : Env} {R : Room} {s : State} {m : MethodId} {args : Array Value} {below : List Frame} {meth : Method} {c : Code} {cells slots : Nat} {Q : State → Prop} {cc : ByteArray} {nL : Nat} {ret : Option FieldType} {g : Gl} {A : Nat → Prop} {S : St} {pc : Nat} {lv : List (Nat × Value)} {st : List Value} (cx : Cx p s m args meth c cc nL ret RX3 g A) {i : Nat} {x : Int32} (hx : x = 0 ∨ x = 1) (hk : kd g i = 2) (hdg : decode cc pc = .ok (.putfield 82, 3)) (kk : WA p l e R s m args below meth c cells slots Q nL g A (pI S i 9 x) (pc + 3) lv st) : WA p l e R s m args below meth c cells slots Q nL g A S pc lv (.int x :: .ref (ad g i) :: st) := wa_put (S2 := pI S i 9 x) (ty := .boolean) tyX2 hk (by decide) (cell_eq2 (kd_lt hk (by decide)).2) (by rw [cell_eq2 (kd_lt hk (by decide)).2]; unfold pI; dsimp only; rw [up2_at]; rfl) cell_pI rfl inW2 tyX2_ok nmX2 (k := 9) (by decide) gl_X3_82 rfl (by decide +kernel) (by rcases hx with rfl | rfl <;> decide) (by rcases hx with rfl | rfl <;> decide) (Nat.le_of_ble_eq_true rfl) hdg (cx := cx) kk
theorem gl_X1_116 : Cond.fieldLink RX1 116 (TX2 9).1 (TX2 9).2.1 (TX2 9).2.2.1 ∈ lw_g := (lwm 161 (by decide +kernel) rfl)
theorem gf_X1_116 {p : Program} {l : Launch} {e : Env} {R : Room} {s : State} {m : MethodId} {args : Array Value} {below : List Frame} {meth : Method} {c : Code} {cells slots : Nat} {Q : State → Prop} {cc : ByteArray} {nL : Nat} {ret : Option FieldType} {g : Gl} {A : Nat → Prop} {S : St} {pc : Nat} {lv : List (Nat × Value)} {st : List Value} (cx : Cx p s m args meth c cc nL ret RX1 g A) {i : Nat} (hk : kd g i = 2) (hdg : decode cc pc = .ok (.getfield 116, 3)) (kk : WA p l e R s m args below meth c cells slots Q nL g A S (pc + 3) lv (.int (S.1 i 9) :: st)) : WA p l e R s m args below meth c cells slots Q nL g A S pc lv (.ref (ad g i) :: st) := wa_get cx hk (by decide) (cell_eq2 (kd_lt hk (by decide)).2) rfl inW2 (k := 9) (by decide) gl_X1_116 rfl hdg kk
theorem pf_X1_116 {p : Program} {l : Launch} {e : Env} {R : Room} {s : State} {m : MethodId} {args : Array Value} {below : List Frame} {meth : Method} {c : Code} {cells slots : Nat} {Q : State → Prop} {cc : ByteArray} {nL : Nat} {ret : Option FieldType} {g : Gl} {A : Nat → Prop} {S : St} {pc : Nat} {lv : List (Nat × Value)} {st : List Value} (cx : Cx p s m args meth c cc nL ret RX1 g A) {i : Nat} {x : Int32} (hx : x = 0 ∨ x = 1) (hk : kd g i = 2) (hdg : decode cc pc = .ok (.putfield 116, 3)) (kk : WA p l e R s m args below meth c cells slots Q nL g A (pI S i 9 x) (pc + 3) lv st) : WA p l e R s m args below meth c cells slots Q nL g A S pc lv (.int x :: .ref (ad g i) :: st) := wa_put (S2 := pI S i 9 x) (ty := .boolean) tyX2 hk (by decide) (cell_eq2 (kd_lt hk (by decide)).2) (by rw [cell_eq2 (kd_lt hk (by decide)).2]; unfold pI; dsimp only; rw [up2_at]; rfl) cell_pI rfl inW2 tyX2_ok nmX2 (k := 9) (by decide) gl_X1_116 rfl (by decide +kernel) (by rcases hx with rfl | rfl <;> decide) (by rcases hx with rfl | rfl <;> decide) (Nat.le_of_ble_eq_true rfl) hdg (cx := cx) kk
theorem gl_X2_10 : Cond.fieldLink RX2 10 (TX2 10).1 (TX2 10).2.1 (TX2 10).2.2.1 ∈ lw_g := (lwm 162 (by decide +kernel) rfl)
theorem gf_X2_10 {p : Program} {l : Launch} {e : Env} {R : Room} {s : State} {m : MethodId} {args : Array Value} {below : List Frame} {meth : Method} {c : Code} {cells slots : Nat} {Q : State → Prop} {cc : ByteArray} {nL : Nat} {ret : Option FieldType} {g : Gl} {A : Nat → Prop} {S : St} {pc : Nat} {lv : List (Nat × Value)} {st : List Value} (cx : Cx p s m args meth c cc nL ret RX2 g A) {i : Nat} (hk : kd g i = 2) (hdg : decode cc pc = .ok (.getfield 10, 3)) (kk : WA p l e R s m args below meth c cells slots Q nL g A S (pc + 3) lv (.ref (ad g (i + 1)) :: st)) : WA p l e R s m args below meth c cells slots Q nL g A S pc lv (.ref (ad g i) :: st) := wa_get cx hk (by decide) (cell_eq2 (kd_lt hk (by decide)).2) rfl inW2 (k := 10) (by decide) gl_X2_10 rfl hdg kk
theorem gl_X9_83 : Cond.fieldLink RX9 83 (TX2 10).1 (TX2 10).2.1 (TX2 10).2.2.1 ∈ lw_g := (lwm 163 (by decide +kernel) rfl)
theorem gf_X9_83 {p : Program} {l : Launch} {e : Env} {R : Room} {s : State} {m : MethodId} {args : Array Value} {below : List Frame} {meth : Method} {c : Code} {cells slots : Nat} {Q : State → Prop} {cc : ByteArray} {nL : Nat} {ret : Option FieldType} {g : Gl} {A : Nat → Prop} {S : St} {pc : Nat} {lv : List (Nat × Value)} {st : List Value} (cx : Cx p s m args meth c cc nL ret RX9 g A) {i : Nat} (hk : kd g i = 2) (hdg : decode cc pc = .ok (.getfield 83, 3)) (kk : WA p l e R s m args below meth c cells slots Q nL g A S (pc + 3) lv (.ref (ad g (i + 1)) :: st)) : WA p l e R s m args below meth c cells slots Q nL g A S pc lv (.ref (ad g i) :: st) := wa_get cx hk (by decide) (cell_eq2 (kd_lt hk (by decide)).2) rfl inW2 (k := 10) (by decide) gl_X9_83 rfl hdg kk
theorem gl_X0_44 : Cond.fieldLink RX0 44 (TX2 10).1 (TX2 10).2.1 (TX2 10).2.2.1 ∈ lw_g := (lwm 164 (by decide +kernel) rfl)
theorem gf_X0_44 {p : Program} {l : Launch} {e : Env} {R : Room} {s : State} {m : MethodId} {args : Array Value} {below : List Frame} {meth : Method} {c : Code} {cells slots : Nat} {Q : State → Prop} {cc : ByteArray} {nL : Nat} {ret : Option FieldType} {g : Gl} {A : Nat → Prop} {S : St} {pc : Nat} {lv : List (Nat × Value)} {st : List Value} (cx : Cx p s m args meth c cc nL ret RX0 g A) {i : Nat} (hk : kd g i = 2) (hdg : decode cc pc = .ok (.getfield 44, 3)) (kk : WA p l e R s m args below meth c cells slots Q nL g A S (pc + 3) lv (.ref (ad g (i + 1)) :: st)) : WA p l e R s m args below meth c cells slots Q nL g A S pc lv (.ref (ad g i) :: st) := wa_get cx hk (by decide) (cell_eq2 (kd_lt hk (by decide)).2) rfl inW2 (k := 10) (by decide) gl_X0_44 rfl hdg kk
theorem gl_X3_44 : Cond.fieldLink RX3 44 (TX2 10).1 (TX2 10).2.1 (TX2 10).2.2.1 ∈ lw_g := (lwm 165 (by decide +kernel) rfl)
theorem gf_X3_44 {p : Program} {l : Launch} {e : Env} {R : Room} {s : State} {m : MethodId} {args : Array Value} {below : List Frame} {meth : Method} {c : Code} {cells slots : Nat} {Q : State → Prop} {cc : ByteArray} {nL : Nat} {ret : Option FieldType} {g : Gl} {A : Nat → Prop} {S : St} {pc : Nat} {lv : List (Nat × Value)} {st : List Value} (cx : Cx p s m args meth c cc nL ret RX3 g A) {i : Nat} (hk : kd g i = 2) (hdg : decode cc pc = .ok (.getfield 44, 3)) (kk : WA p l e R s m args below meth c cells slots Q nL g A S (pc + 3) lv (.ref (ad g (i + 1)) :: st)) : WA p l e R s m args below meth c cells slots Q nL g A S pc lv (.ref (ad g i) :: st) := wa_get cx hk (by decide) (cell_eq2 (kd_lt hk (by decide)).2) rfl inW2 (k := 10) (by decide) gl_X3_44 rfl hdg kk
theorem gl_X8_37 : Cond.fieldLink RX8 37 (TX0 0).1 (TX0 0).2.1 (TX0 0).2.2.1 ∈ lw_g := (lwm 195 (by decide +kernel) rfl)
theorem gf_X8_37 {p : Program} {l : Launch} {e : Env} {R : Room} {s : State} {m : MethodId} {args : Array Value} {below : List Frame} {meth : Method} {c : Code} {cells slots : Nat} {Q : State → Prop} {cc : ByteArray} {nL : Nat} {ret : Option FieldType} {g : Gl} {A : Nat → Prop} {S : St} {pc : Nat} {lv : List (Nat × Value)} {st : List Value} (cx : Cx p s m args meth c cc nL ret RX8 g A) {i : Nat} (hk : kd g i = 0) (hdg : decode cc pc = .ok (.getfield 37, 3)) (kk : WA p l e R s m args below meth c cells slots Q nL g A S (pc + 3) lv (.int (S.1 i 0) :: st)) : WA p l e R s m args below meth c cells slots Q nL g A S pc lv (.ref (ad g i) :: st) := wa_get cx hk (by decide) (cell_eq0 (kd_lt hk (by decide)).2) rfl inW0 (k := 0) (by decide) gl_X8_37 rfl hdg kk
theorem pf_X8_37 {p : Program} {l : Launch} {e : Env} {R : Room} {s : State} {m : MethodId} {args : Array Value} {below : List Frame} {meth : Method} {c : Code} {cells slots : Nat} {Q : State → Prop} {cc : ByteArray} {nL : Nat} {ret : Option FieldType} {g : Gl} {A : Nat → Prop} {S : St} {pc : Nat} {lv : List (Nat × Value)} {st : List Value} (cx : Cx p s m args meth c cc nL ret RX8 g A) {i : Nat} {x : Int32} (hk : kd g i = 0) (hdg : decode cc pc = .ok (.putfield 37, 3)) (kk : WA p l e R s m args below meth c cells slots Q nL g A (pI S i 0 x) (pc + 3) lv st) : WA p l e R s m args below meth c cells slots Q nL g A S pc lv (.int x :: .ref (ad g i) :: st) := wa_put (S2 := pI S i 0 x) (ty := .int) tyX0 hk (by decide) (cell_eq0 (kd_lt hk (by decide)).2) (by rw [cell_eq0 (kd_lt hk (by decide)).2]; unfold pI; dsimp only; rw [up2_at]; rfl) cell_pI rfl inW0 tyX0_ok nmX0 (k := 0) (by decide) gl_X8_37 rfl (by decide +kernel) rfl rfl (Nat.le_of_ble_eq_true rfl) hdg (cx := cx) kk
theorem gl_X4_43 : Cond.fieldLink RX4 43 (TX0 0).1 (TX0 0).2.1 (TX0 0).2.2.1 ∈ lw_g := (lwm 196 (by decide +kernel) rfl)
theorem gf_X4_43 {p : Program} {l : Launch} {e : Env} {R : Room} {s : State} {m : MethodId} {args : Array Value} {below : List Frame} {meth : Method} {c : Code} {cells slots : Nat} {Q : State → Prop} {cc : ByteArray} {nL : Nat} {ret : Option FieldType} {g : Gl} {A : Nat → Prop} {S : St} {pc : Nat} {lv : List (Nat × Value)} {st : List Value} (cx : Cx p s m args meth c cc nL ret RX4 g A) {i : Nat} (hk : kd g i = 0) (hdg : decode cc pc = .ok (.getfield 43, 3)) (kk : WA p l e R s m args below meth c cells slots Q nL g A S (pc + 3) lv (.int (S.1 i 0) :: st)) : WA p l e R s m args below meth c cells slots Q nL g A S pc lv (.ref (ad g i) :: st) := wa_get cx hk (by decide) (cell_eq0 (kd_lt hk (by decide)).2) rfl inW0 (k := 0) (by decide) gl_X4_43 rfl hdg kk
theorem pf_X4_43 {p : Program} {l : Launch} {e : Env} {R : Room} {s : State} {m : MethodId} {args : Array Value} {below : List Frame} {meth : Method} {c : Code} {cells slots : Nat} {Q : State → Prop} {cc : ByteArray} {nL : Nat} {ret : Option FieldType} {g : Gl} {A : Nat → Prop} {S : St} {pc : Nat} {lv : List (Nat × Value)} {st : List Value} (cx : Cx p s m args meth c cc nL ret RX4 g A) {i : Nat} {x : Int32} (hk : kd g i = 0) (hdg : decode cc pc = .ok (.putfield 43, 3)) (kk : WA p l e R s m args below meth c cells slots Q nL g A (pI S i 0 x) (pc + 3) lv st) : WA p l e R s m args below meth c cells slots Q nL g A S pc lv (.int x :: .ref (ad g i) :: st) := wa_put (S2 := pI S i 0 x) (ty := .int) tyX0 hk (by decide) (cell_eq0 (kd_lt hk (by decide)).2) (by rw [cell_eq0 (kd_lt hk (by decide)).2]; unfold pI; dsimp only; rw [up2_at]; rfl) cell_pI rfl inW0 tyX0_ok nmX0 (k := 0) (by decide) gl_X4_43 rfl (by decide +kernel) rfl rfl (Nat.le_of_ble_eq_true rfl) hdg (cx := cx) kk
theorem gl_X0_61 : Cond.fieldLink RX0 61 (TX0 0).1 (TX0 0).2.1 (TX0 0).2.2.1 ∈ lw_g := (lwm 197 (by decide +kernel) rfl)
theorem gf_X0_61 {p : Program} {l : Launch} {e : Env} {R : Room} {s : State} {m : MethodId} {args : Array Value} {below : List Frame} {meth : Method} {c : Code} {cells slots : Nat} {Q : State → Prop} {cc : ByteArray} {nL : Nat} {ret : Option FieldType} {g : Gl} {A : Nat → Prop} {S : St} {pc : Nat} {lv : List (Nat × Value)} {st : List Value} (cx : Cx p s m args meth c cc nL ret RX0 g A) {i : Nat} (hk : kd g i = 0) (hdg : decode cc pc = .ok (.getfield 61, 3)) (kk : WA p l e R s m args below meth c cells slots Q nL g A S (pc + 3) lv (.int (S.1 i 0) :: st)) : WA p l e R s m args below meth c cells slots Q nL g A S pc lv (.ref (ad g i) :: st) := wa_get cx hk (by decide) (cell_eq0 (kd_lt hk (by decide)).2) rfl inW0 (k := 0) (by decide) gl_X0_61 rfl hdg kk
theorem pf_X0_61 {p : Program} {l : Launch} {e : Env} {R : Room} {s : State} {m : MethodId} {args : Array Value} {below : List Frame} {meth : Method} {c : Code} {cells slots : Nat} {Q : State → Prop} {cc : ByteArray} {nL : Nat} {ret : Option FieldType} {g : Gl} {A : Nat → Prop} {S : St} {pc : Nat} {lv : List (Nat × Value)} {st : List Value} (cx : Cx p s m args meth c cc nL ret RX0 g A) {i : Nat} {x : Int32} (hk : kd g i = 0) (hdg : decode cc pc = .ok (.putfield 61, 3)) (kk : WA p l e R s m args below meth c cells slots Q nL g A (pI S i 0 x) (pc + 3) lv st) : WA p l e R s m args below meth c cells slots Q nL g A S pc lv (.int x :: .ref (ad g i) :: st) := wa_put (S2 := pI S i 0 x) (ty := .int) tyX0 hk (by decide) (cell_eq0 (kd_lt hk (by decide)).2) (by rw [cell_eq0 (kd_lt hk (by decide)).2]; unfold pI; dsimp only; rw [up2_at]; rfl) cell_pI rfl inW0 tyX0_ok nmX0 (k := 0) (by decide) gl_X0_61 rfl (by decide +kernel) rfl rfl (Nat.le_of_ble_eq_true rfl) hdg (cx := cx) kk
theorem gl_X1_59 : Cond.fieldLink RX1 59 (TX0 0).1 (TX0 0).2.1 (TX0 0).2.2.1 ∈ lw_g := (lwm 198 (by decide +kernel) rfl)
theorem gf_X1_59 {p : Program} {l : Launch} {e : Env} {R : Room} {s : State} {m : MethodId} {args : Array Value} {below : List Frame} {meth : Method} {c : Code} {cells slots : Nat} {Q : State → Prop} {cc : ByteArray} {nL : Nat} {ret : Option FieldType} {g : Gl} {A : Nat → Prop} {S : St} {pc : Nat} {lv : List (Nat × Value)} {st : List Value} (cx : Cx p s m args meth c cc nL ret RX1 g A) {i : Nat} (hk : kd g i = 0) (hdg : decode cc pc = .ok (.getfield 59, 3)) (kk : WA p l e R s m args below meth c cells slots Q nL g A S (pc + 3) lv (.int (S.1 i 0) :: st)) : WA p l e R s m args below meth c cells slots Q nL g A S pc lv (.ref (ad g i) :: st) := wa_get cx hk (by decide) (cell_eq0 (kd_lt hk (by decide)).2) rfl inW0 (k := 0) (by decide) gl_X1_59 rfl hdg kk
theorem pf_X1_59 {p : Program} {l : Launch} {e : Env} {R : Room} {s : State} {m : MethodId} {args : Array Value} {below : List Frame} {meth : Method} {c : Code} {cells slots : Nat} {Q : State → Prop} {cc : ByteArray} {nL : Nat} {ret : Option FieldType} {g : Gl} {A : Nat → Prop} {S : St} {pc : Nat} {lv : List (Nat × Value)} {st : List Value} (cx : Cx p s m args meth c cc nL ret RX1 g A) {i : Nat} {x : Int32} (hk : kd g i = 0) (hdg : decode cc pc = .ok (.putfield 59, 3)) (kk : WA p l e R s m args below meth c cells slots Q nL g A (pI S i 0 x) (pc + 3) lv st) : WA p l e R s m args below meth c cells slots Q nL g A S pc lv (.int x :: .ref (ad g i) :: st) := wa_put (S2 := pI S i 0 x) (ty := .int) tyX0 hk (by decide) (cell_eq0 (kd_lt hk (by decide)).2) (by rw [cell_eq0 (kd_lt hk (by decide)).2]; unfold pI; dsimp only; rw [up2_at]; rfl) cell_pI rfl inW0 tyX0_ok nmX0 (k := 0) (by decide) gl_X1_59 rfl (by decide +kernel) rfl rfl (Nat.le_of_ble_eq_true rfl) hdg (cx := cx) kk
theorem gl_X9_198 : Cond.fieldLink RX9 198 (TX0 0).1 (TX0 0).2.1 (TX0 0).2.2.1 ∈ lw_g := (lwm 199 (by decide +kernel) rfl)
theorem gf_X9_198 {p : Program} {l : Launch} {e : Env} {R : Room} {s : State} {m : MethodId} {args : Array Value} {below : List Frame} {meth : Method} {c : Code} {cells slots : Nat} {Q : State → Prop} {cc : ByteArray} {nL : Nat} {ret : Option FieldType} {g : Gl} {A : Nat → Prop} {S : St} {pc : Nat} {lv : List (Nat × Value)} {st : List Value} (cx : Cx p s m args meth c cc nL ret RX9 g A) {i : Nat} (hk : kd g i = 0) (hdg : decode cc pc = .ok (.getfield 198, 3)) (kk : WA p l e R s m args below meth c cells slots Q nL g A S (pc + 3) lv (.int (S.1 i 0) :: st)) : WA p l e R s m args below meth c cells slots Q nL g A S pc lv (.ref (ad g i) :: st) := wa_get cx hk (by decide) (cell_eq0 (kd_lt hk (by decide)).2) rfl inW0 (k := 0) (by decide) gl_X9_198 rfl hdg kk
theorem pf_X9_198 {p : Program} {l : Launch} {e : Env} {R : Room} {s : State} {m : MethodId} {args : Array Value} {below : List Frame} {meth : Method} {c : Code} {cells slots : Nat} {Q : State → Prop} {cc : ByteArray} {nL : Nat} {ret : Option FieldType} {g : Gl} {A : Nat → Prop} {S : St} {pc : Nat} {lv : List (Nat × Value)} {st : List Value} (cx : Cx p s m args meth c cc nL ret RX9 g A) {i : Nat} {x : Int32} (hk : kd g i = 0) (hdg : decode cc pc = .ok (.putfield 198, 3)) (kk : WA p l e R s m args below meth c cells slots Q nL g A (pI S i 0 x) (pc + 3) lv st) : WA p l e R s m args below meth c cells slots Q nL g A S pc lv (.int x :: .ref (ad g i) :: st) := wa_put (S2 := pI S i 0 x) (ty := .int) tyX0 hk (by decide) (cell_eq0 (kd_lt hk (by decide)).2) (by rw [cell_eq0 (kd_lt hk (by decide)).2]; unfold pI; dsimp only; rw [up2_at]; rfl) cell_pI rfl inW0 tyX0_ok nmX0 (k := 0) (by decide) gl_X9_198 rfl (by decide +kernel) rfl rfl (Nat.le_of_ble_eq_true rfl) hdg (cx := cx) kk
theorem gl_X0_11 : Cond.fieldLink RX0 11 (TX0 1).1 (TX0 1).2.1 (TX0 1).2.2.1 ∈ lw_g := (lwm 200 (by decide +kernel) rfl)
theorem gf_X0_11 {p : Program} {l : Launch} {e : Env} {R : Room} {s : State} {m : MethodId} {args : Array Value} {below : List Frame} {meth : Method} {c : Code} {cells slots : Nat} {Q : State → Prop} {cc : ByteArray} {nL : Nat} {ret : Option FieldType} {g : Gl} {A : Nat → Prop} {S : St} {pc : Nat} {lv : List (Nat × Value)} {st : List Value} (cx : Cx p s m args meth c cc nL ret RX0 g A) {i : Nat} (hk : kd g i = 0) (hdg : decode cc pc = .ok (.getfield 11, 3)) (kk : WA p l e R s m args below meth c cells slots Q nL g A S (pc + 3) lv (.ref (ad g (i + 1)) :: st)) : WA p l e R s m args below meth c cells slots Q nL g A S pc lv (.ref (ad g i) :: st) := wa_get cx hk (by decide) (cell_eq0 (kd_lt hk (by decide)).2) rfl inW0 (k := 1) (by decide) gl_X0_11 rfl hdg kk
theorem gl_X4_79 : Cond.fieldLink RX4 79 (TX0 1).1 (TX0 1).2.1 (TX0 1).2.2.1 ∈ lw_g := (lwm 201 (by decide +kernel) rfl)
theorem gf_X4_79 {p : Program} {l : Launch} {e : Env} {R : Room} {s : State} {m : MethodId} {args : Array Value} {below : List Frame} {meth : Method} {c : Code} {cells slots : Nat} {Q : State → Prop} {cc : ByteArray} {nL : Nat} {ret : Option FieldType} {g : Gl} {A : Nat → Prop} {S : St} {pc : Nat} {lv : List (Nat × Value)} {st : List Value} (cx : Cx p s m args meth c cc nL ret RX4 g A) {i : Nat} (hk : kd g i = 0) (hdg : decode cc pc = .ok (.getfield 79, 3)) (kk : WA p l e R s m args below meth c cells slots Q nL g A S (pc + 3) lv (.ref (ad g (i + 1)) :: st)) : WA p l e R s m args below meth c cells slots Q nL g A S pc lv (.ref (ad g i) :: st) := wa_get cx hk (by decide) (cell_eq0 (kd_lt hk (by decide)).2) rfl inW0 (k := 1) (by decide) gl_X4_79 rfl hdg kk
theorem gl_X9_199 : Cond.fieldLink RX9 199 (TX0 1).1 (TX0 1).2.1 (TX0 1).2.2.1 ∈ lw_g := (lwm 202 (by decide +kernel) rfl)
theorem gf_X9_199 {p : Program} {l : Launch} {e : Env} {R : Room} {s : State} {m : MethodId} {args : Array Value} {below : List Frame} {meth : Method} {c : Code} {cells slots : Nat} {Q : State → Prop} {cc : ByteArray} {nL : Nat} {ret : Option FieldType} {g : Gl} {A : Nat → Prop} {S : St} {pc : Nat} {lv : List (Nat × Value)} {st : List Value} (cx : Cx p s m args meth c cc nL ret RX9 g A) {i : Nat} (hk : kd g i = 0) (hdg : decode cc pc = .ok (.getfield 199, 3)) (kk : WA p l e R s m args below meth c cells slots Q nL g A S (pc + 3) lv (.ref (ad g (i + 1)) :: st)) : WA p l e R s m args below meth c cells slots Q nL g A S pc lv (.ref (ad g i) :: st) := wa_get cx hk (by decide) (cell_eq0 (kd_lt hk (by decide)).2) rfl inW0 (k := 1) (by decide) gl_X9_199 rfl hdg kk
theorem gl_X0_17 : Cond.fieldLink RX0 17 (TX0 2).1 (TX0 2).2.1 (TX0 2).2.2.1 ∈ lw_g := (lwm 203 (by decide +kernel) rfl)
theorem gf_X0_17 {p : Program} {l : Launch} {e : Env} {R : Room} {s : State} {m : MethodId} {args : Array Value} {below : List Frame} {meth : Method} {c : Code} {cells slots : Nat} {Q : State → Prop} {cc : ByteArray} {nL : Nat} {ret : Option FieldType} {g : Gl} {A : Nat → Prop} {S : St} {pc : Nat} {lv : List (Nat × Value)} {st : List Value} (cx : Cx p s m args meth c cc nL ret RX0 g A) {i : Nat} (hk : kd g i = 0) (hdg : decode cc pc = .ok (.getfield 17, 3)) (kk : WA p l e R s m args below meth c cells slots Q nL g A S (pc + 3) lv (.ref (ad g (i + 2)) :: st)) : WA p l e R s m args below meth c cells slots Q nL g A S pc lv (.ref (ad g i) :: st) := wa_get cx hk (by decide) (cell_eq0 (kd_lt hk (by decide)).2) rfl inW0 (k := 2) (by decide) gl_X0_17 rfl hdg kk
theorem gl_X1_90 : Cond.fieldLink RX1 90 (TX0 2).1 (TX0 2).2.1 (TX0 2).2.2.1 ∈ lw_g := (lwm 204 (by decide +kernel) rfl)
theorem gf_X1_90 {p : Program} {l : Launch} {e : Env} {R : Room} {s : State} {m : MethodId} {args : Array Value} {below : List Frame} {meth : Method} {c : Code} {cells slots : Nat} {Q : State → Prop} {cc : ByteArray} {nL : Nat} {ret : Option FieldType} {g : Gl} {A : Nat → Prop} {S : St} {pc : Nat} {lv : List (Nat × Value)} {st : List Value} (cx : Cx p s m args meth c cc nL ret RX1 g A) {i : Nat} (hk : kd g i = 0) (hdg : decode cc pc = .ok (.getfield 90, 3)) (kk : WA p l e R s m args below meth c cells slots Q nL g A S (pc + 3) lv (.ref (ad g (i + 2)) :: st)) : WA p l e R s m args below meth c cells slots Q nL g A S pc lv (.ref (ad g i) :: st) := wa_get cx hk (by decide) (cell_eq0 (kd_lt hk (by decide)).2) rfl inW0 (k := 2) (by decide) gl_X1_90 rfl hdg kk
theorem gl_X9_155 : Cond.fieldLink RX9 155 (TX0 2).1 (TX0 2).2.1 (TX0 2).2.2.1 ∈ lw_g := (lwm 205 (by decide +kernel) rfl)
theorem gf_X9_155 {p : Program} {l : Launch} {e : Env} {R : Room} {s : State} {m : MethodId} {args : Array Value} {below : List Frame} {meth : Method} {c : Code} {cells slots : Nat} {Q : State → Prop} {cc : ByteArray} {nL : Nat} {ret : Option FieldType} {g : Gl} {A : Nat → Prop} {S : St} {pc : Nat} {lv : List (Nat × Value)} {st : List Value} (cx : Cx p s m args meth c cc nL ret RX9 g A) {i : Nat} (hk : kd g i = 0) (hdg : decode cc pc = .ok (.getfield 155, 3)) (kk : WA p l e R s m args below meth c cells slots Q nL g A S (pc + 3) lv (.ref (ad g (i + 2)) :: st)) : WA p l e R s m args below meth c cells slots Q nL g A S pc lv (.ref (ad g i) :: st) := wa_get cx hk (by decide) (cell_eq0 (kd_lt hk (by decide)).2) rfl inW0 (k := 2) (by decide) gl_X9_155 rfl hdg kk
theorem gl_X0_20 : Cond.fieldLink RX0 20 (TX0 3).1 (TX0 3).2.1 (TX0 3).2.2.1 ∈ lw_g := (lwm 206 (by decide +kernel) rfl)
theorem gf_X0_20 {p : Program} {l : Launch} {e : Env} {R : Room} {s : State} {m : MethodId} {args : Array Value} {below : List Frame} {meth : Method} {c : Code} {cells slots : Nat} {Q : State → Prop} {cc : ByteArray} {nL : Nat} {ret : Option FieldType} {g : Gl} {A : Nat → Prop} {S : St} {pc : Nat} {lv : List (Nat × Value)} {st : List Value} (cx : Cx p s m args meth c cc nL ret RX0 g A) {i : Nat} (hk : kd g i = 0) (hdg : decode cc pc = .ok (.getfield 20, 3)) (kk : WA p l e R s m args below meth c cells slots Q nL g A S (pc + 3) lv (.ref (ad g (i + 3)) :: st)) : WA p l e R s m args below meth c cells slots Q nL g A S pc lv (.ref (ad g i) :: st) := wa_get cx hk (by decide) (cell_eq0 (kd_lt hk (by decide)).2) rfl inW0 (k := 3) (by decide) gl_X0_20 rfl hdg kk
theorem gl_X1_84 : Cond.fieldLink RX1 84 (TX0 3).1 (TX0 3).2.1 (TX0 3).2.2.1 ∈ lw_g := (lwm 207 (by decide +kernel) rfl)
theorem gf_X1_84 {p : Program} {l : Launch} {e : Env} {R : Room} {s : State} {m : MethodId} {args : Array Value} {below : List Frame} {meth : Method} {c : Code} {cells slots : Nat} {Q : State → Prop} {cc : ByteArray} {nL : Nat} {ret : Option FieldType} {g : Gl} {A : Nat → Prop} {S : St} {pc : Nat} {lv : List (Nat × Value)} {st : List Value} (cx : Cx p s m args meth c cc nL ret RX1 g A) {i : Nat} (hk : kd g i = 0) (hdg : decode cc pc = .ok (.getfield 84, 3)) (kk : WA p l e R s m args below meth c cells slots Q nL g A S (pc + 3) lv (.ref (ad g (i + 3)) :: st)) : WA p l e R s m args below meth c cells slots Q nL g A S pc lv (.ref (ad g i) :: st) := wa_get cx hk (by decide) (cell_eq0 (kd_lt hk (by decide)).2) rfl inW0 (k := 3) (by decide) gl_X1_84 rfl hdg kk
theorem gl_X0_23 : Cond.fieldLink RX0 23 (TX0 4).1 (TX0 4).2.1 (TX0 4).2.2.1 ∈ lw_g := (lwm 208 (by decide +kernel) rfl)
theorem gf_X0_23 {p : Program} {l : Launch} {e : Env} {R : Room} {s : State} {m : MethodId} {args : Array Value} {below : List Frame} {meth : Method} {c : Code} {cells slots : Nat} {Q : State → Prop} {cc : ByteArray} {nL : Nat} {ret : Option FieldType} {g : Gl} {A : Nat → Prop} {S : St} {pc : Nat} {lv : List (Nat × Value)} {st : List Value} (cx : Cx p s m args meth c cc nL ret RX0 g A) {i : Nat} (hk : kd g i = 0) (hdg : decode cc pc = .ok (.getfield 23, 3)) (kk : WA p l e R s m args below meth c cells slots Q nL g A S (pc + 3) lv (.ref (ad g (i + 4)) :: st)) : WA p l e R s m args below meth c cells slots Q nL g A S pc lv (.ref (ad g i) :: st) := wa_get cx hk (by decide) (cell_eq0 (kd_lt hk (by decide)).2) rfl inW0 (k := 4) (by decide) gl_X0_23 rfl hdg kk
theorem gl_X4_49 : Cond.fieldLink RX4 49 (TX0 4).1 (TX0 4).2.1 (TX0 4).2.2.1 ∈ lw_g := (lwm 209 (by decide +kernel) rfl)
theorem gf_X4_49 {p : Program} {l : Launch} {e : Env} {R : Room} {s : State} {m : MethodId} {args : Array Value} {below : List Frame} {meth : Method} {c : Code} {cells slots : Nat} {Q : State → Prop} {cc : ByteArray} {nL : Nat} {ret : Option FieldType} {g : Gl} {A : Nat → Prop} {S : St} {pc : Nat} {lv : List (Nat × Value)} {st : List Value} (cx : Cx p s m args meth c cc nL ret RX4 g A) {i : Nat} (hk : kd g i = 0) (hdg : decode cc pc = .ok (.getfield 49, 3)) (kk : WA p l e R s m args below meth c cells slots Q nL g A S (pc + 3) lv (.ref (ad g (i + 4)) :: st)) : WA p l e R s m args below meth c cells slots Q nL g A S pc lv (.ref (ad g i) :: st) := wa_get cx hk (by decide) (cell_eq0 (kd_lt hk (by decide)).2) rfl inW0 (k := 4) (by decide) gl_X4_49 rfl hdg kk
theorem gl_X1_78 : Cond.fieldLink RX1 78 (TX0 4).1 (TX0 4).2.1 (TX0 4).2.2.1 ∈ lw_g := (lwm 210 (by decide +kernel) rfl)
theorem gf_X1_78 {p : Program} {l : Launch} {e : Env} {R : Room} {s : State} {m : MethodId} {args : Array Value} {below : List Frame} {meth : Method} {c : Code} {cells slots : Nat} {Q : State → Prop} {cc : ByteArray} {nL : Nat} {ret : Option FieldType} {g : Gl} {A : Nat → Prop} {S : St} {pc : Nat} {lv : List (Nat × Value)} {st : List Value} (cx : Cx p s m args meth c cc nL ret RX1 g A) {i : Nat} (hk : kd g i = 0) (hdg : decode cc pc = .ok (.getfield 78, 3)) (kk : WA p l e R s m args below meth c cells slots Q nL g A S (pc + 3) lv (.ref (ad g (i + 4)) :: st)) : WA p l e R s m args below meth c cells slots Q nL g A S pc lv (.ref (ad g i) :: st) := wa_get cx hk (by decide) (cell_eq0 (kd_lt hk (by decide)).2) rfl inW0 (k := 4) (by decide) gl_X1_78 rfl hdg kk
theorem gl_X0_26 : Cond.fieldLink RX0 26 (TX0 5).1 (TX0 5).2.1 (TX0 5).2.2.1 ∈ lw_g := (lwm 211 (by decide +kernel) rfl)
theorem gf_X0_26 {p : Program} {l : Launch} {e : Env} {R : Room} {s : State} {m : MethodId} {args : Array Value} {below : List Frame} {meth : Method} {c : Code} {cells slots : Nat} {Q : State → Prop} {cc : ByteArray} {nL : Nat} {ret : Option FieldType} {g : Gl} {A : Nat → Prop} {S : St} {pc : Nat} {lv : List (Nat × Value)} {st : List Value} (cx : Cx p s m args meth c cc nL ret RX0 g A) {i : Nat} (hk : kd g i = 0) (hdg : decode cc pc = .ok (.getfield 26, 3)) (kk : WA p l e R s m args below meth c cells slots Q nL g A S (pc + 3) lv (.ref (ad g (i + 5)) :: st)) : WA p l e R s m args below meth c cells slots Q nL g A S pc lv (.ref (ad g i) :: st) := wa_get cx hk (by decide) (cell_eq0 (kd_lt hk (by decide)).2) rfl inW0 (k := 5) (by decide) gl_X0_26 rfl hdg kk
theorem gl_X1_87 : Cond.fieldLink RX1 87 (TX0 5).1 (TX0 5).2.1 (TX0 5).2.2.1 ∈ lw_g := (lwm 212 (by decide +kernel) rfl)
theorem gf_X1_87 {p : Program} {l : Launch} {e : Env} {R : Room} {s : State} {m : MethodId} {args : Array Value} {below : List Frame} {meth : Method} {c : Code} {cells slots : Nat} {Q : State → Prop} {cc : ByteArray} {nL : Nat} {ret : Option FieldType} {g : Gl} {A : Nat → Prop} {S : St} {pc : Nat} {lv : List (Nat × Value)} {st : List Value} (cx : Cx p s m args meth c cc nL ret RX1 g A) {i : Nat} (hk : kd g i = 0) (hdg : decode cc pc = .ok (.getfield 87, 3)) (kk : WA p l e R s m args below meth c cells slots Q nL g A S (pc + 3) lv (.ref (ad g (i + 5)) :: st)) : WA p l e R s m args below meth c cells slots Q nL g A S pc lv (.ref (ad g i) :: st) := wa_get cx hk (by decide) (cell_eq0 (kd_lt hk (by decide)).2) rfl inW0 (k := 5) (by decide) gl_X1_87 rfl hdg kk
end
section
theorem gl_X0_29 : Cond.fieldLink RX0 29 (TX0 6).1 (TX0 6).2.1 (TX0 6).2.2.1 ∈ lw_g := (lwm 213 (by decide +kernel) rfl)
theorem gf_X0_29 {p : Program} {l : Launch} {e : Env} {R : Room} {s : State} {m : MethodId} {args : Array Value} {below : List Frame} {meth : Method} {c : Code} {cells slots : Nat} {Q : State → Prop} {cc : ByteArray} {nL : Nat} {ret : Option FieldType} {g : Gl} {A : Nat → Prop} {S : St} {pc : Nat} {lv : List (Nat × Value)} {st : List Value} (cx : Cx p s m args meth c cc nL ret RX0 g A) {i : Nat} (hk : kd g i = 0) (hdg : decode cc pc = .ok (.getfield 29, 3)) (kk : WA p l e R s m args below meth c cells slots Q nL g A S (pc + 3) lv (.ref (ad g (i + 6)) :: st)) : WA p l e R s m args below meth c cells slots Q nL g A S pc lv (.ref (ad g i) :: st) := wa_get cx hk (by decide) (cell_eq0 (kd_lt hk (by decide)).2) rfl inW0 (k := 6) (by decide) gl_X0_29 rfl hdg kk
theorem gl_X4_46 : Cond.fieldLink RX4 46 (TX0 6).1 (TX0 6).2.1 (TX0 6).2.2.1 ∈ lw_g := (lwm 214 (by decide +kernel) rfl)
theorem gf_X4_46 {p : Program} {l : Launch} {e : Env} {R : Room} {s : State} {m : MethodId} {args : Array Value} {below : List Frame} {meth : Method} {c : Code} {cells slots : Nat} {Q : State → Prop} {cc : ByteArray} {nL : Nat} {ret : Option FieldType} {g : Gl} {A : Nat → Prop} {S : St} {pc : Nat} {lv : List (Nat × Value)} {st : List Value} (cx : Cx p s m args meth c cc nL ret RX4 g A) {i : Nat} (hk : kd g i = 0) (hdg : decode cc pc = .ok (.getfield 46, 3)) (kk : WA p l e R s m args below meth c cells slots Q nL g A S (pc + 3) lv (.ref (ad g (i + 6)) :: st)) : WA p l e R s m args below meth c cells slots Q nL g A S pc lv (.ref (ad g i) :: st) := wa_get cx hk (by decide) (cell_eq0 (kd_lt hk (by decide)).2) rfl inW0 (k := 6) (by decide) gl_X4_46 rfl hdg kk
theorem gl_X9_202 : Cond.fieldLink RX9 202 (TX0 6).1 (TX0 6).2.1 (TX0 6).2.2.1 ∈ lw_g := (lwm 215 (by decide +kernel) rfl)
theorem gf_X9_202 {p : Program} {l : Launch} {e : Env} {R : Room} {s : State} {m : MethodId} {args : Array Value} {below : List Frame} {meth : Method} {c : Code} {cells slots : Nat} {Q : State → Prop} {cc : ByteArray} {nL : Nat} {ret : Option FieldType} {g : Gl} {A : Nat → Prop} {S : St} {pc : Nat} {lv : List (Nat × Value)} {st : List Value} (cx : Cx p s m args meth c cc nL ret RX9 g A) {i : Nat} (hk : kd g i = 0) (hdg : decode cc pc = .ok (.getfield 202, 3)) (kk : WA p l e R s m args below meth c cells slots Q nL g A S (pc + 3) lv (.ref (ad g (i + 6)) :: st)) : WA p l e R s m args below meth c cells slots Q nL g A S pc lv (.ref (ad g i) :: st) := wa_get cx hk (by decide) (cell_eq0 (kd_lt hk (by decide)).2) rfl inW0 (k := 6) (by decide) gl_X9_202 rfl hdg kk
theorem gl_X0_32 : Cond.fieldLink RX0 32 (TX0 7).1 (TX0 7).2.1 (TX0 7).2.2.1 ∈ lw_g := (lwm 216 (by decide +kernel) rfl)
theorem gf_X0_32 {p : Program} {l : Launch} {e : Env} {R : Room} {s : State} {m : MethodId} {args : Array Value} {below : List Frame} {meth : Method} {c : Code} {cells slots : Nat} {Q : State → Prop} {cc : ByteArray} {nL : Nat} {ret : Option FieldType} {g : Gl} {A : Nat → Prop} {S : St} {pc : Nat} {lv : List (Nat × Value)} {st : List Value} (cx : Cx p s m args meth c cc nL ret RX0 g A) {i : Nat} (hk : kd g i = 0) (hdg : decode cc pc = .ok (.getfield 32, 3)) (kk : WA p l e R s m args below meth c cells slots Q nL g A S (pc + 3) lv (.ref (ad g (i + 7)) :: st)) : WA p l e R s m args below meth c cells slots Q nL g A S pc lv (.ref (ad g i) :: st) := wa_get cx hk (by decide) (cell_eq0 (kd_lt hk (by decide)).2) rfl inW0 (k := 7) (by decide) gl_X0_32 rfl hdg kk
theorem gl_X8_108 : Cond.fieldLink RX8 108 (TX0 7).1 (TX0 7).2.1 (TX0 7).2.2.1 ∈ lw_g := (lwm 217 (by decide +kernel) rfl)
theorem gf_X8_108 {p : Program} {l : Launch} {e : Env} {R : Room} {s : State} {m : MethodId} {args : Array Value} {below : List Frame} {meth : Method} {c : Code} {cells slots : Nat} {Q : State → Prop} {cc : ByteArray} {nL : Nat} {ret : Option FieldType} {g : Gl} {A : Nat → Prop} {S : St} {pc : Nat} {lv : List (Nat × Value)} {st : List Value} (cx : Cx p s m args meth c cc nL ret RX8 g A) {i : Nat} (hk : kd g i = 0) (hdg : decode cc pc = .ok (.getfield 108, 3)) (kk : WA p l e R s m args below meth c cells slots Q nL g A S (pc + 3) lv (.ref (ad g (i + 7)) :: st)) : WA p l e R s m args below meth c cells slots Q nL g A S pc lv (.ref (ad g i) :: st) := wa_get cx hk (by decide) (cell_eq0 (kd_lt hk (by decide)).2) rfl inW0 (k := 7) (by decide) gl_X8_108 rfl hdg kk
theorem gl_X0_35 : Cond.fieldLink RX0 35 (TX0 8).1 (TX0 8).2.1 (TX0 8).2.2.1 ∈ lw_g := (lwm 218 (by decide +kernel) rfl)
theorem gf_X0_35 {p : Program} {l : Launch} {e : Env} {R : Room} {s : State} {m : MethodId} {args : Array Value} {below : List Frame} {meth : Method} {c : Code} {cells slots : Nat} {Q : State → Prop} {cc : ByteArray} {nL : Nat} {ret : Option FieldType} {g : Gl} {A : Nat → Prop} {S : St} {pc : Nat} {lv : List (Nat × Value)} {st : List Value} (cx : Cx p s m args meth c cc nL ret RX0 g A) {i : Nat} (hk : kd g i = 0) (hdg : decode cc pc = .ok (.getfield 35, 3)) (kk : WA p l e R s m args below meth c cells slots Q nL g A S (pc + 3) lv (.ref (ad g (i + 8)) :: st)) : WA p l e R s m args below meth c cells slots Q nL g A S pc lv (.ref (ad g i) :: st) := wa_get cx hk (by decide) (cell_eq0 (kd_lt hk (by decide)).2) rfl inW0 (k := 8) (by decide) gl_X0_35 rfl hdg kk
theorem gl_X8_46 : Cond.fieldLink RX8 46 (TX0 8).1 (TX0 8).2.1 (TX0 8).2.2.1 ∈ lw_g := (lwm 219 (by decide +kernel) rfl)
theorem gf_X8_46 {p : Program} {l : Launch} {e : Env} {R : Room} {s : State} {m : MethodId} {args : Array Value} {below : List Frame} {meth : Method} {c : Code} {cells slots : Nat} {Q : State → Prop} {cc : ByteArray} {nL : Nat} {ret : Option FieldType} {g : Gl} {A : Nat → Prop} {S : St} {pc : Nat} {lv : List (Nat × Value)} {st : List Value} (cx : Cx p s m args meth c cc nL ret RX8 g A) {i : Nat} (hk : kd g i = 0) (hdg : decode cc pc = .ok (.getfield 46, 3)) (kk : WA p l e R s m args below meth c cells slots Q nL g A S (pc + 3) lv (.ref (ad g (i + 8)) :: st)) : WA p l e R s m args below meth c cells slots Q nL g A S pc lv (.ref (ad g i) :: st) := wa_get cx hk (by decide) (cell_eq0 (kd_lt hk (by decide)).2) rfl inW0 (k := 8) (by decide) gl_X8_46 rfl hdg kk
theorem gl_X0_38 : Cond.fieldLink RX0 38 (TX0 9).1 (TX0 9).2.1 (TX0 9).2.2.1 ∈ lw_g := (lwm 220 (by decide +kernel) rfl)
theorem gf_X0_38 {p : Program} {l : Launch} {e : Env} {R : Room} {s : State} {m : MethodId} {args : Array Value} {below : List Frame} {meth : Method} {c : Code} {cells slots : Nat} {Q : State → Prop} {cc : ByteArray} {nL : Nat} {ret : Option FieldType} {g : Gl} {A : Nat → Prop} {S : St} {pc : Nat} {lv : List (Nat × Value)} {st : List Value} (cx : Cx p s m args meth c cc nL ret RX0 g A) {i : Nat} (hk : kd g i = 0) (hdg : decode cc pc = .ok (.getfield 38, 3)) (kk : WA p l e R s m args below meth c cells slots Q nL g A S (pc + 3) lv (.ref (ad g (i + 9)) :: st)) : WA p l e R s m args below meth c cells slots Q nL g A S pc lv (.ref (ad g i) :: st) := wa_get cx hk (by decide) (cell_eq0 (kd_lt hk (by decide)).2) rfl inW0 (k := 9) (by decide) gl_X0_38 rfl hdg kk
theorem gl_X8_43 : Cond.fieldLink RX8 43 (TX0 9).1 (TX0 9).2.1 (TX0 9).2.2.1 ∈ lw_g := (lwm 221 (by decide +kernel) rfl)
theorem gf_X8_43 {p : Program} {l : Launch} {e : Env} {R : Room} {s : State} {m : MethodId} {args : Array Value} {below : List Frame} {meth : Method} {c : Code} {cells slots : Nat} {Q : State → Prop} {cc : ByteArray} {nL : Nat} {ret : Option FieldType} {g : Gl} {A : Nat → Prop} {S : St} {pc : Nat} {lv : List (Nat × Value)} {st : List Value} (cx : Cx p s m args meth c cc nL ret RX8 g A) {i : Nat} (hk : kd g i = 0) (hdg : decode cc pc = .ok (.getfield 43, 3)) (kk : WA p l e R s m args below meth c cells slots Q nL g A S (pc + 3) lv (.ref (ad g (i + 9)) :: st)) : WA p l e R s m args below meth c cells slots Q nL g A S pc lv (.ref (ad g i) :: st) := wa_get cx hk (by decide) (cell_eq0 (kd_lt hk (by decide)).2) rfl inW0 (k := 9) (by decide) gl_X8_43 rfl hdg kk
theorem gl_X0_41 : Cond.fieldLink RX0 41 (TX0 10).1 (TX0 10).2.1 (TX0 10).2.2.1 ∈ lw_g := (lwm 222 (by decide +kernel) rfl)
theorem gf_X0_41 {p : Program} {l : Launch} {e : Env} {R : Room} {s : State} {m : MethodId} {args : Array Value} {below : List Frame} {meth : Method} {c : Code} {cells slots : Nat} {Q : State → Prop} {cc : ByteArray} {nL : Nat} {ret : Option FieldType} {g : Gl} {A : Nat → Prop} {S : St} {pc : Nat} {lv : List (Nat × Value)} {st : List Value} (cx : Cx p s m args meth c cc nL ret RX0 g A) {i : Nat} (hk : kd g i = 0) (hdg : decode cc pc = .ok (.getfield 41, 3)) (kk : WA p l e R s m args below meth c cells slots Q nL g A S (pc + 3) lv (.ref (ad g (i + 10)) :: st)) : WA p l e R s m args below meth c cells slots Q nL g A S pc lv (.ref (ad g i) :: st) := wa_get cx hk (by decide) (cell_eq0 (kd_lt hk (by decide)).2) rfl inW0 (k := 10) (by decide) gl_X0_41 rfl hdg kk
theorem gl_X1_10 : Cond.fieldLink RX1 10 (TX1 0).1 (TX1 0).2.1 (TX1 0).2.2.1 ∈ lw_g := (lwm 256 (by decide +kernel) rfl)
theorem gf_X1_10 {p : Program} {l : Launch} {e : Env} {R : Room} {s : State} {m : MethodId} {args : Array Value} {below : List Frame} {meth : Method} {c : Code} {cells slots : Nat} {Q : State → Prop} {cc : ByteArray} {nL : Nat} {ret : Option FieldType} {g : Gl} {A : Nat → Prop} {S : St} {pc : Nat} {lv : List (Nat × Value)} {st : List Value} (cx : Cx p s m args meth c cc nL ret RX1 g A) {i : Nat} (hk : kd g i = 1) (hdg : decode cc pc = .ok (.getfield 10, 3)) (kk : WA p l e R s m args below meth c cells slots Q nL g A S (pc + 3) lv (.ref (ad g (S.2.2 i 0)) :: st)) : WA p l e R s m args below meth c cells slots Q nL g A S pc lv (.ref (ad g i) :: st) := wa_get cx hk (by decide) (cell_eq1 (kd_lt hk (by decide)).2) rfl inW1 (k := 0) (by decide) gl_X1_10 rfl hdg kk
theorem pf_X1_10 {p : Program} {l : Launch} {e : Env} {R : Room} {s : State} {m : MethodId} {args : Array Value} {below : List Frame} {meth : Method} {c : Code} {cells slots : Nat} {Q : State → Prop} {cc : ByteArray} {nL : Nat} {ret : Option FieldType} {g : Gl} {A : Nat → Prop} {S : St} {pc : Nat} {lv : List (Nat × Value)} {st : List Value} (cx : Cx p s m args meth c cc nL ret RX1 g A) {i : Nat} {x : Nat} (hk : kd g i = 1) (hdg : decode cc pc = .ok (.putfield 10, 3)) (kk : WA p l e R s m args below meth c cells slots Q nL g A (pR S i 0 x) (pc + 3) lv st) : WA p l e R s m args below meth c cells slots Q nL g A S pc lv (.ref (ad g x) :: .ref (ad g i) :: st) := wa_put (S2 := pR S i 0 x) (ty := .object "EnoughGive$Plan") tyX1 hk (by decide) (cell_eq1 (kd_lt hk (by decide)).2) (by rw [cell_eq1 (kd_lt hk (by decide)).2]; unfold pR; dsimp only; rw [up2_at]; rfl) cell_pR rfl inW1 tyX1_ok nmX1 (k := 0) (by decide) gl_X1_10 rfl (by decide +kernel) rfl rfl (Nat.le_of_ble_eq_true rfl) hdg (cx := cx) kk
theorem gl_X1_19 : Cond.fieldLink RX1 19 (TX1 1).1 (TX1 1).2.1 (TX1 1).2.2.1 ∈ lw_g := (lwm 257 (by decide +kernel) rfl)
theorem gf_X1_19 {p : Program} {l : Launch} {e : Env} {R : Room} {s : State} {m : MethodId} {args : Array Value} {below : List Frame} {meth : Method} {c : Code} {cells slots : Nat} {Q : State → Prop} {cc : ByteArray} {nL : Nat} {ret : Option FieldType} {g : Gl} {A : Nat → Prop} {S : St} {pc : Nat} {lv : List (Nat × Value)} {st : List Value} (cx : Cx p s m args meth c cc nL ret RX1 g A) {i : Nat} (hk : kd g i = 1) (hdg : decode cc pc = .ok (.getfield 19, 3)) (kk : WA p l e R s m args below meth c cells slots Q nL g A S (pc + 3) lv (.ref (ad g (S.2.2 i 1)) :: st)) : WA p l e R s m args below meth c cells slots Q nL g A S pc lv (.ref (ad g i) :: st) := wa_get cx hk (by decide) (cell_eq1 (kd_lt hk (by decide)).2) rfl inW1 (k := 1) (by decide) gl_X1_19 rfl hdg kk
theorem pf_X1_19 {p : Program} {l : Launch} {e : Env} {R : Room} {s : State} {m : MethodId} {args : Array Value} {below : List Frame} {meth : Method} {c : Code} {cells slots : Nat} {Q : State → Prop} {cc : ByteArray} {nL : Nat} {ret : Option FieldType} {g : Gl} {A : Nat → Prop} {S : St} {pc : Nat} {lv : List (Nat × Value)} {st : List Value} (cx : Cx p s m args meth c cc nL ret RX1 g A) {i : Nat} {x : Nat} (hk : kd g i = 1) (hdg : decode cc pc = .ok (.putfield 19, 3)) (kk : WA p l e R s m args below meth c cells slots Q nL g A (pR S i 1 x) (pc + 3) lv st) : WA p l e R s m args below meth c cells slots Q nL g A S pc lv (.ref (ad g x) :: .ref (ad g i) :: st) := wa_put (S2 := pR S i 1 x) (ty := .object "EnoughGive$Coming") tyX1 hk (by decide) (cell_eq1 (kd_lt hk (by decide)).2) (by rw [cell_eq1 (kd_lt hk (by decide)).2]; unfold pR; dsimp only; rw [up2_at]; rfl) cell_pR rfl inW1 tyX1_ok nmX1 (k := 1) (by decide) gl_X1_19 rfl (by decide +kernel) rfl rfl (Nat.le_of_ble_eq_true rfl) hdg (cx := cx) kk
theorem gl_X1_38 : Cond.fieldLink RX1 38 (TX1 2).1 (TX1 2).2.1 (TX1 2).2.2.1 ∈ lw_g := (lwm 258 (by decide +kernel) rfl)
theorem gf_X1_38 {p : Program} {l : Launch} {e : Env} {R : Room} {s : State} {m : MethodId} {args : Array Value} {below : List Frame} {meth : Method} {c : Code} {cells slots : Nat} {Q : State → Prop} {cc : ByteArray} {nL : Nat} {ret : Option FieldType} {g : Gl} {A : Nat → Prop} {S : St} {pc : Nat} {lv : List (Nat × Value)} {st : List Value} (cx : Cx p s m args meth c cc nL ret RX1 g A) {i : Nat} (hk : kd g i = 1) (hdg : decode cc pc = .ok (.getfield 38, 3)) (kk : WA p l e R s m args below meth c cells slots Q nL g A S (pc + 3) lv (.int (S.1 i 2) :: st)) : WA p l e R s m args below meth c cells slots Q nL g A S pc lv (.ref (ad g i) :: st) := wa_get cx hk (by decide) (cell_eq1 (kd_lt hk (by decide)).2) rfl inW1 (k := 2) (by decide) gl_X1_38 rfl hdg kk
theorem pf_X1_38 {p : Program} {l : Launch} {e : Env} {R : Room} {s : State} {m : MethodId} {args : Array Value} {below : List Frame} {meth : Method} {c : Code} {cells slots : Nat} {Q : State → Prop} {cc : ByteArray} {nL : Nat} {ret : Option FieldType} {g : Gl} {A : Nat → Prop} {S : St} {pc : Nat} {lv : List (Nat × Value)} {st : List Value} (cx : Cx p s m args meth c cc nL ret RX1 g A) {i : Nat} {x : Int32} (hk : kd g i = 1) (hdg : decode cc pc = .ok (.putfield 38, 3)) (kk : WA p l e R s m args below meth c cells slots Q nL g A (pI S i 2 x) (pc + 3) lv st) : WA p l e R s m args below meth c cells slots Q nL g A S pc lv (.int x :: .ref (ad g i) :: st) := wa_put (S2 := pI S i 2 x) (ty := .int) tyX1 hk (by decide) (cell_eq1 (kd_lt hk (by decide)).2) (by rw [cell_eq1 (kd_lt hk (by decide)).2]; unfold pI; dsimp only; rw [up2_at]; rfl) cell_pI rfl inW1 tyX1_ok nmX1 (k := 2) (by decide) gl_X1_38 rfl (by decide +kernel) rfl rfl (Nat.le_of_ble_eq_true rfl) hdg (cx := cx) kk
theorem gl_X1_45 : Cond.fieldLink RX1 45 (TX1 3).1 (TX1 3).2.1 (TX1 3).2.2.1 ∈ lw_g := (lwm 259 (by decide +kernel) rfl)
theorem gf_X1_45 {p : Program} {l : Launch} {e : Env} {R : Room} {s : State} {m : MethodId} {args : Array Value} {below : List Frame} {meth : Method} {c : Code} {cells slots : Nat} {Q : State → Prop} {cc : ByteArray} {nL : Nat} {ret : Option FieldType} {g : Gl} {A : Nat → Prop} {S : St} {pc : Nat} {lv : List (Nat × Value)} {st : List Value} (cx : Cx p s m args meth c cc nL ret RX1 g A) {i : Nat} (hk : kd g i = 1) (hdg : decode cc pc = .ok (.getfield 45, 3)) (kk : WA p l e R s m args below meth c cells slots Q nL g A S (pc + 3) lv (.int (S.1 i 3) :: st)) : WA p l e R s m args below meth c cells slots Q nL g A S pc lv (.ref (ad g i) :: st) := wa_get cx hk (by decide) (cell_eq1 (kd_lt hk (by decide)).2) rfl inW1 (k := 3) (by decide) gl_X1_45 rfl hdg kk
theorem pf_X1_45 {p : Program} {l : Launch} {e : Env} {R : Room} {s : State} {m : MethodId} {args : Array Value} {below : List Frame} {meth : Method} {c : Code} {cells slots : Nat} {Q : State → Prop} {cc : ByteArray} {nL : Nat} {ret : Option FieldType} {g : Gl} {A : Nat → Prop} {S : St} {pc : Nat} {lv : List (Nat × Value)} {st : List Value} (cx : Cx p s m args meth c cc nL ret RX1 g A) {i : Nat} {x : Int32} (hk : kd g i = 1) (hdg : decode cc pc = .ok (.putfield 45, 3)) (kk : WA p l e R s m args below meth c cells slots Q nL g A (pI S i 3 x) (pc + 3) lv st) : WA p l e R s m args below meth c cells slots Q nL g A S pc lv (.int x :: .ref (ad g i) :: st) := wa_put (S2 := pI S i 3 x) (ty := .int) tyX1 hk (by decide) (cell_eq1 (kd_lt hk (by decide)).2) (by rw [cell_eq1 (kd_lt hk (by decide)).2]; unfold pI; dsimp only; rw [up2_at]; rfl) cell_pI rfl inW1 tyX1_ok nmX1 (k := 3) (by decide) gl_X1_45 rfl (by decide +kernel) rfl rfl (Nat.le_of_ble_eq_true rfl) hdg (cx := cx) kk
theorem gl_X9_308 : Cond.fieldLink RX9 308 (TX1 3).1 (TX1 3).2.1 (TX1 3).2.2.1 ∈ lw_g := (lwm 260 (by decide +kernel) rfl)
theorem gf_X9_308 {p : Program} {l : Launch} {e : Env} {R : Room} {s : State} {m : MethodId} {args : Array Value} {below : List Frame} {meth : Method} {c : Code} {cells slots : Nat} {Q : State → Prop} {cc : ByteArray} {nL : Nat} {ret : Option FieldType} {g : Gl} {A : Nat → Prop} {S : St} {pc : Nat} {lv : List (Nat × Value)} {st : List Value} (cx : Cx p s m args meth c cc nL ret RX9 g A) {i : Nat} (hk : kd g i = 1) (hdg : decode cc pc = .ok (.getfield 308, 3)) (kk : WA p l e R s m args below meth c cells slots Q nL g A S (pc + 3) lv (.int (S.1 i 3) :: st)) : WA p l e R s m args below meth c cells slots Q nL g A S pc lv (.ref (ad g i) :: st) := wa_get cx hk (by decide) (cell_eq1 (kd_lt hk (by decide)).2) rfl inW1 (k := 3) (by decide) gl_X9_308 rfl hdg kk
theorem pf_X9_308 {p : Program} {l : Launch} {e : Env} {R : Room} {s : State} {m : MethodId} {args : Array Value} {below : List Frame} {meth : Method} {c : Code} {cells slots : Nat} {Q : State → Prop} {cc : ByteArray} {nL : Nat} {ret : Option FieldType} {g : Gl} {A : Nat → Prop} {S : St} {pc : Nat} {lv : List (Nat × Value)} {st : List Value} (cx : Cx p s m args meth c cc nL ret RX9 g A) {i : Nat} {x : Int32} (hk : kd g i = 1) (hdg : decode cc pc = .ok (.putfield 308, 3)) (kk : WA p l e R s m args below meth c cells slots Q nL g A (pI S i 3 x) (pc + 3) lv st) : WA p l e R s m args below meth c cells slots Q nL g A S pc lv (.int x :: .ref (ad g i) :: st) := wa_put (S2 := pI S i 3 x) (ty := .int) tyX1 hk (by decide) (cell_eq1 (kd_lt hk (by decide)).2) (by rw [cell_eq1 (kd_lt hk (by decide)).2]; unfold pI; dsimp only; rw [up2_at]; rfl) cell_pI rfl inW1 tyX1_ok nmX1 (k := 3) (by decide) gl_X9_308 rfl (by decide +kernel) rfl rfl (Nat.le_of_ble_eq_true rfl) hdg (cx := cx) kk
theorem gl_X1_49 : Cond.fieldLink RX1 49 (TX1 4).1 (TX1 4).2.1 (TX1 4).2.2.1 ∈ lw_g := (lwm 261 (by decide +kernel) rfl)
theorem gf_X1_49 {p : Program} {l : Launch} {e : Env} {R : Room} {s : State} {m : MethodId} {args : Array Value} {below : List Frame} {meth : Method} {c : Code} {cells slots : Nat} {Q : State → Prop} {cc : ByteArray} {nL : Nat} {ret : Option FieldType} {g : Gl} {A : Nat → Prop} {S : St} {pc : Nat} {lv : List (Nat × Value)} {st : List Value} (cx : Cx p s m args meth c cc nL ret RX1 g A) {i : Nat} (hk : kd g i = 1) (hdg : decode cc pc = .ok (.getfield 49, 3)) (kk : WA p l e R s m args below meth c cells slots Q nL g A S (pc + 3) lv (.int (S.1 i 4) :: st)) : WA p l e R s m args below meth c cells slots Q nL g A S pc lv (.ref (ad g i) :: st) := wa_get cx hk (by decide) (cell_eq1 (kd_lt hk (by decide)).2) rfl inW1 (k := 4) (by decide) gl_X1_49 rfl hdg kk
theorem pf_X1_49 {p : Program} {l : Launch} {e : Env} {R : Room} {s : State} {m : MethodId} {args : Array Value} {below : List Frame} {meth : Method} {c : Code} {cells slots : Nat} {Q : State → Prop} {cc : ByteArray} {nL : Nat} {ret : Option FieldType} {g : Gl} {A : Nat → Prop} {S : St} {pc : Nat} {lv : List (Nat × Value)} {st : List Value} (cx : Cx p s m args meth c cc nL ret RX1 g A) {i : Nat} {x : Int32} (hk : kd g i = 1) (hdg : decode cc pc = .ok (.putfield 49, 3)) (kk : WA p l e R s m args below meth c cells slots Q nL g A (pI S i 4 x) (pc + 3) lv st) : WA p l e R s m args below meth c cells slots Q nL g A S pc lv (.int x :: .ref (ad g i) :: st) := wa_put (S2 := pI S i 4 x) (ty := .int) tyX1 hk (by decide) (cell_eq1 (kd_lt hk (by decide)).2) (by rw [cell_eq1 (kd_lt hk (by decide)).2]; unfold pI; dsimp only; rw [up2_at]; rfl) cell_pI rfl inW1 tyX1_ok nmX1 (k := 4) (by decide) gl_X1_49 rfl (by decide +kernel) rfl rfl (Nat.le_of_ble_eq_true rfl) hdg (cx := cx) kk
theorem gl_X9_254 : Cond.fieldLink RX9 254 (TX1 4).1 (TX1 4).2.1 (TX1 4).2.2.1 ∈ lw_g := (lwm 262 (by decide +kernel) rfl)
theorem gf_X9_254 {p : Program} {l : Launch} {e : Env} {R : Room} {s : State} {m : MethodId} {args : Array Value} {below : List Frame} {meth : Method} {c : Code} {cells slots : Nat} {Q : State → Prop} {cc : ByteArray} {nL : Nat} {ret : Option FieldType} {g : Gl} {A : Nat → Prop} {S : St} {pc : Nat} {lv : List (Nat × Value)} {st : List Value} (cx : Cx p s m args meth c cc nL ret RX9 g A) {i : Nat} (hk : kd g i = 1) (hdg : decode cc pc = .ok (.getfield 254, 3)) (kk : WA p l e R s m args below meth c cells slots Q nL g A S (pc + 3) lv (.int (S.1 i 4) :: st)) : WA p l e R s m args below meth c cells slots Q nL g A S pc lv (.ref (ad g i) :: st) := wa_get cx hk (by decide) (cell_eq1 (kd_lt hk (by decide)).2) rfl inW1 (k := 4) (by decide) gl_X9_254 rfl hdg kk
theorem pf_X9_254 {p : Program} {l : Launch} {e : Env} {R : Room} {s : State} {m : MethodId} {args : Array Value} {below : List Frame} {meth : Method} {c : Code} {cells slots : Nat} {Q : State → Prop} {cc : ByteArray} {nL : Nat} {ret : Option FieldType} {g : Gl} {A : Nat → Prop} {S : St} {pc : Nat} {lv : List (Nat × Value)} {st : List Value} (cx : Cx p s m args meth c cc nL ret RX9 g A) {i : Nat} {x : Int32} (hk : kd g i = 1) (hdg : decode cc pc = .ok (.putfield 254, 3)) (kk : WA p l e R s m args below meth c cells slots Q nL g A (pI S i 4 x) (pc + 3) lv st) : WA p l e R s m args below meth c cells slots Q nL g A S pc lv (.int x :: .ref (ad g i) :: st) := wa_put (S2 := pI S i 4 x) (ty := .int) tyX1 hk (by decide) (cell_eq1 (kd_lt hk (by decide)).2) (by rw [cell_eq1 (kd_lt hk (by decide)).2]; unfold pI; dsimp only; rw [up2_at]; rfl) cell_pI rfl inW1 tyX1_ok nmX1 (k := 4) (by decide) gl_X9_254 rfl (by decide +kernel) rfl rfl (Nat.le_of_ble_eq_true rfl) hdg (cx := cx) kk
theorem gl_X1_50 : Cond.fieldLink RX1 50 (TX1 5).1 (TX1 5).2.1 (TX1 5).2.2.1 ∈ lw_g := (lwm 263 (by decide +kernel) rfl)
theorem gf_X1_50 {p : Program} {l : Launch} {e : Env} {R : Room} {s : State} {m : MethodId} {args : Array Value} {below : List Frame} {meth : Method} {c : Code} {cells slots : Nat} {Q : State → Prop} {cc : ByteArray} {nL : Nat} {ret : Option FieldType} {g : Gl} {A : Nat → Prop} {S : St} {pc : Nat} {lv : List (Nat × Value)} {st : List Value} (cx : Cx p s m args meth c cc nL ret RX1 g A) {i : Nat} (hk : kd g i = 1) (hdg : decode cc pc = .ok (.getfield 50, 3)) (kk : WA p l e R s m args below meth c cells slots Q nL g A S (pc + 3) lv (.int (S.1 i 5) :: st)) : WA p l e R s m args below meth c cells slots Q nL g A S pc lv (.ref (ad g i) :: st) := wa_get cx hk (by decide) (cell_eq1 (kd_lt hk (by decide)).2) rfl inW1 (k := 5) (by decide) gl_X1_50 rfl hdg kk
theorem pf_X1_50 {p : Program} {l : Launch} {e : Env} {R : Room} {s : State} {m : MethodId} {args : Array Value} {below : List Frame} {meth : Method} {c : Code} {cells slots : Nat} {Q : State → Prop} {cc : ByteArray} {nL : Nat} {ret : Option FieldType} {g : Gl} {A : Nat → Prop} {S : St} {pc : Nat} {lv : List (Nat × Value)} {st : List Value} (cx : Cx p s m args meth c cc nL ret RX1 g A) {i : Nat} {x : Int32} (hk : kd g i = 1) (hdg : decode cc pc = .ok (.putfield 50, 3)) (kk : WA p l e R s m args below meth c cells slots Q nL g A (pI S i 5 x) (pc + 3) lv st) : WA p l e R s m args below meth c cells slots Q nL g A S pc lv (.int x :: .ref (ad g i) :: st) := wa_put (S2 := pI S i 5 x) (ty := .int) tyX1 hk (by decide) (cell_eq1 (kd_lt hk (by decide)).2) (by rw [cell_eq1 (kd_lt hk (by decide)).2]; unfold pI; dsimp only; rw [up2_at]; rfl) cell_pI rfl inW1 tyX1_ok nmX1 (k := 5) (by decide) gl_X1_50 rfl (by decide +kernel) rfl rfl (Nat.le_of_ble_eq_true rfl) hdg (cx := cx) kk
theorem gl_X9_309 : Cond.fieldLink RX9 309 (TX1 5).1 (TX1 5).2.1 (TX1 5).2.2.1 ∈ lw_g := (lwm 264 (by decide +kernel) rfl)
theorem gf_X9_309 {p : Program} {l : Launch} {e : Env} {R : Room} {s : State} {m : MethodId} {args : Array Value} {below : List Frame} {meth : Method} {c : Code} {cells slots : Nat} {Q : State → Prop} {cc : ByteArray} {nL : Nat} {ret : Option FieldType} {g : Gl} {A : Nat → Prop} {S : St} {pc : Nat} {lv : List (Nat × Value)} {st : List Value} (cx : Cx p s m args meth c cc nL ret RX9 g A) {i : Nat} (hk : kd g i = 1) (hdg : decode cc pc = .ok (.getfield 309, 3)) (kk : WA p l e R s m args below meth c cells slots Q nL g A S (pc + 3) lv (.int (S.1 i 5) :: st)) : WA p l e R s m args below meth c cells slots Q nL g A S pc lv (.ref (ad g i) :: st) := wa_get cx hk (by decide) (cell_eq1 (kd_lt hk (by decide)).2) rfl inW1 (k := 5) (by decide) gl_X9_309 rfl hdg kk
theorem pf_X9_309 {p : Program} {l : Launch} {e : Env} {R : Room} {s : State} {m : MethodId} {args : Array Value} {below : List Frame} {meth : Method} {c : Code} {cells slots : Nat} {Q : State → Prop} {cc : ByteArray} {nL : Nat} {ret : Option FieldType} {g : Gl} {A : Nat → Prop} {S : St} {pc : Nat} {lv : List (Nat × Value)} {st : List Value} (cx : Cx p s m args meth c cc nL ret RX9 g A) {i : Nat} {x : Int32} (hk : kd g i = 1) (hdg : decode cc pc = .ok (.putfield 309, 3)) (kk : WA p l e R s m args below meth c cells slots Q nL g A (pI S i 5 x) (pc + 3) lv st) : WA p l e R s m args below meth c cells slots Q nL g A S pc lv (.int x :: .ref (ad g i) :: st) := wa_put (S2 := pI S i 5 x) (ty := .int) tyX1 hk (by decide) (cell_eq1 (kd_lt hk (by decide)).2) (by rw [cell_eq1 (kd_lt hk (by decide)).2]; unfold pI; dsimp only; rw [up2_at]; rfl) cell_pI rfl inW1 tyX1_ok nmX1 (k := 5) (by decide) gl_X9_309 rfl (by decide +kernel) rfl rfl (Nat.le_of_ble_eq_true rfl) hdg (cx := cx) kk
theorem gl_X1_53 : Cond.fieldLink RX1 53 (TX1 6).1 (TX1 6).2.1 (TX1 6).2.2.1 ∈ lw_g := (lwm 265 (by decide +kernel) rfl)
theorem gf_X1_53 {p : Program} {l : Launch} {e : Env} {R : Room} {s : State} {m : MethodId} {args : Array Value} {below : List Frame} {meth : Method} {c : Code} {cells slots : Nat} {Q : State → Prop} {cc : ByteArray} {nL : Nat} {ret : Option FieldType} {g : Gl} {A : Nat → Prop} {S : St} {pc : Nat} {lv : List (Nat × Value)} {st : List Value} (cx : Cx p s m args meth c cc nL ret RX1 g A) {i : Nat} (hk : kd g i = 1) (hdg : decode cc pc = .ok (.getfield 53, 3)) (kk : WA p l e R s m args below meth c cells slots Q nL g A S (pc + 3) lv (.int (S.1 i 6) :: st)) : WA p l e R s m args below meth c cells slots Q nL g A S pc lv (.ref (ad g i) :: st) := wa_get cx hk (by decide) (cell_eq1 (kd_lt hk (by decide)).2) rfl inW1 (k := 6) (by decide) gl_X1_53 rfl hdg kk
theorem pf_X1_53 {p : Program} {l : Launch} {e : Env} {R : Room} {s : State} {m : MethodId} {args : Array Value} {below : List Frame} {meth : Method} {c : Code} {cells slots : Nat} {Q : State → Prop} {cc : ByteArray} {nL : Nat} {ret : Option FieldType} {g : Gl} {A : Nat → Prop} {S : St} {pc : Nat} {lv : List (Nat × Value)} {st : List Value} (cx : Cx p s m args meth c cc nL ret RX1 g A) {i : Nat} {x : Int32} (hk : kd g i = 1) (hdg : decode cc pc = .ok (.putfield 53, 3)) (kk : WA p l e R s m args below meth c cells slots Q nL g A (pI S i 6 x) (pc + 3) lv st) : WA p l e R s m args below meth c cells slots Q nL g A S pc lv (.int x :: .ref (ad g i) :: st) := wa_put (S2 := pI S i 6 x) (ty := .int) tyX1 hk (by decide) (cell_eq1 (kd_lt hk (by decide)).2) (by rw [cell_eq1 (kd_lt hk (by decide)).2]; unfold pI; dsimp only; rw [up2_at]; rfl) cell_pI rfl inW1 tyX1_ok nmX1 (k := 6) (by decide) gl_X1_53 rfl (by decide +kernel) rfl rfl (Nat.le_of_ble_eq_true rfl) hdg (cx := cx) kk
theorem gl_X9_312 : Cond.fieldLink RX9 312 (TX1 6).1 (TX1 6).2.1 (TX1 6).2.2.1 ∈ lw_g := (lwm 266 (by decide +kernel) rfl)
theorem gf_X9_312 {p : Program} {l : Launch} {e : Env} {R : Room} {s : State} {m : MethodId} {args : Array Value} {below : List Frame} {meth : Method} {c : Code} {cells slots : Nat} {Q : State → Prop} {cc : ByteArray} {nL : Nat} {ret : Option FieldType} {g : Gl} {A : Nat → Prop} {S : St} {pc : Nat} {lv : List (Nat × Value)} {st : List Value} (cx : Cx p s m args meth c cc nL ret RX9 g A) {i : Nat} (hk : kd g i = 1) (hdg : decode cc pc = .ok (.getfield 312, 3)) (kk : WA p l e R s m args below meth c cells slots Q nL g A S (pc + 3) lv (.int (S.1 i 6) :: st)) : WA p l e R s m args below meth c cells slots Q nL g A S pc lv (.ref (ad g i) :: st) := wa_get cx hk (by decide) (cell_eq1 (kd_lt hk (by decide)).2) rfl inW1 (k := 6) (by decide) gl_X9_312 rfl hdg kk
theorem pf_X9_312 {p : Program} {l : Launch} {e : Env} {R : Room} {s : State} {m : MethodId} {args : Array Value} {below : List Frame} {meth : Method} {c : Code} {cells slots : Nat} {Q : State → Prop} {cc : ByteArray} {nL : Nat} {ret : Option FieldType} {g : Gl} {A : Nat → Prop} {S : St} {pc : Nat} {lv : List (Nat × Value)} {st : List Value} (cx : Cx p s m args meth c cc nL ret RX9 g A) {i : Nat} {x : Int32} (hk : kd g i = 1) (hdg : decode cc pc = .ok (.putfield 312, 3)) (kk : WA p l e R s m args below meth c cells slots Q nL g A (pI S i 6 x) (pc + 3) lv st) : WA p l e R s m args below meth c cells slots Q nL g A S pc lv (.int x :: .ref (ad g i) :: st) := wa_put (S2 := pI S i 6 x) (ty := .int) tyX1 hk (by decide) (cell_eq1 (kd_lt hk (by decide)).2) (by rw [cell_eq1 (kd_lt hk (by decide)).2]; unfold pI; dsimp only; rw [up2_at]; rfl) cell_pI rfl inW1 tyX1_ok nmX1 (k := 6) (by decide) gl_X9_312 rfl (by decide +kernel) rfl rfl (Nat.le_of_ble_eq_true rfl) hdg (cx := cx) kk
theorem gl_X1_25 : Cond.fieldLink RX1 25 (TX1 7).1 (TX1 7).2.1 (TX1 7).2.2.1 ∈ lw_g := (lwm 267 (by decide +kernel) rfl)
theorem gf_X1_25 {p : Program} {l : Launch} {e : Env} {R : Room} {s : State} {m : MethodId} {args : Array Value} {below : List Frame} {meth : Method} {c : Code} {cells slots : Nat} {Q : State → Prop} {cc : ByteArray} {nL : Nat} {ret : Option FieldType} {g : Gl} {A : Nat → Prop} {S : St} {pc : Nat} {lv : List (Nat × Value)} {st : List Value} (cx : Cx p s m args meth c cc nL ret RX1 g A) {i : Nat} (hk : kd g i = 1) (hdg : decode cc pc = .ok (.getfield 25, 3)) (kk : WA p l e R s m args below meth c cells slots Q nL g A S (pc + 3) lv (.ref (ad g (i + 22)) :: st)) : WA p l e R s m args below meth c cells slots Q nL g A S pc lv (.ref (ad g i) :: st) := wa_get cx hk (by decide) (cell_eq1 (kd_lt hk (by decide)).2) rfl inW1 (k := 7) (by decide) gl_X1_25 rfl hdg kk
theorem gl_X8_101 : Cond.fieldLink RX8 101 (TX1 7).1 (TX1 7).2.1 (TX1 7).2.2.1 ∈ lw_g := (lwm 268 (by decide +kernel) rfl)
theorem gf_X8_101 {p : Program} {l : Launch} {e : Env} {R : Room} {s : State} {m : MethodId} {args : Array Value} {below : List Frame} {meth : Method} {c : Code} {cells slots : Nat} {Q : State → Prop} {cc : ByteArray} {nL : Nat} {ret : Option FieldType} {g : Gl} {A : Nat → Prop} {S : St} {pc : Nat} {lv : List (Nat × Value)} {st : List Value} (cx : Cx p s m args meth c cc nL ret RX8 g A) {i : Nat} (hk : kd g i = 1) (hdg : decode cc pc = .ok (.getfield 101, 3)) (kk : WA p l e R s m args below meth c cells slots Q nL g A S (pc + 3) lv (.ref (ad g (i + 22)) :: st)) : WA p l e R s m args below meth c cells slots Q nL g A S pc lv (.ref (ad g i) :: st) := wa_get cx hk (by decide) (cell_eq1 (kd_lt hk (by decide)).2) rfl inW1 (k := 7) (by decide) gl_X8_101 rfl hdg kk
theorem gl_X9_281 : Cond.fieldLink RX9 281 (TX1 7).1 (TX1 7).2.1 (TX1 7).2.2.1 ∈ lw_g := (lwm 269 (by decide +kernel) rfl)
theorem gf_X9_281 {p : Program} {l : Launch} {e : Env} {R : Room} {s : State} {m : MethodId} {args : Array Value} {below : List Frame} {meth : Method} {c : Code} {cells slots : Nat} {Q : State → Prop} {cc : ByteArray} {nL : Nat} {ret : Option FieldType} {g : Gl} {A : Nat → Prop} {S : St} {pc : Nat} {lv : List (Nat × Value)} {st : List Value} (cx : Cx p s m args meth c cc nL ret RX9 g A) {i : Nat} (hk : kd g i = 1) (hdg : decode cc pc = .ok (.getfield 281, 3)) (kk : WA p l e R s m args below meth c cells slots Q nL g A S (pc + 3) lv (.ref (ad g (i + 22)) :: st)) : WA p l e R s m args below meth c cells slots Q nL g A S pc lv (.ref (ad g i) :: st) := wa_get cx hk (by decide) (cell_eq1 (kd_lt hk (by decide)).2) rfl inW1 (k := 7) (by decide) gl_X9_281 rfl hdg kk
theorem gl_X1_29 : Cond.fieldLink RX1 29 (TX1 8).1 (TX1 8).2.1 (TX1 8).2.2.1 ∈ lw_g := (lwm 270 (by decide +kernel) rfl)
theorem gf_X1_29 {p : Program} {l : Launch} {e : Env} {R : Room} {s : State} {m : MethodId} {args : Array Value} {below : List Frame} {meth : Method} {c : Code} {cells slots : Nat} {Q : State → Prop} {cc : ByteArray} {nL : Nat} {ret : Option FieldType} {g : Gl} {A : Nat → Prop} {S : St} {pc : Nat} {lv : List (Nat × Value)} {st : List Value} (cx : Cx p s m args meth c cc nL ret RX1 g A) {i : Nat} (hk : kd g i = 1) (hdg : decode cc pc = .ok (.getfield 29, 3)) (kk : WA p l e R s m args below meth c cells slots Q nL g A S (pc + 3) lv (.ref (ad g (i + 23)) :: st)) : WA p l e R s m args below meth c cells slots Q nL g A S pc lv (.ref (ad g i) :: st) := wa_get cx hk (by decide) (cell_eq1 (kd_lt hk (by decide)).2) rfl inW1 (k := 8) (by decide) gl_X1_29 rfl hdg kk
theorem gl_X9_291 : Cond.fieldLink RX9 291 (TX1 8).1 (TX1 8).2.1 (TX1 8).2.2.1 ∈ lw_g := (lwm 271 (by decide +kernel) rfl)
theorem gf_X9_291 {p : Program} {l : Launch} {e : Env} {R : Room} {s : State} {m : MethodId} {args : Array Value} {below : List Frame} {meth : Method} {c : Code} {cells slots : Nat} {Q : State → Prop} {cc : ByteArray} {nL : Nat} {ret : Option FieldType} {g : Gl} {A : Nat → Prop} {S : St} {pc : Nat} {lv : List (Nat × Value)} {st : List Value} (cx : Cx p s m args meth c cc nL ret RX9 g A) {i : Nat} (hk : kd g i = 1) (hdg : decode cc pc = .ok (.getfield 291, 3)) (kk : WA p l e R s m args below meth c cells slots Q nL g A S (pc + 3) lv (.ref (ad g (i + 23)) :: st)) : WA p l e R s m args below meth c cells slots Q nL g A S pc lv (.ref (ad g i) :: st) := wa_get cx hk (by decide) (cell_eq1 (kd_lt hk (by decide)).2) rfl inW1 (k := 8) (by decide) gl_X9_291 rfl hdg kk
theorem gl_X1_32 : Cond.fieldLink RX1 32 (TX1 9).1 (TX1 9).2.1 (TX1 9).2.2.1 ∈ lw_g := (lwm 272 (by decide +kernel) rfl)
theorem gf_X1_32 {p : Program} {l : Launch} {e : Env} {R : Room} {s : State} {m : MethodId} {args : Array Value} {below : List Frame} {meth : Method} {c : Code} {cells slots : Nat} {Q : State → Prop} {cc : ByteArray} {nL : Nat} {ret : Option FieldType} {g : Gl} {A : Nat → Prop} {S : St} {pc : Nat} {lv : List (Nat × Value)} {st : List Value} (cx : Cx p s m args meth c cc nL ret RX1 g A) {i : Nat} (hk : kd g i = 1) (hdg : decode cc pc = .ok (.getfield 32, 3)) (kk : WA p l e R s m args below meth c cells slots Q nL g A S (pc + 3) lv (.ref (ad g (i + 24)) :: st)) : WA p l e R s m args below meth c cells slots Q nL g A S pc lv (.ref (ad g i) :: st) := wa_get cx hk (by decide) (cell_eq1 (kd_lt hk (by decide)).2) rfl inW1 (k := 9) (by decide) gl_X1_32 rfl hdg kk
theorem gl_X1_35 : Cond.fieldLink RX1 35 (TX1 10).1 (TX1 10).2.1 (TX1 10).2.2.1 ∈ lw_g := (lwm 273 (by decide +kernel) rfl)
theorem gf_X1_35 {p : Program} {l : Launch} {e : Env} {R : Room} {s : State} {m : MethodId} {args : Array Value} {below : List Frame} {meth : Method} {c : Code} {cells slots : Nat} {Q : State → Prop} {cc : ByteArray} {nL : Nat} {ret : Option FieldType} {g : Gl} {A : Nat → Prop} {S : St} {pc : Nat} {lv : List (Nat × Value)} {st : List Value} (cx : Cx p s m args meth c cc nL ret RX1 g A) {i : Nat} (hk : kd g i = 1) (hdg : decode cc pc = .ok (.getfield 35, 3)) (kk : WA p l e R s m args below meth c cells slots Q nL g A S (pc + 3) lv (.ref (ad g (i + 25)) :: st)) : WA p l e R s m args below meth c cells slots Q nL g A S pc lv (.ref (ad g i) :: st) := wa_get cx hk (by decide) (cell_eq1 (kd_lt hk (by decide)).2) rfl inW1 (k := 10) (by decide) gl_X1_35 rfl hdg kk
theorem gl_X8_65 : Cond.fieldLink RX8 65 (TX8 0).1 (TX8 0).2.1 (TX8 0).2.2.1 ∈ lw_g := (lwm 303 (by decide +kernel) rfl)
theorem gf_X8_65 {p : Program} {l : Launch} {e : Env} {R : Room} {s : State} {m : MethodId} {args : Array Value} {below : List Frame} {meth : Method} {c : Code} {cells slots : Nat} {Q : State → Prop} {cc : ByteArray} {nL : Nat} {ret : Option FieldType} {g : Gl} {A : Nat → Prop} {S : St} {pc : Nat} {lv : List (Nat × Value)} {st : List Value} (cx : Cx p s m args meth c cc nL ret RX8 g A) {i : Nat} (hk : kd g i = 8) (hdg : decode cc pc = .ok (.getfield 65, 3)) (kk : WA p l e R s m args below meth c cells slots Q nL g A S (pc + 3) lv (.long (S.2.1 i 0) :: st)) : WA p l e R s m args below meth c cells slots Q nL g A S pc lv (.ref (ad g i) :: st) := wa_get cx hk (by decide) (cell_eq8 (kd_lt hk (by decide)).2) rfl inW8 (k := 0) (by decide) gl_X8_65 rfl hdg kk
theorem pf_X8_65 {p : Program} {l : Launch} {e : Env} {R : Room} {s : State} {m : MethodId} {args : Array Value} {below : List Frame} {meth : Method} {c : Code} {cells slots : Nat} {Q : State → Prop} {cc : ByteArray} {nL : Nat} {ret : Option FieldType} {g : Gl} {A : Nat → Prop} {S : St} {pc : Nat} {lv : List (Nat × Value)} {st : List Value} (cx : Cx p s m args meth c cc nL ret RX8 g A) {i : Nat} {x : Int64} (hk : kd g i = 8) (hdg : decode cc pc = .ok (.putfield 65, 3)) (kk : WA p l e R s m args below meth c cells slots Q nL g A (pJ S i 0 x) (pc + 3) lv st) : WA p l e R s m args below meth c cells slots Q nL g A S pc lv (.long x :: .ref (ad g i) :: st) := wa_put (S2 := pJ S i 0 x) (ty := .long) tyX8 hk (by decide) (cell_eq8 (kd_lt hk (by decide)).2) (by rw [cell_eq8 (kd_lt hk (by decide)).2]; unfold pJ; dsimp only; rw [up2_at]; rfl) cell_pJ rfl inW8 tyX8_ok nmX8 (k := 0) (by decide) gl_X8_65 rfl (by decide +kernel) rfl rfl (Nat.le_of_ble_eq_true rfl) hdg (cx := cx) kk
theorem gl_X9_164 : Cond.fieldLink RX9 164 (TX8 0).1 (TX8 0).2.1 (TX8 0).2.2.1 ∈ lw_g := (lwm 304 (by decide +kernel) rfl)
theorem gf_X9_164 {p : Program} {l : Launch} {e : Env} {R : Room} {s : State} {m : MethodId} {args : Array Value} {below : List Frame} {meth : Method} {c : Code} {cells slots : Nat} {Q : State → Prop} {cc : ByteArray} {nL : Nat} {ret : Option FieldType} {g : Gl} {A : Nat → Prop} {S : St} {pc : Nat} {lv : List (Nat × Value)} {st : List Value} (cx : Cx p s m args meth c cc nL ret RX9 g A) {i : Nat} (hk : kd g i = 8) (hdg : decode cc pc = .ok (.getfield 164, 3)) (kk : WA p l e R s m args below meth c cells slots Q nL g A S (pc + 3) lv (.long (S.2.1 i 0) :: st)) : WA p l e R s m args below meth c cells slots Q nL g A S pc lv (.ref (ad g i) :: st) := wa_get cx hk (by decide) (cell_eq8 (kd_lt hk (by decide)).2) rfl inW8 (k := 0) (by decide) gl_X9_164 rfl hdg kk
theorem pf_X9_164 {p : Program} {l : Launch} {e : Env} {R : Room} {s : State} {m : MethodId} {args : Array Value} {below : List Frame} {meth : Method} {c : Code} {cells slots : Nat} {Q : State → Prop} {cc : ByteArray} {nL : Nat} {ret : Option FieldType} {g : Gl} {A : Nat → Prop} {S : St} {pc : Nat} {lv : List (Nat × Value)} {st : List Value} (cx : Cx p s m args meth c cc nL ret RX9 g A) {i : Nat} {x : Int64} (hk : kd g i = 8) (hdg : decode cc pc = .ok (.putfield 164, 3)) (kk : WA p l e R s m args below meth c cells slots Q nL g A (pJ S i 0 x) (pc + 3) lv st) : WA p l e R s m args below meth c cells slots Q nL g A S pc lv (.long x :: .ref (ad g i) :: st) := wa_put (S2 := pJ S i 0 x) (ty := .long) tyX8 hk (by decide) (cell_eq8 (kd_lt hk (by decide)).2) (by rw [cell_eq8 (kd_lt hk (by decide)).2]; unfold pJ; dsimp only; rw [up2_at]; rfl) cell_pJ rfl inW8 tyX8_ok nmX8 (k := 0) (by decide) gl_X9_164 rfl (by decide +kernel) rfl rfl (Nat.le_of_ble_eq_true rfl) hdg (cx := cx) kk
theorem gl_X8_69 : Cond.fieldLink RX8 69 (TX8 1).1 (TX8 1).2.1 (TX8 1).2.2.1 ∈ lw_g := (lwm 305 (by decide +kernel) rfl)
theorem gf_X8_69 {p : Program} {l : Launch} {e : Env} {R : Room} {s : State} {m : MethodId} {args : Array Value} {below : List Frame} {meth : Method} {c : Code} {cells slots : Nat} {Q : State → Prop} {cc : ByteArray} {nL : Nat} {ret : Option FieldType} {g : Gl} {A : Nat → Prop} {S : St} {pc : Nat} {lv : List (Nat × Value)} {st : List Value} (cx : Cx p s m args meth c cc nL ret RX8 g A) {i : Nat} (hk : kd g i = 8) (hdg : decode cc pc = .ok (.getfield 69, 3)) (kk : WA p l e R s m args below meth c cells slots Q nL g A S (pc + 3) lv (.long (S.2.1 i 1) :: st)) : WA p l e R s m args below meth c cells slots Q nL g A S pc lv (.ref (ad g i) :: st) := wa_get cx hk (by decide) (cell_eq8 (kd_lt hk (by decide)).2) rfl inW8 (k := 1) (by decide) gl_X8_69 rfl hdg kk
theorem pf_X8_69 {p : Program} {l : Launch} {e : Env} {R : Room} {s : State} {m : MethodId} {args : Array Value} {below : List Frame} {meth : Method} {c : Code} {cells slots : Nat} {Q : State → Prop} {cc : ByteArray} {nL : Nat} {ret : Option FieldType} {g : Gl} {A : Nat → Prop} {S : St} {pc : Nat} {lv : List (Nat × Value)} {st : List Value} (cx : Cx p s m args meth c cc nL ret RX8 g A) {i : Nat} {x : Int64} (hk : kd g i = 8) (hdg : decode cc pc = .ok (.putfield 69, 3)) (kk : WA p l e R s m args below meth c cells slots Q nL g A (pJ S i 1 x) (pc + 3) lv st) : WA p l e R s m args below meth c cells slots Q nL g A S pc lv (.long x :: .ref (ad g i) :: st) := wa_put (S2 := pJ S i 1 x) (ty := .long) tyX8 hk (by decide) (cell_eq8 (kd_lt hk (by decide)).2) (by rw [cell_eq8 (kd_lt hk (by decide)).2]; unfold pJ; dsimp only; rw [up2_at]; rfl) cell_pJ rfl inW8 tyX8_ok nmX8 (k := 1) (by decide) gl_X8_69 rfl (by decide +kernel) rfl rfl (Nat.le_of_ble_eq_true rfl) hdg (cx := cx) kk
theorem gl_X9_189 : Cond.fieldLink RX9 189 (TX8 1).1 (TX8 1).2.1 (TX8 1).2.2.1 ∈ lw_g := (lwm 306 (by decide +kernel) rfl)
theorem gf_X9_189 {p : Program} {l : Launch} {e : Env} {R : Room} {s : State} {m : MethodId} {args : Array Value} {below : List Frame} {meth : Method} {c : Code} {cells slots : Nat} {Q : State → Prop} {cc : ByteArray} {nL : Nat} {ret : Option FieldType} {g : Gl} {A : Nat → Prop} {S : St} {pc : Nat} {lv : List (Nat × Value)} {st : List Value} (cx : Cx p s m args meth c cc nL ret RX9 g A) {i : Nat} (hk : kd g i = 8) (hdg : decode cc pc = .ok (.getfield 189, 3)) (kk : WA p l e R s m args below meth c cells slots Q nL g A S (pc + 3) lv (.long (S.2.1 i 1) :: st)) : WA p l e R s m args below meth c cells slots Q nL g A S pc lv (.ref (ad g i) :: st) := wa_get cx hk (by decide) (cell_eq8 (kd_lt hk (by decide)).2) rfl inW8 (k := 1) (by decide) gl_X9_189 rfl hdg kk
theorem pf_X9_189 {p : Program} {l : Launch} {e : Env} {R : Room} {s : State} {m : MethodId} {args : Array Value} {below : List Frame} {meth : Method} {c : Code} {cells slots : Nat} {Q : State → Prop} {cc : ByteArray} {nL : Nat} {ret : Option FieldType} {g : Gl} {A : Nat → Prop} {S : St} {pc : Nat} {lv : List (Nat × Value)} {st : List Value} (cx : Cx p s m args meth c cc nL ret RX9 g A) {i : Nat} {x : Int64} (hk : kd g i = 8) (hdg : decode cc pc = .ok (.putfield 189, 3)) (kk : WA p l e R s m args below meth c cells slots Q nL g A (pJ S i 1 x) (pc + 3) lv st) : WA p l e R s m args below meth c cells slots Q nL g A S pc lv (.long x :: .ref (ad g i) :: st) := wa_put (S2 := pJ S i 1 x) (ty := .long) tyX8 hk (by decide) (cell_eq8 (kd_lt hk (by decide)).2) (by rw [cell_eq8 (kd_lt hk (by decide)).2]; unfold pJ; dsimp only; rw [up2_at]; rfl) cell_pJ rfl inW8 tyX8_ok nmX8 (k := 1) (by decide) gl_X9_189 rfl (by decide +kernel) rfl rfl (Nat.le_of_ble_eq_true rfl) hdg (cx := cx) kk
theorem gl_X8_72 : Cond.fieldLink RX8 72 (TX8 2).1 (TX8 2).2.1 (TX8 2).2.2.1 ∈ lw_g := (lwm 307 (by decide +kernel) rfl)
theorem gf_X8_72 {p : Program} {l : Launch} {e : Env} {R : Room} {s : State} {m : MethodId} {args : Array Value} {below : List Frame} {meth : Method} {c : Code} {cells slots : Nat} {Q : State → Prop} {cc : ByteArray} {nL : Nat} {ret : Option FieldType} {g : Gl} {A : Nat → Prop} {S : St} {pc : Nat} {lv : List (Nat × Value)} {st : List Value} (cx : Cx p s m args meth c cc nL ret RX8 g A) {i : Nat} (hk : kd g i = 8) (hdg : decode cc pc = .ok (.getfield 72, 3)) (kk : WA p l e R s m args below meth c cells slots Q nL g A S (pc + 3) lv (.long (S.2.1 i 2) :: st)) : WA p l e R s m args below meth c cells slots Q nL g A S pc lv (.ref (ad g i) :: st) := wa_get cx hk (by decide) (cell_eq8 (kd_lt hk (by decide)).2) rfl inW8 (k := 2) (by decide) gl_X8_72 rfl hdg kk
theorem pf_X8_72 {p : Program} {l : Launch} {e : Env} {R : Room} {s : State} {m : MethodId} {args : Array Value} {below : List Frame} {meth : Method} {c : Code} {cells slots : Nat} {Q : State → Prop} {cc : ByteArray} {nL : Nat} {ret : Option FieldType} {g : Gl} {A : Nat → Prop} {S : St} {pc : Nat} {lv : List (Nat × Value)} {st : List Value} (cx : Cx p s m args meth c cc nL ret RX8 g A) {i : Nat} {x : Int64} (hk : kd g i = 8) (hdg : decode cc pc = .ok (.putfield 72, 3)) (kk : WA p l e R s m args below meth c cells slots Q nL g A (pJ S i 2 x) (pc + 3) lv st) : WA p l e R s m args below meth c cells slots Q nL g A S pc lv (.long x :: .ref (ad g i) :: st) := wa_put (S2 := pJ S i 2 x) (ty := .long) tyX8 hk (by decide) (cell_eq8 (kd_lt hk (by decide)).2) (by rw [cell_eq8 (kd_lt hk (by decide)).2]; unfold pJ; dsimp only; rw [up2_at]; rfl) cell_pJ rfl inW8 tyX8_ok nmX8 (k := 2) (by decide) gl_X8_72 rfl (by decide +kernel) rfl rfl (Nat.le_of_ble_eq_true rfl) hdg (cx := cx) kk
theorem gl_X9_192 : Cond.fieldLink RX9 192 (TX8 2).1 (TX8 2).2.1 (TX8 2).2.2.1 ∈ lw_g := (lwm 308 (by decide +kernel) rfl)
theorem gf_X9_192 {p : Program} {l : Launch} {e : Env} {R : Room} {s : State} {m : MethodId} {args : Array Value} {below : List Frame} {meth : Method} {c : Code} {cells slots : Nat} {Q : State → Prop} {cc : ByteArray} {nL : Nat} {ret : Option FieldType} {g : Gl} {A : Nat → Prop} {S : St} {pc : Nat} {lv : List (Nat × Value)} {st : List Value} (cx : Cx p s m args meth c cc nL ret RX9 g A) {i : Nat} (hk : kd g i = 8) (hdg : decode cc pc = .ok (.getfield 192, 3)) (kk : WA p l e R s m args below meth c cells slots Q nL g A S (pc + 3) lv (.long (S.2.1 i 2) :: st)) : WA p l e R s m args below meth c cells slots Q nL g A S pc lv (.ref (ad g i) :: st) := wa_get cx hk (by decide) (cell_eq8 (kd_lt hk (by decide)).2) rfl inW8 (k := 2) (by decide) gl_X9_192 rfl hdg kk
theorem pf_X9_192 {p : Program} {l : Launch} {e : Env} {R : Room} {s : State} {m : MethodId} {args : Array Value} {below : List Frame} {meth : Method} {c : Code} {cells slots : Nat} {Q : State → Prop} {cc : ByteArray} {nL : Nat} {ret : Option FieldType} {g : Gl} {A : Nat → Prop} {S : St} {pc : Nat} {lv : List (Nat × Value)} {st : List Value} (cx : Cx p s m args meth c cc nL ret RX9 g A) {i : Nat} {x : Int64} (hk : kd g i = 8) (hdg : decode cc pc = .ok (.putfield 192, 3)) (kk : WA p l e R s m args below meth c cells slots Q nL g A (pJ S i 2 x) (pc + 3) lv st) : WA p l e R s m args below meth c cells slots Q nL g A S pc lv (.long x :: .ref (ad g i) :: st) := wa_put (S2 := pJ S i 2 x) (ty := .long) tyX8 hk (by decide) (cell_eq8 (kd_lt hk (by decide)).2) (by rw [cell_eq8 (kd_lt hk (by decide)).2]; unfold pJ; dsimp only; rw [up2_at]; rfl) cell_pJ rfl inW8 tyX8_ok nmX8 (k := 2) (by decide) gl_X9_192 rfl (by decide +kernel) rfl rfl (Nat.le_of_ble_eq_true rfl) hdg (cx := cx) kk
theorem gl_X8_75 : Cond.fieldLink RX8 75 (TX8 3).1 (TX8 3).2.1 (TX8 3).2.2.1 ∈ lw_g := (lwm 309 (by decide +kernel) rfl)
theorem gf_X8_75 {p : Program} {l : Launch} {e : Env} {R : Room} {s : State} {m : MethodId} {args : Array Value} {below : List Frame} {meth : Method} {c : Code} {cells slots : Nat} {Q : State → Prop} {cc : ByteArray} {nL : Nat} {ret : Option FieldType} {g : Gl} {A : Nat → Prop} {S : St} {pc : Nat} {lv : List (Nat × Value)} {st : List Value} (cx : Cx p s m args meth c cc nL ret RX8 g A) {i : Nat} (hk : kd g i = 8) (hdg : decode cc pc = .ok (.getfield 75, 3)) (kk : WA p l e R s m args below meth c cells slots Q nL g A S (pc + 3) lv (.long (S.2.1 i 3) :: st)) : WA p l e R s m args below meth c cells slots Q nL g A S pc lv (.ref (ad g i) :: st) := wa_get cx hk (by decide) (cell_eq8 (kd_lt hk (by decide)).2) rfl inW8 (k := 3) (by decide) gl_X8_75 rfl hdg kk
theorem pf_X8_75 {p : Program} {l : Launch} {e : Env} {R : Room} {s : State} {m : MethodId} {args : Array Value} {below : List Frame} {meth : Method} {c : Code} {cells slots : Nat} {Q : State → Prop} {cc : ByteArray} {nL : Nat} {ret : Option FieldType} {g : Gl} {A : Nat → Prop} {S : St} {pc : Nat} {lv : List (Nat × Value)} {st : List Value} (cx : Cx p s m args meth c cc nL ret RX8 g A) {i : Nat} {x : Int64} (hk : kd g i = 8) (hdg : decode cc pc = .ok (.putfield 75, 3)) (kk : WA p l e R s m args below meth c cells slots Q nL g A (pJ S i 3 x) (pc + 3) lv st) : WA p l e R s m args below meth c cells slots Q nL g A S pc lv (.long x :: .ref (ad g i) :: st) := wa_put (S2 := pJ S i 3 x) (ty := .long) tyX8 hk (by decide) (cell_eq8 (kd_lt hk (by decide)).2) (by rw [cell_eq8 (kd_lt hk (by decide)).2]; unfold pJ; dsimp only; rw [up2_at]; rfl) cell_pJ rfl inW8 tyX8_ok nmX8 (k := 3) (by decide) gl_X8_75 rfl (by decide +kernel) rfl rfl (Nat.le_of_ble_eq_true rfl) hdg (cx := cx) kk
theorem gl_X9_271 : Cond.fieldLink RX9 271 (TX8 3).1 (TX8 3).2.1 (TX8 3).2.2.1 ∈ lw_g := (lwm 310 (by decide +kernel) rfl)
theorem gf_X9_271 {p : Program} {l : Launch} {e : Env} {R : Room} {s : State} {m : MethodId} {args : Array Value} {below : List Frame} {meth : Method} {c : Code} {cells slots : Nat} {Q : State → Prop} {cc : ByteArray} {nL : Nat} {ret : Option FieldType} {g : Gl} {A : Nat → Prop} {S : St} {pc : Nat} {lv : List (Nat × Value)} {st : List Value} (cx : Cx p s m args meth c cc nL ret RX9 g A) {i : Nat} (hk : kd g i = 8) (hdg : decode cc pc = .ok (.getfield 271, 3)) (kk : WA p l e R s m args below meth c cells slots Q nL g A S (pc + 3) lv (.long (S.2.1 i 3) :: st)) : WA p l e R s m args below meth c cells slots Q nL g A S pc lv (.ref (ad g i) :: st) := wa_get cx hk (by decide) (cell_eq8 (kd_lt hk (by decide)).2) rfl inW8 (k := 3) (by decide) gl_X9_271 rfl hdg kk
theorem pf_X9_271 {p : Program} {l : Launch} {e : Env} {R : Room} {s : State} {m : MethodId} {args : Array Value} {below : List Frame} {meth : Method} {c : Code} {cells slots : Nat} {Q : State → Prop} {cc : ByteArray} {nL : Nat} {ret : Option FieldType} {g : Gl} {A : Nat → Prop} {S : St} {pc : Nat} {lv : List (Nat × Value)} {st : List Value} (cx : Cx p s m args meth c cc nL ret RX9 g A) {i : Nat} {x : Int64} (hk : kd g i = 8) (hdg : decode cc pc = .ok (.putfield 271, 3)) (kk : WA p l e R s m args below meth c cells slots Q nL g A (pJ S i 3 x) (pc + 3) lv st) : WA p l e R s m args below meth c cells slots Q nL g A S pc lv (.long x :: .ref (ad g i) :: st) := wa_put (S2 := pJ S i 3 x) (ty := .long) tyX8 hk (by decide) (cell_eq8 (kd_lt hk (by decide)).2) (by rw [cell_eq8 (kd_lt hk (by decide)).2]; unfold pJ; dsimp only; rw [up2_at]; rfl) cell_pJ rfl inW8 tyX8_ok nmX8 (k := 3) (by decide) gl_X9_271 rfl (by decide +kernel) rfl rfl (Nat.le_of_ble_eq_true rfl) hdg (cx := cx) kk
theorem gl_X8_78 : Cond.fieldLink RX8 78 (TX8 4).1 (TX8 4).2.1 (TX8 4).2.2.1 ∈ lw_g := (lwm 311 (by decide +kernel) rfl)
theorem gf_X8_78 {p : Program} {l : Launch} {e : Env} {R : Room} {s : State} {m : MethodId} {args : Array Value} {below : List Frame} {meth : Method} {c : Code} {cells slots : Nat} {Q : State → Prop} {cc : ByteArray} {nL : Nat} {ret : Option FieldType} {g : Gl} {A : Nat → Prop} {S : St} {pc : Nat} {lv : List (Nat × Value)} {st : List Value} (cx : Cx p s m args meth c cc nL ret RX8 g A) {i : Nat} (hk : kd g i = 8) (hdg : decode cc pc = .ok (.getfield 78, 3)) (kk : WA p l e R s m args below meth c cells slots Q nL g A S (pc + 3) lv (.long (S.2.1 i 4) :: st)) : WA p l e R s m args below meth c cells slots Q nL g A S pc lv (.ref (ad g i) :: st) := wa_get cx hk (by decide) (cell_eq8 (kd_lt hk (by decide)).2) rfl inW8 (k := 4) (by decide) gl_X8_78 rfl hdg kk
theorem pf_X8_78 {p : Program} {l : Launch} {e : Env} {R : Room} {s : State} {m : MethodId} {args : Array Value} {below : List Frame} {meth : Method} {c : Code} {cells slots : Nat} {Q : State → Prop} {cc : ByteArray} {nL : Nat} {ret : Option FieldType} {g : Gl} {A : Nat → Prop} {S : St} {pc : Nat} {lv : List (Nat × Value)} {st : List Value} (cx : Cx p s m args meth c cc nL ret RX8 g A) {i : Nat} {x : Int64} (hk : kd g i = 8) (hdg : decode cc pc = .ok (.putfield 78, 3)) (kk : WA p l e R s m args below meth c cells slots Q nL g A (pJ S i 4 x) (pc + 3) lv st) : WA p l e R s m args below meth c cells slots Q nL g A S pc lv (.long x :: .ref (ad g i) :: st) := wa_put (S2 := pJ S i 4 x) (ty := .long) tyX8 hk (by decide) (cell_eq8 (kd_lt hk (by decide)).2) (by rw [cell_eq8 (kd_lt hk (by decide)).2]; unfold pJ; dsimp only; rw [up2_at]; rfl) cell_pJ rfl inW8 tyX8_ok nmX8 (k := 4) (by decide) gl_X8_78 rfl (by decide +kernel) rfl rfl (Nat.le_of_ble_eq_true rfl) hdg (cx := cx) kk
theorem gl_X9_274 : Cond.fieldLink RX9 274 (TX8 4).1 (TX8 4).2.1 (TX8 4).2.2.1 ∈ lw_g := (lwm 312 (by decide +kernel) rfl)
theorem gf_X9_274 {p : Program} {l : Launch} {e : Env} {R : Room} {s : State} {m : MethodId} {args : Array Value} {below : List Frame} {meth : Method} {c : Code} {cells slots : Nat} {Q : State → Prop} {cc : ByteArray} {nL : Nat} {ret : Option FieldType} {g : Gl} {A : Nat → Prop} {S : St} {pc : Nat} {lv : List (Nat × Value)} {st : List Value} (cx : Cx p s m args meth c cc nL ret RX9 g A) {i : Nat} (hk : kd g i = 8) (hdg : decode cc pc = .ok (.getfield 274, 3)) (kk : WA p l e R s m args below meth c cells slots Q nL g A S (pc + 3) lv (.long (S.2.1 i 4) :: st)) : WA p l e R s m args below meth c cells slots Q nL g A S pc lv (.ref (ad g i) :: st) := wa_get cx hk (by decide) (cell_eq8 (kd_lt hk (by decide)).2) rfl inW8 (k := 4) (by decide) gl_X9_274 rfl hdg kk
theorem pf_X9_274 {p : Program} {l : Launch} {e : Env} {R : Room} {s : State} {m : MethodId} {args : Array Value} {below : List Frame} {meth : Method} {c : Code} {cells slots : Nat} {Q : State → Prop} {cc : ByteArray} {nL : Nat} {ret : Option FieldType} {g : Gl} {A : Nat → Prop} {S : St} {pc : Nat} {lv : List (Nat × Value)} {st : List Value} (cx : Cx p s m args meth c cc nL ret RX9 g A) {i : Nat} {x : Int64} (hk : kd g i = 8) (hdg : decode cc pc = .ok (.putfield 274, 3)) (kk : WA p l e R s m args below meth c cells slots Q nL g A (pJ S i 4 x) (pc + 3) lv st) : WA p l e R s m args below meth c cells slots Q nL g A S pc lv (.long x :: .ref (ad g i) :: st) := wa_put (S2 := pJ S i 4 x) (ty := .long) tyX8 hk (by decide) (cell_eq8 (kd_lt hk (by decide)).2) (by rw [cell_eq8 (kd_lt hk (by decide)).2]; unfold pJ; dsimp only; rw [up2_at]; rfl) cell_pJ rfl inW8 tyX8_ok nmX8 (k := 4) (by decide) gl_X9_274 rfl (by decide +kernel) rfl rfl (Nat.le_of_ble_eq_true rfl) hdg (cx := cx) kk
theorem gl_X8_9 : Cond.fieldLink RX8 9 (TX8 5).1 (TX8 5).2.1 (TX8 5).2.2.1 ∈ lw_g := (lwm 313 (by decide +kernel) rfl)
theorem gf_X8_9 {p : Program} {l : Launch} {e : Env} {R : Room} {s : State} {m : MethodId} {args : Array Value} {below : List Frame} {meth : Method} {c : Code} {cells slots : Nat} {Q : State → Prop} {cc : ByteArray} {nL : Nat} {ret : Option FieldType} {g : Gl} {A : Nat → Prop} {S : St} {pc : Nat} {lv : List (Nat × Value)} {st : List Value} (cx : Cx p s m args meth c cc nL ret RX8 g A) {i : Nat} (hk : kd g i = 8) (hdg : decode cc pc = .ok (.getfield 9, 3)) (kk : WA p l e R s m args below meth c cells slots Q nL g A S (pc + 3) lv (.ref (ad g (i + 1)) :: st)) : WA p l e R s m args below meth c cells slots Q nL g A S pc lv (.ref (ad g i) :: st) := wa_get cx hk (by decide) (cell_eq8 (kd_lt hk (by decide)).2) rfl inW8 (k := 5) (by decide) gl_X8_9 rfl hdg kk
theorem gl_X9_182 : Cond.fieldLink RX9 182 (TX8 5).1 (TX8 5).2.1 (TX8 5).2.2.1 ∈ lw_g := (lwm 314 (by decide +kernel) rfl)
theorem gf_X9_182 {p : Program} {l : Launch} {e : Env} {R : Room} {s : State} {m : MethodId} {args : Array Value} {below : List Frame} {meth : Method} {c : Code} {cells slots : Nat} {Q : State → Prop} {cc : ByteArray} {nL : Nat} {ret : Option FieldType} {g : Gl} {A : Nat → Prop} {S : St} {pc : Nat} {lv : List (Nat × Value)} {st : List Value} (cx : Cx p s m args meth c cc nL ret RX9 g A) {i : Nat} (hk : kd g i = 8) (hdg : decode cc pc = .ok (.getfield 182, 3)) (kk : WA p l e R s m args below meth c cells slots Q nL g A S (pc + 3) lv (.ref (ad g (i + 1)) :: st)) : WA p l e R s m args below meth c cells slots Q nL g A S pc lv (.ref (ad g i) :: st) := wa_get cx hk (by decide) (cell_eq8 (kd_lt hk (by decide)).2) rfl inW8 (k := 5) (by decide) gl_X9_182 rfl hdg kk
theorem gl_X8_15 : Cond.fieldLink RX8 15 (TX8 6).1 (TX8 6).2.1 (TX8 6).2.2.1 ∈ lw_g := (lwm 315 (by decide +kernel) rfl)
theorem gf_X8_15 {p : Program} {l : Launch} {e : Env} {R : Room} {s : State} {m : MethodId} {args : Array Value} {below : List Frame} {meth : Method} {c : Code} {cells slots : Nat} {Q : State → Prop} {cc : ByteArray} {nL : Nat} {ret : Option FieldType} {g : Gl} {A : Nat → Prop} {S : St} {pc : Nat} {lv : List (Nat × Value)} {st : List Value} (cx : Cx p s m args meth c cc nL ret RX8 g A) {i : Nat} (hk : kd g i = 8) (hdg : decode cc pc = .ok (.getfield 15, 3)) (kk : WA p l e R s m args below meth c cells slots Q nL g A S (pc + 3) lv (.ref (ad g (i + 2)) :: st)) : WA p l e R s m args below meth c cells slots Q nL g A S pc lv (.ref (ad g i) :: st) := wa_get cx hk (by decide) (cell_eq8 (kd_lt hk (by decide)).2) rfl inW8 (k := 6) (by decide) gl_X8_15 rfl hdg kk
theorem gl_X9_186 : Cond.fieldLink RX9 186 (TX8 6).1 (TX8 6).2.1 (TX8 6).2.2.1 ∈ lw_g := (lwm 316 (by decide +kernel) rfl)
theorem gf_X9_186 {p : Program} {l : Launch} {e : Env} {R : Room} {s : State} {m : MethodId} {args : Array Value} {below : List Frame} {meth : Method} {c : Code} {cells slots : Nat} {Q : State → Prop} {cc : ByteArray} {nL : Nat} {ret : Option FieldType} {g : Gl} {A : Nat → Prop} {S : St} {pc : Nat} {lv : List (Nat × Value)} {st : List Value} (cx : Cx p s m args meth c cc nL ret RX9 g A) {i : Nat} (hk : kd g i = 8) (hdg : decode cc pc = .ok (.getfield 186, 3)) (kk : WA p l e R s m args below meth c cells slots Q nL g A S (pc + 3) lv (.ref (ad g (i + 2)) :: st)) : WA p l e R s m args below meth c cells slots Q nL g A S pc lv (.ref (ad g i) :: st) := wa_get cx hk (by decide) (cell_eq8 (kd_lt hk (by decide)).2) rfl inW8 (k := 6) (by decide) gl_X9_186 rfl hdg kk
theorem gl_X8_18 : Cond.fieldLink RX8 18 (TX8 7).1 (TX8 7).2.1 (TX8 7).2.2.1 ∈ lw_g := (lwm 317 (by decide +kernel) rfl)
theorem gf_X8_18 {p : Program} {l : Launch} {e : Env} {R : Room} {s : State} {m : MethodId} {args : Array Value} {below : List Frame} {meth : Method} {c : Code} {cells slots : Nat} {Q : State → Prop} {cc : ByteArray} {nL : Nat} {ret : Option FieldType} {g : Gl} {A : Nat → Prop} {S : St} {pc : Nat} {lv : List (Nat × Value)} {st : List Value} (cx : Cx p s m args meth c cc nL ret RX8 g A) {i : Nat} (hk : kd g i = 8) (hdg : decode cc pc = .ok (.getfield 18, 3)) (kk : WA p l e R s m args below meth c cells slots Q nL g A S (pc + 3) lv (.ref (ad g (i + 3)) :: st)) : WA p l e R s m args below meth c cells slots Q nL g A S pc lv (.ref (ad g i) :: st) := wa_get cx hk (by decide) (cell_eq8 (kd_lt hk (by decide)).2) rfl inW8 (k := 7) (by decide) gl_X8_18 rfl hdg kk
theorem gl_X8_22 : Cond.fieldLink RX8 22 (TX8 8).1 (TX8 8).2.1 (TX8 8).2.2.1 ∈ lw_g := (lwm 318 (by decide +kernel) rfl)
theorem gf_X8_22 {p : Program} {l : Launch} {e : Env} {R : Room} {s : State} {m : MethodId} {args : Array Value} {below : List Frame} {meth : Method} {c : Code} {cells slots : Nat} {Q : State → Prop} {cc : ByteArray} {nL : Nat} {ret : Option FieldType} {g : Gl} {A : Nat → Prop} {S : St} {pc : Nat} {lv : List (Nat × Value)} {st : List Value} (cx : Cx p s m args meth c cc nL ret RX8 g A) {i : Nat} (hk : kd g i = 8) (hdg : decode cc pc = .ok (.getfield 22, 3)) (kk : WA p l e R s m args below meth c cells slots Q nL g A S (pc + 3) lv (.ref (ad g (i + 4)) :: st)) : WA p l e R s m args below meth c cells slots Q nL g A S pc lv (.ref (ad g i) :: st) := wa_get cx hk (by decide) (cell_eq8 (kd_lt hk (by decide)).2) rfl inW8 (k := 8) (by decide) gl_X8_22 rfl hdg kk
theorem gl_X8_25 : Cond.fieldLink RX8 25 (TX8 9).1 (TX8 9).2.1 (TX8 9).2.2.1 ∈ lw_g := (lwm 319 (by decide +kernel) rfl)
theorem gf_X8_25 {p : Program} {l : Launch} {e : Env} {R : Room} {s : State} {m : MethodId} {args : Array Value} {below : List Frame} {meth : Method} {c : Code} {cells slots : Nat} {Q : State → Prop} {cc : ByteArray} {nL : Nat} {ret : Option FieldType} {g : Gl} {A : Nat → Prop} {S : St} {pc : Nat} {lv : List (Nat × Value)} {st : List Value} (cx : Cx p s m args meth c cc nL ret RX8 g A) {i : Nat} (hk : kd g i = 8) (hdg : decode cc pc = .ok (.getfield 25, 3)) (kk : WA p l e R s m args below meth c cells slots Q nL g A S (pc + 3) lv (.ref (ad g (i + 5)) :: st)) : WA p l e R s m args below meth c cells slots Q nL g A S pc lv (.ref (ad g i) :: st) := wa_get cx hk (by decide) (cell_eq8 (kd_lt hk (by decide)).2) rfl inW8 (k := 9) (by decide) gl_X8_25 rfl hdg kk
theorem gl_X4_12 : Cond.fieldLink RX4 12 (TX4 0).1 (TX4 0).2.1 (TX4 0).2.2.1 ∈ lw_g := (lwm 350 (by decide +kernel) rfl)
theorem gf_X4_12 {p : Program} {l : Launch} {e : Env} {R : Room} {s : State} {m : MethodId} {args : Array Value} {below : List Frame} {meth : Method} {c : Code} {cells slots : Nat} {Q : State → Prop} {cc : ByteArray} {nL : Nat} {ret : Option FieldType} {g : Gl} {A : Nat → Prop} {S : St} {pc : Nat} {lv : List (Nat × Value)} {st : List Value} (cx : Cx p s m args meth c cc nL ret RX4 g A) {i : Nat} (hk : kd g i = 4) (hdg : decode cc pc = .ok (.getfield 12, 3)) (kk : WA p l e R s m args below meth c cells slots Q nL g A S (pc + 3) lv (.ref (ad g (S.2.2 i 0)) :: st)) : WA p l e R s m args below meth c cells slots Q nL g A S pc lv (.ref (ad g i) :: st) := wa_get cx hk (by decide) (cell_eq4 (kd_lt hk (by decide)).2) rfl inW4 (k := 0) (by decide) gl_X4_12 rfl hdg kk
theorem pf_X4_12 {p : Program} {l : Launch} {e : Env} {R : Room} {s : State} {m : MethodId} {args : Array Value} {below : List Frame} {meth : Method} {c : Code} {cells slots : Nat} {Q : State → Prop} {cc : ByteArray} {nL : Nat} {ret : Option FieldType} {g : Gl} {A : Nat → Prop} {S : St} {pc : Nat} {lv : List (Nat × Value)} {st : List Value} (cx : Cx p s m args meth c cc nL ret RX4 g A) {i : Nat} {x : Nat} (hk : kd g i = 4) (hdg : decode cc pc = .ok (.putfield 12, 3)) (kk : WA p l e R s m args below meth c cells slots Q nL g A (pR S i 0 x) (pc + 3) lv st) : WA p l e R s m args below meth c cells slots Q nL g A S pc lv (.ref (ad g x) :: .ref (ad g i) :: st) := wa_put (S2 := pR S i 0 x) (ty := .object "EnoughGive$Coming") tyX4 hk (by decide) (cell_eq4 (kd_lt hk (by decide)).2) (by rw [cell_eq4 (kd_lt hk (by decide)).2]; unfold pR; dsimp only; rw [up2_at]; rfl) cell_pR rfl inW4 tyX4_ok nmX4 (k := 0) (by decide) gl_X4_12 rfl (by decide +kernel) rfl rfl (Nat.le_of_ble_eq_true rfl) hdg (cx := cx) kk
theorem gl_X4_34 : Cond.fieldLink RX4 34 (TX4 1).1 (TX4 1).2.1 (TX4 1).2.2.1 ∈ lw_g := (lwm 351 (by decide +kernel) rfl)
theorem gf_X4_34 {p : Program} {l : Launch} {e : Env} {R : Room} {s : State} {m : MethodId} {args : Array Value} {below : List Frame} {meth : Method} {c : Code} {cells slots : Nat} {Q : State → Prop} {cc : ByteArray} {nL : Nat} {ret : Option FieldType} {g : Gl} {A : Nat → Prop} {S : St} {pc : Nat} {lv : List (Nat × Value)} {st : List Value} (cx : Cx p s m args meth c cc nL ret RX4 g A) {i : Nat} (hk : kd g i = 4) (hdg : decode cc pc = .ok (.getfield 34, 3)) (kk : WA p l e R s m args below meth c cells slots Q nL g A S (pc + 3) lv (.int (S.1 i 1) :: st)) : WA p l e R s m args below meth c cells slots Q nL g A S pc lv (.ref (ad g i) :: st) := wa_get cx hk (by decide) (cell_eq4 (kd_lt hk (by decide)).2) rfl inW4 (k := 1) (by decide) gl_X4_34 rfl hdg kk
theorem pf_X4_34 {p : Program} {l : Launch} {e : Env} {R : Room} {s : State} {m : MethodId} {args : Array Value} {below : List Frame} {meth : Method} {c : Code} {cells slots : Nat} {Q : State → Prop} {cc : ByteArray} {nL : Nat} {ret : Option FieldType} {g : Gl} {A : Nat → Prop} {S : St} {pc : Nat} {lv : List (Nat × Value)} {st : List Value} (cx : Cx p s m args meth c cc nL ret RX4 g A) {i : Nat} {x : Int32} (hk : kd g i = 4) (hdg : decode cc pc = .ok (.putfield 34, 3)) (kk : WA p l e R s m args below meth c cells slots Q nL g A (pI S i 1 x) (pc + 3) lv st) : WA p l e R s m args below meth c cells slots Q nL g A S pc lv (.int x :: .ref (ad g i) :: st) := wa_put (S2 := pI S i 1 x) (ty := .int) tyX4 hk (by decide) (cell_eq4 (kd_lt hk (by decide)).2) (by rw [cell_eq4 (kd_lt hk (by decide)).2]; unfold pI; dsimp only; rw [up2_at]; rfl) cell_pI rfl inW4 tyX4_ok nmX4 (k := 1) (by decide) gl_X4_34 rfl (by decide +kernel) rfl rfl (Nat.le_of_ble_eq_true rfl) hdg (cx := cx) kk
theorem gl_X4_38 : Cond.fieldLink RX4 38 (TX4 2).1 (TX4 2).2.1 (TX4 2).2.2.1 ∈ lw_g := (lwm 352 (by decide +kernel) rfl)
theorem gf_X4_38 {p : Program} {l : Launch} {e : Env} {R : Room} {s : State} {m : MethodId} {args : Array Value} {below : List Frame} {meth : Method} {c : Code} {cells slots : Nat} {Q : State → Prop} {cc : ByteArray} {nL : Nat} {ret : Option FieldType} {g : Gl} {A : Nat → Prop} {S : St} {pc : Nat} {lv : List (Nat × Value)} {st : List Value} (cx : Cx p s m args meth c cc nL ret RX4 g A) {i : Nat} (hk : kd g i = 4) (hdg : decode cc pc = .ok (.getfield 38, 3)) (kk : WA p l e R s m args below meth c cells slots Q nL g A S (pc + 3) lv (.int (S.1 i 2) :: st)) : WA p l e R s m args below meth c cells slots Q nL g A S pc lv (.ref (ad g i) :: st) := wa_get cx hk (by decide) (cell_eq4 (kd_lt hk (by decide)).2) rfl inW4 (k := 2) (by decide) gl_X4_38 rfl hdg kk
theorem pf_X4_38 {p : Program} {l : Launch} {e : Env} {R : Room} {s : State} {m : MethodId} {args : Array Value} {below : List Frame} {meth : Method} {c : Code} {cells slots : Nat} {Q : State → Prop} {cc : ByteArray} {nL : Nat} {ret : Option FieldType} {g : Gl} {A : Nat → Prop} {S : St} {pc : Nat} {lv : List (Nat × Value)} {st : List Value} (cx : Cx p s m args meth c cc nL ret RX4 g A) {i : Nat} {x : Int32} (hk : kd g i = 4) (hdg : decode cc pc = .ok (.putfield 38, 3)) (kk : WA p l e R s m args below meth c cells slots Q nL g A (pI S i 2 x) (pc + 3) lv st) : WA p l e R s m args below meth c cells slots Q nL g A S pc lv (.int x :: .ref (ad g i) :: st) := wa_put (S2 := pI S i 2 x) (ty := .int) tyX4 hk (by decide) (cell_eq4 (kd_lt hk (by decide)).2) (by rw [cell_eq4 (kd_lt hk (by decide)).2]; unfold pI; dsimp only; rw [up2_at]; rfl) cell_pI rfl inW4 tyX4_ok nmX4 (k := 2) (by decide) gl_X4_38 rfl (by decide +kernel) rfl rfl (Nat.le_of_ble_eq_true rfl) hdg (cx := cx) kk
theorem gl_X4_42 : Cond.fieldLink RX4 42 (TX4 3).1 (TX4 3).2.1 (TX4 3).2.2.1 ∈ lw_g := (lwm 353 (by decide +kernel) rfl)
theorem gf_X4_42 {p : Program} {l : Launch} {e : Env} {R : Room} {s : State} {m : MethodId} {args : Array Value} {below : List Frame} {meth : Method} {c : Code} {cells slots : Nat} {Q : State → Prop} {cc : ByteArray} {nL : Nat} {ret : Option FieldType} {g : Gl} {A : Nat → Prop} {S : St} {pc : Nat} {lv : List (Nat × Value)} {st : List Value} (cx : Cx p s m args meth c cc nL ret RX4 g A) {i : Nat} (hk : kd g i = 4) (hdg : decode cc pc = .ok (.getfield 42, 3)) (kk : WA p l e R s m args below meth c cells slots Q nL g A S (pc + 3) lv (.int (S.1 i 3) :: st)) : WA p l e R s m args below meth c cells slots Q nL g A S pc lv (.ref (ad g i) :: st) := wa_get cx hk (by decide) (cell_eq4 (kd_lt hk (by decide)).2) rfl inW4 (k := 3) (by decide) gl_X4_42 rfl hdg kk
theorem pf_X4_42 {p : Program} {l : Launch} {e : Env} {R : Room} {s : State} {m : MethodId} {args : Array Value} {below : List Frame} {meth : Method} {c : Code} {cells slots : Nat} {Q : State → Prop} {cc : ByteArray} {nL : Nat} {ret : Option FieldType} {g : Gl} {A : Nat → Prop} {S : St} {pc : Nat} {lv : List (Nat × Value)} {st : List Value} (cx : Cx p s m args meth c cc nL ret RX4 g A) {i : Nat} {x : Int32} (hk : kd g i = 4) (hdg : decode cc pc = .ok (.putfield 42, 3)) (kk : WA p l e R s m args below meth c cells slots Q nL g A (pI S i 3 x) (pc + 3) lv st) : WA p l e R s m args below meth c cells slots Q nL g A S pc lv (.int x :: .ref (ad g i) :: st) := wa_put (S2 := pI S i 3 x) (ty := .int) tyX4 hk (by decide) (cell_eq4 (kd_lt hk (by decide)).2) (by rw [cell_eq4 (kd_lt hk (by decide)).2]; unfold pI; dsimp only; rw [up2_at]; rfl) cell_pI rfl inW4 tyX4_ok nmX4 (k := 3) (by decide) gl_X4_42 rfl (by decide +kernel) rfl rfl (Nat.le_of_ble_eq_true rfl) hdg (cx := cx) kk
end
section
theorem gl_X4_20 : Cond.fieldLink RX4 20 (TX4 4).1 (TX4 4).2.1 (TX4 4).2.2.1 ∈ lw_g := (lwm 354 (by decide +kernel) rfl)
theorem gf_X4_20 {p : Program} {l : Launch} {e : Env} {R : Room} {s : State} {m : MethodId} {args : Array Value} {below : List Frame} {meth : Method} {c : Code} {cells slots : Nat} {Q : State → Prop} {cc : ByteArray} {nL : Nat} {ret : Option FieldType} {g : Gl} {A : Nat → Prop} {S : St} {pc : Nat} {lv : List (Nat × Value)} {st : List Value} (cx : Cx p s m args meth c cc nL ret RX4 g A) {i : Nat} (hk : kd g i = 4) (hdg : decode cc pc = .ok (.getfield 20, 3)) (kk : WA p l e R s m args below meth c cells slots Q nL g A S (pc + 3) lv (.ref (ad g (i + 12)) :: st)) : WA p l e R s m args below meth c cells slots Q nL g A S pc lv (.ref (ad g i) :: st) := wa_get cx hk (by decide) (cell_eq4 (kd_lt hk (by decide)).2) rfl inW4 (k := 4) (by decide) gl_X4_20 rfl hdg kk
theorem gl_X4_24 : Cond.fieldLink RX4 24 (TX4 5).1 (TX4 5).2.1 (TX4 5).2.2.1 ∈ lw_g := (lwm 355 (by decide +kernel) rfl)
theorem gf_X4_24 {p : Program} {l : Launch} {e : Env} {R : Room} {s : State} {m : MethodId} {args : Array Value} {below : List Frame} {meth : Method} {c : Code} {cells slots : Nat} {Q : State → Prop} {cc : ByteArray} {nL : Nat} {ret : Option FieldType} {g : Gl} {A : Nat → Prop} {S : St} {pc : Nat} {lv : List (Nat × Value)} {st : List Value} (cx : Cx p s m args meth c cc nL ret RX4 g A) {i : Nat} (hk : kd g i = 4) (hdg : decode cc pc = .ok (.getfield 24, 3)) (kk : WA p l e R s m args below meth c cells slots Q nL g A S (pc + 3) lv (.ref (ad g (i + 13)) :: st)) : WA p l e R s m args below meth c cells slots Q nL g A S pc lv (.ref (ad g i) :: st) := wa_get cx hk (by decide) (cell_eq4 (kd_lt hk (by decide)).2) rfl inW4 (k := 5) (by decide) gl_X4_24 rfl hdg kk
theorem gl_X5_18 : Cond.fieldLink RX5 18 (TX5 0).1 (TX5 0).2.1 (TX5 0).2.2.1 ∈ lw_g := (lwm 375 (by decide +kernel) rfl)
theorem gf_X5_18 {p : Program} {l : Launch} {e : Env} {R : Room} {s : State} {m : MethodId} {args : Array Value} {below : List Frame} {meth : Method} {c : Code} {cells slots : Nat} {Q : State → Prop} {cc : ByteArray} {nL : Nat} {ret : Option FieldType} {g : Gl} {A : Nat → Prop} {S : St} {pc : Nat} {lv : List (Nat × Value)} {st : List Value} (cx : Cx p s m args meth c cc nL ret RX5 g A) {i : Nat} (hk : kd g i = 5) (hdg : decode cc pc = .ok (.getfield 18, 3)) (kk : WA p l e R s m args below meth c cells slots Q nL g A S (pc + 3) lv (.int (S.1 i 0) :: st)) : WA p l e R s m args below meth c cells slots Q nL g A S pc lv (.ref (ad g i) :: st) := wa_get cx hk (by decide) (cell_eq5 (kd_lt hk (by decide)).2) rfl inW5 (k := 0) (by decide) gl_X5_18 rfl hdg kk
theorem pf_X5_18 {p : Program} {l : Launch} {e : Env} {R : Room} {s : State} {m : MethodId} {args : Array Value} {below : List Frame} {meth : Method} {c : Code} {cells slots : Nat} {Q : State → Prop} {cc : ByteArray} {nL : Nat} {ret : Option FieldType} {g : Gl} {A : Nat → Prop} {S : St} {pc : Nat} {lv : List (Nat × Value)} {st : List Value} (cx : Cx p s m args meth c cc nL ret RX5 g A) {i : Nat} {x : Int32} (hk : kd g i = 5) (hdg : decode cc pc = .ok (.putfield 18, 3)) (kk : WA p l e R s m args below meth c cells slots Q nL g A (pI S i 0 x) (pc + 3) lv st) : WA p l e R s m args below meth c cells slots Q nL g A S pc lv (.int x :: .ref (ad g i) :: st) := wa_put (S2 := pI S i 0 x) (ty := .int) tyX5 hk (by decide) (cell_eq5 (kd_lt hk (by decide)).2) (by rw [cell_eq5 (kd_lt hk (by decide)).2]; unfold pI; dsimp only; rw [up2_at]; rfl) cell_pI rfl inW5 tyX5_ok nmX5 (k := 0) (by decide) gl_X5_18 rfl (by decide +kernel) rfl rfl (Nat.le_of_ble_eq_true rfl) hdg (cx := cx) kk
theorem gl_X9_128 : Cond.fieldLink RX9 128 (TX5 0).1 (TX5 0).2.1 (TX5 0).2.2.1 ∈ lw_g := (lwm 376 (by decide +kernel) rfl)
theorem gf_X9_128 {p : Program} {l : Launch} {e : Env} {R : Room} {s : State} {m : MethodId} {args : Array Value} {below : List Frame} {meth : Method} {c : Code} {cells slots : Nat} {Q : State → Prop} {cc : ByteArray} {nL : Nat} {ret : Option FieldType} {g : Gl} {A : Nat → Prop} {S : St} {pc : Nat} {lv : List (Nat × Value)} {st : List Value} (cx : Cx p s m args meth c cc nL ret RX9 g A) {i : Nat} (hk : kd g i = 5) (hdg : decode cc pc = .ok (.getfield 128, 3)) (kk : WA p l e R s m args below meth c cells slots Q nL g A S (pc + 3) lv (.int (S.1 i 0) :: st)) : WA p l e R s m args below meth c cells slots Q nL g A S pc lv (.ref (ad g i) :: st) := wa_get cx hk (by decide) (cell_eq5 (kd_lt hk (by decide)).2) rfl inW5 (k := 0) (by decide) gl_X9_128 rfl hdg kk
theorem pf_X9_128 {p : Program} {l : Launch} {e : Env} {R : Room} {s : State} {m : MethodId} {args : Array Value} {below : List Frame} {meth : Method} {c : Code} {cells slots : Nat} {Q : State → Prop} {cc : ByteArray} {nL : Nat} {ret : Option FieldType} {g : Gl} {A : Nat → Prop} {S : St} {pc : Nat} {lv : List (Nat × Value)} {st : List Value} (cx : Cx p s m args meth c cc nL ret RX9 g A) {i : Nat} {x : Int32} (hk : kd g i = 5) (hdg : decode cc pc = .ok (.putfield 128, 3)) (kk : WA p l e R s m args below meth c cells slots Q nL g A (pI S i 0 x) (pc + 3) lv st) : WA p l e R s m args below meth c cells slots Q nL g A S pc lv (.int x :: .ref (ad g i) :: st) := wa_put (S2 := pI S i 0 x) (ty := .int) tyX5 hk (by decide) (cell_eq5 (kd_lt hk (by decide)).2) (by rw [cell_eq5 (kd_lt hk (by decide)).2]; unfold pI; dsimp only; rw [up2_at]; rfl) cell_pI rfl inW5 tyX5_ok nmX5 (k := 0) (by decide) gl_X9_128 rfl (by decide +kernel) rfl rfl (Nat.le_of_ble_eq_true rfl) hdg (cx := cx) kk
theorem gl_X5_11 : Cond.fieldLink RX5 11 (TX5 1).1 (TX5 1).2.1 (TX5 1).2.2.1 ∈ lw_g := (lwm 377 (by decide +kernel) rfl)
theorem gf_X5_11 {p : Program} {l : Launch} {e : Env} {R : Room} {s : State} {m : MethodId} {args : Array Value} {below : List Frame} {meth : Method} {c : Code} {cells slots : Nat} {Q : State → Prop} {cc : ByteArray} {nL : Nat} {ret : Option FieldType} {g : Gl} {A : Nat → Prop} {S : St} {pc : Nat} {lv : List (Nat × Value)} {st : List Value} (cx : Cx p s m args meth c cc nL ret RX5 g A) {i : Nat} (hk : kd g i = 5) (hdg : decode cc pc = .ok (.getfield 11, 3)) (kk : WA p l e R s m args below meth c cells slots Q nL g A S (pc + 3) lv (.ref (ad g (i + 1)) :: st)) : WA p l e R s m args below meth c cells slots Q nL g A S pc lv (.ref (ad g i) :: st) := wa_get cx hk (by decide) (cell_eq5 (kd_lt hk (by decide)).2) rfl inW5 (k := 1) (by decide) gl_X5_11 rfl hdg kk
theorem gl_X5_15 : Cond.fieldLink RX5 15 (TX5 2).1 (TX5 2).2.1 (TX5 2).2.2.1 ∈ lw_g := (lwm 378 (by decide +kernel) rfl)
theorem gf_X5_15 {p : Program} {l : Launch} {e : Env} {R : Room} {s : State} {m : MethodId} {args : Array Value} {below : List Frame} {meth : Method} {c : Code} {cells slots : Nat} {Q : State → Prop} {cc : ByteArray} {nL : Nat} {ret : Option FieldType} {g : Gl} {A : Nat → Prop} {S : St} {pc : Nat} {lv : List (Nat × Value)} {st : List Value} (cx : Cx p s m args meth c cc nL ret RX5 g A) {i : Nat} (hk : kd g i = 5) (hdg : decode cc pc = .ok (.getfield 15, 3)) (kk : WA p l e R s m args below meth c cells slots Q nL g A S (pc + 3) lv (.ref (ad g (i + 2)) :: st)) : WA p l e R s m args below meth c cells slots Q nL g A S pc lv (.ref (ad g i) :: st) := wa_get cx hk (by decide) (cell_eq5 (kd_lt hk (by decide)).2) rfl inW5 (k := 2) (by decide) gl_X5_15 rfl hdg kk
theorem vl_X9_80 : VL RX9 80 yX2_clear cX2_clear 1 none 0 := ⟨⟨(lwm 386 (by decide +kernel) rfl), (lwm 387 (by decide +kernel) rfl), (lwm 388 (by decide +kernel) rfl), (lwm 30 (by decide +kernel) rfl), (lwm 389 (by decide +kernel) rfl)⟩, by decide, by decide, by decide +kernel⟩
theorem vl_X2_48 : VL RX2 48 yX6_clear cX6_clear 1 none 0 := ⟨⟨(lwm 390 (by decide +kernel) rfl), (lwm 391 (by decide +kernel) rfl), (lwm 392 (by decide +kernel) rfl), (lwm 31 (by decide +kernel) rfl), (lwm 393 (by decide +kernel) rfl)⟩, by decide, by decide, by decide +kernel⟩
theorem vl_X9_87 : VL RX9 87 yX6_add cX6_add 7 (some .boolean) 5 := ⟨⟨(lwm 394 (by decide +kernel) rfl), (lwm 395 (by decide +kernel) rfl), (lwm 396 (by decide +kernel) rfl), (lwm 31 (by decide +kernel) rfl), (lwm 397 (by decide +kernel) rfl)⟩, by decide, by decide, by decide +kernel⟩
theorem vl_X9_91 : VL RX9 91 yX6_addWorth cX6_addWorth 4 (some .boolean) 3 := ⟨⟨(lwm 398 (by decide +kernel) rfl), (lwm 399 (by decide +kernel) rfl), (lwm 400 (by decide +kernel) rfl), (lwm 31 (by decide +kernel) rfl), (lwm 401 (by decide +kernel) rfl)⟩, by decide, by decide, by decide +kernel⟩
theorem vl_X6_41 : VL RX6 41 yX6_has cX6_has 2 (some .boolean) 1 := ⟨⟨(lwm 402 (by decide +kernel) rfl), (lwm 403 (by decide +kernel) rfl), (lwm 404 (by decide +kernel) rfl), (lwm 31 (by decide +kernel) rfl), (lwm 405 (by decide +kernel) rfl)⟩, by decide, by decide, by decide +kernel⟩
theorem vl_X9_99 : VL RX9 99 yX0_arrange cX0_arrange 8 (some .boolean) 2 := ⟨⟨(lwm 406 (by decide +kernel) rfl), (lwm 407 (by decide +kernel) rfl), (lwm 408 (by decide +kernel) rfl), (lwm 32 (by decide +kernel) rfl), (lwm 409 (by decide +kernel) rfl)⟩, by decide, by decide, by decide +kernel⟩
theorem vl_X0_64 : VL RX0 64 yX0_seat cX0_seat 7 none 3 := ⟨⟨(lwm 410 (by decide +kernel) rfl), (lwm 412 (by decide +kernel) rfl), (lwm 0 (by decide +kernel) rfl), (lwm 32 (by decide +kernel) rfl), (lwm 413 (by decide +kernel) rfl)⟩, by decide, by decide, by decide +kernel⟩
theorem vl_X0_68 : VL RX0 68 yX6_sortOf cX6_sortOf 2 (some .int) 1 := ⟨⟨(lwm 414 (by decide +kernel) rfl), (lwm 415 (by decide +kernel) rfl), (lwm 416 (by decide +kernel) rfl), (lwm 31 (by decide +kernel) rfl), (lwm 417 (by decide +kernel) rfl)⟩, by decide, by decide, by decide +kernel⟩
theorem gl_X9_10 : Cond.fieldLink RX9 10 (TX9 0).1 (TX9 0).2.1 (TX9 0).2.2.1 ∈ lw_g := (lwm 421 (by decide +kernel) rfl)
theorem gf_X9_10 {p : Program} {l : Launch} {e : Env} {R : Room} {s : State} {m : MethodId} {args : Array Value} {below : List Frame} {meth : Method} {c : Code} {cells slots : Nat} {Q : State → Prop} {cc : ByteArray} {nL : Nat} {ret : Option FieldType} {g : Gl} {A : Nat → Prop} {S : St} {pc : Nat} {lv : List (Nat × Value)} {st : List Value} (cx : Cx p s m args meth c cc nL ret RX9 g A) {i : Nat} (hk : kd g i = 9) (hdg : decode cc pc = .ok (.getfield 10, 3)) (kk : WA p l e R s m args below meth c cells slots Q nL g A S (pc + 3) lv (.ref (ad g (i + 1)) :: st)) : WA p l e R s m args below meth c cells slots Q nL g A S pc lv (.ref (ad g i) :: st) := wa_get cx hk (by decide) (cell_eq9 (kd_lt hk (by decide)).2) rfl inW9 (k := 0) (by decide) gl_X9_10 rfl hdg kk
theorem gl_X9_19 : Cond.fieldLink RX9 19 (TX9 1).1 (TX9 1).2.1 (TX9 1).2.2.1 ∈ lw_g := (lwm 422 (by decide +kernel) rfl)
theorem gf_X9_19 {p : Program} {l : Launch} {e : Env} {R : Room} {s : State} {m : MethodId} {args : Array Value} {below : List Frame} {meth : Method} {c : Code} {cells slots : Nat} {Q : State → Prop} {cc : ByteArray} {nL : Nat} {ret : Option FieldType} {g : Gl} {A : Nat → Prop} {S : St} {pc : Nat} {lv : List (Nat × Value)} {st : List Value} (cx : Cx p s m args meth c cc nL ret RX9 g A) {i : Nat} (hk : kd g i = 9) (hdg : decode cc pc = .ok (.getfield 19, 3)) (kk : WA p l e R s m args below meth c cells slots Q nL g A S (pc + 3) lv (.ref (ad g (i + 3)) :: st)) : WA p l e R s m args below meth c cells slots Q nL g A S pc lv (.ref (ad g i) :: st) := wa_get cx hk (by decide) (cell_eq9 (kd_lt hk (by decide)).2) rfl inW9 (k := 1) (by decide) gl_X9_19 rfl hdg kk
theorem gl_X9_26 : Cond.fieldLink RX9 26 (TX9 2).1 (TX9 2).2.1 (TX9 2).2.2.1 ∈ lw_g := (lwm 423 (by decide +kernel) rfl)
theorem gf_X9_26 {p : Program} {l : Launch} {e : Env} {R : Room} {s : State} {m : MethodId} {args : Array Value} {below : List Frame} {meth : Method} {c : Code} {cells slots : Nat} {Q : State → Prop} {cc : ByteArray} {nL : Nat} {ret : Option FieldType} {g : Gl} {A : Nat → Prop} {S : St} {pc : Nat} {lv : List (Nat × Value)} {st : List Value} (cx : Cx p s m args meth c cc nL ret RX9 g A) {i : Nat} (hk : kd g i = 9) (hdg : decode cc pc = .ok (.getfield 26, 3)) (kk : WA p l e R s m args below meth c cells slots Q nL g A S (pc + 3) lv (.ref (ad g (S.2.2 i 2)) :: st)) : WA p l e R s m args below meth c cells slots Q nL g A S pc lv (.ref (ad g i) :: st) := wa_get cx hk (by decide) (cell_eq9 (kd_lt hk (by decide)).2) rfl inW9 (k := 2) (by decide) gl_X9_26 rfl hdg kk
theorem pf_X9_26 {p : Program} {l : Launch} {e : Env} {R : Room} {s : State} {m : MethodId} {args : Array Value} {below : List Frame} {meth : Method} {c : Code} {cells slots : Nat} {Q : State → Prop} {cc : ByteArray} {nL : Nat} {ret : Option FieldType} {g : Gl} {A : Nat → Prop} {S : St} {pc : Nat} {lv : List (Nat × Value)} {st : List Value} (cx : Cx p s m args meth c cc nL ret RX9 g A) {i : Nat} {x : Nat} (hk : kd g i = 9) (hdg : decode cc pc = .ok (.putfield 26, 3)) (kk : WA p l e R s m args below meth c cells slots Q nL g A (pR S i 2 x) (pc + 3) lv st) : WA p l e R s m args below meth c cells slots Q nL g A S pc lv (.ref (ad g x) :: .ref (ad g i) :: st) := wa_put (S2 := pR S i 2 x) (ty := .object "EnoughGive$Plan") tyX9 hk (by decide) (cell_eq9 (kd_lt hk (by decide)).2) (by rw [cell_eq9 (kd_lt hk (by decide)).2]; unfold pR; dsimp only; rw [up2_at]; rfl) cell_pR rfl inW9 tyX9_ok nmX9 (k := 2) (by decide) gl_X9_26 rfl (by decide +kernel) rfl rfl (Nat.le_of_ble_eq_true rfl) hdg (cx := cx) kk
theorem gl_X9_30 : Cond.fieldLink RX9 30 (TX9 3).1 (TX9 3).2.1 (TX9 3).2.2.1 ∈ lw_g := (lwm 424 (by decide +kernel) rfl)
theorem gf_X9_30 {p : Program} {l : Launch} {e : Env} {R : Room} {s : State} {m : MethodId} {args : Array Value} {below : List Frame} {meth : Method} {c : Code} {cells slots : Nat} {Q : State → Prop} {cc : ByteArray} {nL : Nat} {ret : Option FieldType} {g : Gl} {A : Nat → Prop} {S : St} {pc : Nat} {lv : List (Nat × Value)} {st : List Value} (cx : Cx p s m args meth c cc nL ret RX9 g A) {i : Nat} (hk : kd g i = 9) (hdg : decode cc pc = .ok (.getfield 30, 3)) (kk : WA p l e R s m args below meth c cells slots Q nL g A S (pc + 3) lv (.ref (ad g (S.2.2 i 3)) :: st)) : WA p l e R s m args below meth c cells slots Q nL g A S pc lv (.ref (ad g i) :: st) := wa_get cx hk (by decide) (cell_eq9 (kd_lt hk (by decide)).2) rfl inW9 (k := 3) (by decide) gl_X9_30 rfl hdg kk
theorem pf_X9_30 {p : Program} {l : Launch} {e : Env} {R : Room} {s : State} {m : MethodId} {args : Array Value} {below : List Frame} {meth : Method} {c : Code} {cells slots : Nat} {Q : State → Prop} {cc : ByteArray} {nL : Nat} {ret : Option FieldType} {g : Gl} {A : Nat → Prop} {S : St} {pc : Nat} {lv : List (Nat × Value)} {st : List Value} (cx : Cx p s m args meth c cc nL ret RX9 g A) {i : Nat} {x : Nat} (hk : kd g i = 9) (hdg : decode cc pc = .ok (.putfield 30, 3)) (kk : WA p l e R s m args below meth c cells slots Q nL g A (pR S i 3 x) (pc + 3) lv st) : WA p l e R s m args below meth c cells slots Q nL g A S pc lv (.ref (ad g x) :: .ref (ad g i) :: st) := wa_put (S2 := pR S i 3 x) (ty := .object "EnoughGive$Plan") tyX9 hk (by decide) (cell_eq9 (kd_lt hk (by decide)).2) (by rw [cell_eq9 (kd_lt hk (by decide)).2]; unfold pR; dsimp only; rw [up2_at]; rfl) cell_pR rfl inW9 tyX9_ok nmX9 (k := 3) (by decide) gl_X9_30 rfl (by decide +kernel) rfl rfl (Nat.le_of_ble_eq_true rfl) hdg (cx := cx) kk
theorem gl_X9_36 : Cond.fieldLink RX9 36 (TX9 4).1 (TX9 4).2.1 (TX9 4).2.2.1 ∈ lw_g := (lwm 425 (by decide +kernel) rfl)
theorem gf_X9_36 {p : Program} {l : Launch} {e : Env} {R : Room} {s : State} {m : MethodId} {args : Array Value} {below : List Frame} {meth : Method} {c : Code} {cells slots : Nat} {Q : State → Prop} {cc : ByteArray} {nL : Nat} {ret : Option FieldType} {g : Gl} {A : Nat → Prop} {S : St} {pc : Nat} {lv : List (Nat × Value)} {st : List Value} (cx : Cx p s m args meth c cc nL ret RX9 g A) {i : Nat} (hk : kd g i = 9) (hdg : decode cc pc = .ok (.getfield 36, 3)) (kk : WA p l e R s m args below meth c cells slots Q nL g A S (pc + 3) lv (.ref (ad g (i + 25)) :: st)) : WA p l e R s m args below meth c cells slots Q nL g A S pc lv (.ref (ad g i) :: st) := wa_get cx hk (by decide) (cell_eq9 (kd_lt hk (by decide)).2) rfl inW9 (k := 4) (by decide) gl_X9_36 rfl hdg kk
theorem gl_X9_40 : Cond.fieldLink RX9 40 (TX9 5).1 (TX9 5).2.1 (TX9 5).2.2.1 ∈ lw_g := (lwm 426 (by decide +kernel) rfl)
theorem gf_X9_40 {p : Program} {l : Launch} {e : Env} {R : Room} {s : State} {m : MethodId} {args : Array Value} {below : List Frame} {meth : Method} {c : Code} {cells slots : Nat} {Q : State → Prop} {cc : ByteArray} {nL : Nat} {ret : Option FieldType} {g : Gl} {A : Nat → Prop} {S : St} {pc : Nat} {lv : List (Nat × Value)} {st : List Value} (cx : Cx p s m args meth c cc nL ret RX9 g A) {i : Nat} (hk : kd g i = 9) (hdg : decode cc pc = .ok (.getfield 40, 3)) (kk : WA p l e R s m args below meth c cells slots Q nL g A S (pc + 3) lv (.ref (ad g (i + 36)) :: st)) : WA p l e R s m args below meth c cells slots Q nL g A S pc lv (.ref (ad g i) :: st) := wa_get cx hk (by decide) (cell_eq9 (kd_lt hk (by decide)).2) rfl inW9 (k := 5) (by decide) gl_X9_40 rfl hdg kk
theorem gl_X9_46 : Cond.fieldLink RX9 46 (TX9 6).1 (TX9 6).2.1 (TX9 6).2.2.1 ∈ lw_g := (lwm 427 (by decide +kernel) rfl)
theorem gf_X9_46 {p : Program} {l : Launch} {e : Env} {R : Room} {s : State} {m : MethodId} {args : Array Value} {below : List Frame} {meth : Method} {c : Code} {cells slots : Nat} {Q : State → Prop} {cc : ByteArray} {nL : Nat} {ret : Option FieldType} {g : Gl} {A : Nat → Prop} {S : St} {pc : Nat} {lv : List (Nat × Value)} {st : List Value} (cx : Cx p s m args meth c cc nL ret RX9 g A) {i : Nat} (hk : kd g i = 9) (hdg : decode cc pc = .ok (.getfield 46, 3)) (kk : WA p l e R s m args below meth c cells slots Q nL g A S (pc + 3) lv (.ref (ad g (i + 47)) :: st)) : WA p l e R s m args below meth c cells slots Q nL g A S pc lv (.ref (ad g i) :: st) := wa_get cx hk (by decide) (cell_eq9 (kd_lt hk (by decide)).2) rfl inW9 (k := 6) (by decide) gl_X9_46 rfl hdg kk
theorem gl_X9_53 : Cond.fieldLink RX9 53 (TX9 7).1 (TX9 7).2.1 (TX9 7).2.2.1 ∈ lw_g := (lwm 428 (by decide +kernel) rfl)
theorem gf_X9_53 {p : Program} {l : Launch} {e : Env} {R : Room} {s : State} {m : MethodId} {args : Array Value} {below : List Frame} {meth : Method} {c : Code} {cells slots : Nat} {Q : State → Prop} {cc : ByteArray} {nL : Nat} {ret : Option FieldType} {g : Gl} {A : Nat → Prop} {S : St} {pc : Nat} {lv : List (Nat × Value)} {st : List Value} (cx : Cx p s m args meth c cc nL ret RX9 g A) {i : Nat} (hk : kd g i = 9) (hdg : decode cc pc = .ok (.getfield 53, 3)) (kk : WA p l e R s m args below meth c cells slots Q nL g A S (pc + 3) lv (.ref (ad g (i + 73)) :: st)) : WA p l e R s m args below meth c cells slots Q nL g A S pc lv (.ref (ad g i) :: st) := wa_get cx hk (by decide) (cell_eq9 (kd_lt hk (by decide)).2) rfl inW9 (k := 7) (by decide) gl_X9_53 rfl hdg kk
theorem gl_X9_57 : Cond.fieldLink RX9 57 (TX9 8).1 (TX9 8).2.1 (TX9 8).2.2.1 ∈ lw_g := (lwm 429 (by decide +kernel) rfl)
theorem gf_X9_57 {p : Program} {l : Launch} {e : Env} {R : Room} {s : State} {m : MethodId} {args : Array Value} {below : List Frame} {meth : Method} {c : Code} {cells slots : Nat} {Q : State → Prop} {cc : ByteArray} {nL : Nat} {ret : Option FieldType} {g : Gl} {A : Nat → Prop} {S : St} {pc : Nat} {lv : List (Nat × Value)} {st : List Value} (cx : Cx p s m args meth c cc nL ret RX9 g A) {i : Nat} (hk : kd g i = 9) (hdg : decode cc pc = .ok (.getfield 57, 3)) (kk : WA p l e R s m args below meth c cells slots Q nL g A S (pc + 3) lv (.ref (ad g (i + 79)) :: st)) : WA p l e R s m args below meth c cells slots Q nL g A S pc lv (.ref (ad g i) :: st) := wa_get cx hk (by decide) (cell_eq9 (kd_lt hk (by decide)).2) rfl inW9 (k := 8) (by decide) gl_X9_57 rfl hdg kk
theorem gl_X9_63 : Cond.fieldLink RX9 63 (TX9 9).1 (TX9 9).2.1 (TX9 9).2.2.1 ∈ lw_g := (lwm 430 (by decide +kernel) rfl)
theorem gf_X9_63 {p : Program} {l : Launch} {e : Env} {R : Room} {s : State} {m : MethodId} {args : Array Value} {below : List Frame} {meth : Method} {c : Code} {cells slots : Nat} {Q : State → Prop} {cc : ByteArray} {nL : Nat} {ret : Option FieldType} {g : Gl} {A : Nat → Prop} {S : St} {pc : Nat} {lv : List (Nat × Value)} {st : List Value} (cx : Cx p s m args meth c cc nL ret RX9 g A) {i : Nat} (hk : kd g i = 9) (hdg : decode cc pc = .ok (.getfield 63, 3)) (kk : WA p l e R s m args below meth c cells slots Q nL g A S (pc + 3) lv (.ref (ad g (i + 85)) :: st)) : WA p l e R s m args below meth c cells slots Q nL g A S pc lv (.ref (ad g i) :: st) := wa_get cx hk (by decide) (cell_eq9 (kd_lt hk (by decide)).2) rfl inW9 (k := 9) (by decide) gl_X9_63 rfl hdg kk
theorem gl_X9_69 : Cond.fieldLink RX9 69 (TX9 10).1 (TX9 10).2.1 (TX9 10).2.2.1 ∈ lw_g := (lwm 431 (by decide +kernel) rfl)
theorem gf_X9_69 {p : Program} {l : Launch} {e : Env} {R : Room} {s : State} {m : MethodId} {args : Array Value} {below : List Frame} {meth : Method} {c : Code} {cells slots : Nat} {Q : State → Prop} {cc : ByteArray} {nL : Nat} {ret : Option FieldType} {g : Gl} {A : Nat → Prop} {S : St} {pc : Nat} {lv : List (Nat × Value)} {st : List Value} (cx : Cx p s m args meth c cc nL ret RX9 g A) {i : Nat} (hk : kd g i = 9) (hdg : decode cc pc = .ok (.getfield 69, 3)) (kk : WA p l e R s m args below meth c cells slots Q nL g A S (pc + 3) lv (.ref (ad g (i + 99)) :: st)) : WA p l e R s m args below meth c cells slots Q nL g A S pc lv (.ref (ad g i) :: st) := wa_get cx hk (by decide) (cell_eq9 (kd_lt hk (by decide)).2) rfl inW9 (k := 10) (by decide) gl_X9_69 rfl hdg kk
theorem gl_X9_125 : Cond.fieldLink RX9 125 (TX9 11).1 (TX9 11).2.1 (TX9 11).2.2.1 ∈ lw_g := (lwm 432 (by decide +kernel) rfl)
theorem gf_X9_125 {p : Program} {l : Launch} {e : Env} {R : Room} {s : State} {m : MethodId} {args : Array Value} {below : List Frame} {meth : Method} {c : Code} {cells slots : Nat} {Q : State → Prop} {cc : ByteArray} {nL : Nat} {ret : Option FieldType} {g : Gl} {A : Nat → Prop} {S : St} {pc : Nat} {lv : List (Nat × Value)} {st : List Value} (cx : Cx p s m args meth c cc nL ret RX9 g A) {i : Nat} (hk : kd g i = 9) (hdg : decode cc pc = .ok (.getfield 125, 3)) (kk : WA p l e R s m args below meth c cells slots Q nL g A S (pc + 3) lv (.int (S.1 i 11) :: st)) : WA p l e R s m args below meth c cells slots Q nL g A S pc lv (.ref (ad g i) :: st) := wa_get cx hk (by decide) (cell_eq9 (kd_lt hk (by decide)).2) rfl inW9 (k := 11) (by decide) gl_X9_125 rfl hdg kk
theorem pf_X9_125 {p : Program} {l : Launch} {e : Env} {R : Room} {s : State} {m : MethodId} {args : Array Value} {below : List Frame} {meth : Method} {c : Code} {cells slots : Nat} {Q : State → Prop} {cc : ByteArray} {nL : Nat} {ret : Option FieldType} {g : Gl} {A : Nat → Prop} {S : St} {pc : Nat} {lv : List (Nat × Value)} {st : List Value} (cx : Cx p s m args meth c cc nL ret RX9 g A) {i : Nat} {x : Int32} (hk : kd g i = 9) (hdg : decode cc pc = .ok (.putfield 125, 3)) (kk : WA p l e R s m args below meth c cells slots Q nL g A (pI S i 11 x) (pc + 3) lv st) : WA p l e R s m args below meth c cells slots Q nL g A S pc lv (.int x :: .ref (ad g i) :: st) := wa_put (S2 := pI S i 11 x) (ty := .int) tyX9 hk (by decide) (cell_eq9 (kd_lt hk (by decide)).2) (by rw [cell_eq9 (kd_lt hk (by decide)).2]; unfold pI; dsimp only; rw [up2_at]; rfl) cell_pI rfl inW9 tyX9_ok nmX9 (k := 11) (by decide) gl_X9_125 rfl (by decide +kernel) rfl rfl (Nat.le_of_ble_eq_true rfl) hdg (cx := cx) kk
theorem gl_X9_76 : Cond.fieldLink RX9 76 (TX9 12).1 (TX9 12).2.1 (TX9 12).2.2.1 ∈ lw_g := (lwm 433 (by decide +kernel) rfl)
theorem gf_X9_76 {p : Program} {l : Launch} {e : Env} {R : Room} {s : State} {m : MethodId} {args : Array Value} {below : List Frame} {meth : Method} {c : Code} {cells slots : Nat} {Q : State → Prop} {cc : ByteArray} {nL : Nat} {ret : Option FieldType} {g : Gl} {A : Nat → Prop} {S : St} {pc : Nat} {lv : List (Nat × Value)} {st : List Value} (cx : Cx p s m args meth c cc nL ret RX9 g A) {i : Nat} (hk : kd g i = 9) (hdg : decode cc pc = .ok (.getfield 76, 3)) (kk : WA p l e R s m args below meth c cells slots Q nL g A S (pc + 3) lv (.ref (ad g (i + 100)) :: st)) : WA p l e R s m args below meth c cells slots Q nL g A S pc lv (.ref (ad g i) :: st) := wa_get cx hk (by decide) (cell_eq9 (kd_lt hk (by decide)).2) rfl inW9 (k := 12) (by decide) gl_X9_76 rfl hdg kk
theorem gl_X9_305 : Cond.fieldLink RX9 305 (TX9 13).1 (TX9 13).2.1 (TX9 13).2.2.1 ∈ lw_g := (lwm 434 (by decide +kernel) rfl)
theorem gf_X9_305 {p : Program} {l : Launch} {e : Env} {R : Room} {s : State} {m : MethodId} {args : Array Value} {below : List Frame} {meth : Method} {c : Code} {cells slots : Nat} {Q : State → Prop} {cc : ByteArray} {nL : Nat} {ret : Option FieldType} {g : Gl} {A : Nat → Prop} {S : St} {pc : Nat} {lv : List (Nat × Value)} {st : List Value} (cx : Cx p s m args meth c cc nL ret RX9 g A) {i : Nat} (hk : kd g i = 9) (hdg : decode cc pc = .ok (.getfield 305, 3)) (kk : WA p l e R s m args below meth c cells slots Q nL g A S (pc + 3) lv (.int (S.1 i 13) :: st)) : WA p l e R s m args below meth c cells slots Q nL g A S pc lv (.ref (ad g i) :: st) := wa_get cx hk (by decide) (cell_eq9 (kd_lt hk (by decide)).2) rfl inW9 (k := 13) (by decide) gl_X9_305 rfl hdg kk
theorem pf_X9_305 {p : Program} {l : Launch} {e : Env} {R : Room} {s : State} {m : MethodId} {args : Array Value} {below : List Frame} {meth : Method} {c : Code} {cells slots : Nat} {Q : State → Prop} {cc : ByteArray} {nL : Nat} {ret : Option FieldType} {g : Gl} {A : Nat → Prop} {S : St} {pc : Nat} {lv : List (Nat × Value)} {st : List Value} (cx : Cx p s m args meth c cc nL ret RX9 g A) {i : Nat} {x : Int32} (hx : x = 0 ∨ x = 1) (hk : kd g i = 9) (hdg : decode cc pc = .ok (.putfield 305, 3)) (kk : WA p l e R s m args below meth c cells slots Q nL g A (pI S i 13 x) (pc + 3) lv st) : WA p l e R s m args below meth c cells slots Q nL g A S pc lv (.int x :: .ref (ad g i) :: st) := wa_put (S2 := pI S i 13 x) (ty := .boolean) tyX9 hk (by decide) (cell_eq9 (kd_lt hk (by decide)).2) (by rw [cell_eq9 (kd_lt hk (by decide)).2]; unfold pI; dsimp only; rw [up2_at]; rfl) cell_pI rfl inW9 tyX9_ok nmX9 (k := 13) (by decide) gl_X9_305 rfl (by decide +kernel) (by rcases hx with rfl | rfl <;> decide) (by rcases hx with rfl | rfl <;> decide) (Nat.le_of_ble_eq_true rfl) hdg (cx := cx) kk
theorem gl_X9_231 : Cond.fieldLink RX9 231 (TX9 14).1 (TX9 14).2.1 (TX9 14).2.2.1 ∈ lw_g := (lwm 435 (by decide +kernel) rfl)
theorem gf_X9_231 {p : Program} {l : Launch} {e : Env} {R : Room} {s : State} {m : MethodId} {args : Array Value} {below : List Frame} {meth : Method} {c : Code} {cells slots : Nat} {Q : State → Prop} {cc : ByteArray} {nL : Nat} {ret : Option FieldType} {g : Gl} {A : Nat → Prop} {S : St} {pc : Nat} {lv : List (Nat × Value)} {st : List Value} (cx : Cx p s m args meth c cc nL ret RX9 g A) {i : Nat} (hk : kd g i = 9) (hdg : decode cc pc = .ok (.getfield 231, 3)) (kk : WA p l e R s m args below meth c cells slots Q nL g A S (pc + 3) lv (.int (S.1 i 14) :: st)) : WA p l e R s m args below meth c cells slots Q nL g A S pc lv (.ref (ad g i) :: st) := wa_get cx hk (by decide) (cell_eq9 (kd_lt hk (by decide)).2) rfl inW9 (k := 14) (by decide) gl_X9_231 rfl hdg kk
theorem pf_X9_231 {p : Program} {l : Launch} {e : Env} {R : Room} {s : State} {m : MethodId} {args : Array Value} {below : List Frame} {meth : Method} {c : Code} {cells slots : Nat} {Q : State → Prop} {cc : ByteArray} {nL : Nat} {ret : Option FieldType} {g : Gl} {A : Nat → Prop} {S : St} {pc : Nat} {lv : List (Nat × Value)} {st : List Value} (cx : Cx p s m args meth c cc nL ret RX9 g A) {i : Nat} {x : Int32} (hx : x = 0 ∨ x = 1) (hk : kd g i = 9) (hdg : decode cc pc = .ok (.putfield 231, 3)) (kk : WA p l e R s m args below meth c cells slots Q nL g A (pI S i 14 x) (pc + 3) lv st) : WA p l e R s m args below meth c cells slots Q nL g A S pc lv (.int x :: .ref (ad g i) :: st) := wa_put (S2 := pI S i 14 x) (ty := .boolean) tyX9 hk (by decide) (cell_eq9 (kd_lt hk (by decide)).2) (by rw [cell_eq9 (kd_lt hk (by decide)).2]; unfold pI; dsimp only; rw [up2_at]; rfl) cell_pI rfl inW9 tyX9_ok nmX9 (k := 14) (by decide) gl_X9_231 rfl (by decide +kernel) (by rcases hx with rfl | rfl <;> decide) (by rcases hx with rfl | rfl <;> decide) (Nat.le_of_ble_eq_true rfl) hdg (cx := cx) kk
theorem gl_X9_131 : Cond.fieldLink RX9 131 (TX9 15).1 (TX9 15).2.1 (TX9 15).2.2.1 ∈ lw_g := (lwm 436 (by decide +kernel) rfl)
theorem gf_X9_131 {p : Program} {l : Launch} {e : Env} {R : Room} {s : State} {m : MethodId} {args : Array Value} {below : List Frame} {meth : Method} {c : Code} {cells slots : Nat} {Q : State → Prop} {cc : ByteArray} {nL : Nat} {ret : Option FieldType} {g : Gl} {A : Nat → Prop} {S : St} {pc : Nat} {lv : List (Nat × Value)} {st : List Value} (cx : Cx p s m args meth c cc nL ret RX9 g A) {i : Nat} (hk : kd g i = 9) (hdg : decode cc pc = .ok (.getfield 131, 3)) (kk : WA p l e R s m args below meth c cells slots Q nL g A S (pc + 3) lv (.int (S.1 i 15) :: st)) : WA p l e R s m args below meth c cells slots Q nL g A S pc lv (.ref (ad g i) :: st) := wa_get cx hk (by decide) (cell_eq9 (kd_lt hk (by decide)).2) rfl inW9 (k := 15) (by decide) gl_X9_131 rfl hdg kk
theorem pf_X9_131 {p : Program} {l : Launch} {e : Env} {R : Room} {s : State} {m : MethodId} {args : Array Value} {below : List Frame} {meth : Method} {c : Code} {cells slots : Nat} {Q : State → Prop} {cc : ByteArray} {nL : Nat} {ret : Option FieldType} {g : Gl} {A : Nat → Prop} {S : St} {pc : Nat} {lv : List (Nat × Value)} {st : List Value} (cx : Cx p s m args meth c cc nL ret RX9 g A) {i : Nat} {x : Int32} (hx : x = 0 ∨ x = 1) (hk : kd g i = 9) (hdg : decode cc pc = .ok (.putfield 131, 3)) (kk : WA p l e R s m args below meth c cells slots Q nL g A (pI S i 15 x) (pc + 3) lv st) : WA p l e R s m args below meth c cells slots Q nL g A S pc lv (.int x :: .ref (ad g i) :: st) := wa_put (S2 := pI S i 15 x) (ty := .boolean) tyX9 hk (by decide) (cell_eq9 (kd_lt hk (by decide)).2) (by rw [cell_eq9 (kd_lt hk (by decide)).2]; unfold pI; dsimp only; rw [up2_at]; rfl) cell_pI rfl inW9 tyX9_ok nmX9 (k := 15) (by decide) gl_X9_131 rfl (by decide +kernel) (by rcases hx with rfl | rfl <;> decide) (by rcases hx with rfl | rfl <;> decide) (Nat.le_of_ble_eq_true rfl) hdg (cx := cx) kk
theorem gl_X9_237 : Cond.fieldLink RX9 237 (TX9 16).1 (TX9 16).2.1 (TX9 16).2.2.1 ∈ lw_g := (lwm 437 (by decide +kernel) rfl)
theorem gf_X9_237 {p : Program} {l : Launch} {e : Env} {R : Room} {s : State} {m : MethodId} {args : Array Value} {below : List Frame} {meth : Method} {c : Code} {cells slots : Nat} {Q : State → Prop} {cc : ByteArray} {nL : Nat} {ret : Option FieldType} {g : Gl} {A : Nat → Prop} {S : St} {pc : Nat} {lv : List (Nat × Value)} {st : List Value} (cx : Cx p s m args meth c cc nL ret RX9 g A) {i : Nat} (hk : kd g i = 9) (hdg : decode cc pc = .ok (.getfield 237, 3)) (kk : WA p l e R s m args below meth c cells slots Q nL g A S (pc + 3) lv (.int (S.1 i 16) :: st)) : WA p l e R s m args below meth c cells slots Q nL g A S pc lv (.ref (ad g i) :: st) := wa_get cx hk (by decide) (cell_eq9 (kd_lt hk (by decide)).2) rfl inW9 (k := 16) (by decide) gl_X9_237 rfl hdg kk
theorem pf_X9_237 {p : Program} {l : Launch} {e : Env} {R : Room} {s : State} {m : MethodId} {args : Array Value} {below : List Frame} {meth : Method} {c : Code} {cells slots : Nat} {Q : State → Prop} {cc : ByteArray} {nL : Nat} {ret : Option FieldType} {g : Gl} {A : Nat → Prop} {S : St} {pc : Nat} {lv : List (Nat × Value)} {st : List Value} (cx : Cx p s m args meth c cc nL ret RX9 g A) {i : Nat} {x : Int32} (hk : kd g i = 9) (hdg : decode cc pc = .ok (.putfield 237, 3)) (kk : WA p l e R s m args below meth c cells slots Q nL g A (pI S i 16 x) (pc + 3) lv st) : WA p l e R s m args below meth c cells slots Q nL g A S pc lv (.int x :: .ref (ad g i) :: st) := wa_put (S2 := pI S i 16 x) (ty := .int) tyX9 hk (by decide) (cell_eq9 (kd_lt hk (by decide)).2) (by rw [cell_eq9 (kd_lt hk (by decide)).2]; unfold pI; dsimp only; rw [up2_at]; rfl) cell_pI rfl inW9 tyX9_ok nmX9 (k := 16) (by decide) gl_X9_237 rfl (by decide +kernel) rfl rfl (Nat.le_of_ble_eq_true rfl) hdg (cx := cx) kk
theorem gl_X9_240 : Cond.fieldLink RX9 240 (TX9 17).1 (TX9 17).2.1 (TX9 17).2.2.1 ∈ lw_g := (lwm 438 (by decide +kernel) rfl)
theorem gf_X9_240 {p : Program} {l : Launch} {e : Env} {R : Room} {s : State} {m : MethodId} {args : Array Value} {below : List Frame} {meth : Method} {c : Code} {cells slots : Nat} {Q : State → Prop} {cc : ByteArray} {nL : Nat} {ret : Option FieldType} {g : Gl} {A : Nat → Prop} {S : St} {pc : Nat} {lv : List (Nat × Value)} {st : List Value} (cx : Cx p s m args meth c cc nL ret RX9 g A) {i : Nat} (hk : kd g i = 9) (hdg : decode cc pc = .ok (.getfield 240, 3)) (kk : WA p l e R s m args below meth c cells slots Q nL g A S (pc + 3) lv (.long (S.2.1 i 17) :: st)) : WA p l e R s m args below meth c cells slots Q nL g A S pc lv (.ref (ad g i) :: st) := wa_get cx hk (by decide) (cell_eq9 (kd_lt hk (by decide)).2) rfl inW9 (k := 17) (by decide) gl_X9_240 rfl hdg kk
theorem pf_X9_240 {p : Program} {l : Launch} {e : Env} {R : Room} {s : State} {m : MethodId} {args : Array Value} {below : List Frame} {meth : Method} {c : Code} {cells slots : Nat} {Q : State → Prop} {cc : ByteArray} {nL : Nat} {ret : Option FieldType} {g : Gl} {A : Nat → Prop} {S : St} {pc : Nat} {lv : List (Nat × Value)} {st : List Value} (cx : Cx p s m args meth c cc nL ret RX9 g A) {i : Nat} {x : Int64} (hk : kd g i = 9) (hdg : decode cc pc = .ok (.putfield 240, 3)) (kk : WA p l e R s m args below meth c cells slots Q nL g A (pJ S i 17 x) (pc + 3) lv st) : WA p l e R s m args below meth c cells slots Q nL g A S pc lv (.long x :: .ref (ad g i) :: st) := wa_put (S2 := pJ S i 17 x) (ty := .long) tyX9 hk (by decide) (cell_eq9 (kd_lt hk (by decide)).2) (by rw [cell_eq9 (kd_lt hk (by decide)).2]; unfold pJ; dsimp only; rw [up2_at]; rfl) cell_pJ rfl inW9 tyX9_ok nmX9 (k := 17) (by decide) gl_X9_240 rfl (by decide +kernel) rfl rfl (Nat.le_of_ble_eq_true rfl) hdg (cx := cx) kk
theorem gl_X9_228 : Cond.fieldLink RX9 228 (TX9 18).1 (TX9 18).2.1 (TX9 18).2.2.1 ∈ lw_g := (lwm 439 (by decide +kernel) rfl)
theorem gf_X9_228 {p : Program} {l : Launch} {e : Env} {R : Room} {s : State} {m : MethodId} {args : Array Value} {below : List Frame} {meth : Method} {c : Code} {cells slots : Nat} {Q : State → Prop} {cc : ByteArray} {nL : Nat} {ret : Option FieldType} {g : Gl} {A : Nat → Prop} {S : St} {pc : Nat} {lv : List (Nat × Value)} {st : List Value} (cx : Cx p s m args meth c cc nL ret RX9 g A) {i : Nat} (hk : kd g i = 9) (hdg : decode cc pc = .ok (.getfield 228, 3)) (kk : WA p l e R s m args below meth c cells slots Q nL g A S (pc + 3) lv (.long (S.2.1 i 18) :: st)) : WA p l e R s m args below meth c cells slots Q nL g A S pc lv (.ref (ad g i) :: st) := wa_get cx hk (by decide) (cell_eq9 (kd_lt hk (by decide)).2) rfl inW9 (k := 18) (by decide) gl_X9_228 rfl hdg kk
theorem pf_X9_228 {p : Program} {l : Launch} {e : Env} {R : Room} {s : State} {m : MethodId} {args : Array Value} {below : List Frame} {meth : Method} {c : Code} {cells slots : Nat} {Q : State → Prop} {cc : ByteArray} {nL : Nat} {ret : Option FieldType} {g : Gl} {A : Nat → Prop} {S : St} {pc : Nat} {lv : List (Nat × Value)} {st : List Value} (cx : Cx p s m args meth c cc nL ret RX9 g A) {i : Nat} {x : Int64} (hk : kd g i = 9) (hdg : decode cc pc = .ok (.putfield 228, 3)) (kk : WA p l e R s m args below meth c cells slots Q nL g A (pJ S i 18 x) (pc + 3) lv st) : WA p l e R s m args below meth c cells slots Q nL g A S pc lv (.long x :: .ref (ad g i) :: st) := wa_put (S2 := pJ S i 18 x) (ty := .long) tyX9 hk (by decide) (cell_eq9 (kd_lt hk (by decide)).2) (by rw [cell_eq9 (kd_lt hk (by decide)).2]; unfold pJ; dsimp only; rw [up2_at]; rfl) cell_pJ rfl inW9 tyX9_ok nmX9 (k := 18) (by decide) gl_X9_228 rfl (by decide +kernel) rfl rfl (Nat.le_of_ble_eq_true rfl) hdg (cx := cx) kk
theorem vl_L_9 : VL RL 9 yX9_write cX9_write 4 (some .int) 2 := ⟨⟨(lwm 479 (by decide +kernel) rfl), (lwm 480 (by decide +kernel) rfl), (lwm 481 (by decide +kernel) rfl), (lwm 27 (by decide +kernel) rfl), (lwm 482 (by decide +kernel) rfl)⟩, by decide, by decide, by decide +kernel⟩
theorem vl_X9_103 : SL RX9 103 yX9_isWithin cX9_isWithin 3 (some .boolean) 3 := ⟨⟨(lwm 483 (by decide +kernel) rfl), (lwm 484 (by decide +kernel) rfl), (lwm 27 (by decide +kernel) rfl), (lwm 485 (by decide +kernel) rfl)⟩, by decide, by decide, by decide +kernel⟩
theorem vl_X9_106 : VL RX9 106 yX7_put cX7_put 5 (some .boolean) 2 := ⟨⟨(lwm 486 (by decide +kernel) rfl), (lwm 487 (by decide +kernel) rfl), (lwm 488 (by decide +kernel) rfl), (lwm 28 (by decide +kernel) rfl), (lwm 489 (by decide +kernel) rfl)⟩, by decide, by decide, by decide +kernel⟩
theorem vl_L_141 : VL RL 141 yX9_giver cX9_giver 4 (some .int) 2 := ⟨⟨(lwm 490 (by decide +kernel) rfl), (lwm 491 (by decide +kernel) rfl), (lwm 492 (by decide +kernel) rfl), (lwm 27 (by decide +kernel) rfl), (lwm 493 (by decide +kernel) rfl)⟩, by decide, by decide, by decide +kernel⟩
theorem vl_X9_141 : VL RX9 141 yX9_isGiver cX9_isGiver 2 (some .boolean) 1 := ⟨⟨(lwm 494 (by decide +kernel) rfl), (lwm 496 (by decide +kernel) rfl), (lwm 1 (by decide +kernel) rfl), (lwm 27 (by decide +kernel) rfl), (lwm 497 (by decide +kernel) rfl)⟩, by decide, by decide, by decide +kernel⟩
theorem vl_X9_145 : VL RX9 145 yX0_placeOf cX0_placeOf 3 (some .int) 1 := ⟨⟨(lwm 498 (by decide +kernel) rfl), (lwm 499 (by decide +kernel) rfl), (lwm 500 (by decide +kernel) rfl), (lwm 32 (by decide +kernel) rfl), (lwm 501 (by decide +kernel) rfl)⟩, by decide, by decide, by decide +kernel⟩
theorem vl_X9_149 : VL RX9 149 yX6_sortOf cX6_sortOf 2 (some .int) 1 := ⟨⟨(lwm 502 (by decide +kernel) rfl), (lwm 415 (by decide +kernel) rfl), (lwm 416 (by decide +kernel) rfl), (lwm 31 (by decide +kernel) rfl), (lwm 417 (by decide +kernel) rfl)⟩, by decide, by decide, by decide +kernel⟩
theorem vl_L_68 : VL RL 68 yX9_show cX9_show 3 (some .int) 1 := ⟨⟨(lwm 503 (by decide +kernel) rfl), (lwm 504 (by decide +kernel) rfl), (lwm 505 (by decide +kernel) rfl), (lwm 27 (by decide +kernel) rfl), (lwm 506 (by decide +kernel) rfl)⟩, by decide, by decide, by decide +kernel⟩
theorem vl_X9_135 : VL RX9 135 yX9_forgetWays cX9_forgetWays 1 none 0 := ⟨⟨(lwm 507 (by decide +kernel) rfl), (lwm 509 (by decide +kernel) rfl), (lwm 2 (by decide +kernel) rfl), (lwm 27 (by decide +kernel) rfl), (lwm 510 (by decide +kernel) rfl)⟩, by decide, by decide, by decide +kernel⟩
theorem vl_L_72 : VL RL 72 yX9_odds cX9_odds 8 (some .long) 1 := ⟨⟨(lwm 511 (by decide +kernel) rfl), (lwm 512 (by decide +kernel) rfl), (lwm 513 (by decide +kernel) rfl), (lwm 27 (by decide +kernel) rfl), (lwm 514 (by decide +kernel) rfl)⟩, by decide, by decide, by decide +kernel⟩
theorem kc_X9_158 : Cond.constantLong RX9 158 (-1 : Int64) ∈ lw_g := (lwm 515 (by decide +kernel) rfl)
theorem vl_X9_160 : VL RX9 160 yX9_waysAsTheyStand cX9_waysAsTheyStand 1 (some (.object "EnoughGive$Ways")) 0 := ⟨⟨(lwm 516 (by decide +kernel) rfl), (lwm 518 (by decide +kernel) rfl), (lwm 3 (by decide +kernel) rfl), (lwm 27 (by decide +kernel) rfl), (lwm 519 (by decide +kernel) rfl)⟩, by decide, by decide, by decide +kernel⟩
theorem vl_X9_195 : VL RX9 195 yX9_setGame cX9_setGame 1 none 0 := ⟨⟨(lwm 520 (by decide +kernel) rfl), (lwm 522 (by decide +kernel) rfl), (lwm 4 (by decide +kernel) rfl), (lwm 27 (by decide +kernel) rfl), (lwm 523 (by decide +kernel) rfl)⟩, by decide, by decide, by decide +kernel⟩
theorem vl_X9_243 : VL RX9 243 yX1_set cX1_set 4 none 3 := ⟨⟨(lwm 524 (by decide +kernel) rfl), (lwm 525 (by decide +kernel) rfl), (lwm 526 (by decide +kernel) rfl), (lwm 33 (by decide +kernel) rfl), (lwm 527 (by decide +kernel) rfl)⟩, by decide, by decide, by decide +kernel⟩
theorem vl_X9_247 : VL RX9 247 yX8_goThrough cX8_goThrough 8 none 2 := ⟨⟨(lwm 528 (by decide +kernel) rfl), (lwm 529 (by decide +kernel) rfl), (lwm 530 (by decide +kernel) rfl), (lwm 34 (by decide +kernel) rfl), (lwm 531 (by decide +kernel) rfl)⟩, by decide, by decide, by decide +kernel⟩
theorem vl_X8_28 : VL RX8 28 yX8_clear cX8_clear 1 none 0 := ⟨⟨(lwm 532 (by decide +kernel) rfl), (lwm 534 (by decide +kernel) rfl), (lwm 5 (by decide +kernel) rfl), (lwm 34 (by decide +kernel) rfl), (lwm 535 (by decide +kernel) rfl)⟩, by decide, by decide, by decide +kernel⟩
theorem vl_X8_81 : SL RX8 81 yJ7_fill_d0a16 cJ7_fill_d0a16 5 none 2 := ⟨⟨(lwm 536 (by decide +kernel) rfl), (lwm 537 (by decide +kernel) rfl), (lwm 38 (by decide +kernel) rfl), (lwm 538 (by decide +kernel) rfl)⟩, by decide, by decide, by decide +kernel⟩
theorem vl_X8_87 : SL RX8 87 yJ7_fill_53178 cJ7_fill_53178 4 none 2 := ⟨⟨(lwm 539 (by decide +kernel) rfl), (lwm 540 (by decide +kernel) rfl), (lwm 38 (by decide +kernel) rfl), (lwm 541 (by decide +kernel) rfl)⟩, by decide, by decide, by decide +kernel⟩
theorem vl_X8_31 : VL RX8 31 yX1_whoCome cX1_whoCome 1 (some (.object "EnoughGive$Coming")) 0 := ⟨⟨(lwm 542 (by decide +kernel) rfl), (lwm 543 (by decide +kernel) rfl), (lwm 544 (by decide +kernel) rfl), (lwm 33 (by decide +kernel) rfl), (lwm 545 (by decide +kernel) rfl)⟩, by decide, by decide, by decide +kernel⟩
theorem vl_X8_49 : VL RX8 49 yX1_play cX1_play 4 none 2 := ⟨⟨(lwm 546 (by decide +kernel) rfl), (lwm 547 (by decide +kernel) rfl), (lwm 548 (by decide +kernel) rfl), (lwm 33 (by decide +kernel) rfl), (lwm 549 (by decide +kernel) rfl)⟩, by decide, by decide, by decide +kernel⟩
theorem vl_X1_62 : VL RX1 62 yX1_giftAt cX1_giftAt 8 (some .int) 3 := ⟨⟨(lwm 550 (by decide +kernel) rfl), (lwm 551 (by decide +kernel) rfl), (lwm 552 (by decide +kernel) rfl), (lwm 33 (by decide +kernel) rfl), (lwm 553 (by decide +kernel) rfl)⟩, by decide, by decide, by decide +kernel⟩
theorem vl_X1_81 : VL RX1 81 yX1_lackOf cX1_lackOf 4 (some .int) 2 := ⟨⟨(lwm 557 (by decide +kernel) rfl), (lwm 559 (by decide +kernel) rfl), (lwm 6 (by decide +kernel) rfl), (lwm 33 (by decide +kernel) rfl), (lwm 560 (by decide +kernel) rfl)⟩, by decide, by decide, by decide +kernel⟩
theorem vl_X1_96 : SL RX1 96 yX1_giftByKind cX1_giftByKind 4 (some .int) 4 := ⟨⟨(lwm 562 (by decide +kernel) rfl), (lwm 563 (by decide +kernel) rfl), (lwm 33 (by decide +kernel) rfl), (lwm 564 (by decide +kernel) rfl)⟩, by decide, by decide, by decide +kernel⟩
theorem vl_X1_75 : VL RX1 75 yX1_secondGiftAt cX1_secondGiftAt 5 (some .int) 3 := ⟨⟨(lwm 565 (by decide +kernel) rfl), (lwm 567 (by decide +kernel) rfl), (lwm 7 (by decide +kernel) rfl), (lwm 33 (by decide +kernel) rfl), (lwm 568 (by decide +kernel) rfl)⟩, by decide, by decide, by decide +kernel⟩
theorem vl_X8_53 : VL RX8 53 yX8_add cX8_add 6 none 2 := ⟨⟨(lwm 569 (by decide +kernel) rfl), (lwm 571 (by decide +kernel) rfl), (lwm 8 (by decide +kernel) rfl), (lwm 34 (by decide +kernel) rfl), (lwm 572 (by decide +kernel) rfl)⟩, by decide, by decide, by decide +kernel⟩
theorem vl_X8_90 : VL RX8 90 yX1_isBuilt cX1_isBuilt 1 (some .boolean) 0 := ⟨⟨(lwm 573 (by decide +kernel) rfl), (lwm 574 (by decide +kernel) rfl), (lwm 575 (by decide +kernel) rfl), (lwm 33 (by decide +kernel) rfl), (lwm 576 (by decide +kernel) rfl)⟩, by decide, by decide, by decide +kernel⟩
theorem vl_X8_94 : VL RX8 94 yX1_cost cX1_cost 1 (some .int) 0 := ⟨⟨(lwm 577 (by decide +kernel) rfl), (lwm 578 (by decide +kernel) rfl), (lwm 579 (by decide +kernel) rfl), (lwm 33 (by decide +kernel) rfl), (lwm 580 (by decide +kernel) rfl)⟩, by decide, by decide, by decide +kernel⟩
theorem vl_X8_98 : VL RX8 98 yX1_isSecondBuilt cX1_isSecondBuilt 1 (some .boolean) 0 := ⟨⟨(lwm 581 (by decide +kernel) rfl), (lwm 582 (by decide +kernel) rfl), (lwm 583 (by decide +kernel) rfl), (lwm 33 (by decide +kernel) rfl), (lwm 584 (by decide +kernel) rfl)⟩, by decide, by decide, by decide +kernel⟩
theorem vl_X8_57 : VL RX8 57 yX8_addMeans cX8_addMeans 5 none 2 := ⟨⟨(lwm 585 (by decide +kernel) rfl), (lwm 587 (by decide +kernel) rfl), (lwm 9 (by decide +kernel) rfl), (lwm 34 (by decide +kernel) rfl), (lwm 588 (by decide +kernel) rfl)⟩, by decide, by decide, by decide +kernel⟩
theorem vl_X8_104 : VL RX8 104 yX1_hasAt cX1_hasAt 6 (some .int) 2 := ⟨⟨(lwm 589 (by decide +kernel) rfl), (lwm 590 (by decide +kernel) rfl), (lwm 591 (by decide +kernel) rfl), (lwm 33 (by decide +kernel) rfl), (lwm 592 (by decide +kernel) rfl)⟩, by decide, by decide, by decide +kernel⟩
theorem vl_X1_109 : VL RX1 109 yX1_isBuilt cX1_isBuilt 1 (some .boolean) 0 := ⟨⟨(lwm 593 (by decide +kernel) rfl), (lwm 574 (by decide +kernel) rfl), (lwm 575 (by decide +kernel) rfl), (lwm 33 (by decide +kernel) rfl), (lwm 576 (by decide +kernel) rfl)⟩, by decide, by decide, by decide +kernel⟩
theorem vl_X8_61 : VL RX8 61 yX8_nextWay cX8_nextWay 3 (some .int) 1 := ⟨⟨(lwm 594 (by decide +kernel) rfl), (lwm 596 (by decide +kernel) rfl), (lwm 10 (by decide +kernel) rfl), (lwm 34 (by decide +kernel) rfl), (lwm 597 (by decide +kernel) rfl)⟩, by decide, by decide, by decide +kernel⟩
theorem vl_X9_168 : VL RX9 168 yX0_allWays cX0_allWays 1 (some .long) 0 := ⟨⟨(lwm 598 (by decide +kernel) rfl), (lwm 599 (by decide +kernel) rfl), (lwm 600 (by decide +kernel) rfl), (lwm 32 (by decide +kernel) rfl), (lwm 601 (by decide +kernel) rfl)⟩, by decide, by decide, by decide +kernel⟩
theorem vl_X0_83 : SL RX0 83 yX0_power cX0_power 4 (some .long) 1 := ⟨⟨(lwm 602 (by decide +kernel) rfl), (lwm 603 (by decide +kernel) rfl), (lwm 32 (by decide +kernel) rfl), (lwm 604 (by decide +kernel) rfl)⟩, by decide, by decide, by decide +kernel⟩
theorem kc_X0_87 : Cond.constantLong RX0 87 (10 : Int64) ∈ lw_g := (lwm 605 (by decide +kernel) rfl)
theorem vl_X9_172 : SL RX9 172 yX9_greatestPart cX9_greatestPart 7 (some .long) 2 := ⟨⟨(lwm 606 (by decide +kernel) rfl), (lwm 607 (by decide +kernel) rfl), (lwm 27 (by decide +kernel) rfl), (lwm 608 (by decide +kernel) rfl)⟩, by decide, by decide, by decide +kernel⟩
theorem vl_L_76 : VL RL 76 yX9_mean cX9_mean 5 (some .long) 2 := ⟨⟨(lwm 609 (by decide +kernel) rfl), (lwm 610 (by decide +kernel) rfl), (lwm 611 (by decide +kernel) rfl), (lwm 27 (by decide +kernel) rfl), (lwm 612 (by decide +kernel) rfl)⟩, by decide, by decide, by decide +kernel⟩
theorem kc_X9_178 : Cond.constantLong RX9 178 (-9223372036854775808 : Int64) ∈ lw_g := (lwm 613 (by decide +kernel) rfl)
theorem kc_X9_180 : Cond.constantLong RX9 180 (-4 : Int64) ∈ lw_g := (lwm 614 (by decide +kernel) rfl)
theorem vl_L_80 : VL RL 80 yX9_wrong cX9_wrong 3 (some .long) 1 := ⟨⟨(lwm 615 (by decide +kernel) rfl), (lwm 616 (by decide +kernel) rfl), (lwm 617 (by decide +kernel) rfl), (lwm 27 (by decide +kernel) rfl), (lwm 618 (by decide +kernel) rfl)⟩, by decide, by decide, by decide +kernel⟩
theorem vl_L_83 : VL RL 83 yX9_row cX9_row 4 (some .int) 2 := ⟨⟨(lwm 619 (by decide +kernel) rfl), (lwm 620 (by decide +kernel) rfl), (lwm 621 (by decide +kernel) rfl), (lwm 27 (by decide +kernel) rfl), (lwm 622 (by decide +kernel) rfl)⟩, by decide, by decide, by decide +kernel⟩
theorem vl_L_86 : VL RL 86 yX9_judge cX9_judge 4 (some .int) 0 := ⟨⟨(lwm 623 (by decide +kernel) rfl), (lwm 624 (by decide +kernel) rfl), (lwm 625 (by decide +kernel) rfl), (lwm 27 (by decide +kernel) rfl), (lwm 626 (by decide +kernel) rfl)⟩, by decide, by decide, by decide +kernel⟩
theorem vl_X9_205 : VL RX9 205 yX1_giftAt cX1_giftAt 8 (some .int) 3 := ⟨⟨(lwm 627 (by decide +kernel) rfl), (lwm 551 (by decide +kernel) rfl), (lwm 552 (by decide +kernel) rfl), (lwm 33 (by decide +kernel) rfl), (lwm 553 (by decide +kernel) rfl)⟩, by decide, by decide, by decide +kernel⟩
theorem vl_L_91 : VL RL 91 yX9_made cX9_made 6 (some .int) 1 := ⟨⟨(lwm 628 (by decide +kernel) rfl), (lwm 629 (by decide +kernel) rfl), (lwm 630 (by decide +kernel) rfl), (lwm 27 (by decide +kernel) rfl), (lwm 631 (by decide +kernel) rfl)⟩, by decide, by decide, by decide +kernel⟩
theorem vl_L_94 : VL RL 94 yX9_just cX9_just 4 (some .long) 1 := ⟨⟨(lwm 632 (by decide +kernel) rfl), (lwm 633 (by decide +kernel) rfl), (lwm 634 (by decide +kernel) rfl), (lwm 27 (by decide +kernel) rfl), (lwm 635 (by decide +kernel) rfl)⟩, by decide, by decide, by decide +kernel⟩
theorem vl_X9_215 : VL RX9 215 yX4_take cX4_take 4 none 2 := ⟨⟨(lwm 636 (by decide +kernel) rfl), (lwm 637 (by decide +kernel) rfl), (lwm 638 (by decide +kernel) rfl), (lwm 35 (by decide +kernel) rfl), (lwm 639 (by decide +kernel) rfl)⟩, by decide, by decide, by decide +kernel⟩
theorem vl_X9_219 : VL RX9 219 yX4_justWays cX4_justWays 4 (some .long) 0 := ⟨⟨(lwm 641 (by decide +kernel) rfl), (lwm 642 (by decide +kernel) rfl), (lwm 643 (by decide +kernel) rfl), (lwm 35 (by decide +kernel) rfl), (lwm 644 (by decide +kernel) rfl)⟩, by decide, by decide, by decide +kernel⟩
theorem vl_X4_64 : VL RX4 64 yX4_clearTable cX4_clearTable 1 none 0 := ⟨⟨(lwm 645 (by decide +kernel) rfl), (lwm 647 (by decide +kernel) rfl), (lwm 11 (by decide +kernel) rfl), (lwm 35 (by decide +kernel) rfl), (lwm 648 (by decide +kernel) rfl)⟩, by decide, by decide, by decide +kernel⟩
theorem vl_X4_58 : SL RX4 58 yJ7_fill_d0a16 cJ7_fill_d0a16 5 none 2 := ⟨⟨(lwm 649 (by decide +kernel) rfl), (lwm 537 (by decide +kernel) rfl), (lwm 38 (by decide +kernel) rfl), (lwm 538 (by decide +kernel) rfl)⟩, by decide, by decide, by decide +kernel⟩
theorem vl_X4_67 : VL RX4 67 yX4_join cX4_join 11 none 5 := ⟨⟨(lwm 650 (by decide +kernel) rfl), (lwm 652 (by decide +kernel) rfl), (lwm 12 (by decide +kernel) rfl), (lwm 35 (by decide +kernel) rfl), (lwm 653 (by decide +kernel) rfl)⟩, by decide, by decide, by decide +kernel⟩
theorem vl_X9_222 : VL RX9 222 yX4_firstGift cX4_firstGift 7 (some .int) 1 := ⟨⟨(lwm 654 (by decide +kernel) rfl), (lwm 655 (by decide +kernel) rfl), (lwm 656 (by decide +kernel) rfl), (lwm 35 (by decide +kernel) rfl), (lwm 657 (by decide +kernel) rfl)⟩, by decide, by decide, by decide +kernel⟩
theorem vl_X4_71 : VL RX4 71 yX0_placeOf cX0_placeOf 3 (some .int) 1 := ⟨⟨(lwm 658 (by decide +kernel) rfl), (lwm 499 (by decide +kernel) rfl), (lwm 500 (by decide +kernel) rfl), (lwm 32 (by decide +kernel) rfl), (lwm 501 (by decide +kernel) rfl)⟩, by decide, by decide, by decide +kernel⟩
theorem vl_X4_75 : VL RX4 75 yX4_lowestGift cX4_lowestGift 10 (some .int) 4 := ⟨⟨(lwm 659 (by decide +kernel) rfl), (lwm 661 (by decide +kernel) rfl), (lwm 13 (by decide +kernel) rfl), (lwm 35 (by decide +kernel) rfl), (lwm 662 (by decide +kernel) rfl)⟩, by decide, by decide, by decide +kernel⟩
theorem vl_L_101 : VL RL 101 yX9_bestBar cX9_bestBar 2 (some .long) 1 := ⟨⟨(lwm 663 (by decide +kernel) rfl), (lwm 664 (by decide +kernel) rfl), (lwm 665 (by decide +kernel) rfl), (lwm 27 (by decide +kernel) rfl), (lwm 666 (by decide +kernel) rfl)⟩, by decide, by decide, by decide +kernel⟩
theorem vl_X9_234 : VL RX9 234 yX9_findBestBar cX9_findBestBar 4 none 0 := ⟨⟨(lwm 667 (by decide +kernel) rfl), (lwm 669 (by decide +kernel) rfl), (lwm 14 (by decide +kernel) rfl), (lwm 27 (by decide +kernel) rfl), (lwm 670 (by decide +kernel) rfl)⟩, by decide, by decide, by decide +kernel⟩
theorem vl_L_110 : VL RL 110 yX9_extra cX9_extra 3 (some .int) 1 := ⟨⟨(lwm 671 (by decide +kernel) rfl), (lwm 672 (by decide +kernel) rfl), (lwm 673 (by decide +kernel) rfl), (lwm 27 (by decide +kernel) rfl), (lwm 674 (by decide +kernel) rfl)⟩, by decide, by decide, by decide +kernel⟩
theorem kc_X9_257 : Cond.constantLong RX9 257 (10 : Int64) ∈ lw_g := (lwm 675 (by decide +kernel) rfl)
theorem vl_L_113 : VL RL 113 yX9_rich cX9_rich 3 (some .long) 2 := ⟨⟨(lwm 676 (by decide +kernel) rfl), (lwm 677 (by decide +kernel) rfl), (lwm 678 (by decide +kernel) rfl), (lwm 27 (by decide +kernel) rfl), (lwm 679 (by decide +kernel) rfl)⟩, by decide, by decide, by decide +kernel⟩
theorem vl_X9_259 : VL RX9 259 yX0_comeBy cX0_comeBy 4 (some .int) 1 := ⟨⟨(lwm 680 (by decide +kernel) rfl), (lwm 681 (by decide +kernel) rfl), (lwm 682 (by decide +kernel) rfl), (lwm 32 (by decide +kernel) rfl), (lwm 683 (by decide +kernel) rfl)⟩, by decide, by decide, by decide +kernel⟩
theorem vl_X9_262 : VL RX9 262 yX9_richWays cX9_richWays 3 (some .long) 2 := ⟨⟨(lwm 684 (by decide +kernel) rfl), (lwm 686 (by decide +kernel) rfl), (lwm 15 (by decide +kernel) rfl), (lwm 27 (by decide +kernel) rfl), (lwm 687 (by decide +kernel) rfl)⟩, by decide, by decide, by decide +kernel⟩
theorem vl_L_118 : VL RL 118 yX9_richDay cX9_richDay 10 (some .int) 1 := ⟨⟨(lwm 688 (by decide +kernel) rfl), (lwm 689 (by decide +kernel) rfl), (lwm 690 (by decide +kernel) rfl), (lwm 27 (by decide +kernel) rfl), (lwm 691 (by decide +kernel) rfl)⟩, by decide, by decide, by decide +kernel⟩
theorem vl_L_121 : VL RL 121 yX9_two cX9_two 3 (some .long) 1 := ⟨⟨(lwm 692 (by decide +kernel) rfl), (lwm 693 (by decide +kernel) rfl), (lwm 694 (by decide +kernel) rfl), (lwm 27 (by decide +kernel) rfl), (lwm 695 (by decide +kernel) rfl)⟩, by decide, by decide, by decide +kernel⟩
theorem kc_X9_269 : Cond.constantLong RX9 269 (-2 : Int64) ∈ lw_g := (lwm 696 (by decide +kernel) rfl)
theorem vl_L_124 : VL RL 124 yX9_evening cX9_evening 5 (some .int) 3 := ⟨⟨(lwm 697 (by decide +kernel) rfl), (lwm 698 (by decide +kernel) rfl), (lwm 699 (by decide +kernel) rfl), (lwm 27 (by decide +kernel) rfl), (lwm 700 (by decide +kernel) rfl)⟩, by decide, by decide, by decide +kernel⟩
theorem vl_X9_277 : VL RX9 277 yX9_playEvening cX9_playEvening 3 none 1 := ⟨⟨(lwm 701 (by decide +kernel) rfl), (lwm 703 (by decide +kernel) rfl), (lwm 16 (by decide +kernel) rfl), (lwm 27 (by decide +kernel) rfl), (lwm 704 (by decide +kernel) rfl)⟩, by decide, by decide, by decide +kernel⟩
theorem vl_X9_284 : VL RX9 284 yX9_drawnWorth cX9_drawnWorth 5 (some .int) 2 := ⟨⟨(lwm 705 (by decide +kernel) rfl), (lwm 707 (by decide +kernel) rfl), (lwm 17 (by decide +kernel) rfl), (lwm 27 (by decide +kernel) rfl), (lwm 708 (by decide +kernel) rfl)⟩, by decide, by decide, by decide +kernel⟩
theorem kc_X9_319 : Cond.constantLong RX9 319 (7919 : Int64) ∈ lw_g := (lwm 709 (by decide +kernel) rfl)
theorem kc_X9_321 : Cond.constantLong RX9 321 (6151 : Int64) ∈ lw_g := (lwm 710 (by decide +kernel) rfl)
theorem kc_X9_323 : Cond.constantLong RX9 323 (65521 : Int64) ∈ lw_g := (lwm 711 (by decide +kernel) rfl)
theorem vl_X9_325 : VL RX9 325 yX0_worthBy cX0_worthBy 5 (some .int) 2 := ⟨⟨(lwm 712 (by decide +kernel) rfl), (lwm 713 (by decide +kernel) rfl), (lwm 714 (by decide +kernel) rfl), (lwm 32 (by decide +kernel) rfl), (lwm 715 (by decide +kernel) rfl)⟩, by decide, by decide, by decide +kernel⟩
theorem vl_X9_315 : VL RX9 315 yX1_play cX1_play 4 none 2 := ⟨⟨(lwm 716 (by decide +kernel) rfl), (lwm 547 (by decide +kernel) rfl), (lwm 548 (by decide +kernel) rfl), (lwm 33 (by decide +kernel) rfl), (lwm 549 (by decide +kernel) rfl)⟩, by decide, by decide, by decide +kernel⟩
theorem vl_X9_288 : VL RX9 288 yX1_hasAt cX1_hasAt 6 (some .int) 2 := ⟨⟨(lwm 717 (by decide +kernel) rfl), (lwm 590 (by decide +kernel) rfl), (lwm 591 (by decide +kernel) rfl), (lwm 33 (by decide +kernel) rfl), (lwm 592 (by decide +kernel) rfl)⟩, by decide, by decide, by decide +kernel⟩
theorem vl_L_127 : VL RL 127 yX9_whole cX9_whole 3 (some .int) 2 := ⟨⟨(lwm 718 (by decide +kernel) rfl), (lwm 719 (by decide +kernel) rfl), (lwm 720 (by decide +kernel) rfl), (lwm 27 (by decide +kernel) rfl), (lwm 721 (by decide +kernel) rfl)⟩, by decide, by decide, by decide +kernel⟩
theorem vl_X9_294 : VL RX9 294 yX1_isBuilt cX1_isBuilt 1 (some .boolean) 0 := ⟨⟨(lwm 722 (by decide +kernel) rfl), (lwm 574 (by decide +kernel) rfl), (lwm 575 (by decide +kernel) rfl), (lwm 33 (by decide +kernel) rfl), (lwm 576 (by decide +kernel) rfl)⟩, by decide, by decide, by decide +kernel⟩
theorem vl_L_146 : VL RL 146 yX9_count cX9_count 2 (some .int) 1 := ⟨⟨(lwm 723 (by decide +kernel) rfl), (lwm 724 (by decide +kernel) rfl), (lwm 725 (by decide +kernel) rfl), (lwm 27 (by decide +kernel) rfl), (lwm 726 (by decide +kernel) rfl)⟩, by decide, by decide, by decide +kernel⟩
theorem vl_L_21 : SL RL 21 yL_cell cL_cell 2 (some .int) 2 := ⟨⟨(lwm 727 (by decide +kernel) rfl), (lwm 728 (by decide +kernel) rfl), (lwm 26 (by decide +kernel) rfl), (lwm 729 (by decide +kernel) rfl)⟩, by decide, by decide, by decide +kernel⟩
theorem vl_L_26 : SL RL 26 yL_some cL_some 2 (some .int) 2 := ⟨⟨(lwm 735 (by decide +kernel) rfl), (lwm 736 (by decide +kernel) rfl), (lwm 26 (by decide +kernel) rfl), (lwm 737 (by decide +kernel) rfl)⟩, by decide, by decide, by decide +kernel⟩
theorem vl_L_30 : VL RL 30 yX9_wipe cX9_wipe 2 (some .int) 0 := ⟨⟨(lwm 739 (by decide +kernel) rfl), (lwm 740 (by decide +kernel) rfl), (lwm 741 (by decide +kernel) rfl), (lwm 27 (by decide +kernel) rfl), (lwm 742 (by decide +kernel) rfl)⟩, by decide, by decide, by decide +kernel⟩
theorem vl_L_34 : SL RL 34 yL_item cL_item 10 (some .boolean) 8 := ⟨⟨(lwm 743 (by decide +kernel) rfl), (lwm 744 (by decide +kernel) rfl), (lwm 26 (by decide +kernel) rfl), (lwm 745 (by decide +kernel) rfl)⟩, by decide, by decide, by decide +kernel⟩
theorem vl_L_15 : SL RL 15 yL_number cL_number 5 (some .boolean) 3 := ⟨⟨(lwm 746 (by decide +kernel) rfl), (lwm 747 (by decide +kernel) rfl), (lwm 26 (by decide +kernel) rfl), (lwm 748 (by decide +kernel) rfl)⟩, by decide, by decide, by decide +kernel⟩
theorem vl_L_38 : VL RL 38 yX9_fault cX9_fault 1 (some .int) 0 := ⟨⟨(lwm 749 (by decide +kernel) rfl), (lwm 750 (by decide +kernel) rfl), (lwm 751 (by decide +kernel) rfl), (lwm 27 (by decide +kernel) rfl), (lwm 752 (by decide +kernel) rfl)⟩, by decide, by decide, by decide +kernel⟩
theorem vl_X9_113 : VL RX9 113 yX3_read cX3_read 6 (some .int) 2 := ⟨⟨(lwm 753 (by decide +kernel) rfl), (lwm 754 (by decide +kernel) rfl), (lwm 755 (by decide +kernel) rfl), (lwm 29 (by decide +kernel) rfl), (lwm 756 (by decide +kernel) rfl)⟩, by decide, by decide, by decide +kernel⟩
theorem vl_X3_15 : VL RX3 15 yX2_clear cX2_clear 1 none 0 := ⟨⟨(lwm 757 (by decide +kernel) rfl), (lwm 387 (by decide +kernel) rfl), (lwm 388 (by decide +kernel) rfl), (lwm 30 (by decide +kernel) rfl), (lwm 389 (by decide +kernel) rfl)⟩, by decide, by decide, by decide +kernel⟩
theorem vl_X3_29 : VL RX3 29 yX7_byteAt cX7_byteAt 2 (some .int) 1 := ⟨⟨(lwm 758 (by decide +kernel) rfl), (lwm 759 (by decide +kernel) rfl), (lwm 760 (by decide +kernel) rfl), (lwm 28 (by decide +kernel) rfl), (lwm 761 (by decide +kernel) rfl)⟩, by decide, by decide, by decide +kernel⟩
theorem vl_X3_33 : SL RX3 33 yX3_numbersOf cX3_numbersOf 1 (some .int) 1 := ⟨⟨(lwm 762 (by decide +kernel) rfl), (lwm 763 (by decide +kernel) rfl), (lwm 29 (by decide +kernel) rfl), (lwm 764 (by decide +kernel) rfl)⟩, by decide, by decide, by decide +kernel⟩
theorem vl_X3_36 : VL RX3 36 yX3_readNumbers cX3_readNumbers 4 (some .boolean) 2 := ⟨⟨(lwm 765 (by decide +kernel) rfl), (lwm 767 (by decide +kernel) rfl), (lwm 18 (by decide +kernel) rfl), (lwm 29 (by decide +kernel) rfl), (lwm 768 (by decide +kernel) rfl)⟩, by decide, by decide, by decide +kernel⟩
theorem vl_X3_54 : VL RX3 54 yX3_readNumber cX3_readNumber 4 (some .int) 1 := ⟨⟨(lwm 769 (by decide +kernel) rfl), (lwm 771 (by decide +kernel) rfl), (lwm 19 (by decide +kernel) rfl), (lwm 29 (by decide +kernel) rfl), (lwm 772 (by decide +kernel) rfl)⟩, by decide, by decide, by decide +kernel⟩
theorem vl_X3_58 : NL RX3 RX9 58 yX9_isWithin cX9_isWithin 3 (some .boolean) 3 := ⟨⟨List.mem_of_getElem? (i := 773) (by decide +kernel), (lwm 484 (by decide +kernel) rfl), (lwm 27 (by decide +kernel) rfl), (lwm 485 (by decide +kernel) rfl)⟩, by decide, by decide, by decide +kernel⟩
theorem vl_X3_40 : VL RX3 40 yX3_take cX3_take 3 (some .boolean) 2 := ⟨⟨(lwm 774 (by decide +kernel) rfl), (lwm 776 (by decide +kernel) rfl), (lwm 20 (by decide +kernel) rfl), (lwm 29 (by decide +kernel) rfl), (lwm 777 (by decide +kernel) rfl)⟩, by decide, by decide, by decide +kernel⟩
theorem vl_X3_62 : VL RX3 62 yX3_upTo cX3_upTo 3 (some .boolean) 2 := ⟨⟨(lwm 778 (by decide +kernel) rfl), (lwm 780 (by decide +kernel) rfl), (lwm 21 (by decide +kernel) rfl), (lwm 29 (by decide +kernel) rfl), (lwm 781 (by decide +kernel) rfl)⟩, by decide, by decide, by decide +kernel⟩
theorem vl_X3_66 : VL RX3 66 yX2_setBar cX2_setBar 3 none 2 := ⟨⟨(lwm 782 (by decide +kernel) rfl), (lwm 783 (by decide +kernel) rfl), (lwm 784 (by decide +kernel) rfl), (lwm 30 (by decide +kernel) rfl), (lwm 785 (by decide +kernel) rfl)⟩, by decide, by decide, by decide +kernel⟩
theorem vl_X3_79 : VL RX3 79 yX2_setExtra cX2_setExtra 3 none 2 := ⟨⟨(lwm 786 (by decide +kernel) rfl), (lwm 787 (by decide +kernel) rfl), (lwm 788 (by decide +kernel) rfl), (lwm 30 (by decide +kernel) rfl), (lwm 789 (by decide +kernel) rfl)⟩, by decide, by decide, by decide +kernel⟩
theorem vl_X3_86 : VL RX3 86 yX2_setSecond cX2_setSecond 3 none 2 := ⟨⟨(lwm 790 (by decide +kernel) rfl), (lwm 791 (by decide +kernel) rfl), (lwm 792 (by decide +kernel) rfl), (lwm 30 (by decide +kernel) rfl), (lwm 793 (by decide +kernel) rfl)⟩, by decide, by decide, by decide +kernel⟩
theorem vl_X3_89 : VL RX3 89 yX3_takeSort cX3_takeSort 3 (some .boolean) 2 := ⟨⟨(lwm 794 (by decide +kernel) rfl), (lwm 796 (by decide +kernel) rfl), (lwm 22 (by decide +kernel) rfl), (lwm 29 (by decide +kernel) rfl), (lwm 797 (by decide +kernel) rfl)⟩, by decide, by decide, by decide +kernel⟩
theorem vl_X3_93 : VL RX3 93 yX6_add cX6_add 7 (some .boolean) 5 := ⟨⟨(lwm 798 (by decide +kernel) rfl), (lwm 395 (by decide +kernel) rfl), (lwm 396 (by decide +kernel) rfl), (lwm 31 (by decide +kernel) rfl), (lwm 397 (by decide +kernel) rfl)⟩, by decide, by decide, by decide +kernel⟩
theorem vl_X3_97 : VL RX3 97 yX6_addWorth cX6_addWorth 4 (some .boolean) 3 := ⟨⟨(lwm 799 (by decide +kernel) rfl), (lwm 399 (by decide +kernel) rfl), (lwm 400 (by decide +kernel) rfl), (lwm 31 (by decide +kernel) rfl), (lwm 401 (by decide +kernel) rfl)⟩, by decide, by decide, by decide +kernel⟩
theorem vl_X3_100 : VL RX3 100 yX6_tell cX6_tell 3 (some .boolean) 2 := ⟨⟨(lwm 800 (by decide +kernel) rfl), (lwm 801 (by decide +kernel) rfl), (lwm 802 (by decide +kernel) rfl), (lwm 31 (by decide +kernel) rfl), (lwm 803 (by decide +kernel) rfl)⟩, by decide, by decide, by decide +kernel⟩
theorem vl_X3_48 : VL RX3 48 yX6_areWhole cX6_areWhole 4 (some .boolean) 0 := ⟨⟨(lwm 804 (by decide +kernel) rfl), (lwm 805 (by decide +kernel) rfl), (lwm 806 (by decide +kernel) rfl), (lwm 31 (by decide +kernel) rfl), (lwm 807 (by decide +kernel) rfl)⟩, by decide, by decide, by decide +kernel⟩
theorem vl_L_41 : VL RL 41 yX9_lay cX9_lay 2 (some .int) 0 := ⟨⟨(lwm 808 (by decide +kernel) rfl), (lwm 809 (by decide +kernel) rfl), (lwm 810 (by decide +kernel) rfl), (lwm 27 (by decide +kernel) rfl), (lwm 811 (by decide +kernel) rfl)⟩, by decide, by decide, by decide +kernel⟩
theorem vl_X9_119 : SL RX9 119 yJ7_fill_53178 cJ7_fill_53178 4 none 2 := ⟨⟨(lwm 812 (by decide +kernel) rfl), (lwm 540 (by decide +kernel) rfl), (lwm 38 (by decide +kernel) rfl), (lwm 541 (by decide +kernel) rfl)⟩, by decide, by decide, by decide +kernel⟩
theorem vl_L_149 : SL RL 149 yL_act cL_act 6 (some .long) 5 := ⟨⟨(lwm 813 (by decide +kernel) rfl), (lwm 814 (by decide +kernel) rfl), (lwm 26 (by decide +kernel) rfl), (lwm 815 (by decide +kernel) rfl)⟩, by decide, by decide, by decide +kernel⟩
theorem kc_L_89 : Cond.constantLong RL 89 (1000 : Int64) ∈ lw_g := (lwm 816 (by decide +kernel) rfl)
theorem vl_L_97 : VL RL 97 yX9_fails cX9_fails 1 (some .long) 0 := ⟨⟨(lwm 817 (by decide +kernel) rfl), (lwm 818 (by decide +kernel) rfl), (lwm 819 (by decide +kernel) rfl), (lwm 27 (by decide +kernel) rfl), (lwm 820 (by decide +kernel) rfl)⟩, by decide, by decide, by decide +kernel⟩
theorem vl_X9_225 : VL RX9 225 yX4_failingWays cX4_failingWays 5 (some .long) 0 := ⟨⟨(lwm 821 (by decide +kernel) rfl), (lwm 822 (by decide +kernel) rfl), (lwm 823 (by decide +kernel) rfl), (lwm 35 (by decide +kernel) rfl), (lwm 824 (by decide +kernel) rfl)⟩, by decide, by decide, by decide +kernel⟩
theorem vl_X4_82 : VL RX4 82 yX4_failingWays_ cX4_failingWays_ 4 (some .long) 2 := ⟨⟨(lwm 825 (by decide +kernel) rfl), (lwm 827 (by decide +kernel) rfl), (lwm 23 (by decide +kernel) rfl), (lwm 35 (by decide +kernel) rfl), (lwm 828 (by decide +kernel) rfl)⟩, by decide, by decide, by decide +kernel⟩
theorem vl_X4_86 : VL RX4 86 yX4_lowestAtRest cX4_lowestAtRest 7 (some .int) 3 := ⟨⟨(lwm 829 (by decide +kernel) rfl), (lwm 831 (by decide +kernel) rfl), (lwm 24 (by decide +kernel) rfl), (lwm 35 (by decide +kernel) rfl), (lwm 832 (by decide +kernel) rfl)⟩, by decide, by decide, by decide +kernel⟩
theorem vl_X4_90 : VL RX4 90 yX4_isNoneAtRest cX4_isNoneAtRest 8 (some .boolean) 3 := ⟨⟨(lwm 834 (by decide +kernel) rfl), (lwm 836 (by decide +kernel) rfl), (lwm 25 (by decide +kernel) rfl), (lwm 35 (by decide +kernel) rfl), (lwm 837 (by decide +kernel) rfl)⟩, by decide, by decide, by decide +kernel⟩
theorem vl_L_104 : VL RL 104 yX9_bestShow cX9_bestShow 5 (some .int) 0 := ⟨⟨(lwm 838 (by decide +kernel) rfl), (lwm 839 (by decide +kernel) rfl), (lwm 840 (by decide +kernel) rfl), (lwm 27 (by decide +kernel) rfl), (lwm 841 (by decide +kernel) rfl)⟩, by decide, by decide, by decide +kernel⟩
theorem vl_L_107 : VL RL 107 yX9_bestDay cX9_bestDay 8 (some .int) 0 := ⟨⟨(lwm 842 (by decide +kernel) rfl), (lwm 843 (by decide +kernel) rfl), (lwm 844 (by decide +kernel) rfl), (lwm 27 (by decide +kernel) rfl), (lwm 845 (by decide +kernel) rfl)⟩, by decide, by decide, by decide +kernel⟩
theorem vl_X9_251 : VL RX9 251 yX0_waysOfAbsent cX0_waysOfAbsent 1 (some .long) 0 := ⟨⟨(lwm 846 (by decide +kernel) rfl), (lwm 847 (by decide +kernel) rfl), (lwm 848 (by decide +kernel) rfl), (lwm 32 (by decide +kernel) rfl), (lwm 849 (by decide +kernel) rfl)⟩, by decide, by decide, by decide +kernel⟩
theorem kc_L_116 : Cond.constantLong RL 116 (50 : Int64) ∈ lw_g := (lwm 850 (by decide +kernel) rfl)
theorem vl_L_130 : VL RL 130 yX9_keep cX9_keep 1 (some .int) 0 := ⟨⟨(lwm 851 (by decide +kernel) rfl), (lwm 852 (by decide +kernel) rfl), (lwm 853 (by decide +kernel) rfl), (lwm 27 (by decide +kernel) rfl), (lwm 854 (by decide +kernel) rfl)⟩, by decide, by decide, by decide +kernel⟩
theorem vl_X9_298 : VL RX9 298 yX5_put cX5_put 3 (some .boolean) 2 := ⟨⟨(lwm 855 (by decide +kernel) rfl), (lwm 856 (by decide +kernel) rfl), (lwm 857 (by decide +kernel) rfl), (lwm 36 (by decide +kernel) rfl), (lwm 858 (by decide +kernel) rfl)⟩, by decide, by decide, by decide +kernel⟩
theorem vl_L_133 : VL RL 133 yX9_back cX9_back 1 (some .int) 0 := ⟨⟨(lwm 862 (by decide +kernel) rfl), (lwm 863 (by decide +kernel) rfl), (lwm 864 (by decide +kernel) rfl), (lwm 27 (by decide +kernel) rfl), (lwm 865 (by decide +kernel) rfl)⟩, by decide, by decide, by decide +kernel⟩
theorem vl_X9_301 : VL RX9 301 yX5_takeInto cX5_takeInto 2 (some .int) 1 := ⟨⟨(lwm 866 (by decide +kernel) rfl), (lwm 867 (by decide +kernel) rfl), (lwm 868 (by decide +kernel) rfl), (lwm 36 (by decide +kernel) rfl), (lwm 869 (by decide +kernel) rfl)⟩, by decide, by decide, by decide +kernel⟩
theorem kc_L_56 : Cond.constantLong RL 56 (-1 : Int64) ∈ lw_g := (lwm 870 (by decide +kernel) rfl)
theorem kc_L_144 : Cond.constantLong RL 144 (-4 : Int64) ∈ lw_g := (lwm 871 (by decide +kernel) rfl)
theorem kc_L_7 : Cond.constant RL 7 (739982445 : Int32) ∈ lw_g := (lwm 730 (by decide +kernel) rfl)
theorem kc_L_25 : Cond.constant RL 25 (1073741824 : Int32) ∈ lw_g := (lwm 734 (by decide +kernel) rfl)
theorem kc_L_8 : Cond.constant RL 8 (2147483647 : Int32) ∈ lw_g := (lwm 738 (by decide +kernel) rfl)
end
section
set_option maxRecDepth 100000 in
theorem bo_1 : Cond.methodLink RL 137 yL_board ∈ lw_g := (lwm 731 (by decide +kernel) rfl)
set_option maxRecDepth 100000 in
theorem bo_2 : Cond.static yL_board ∈ lw_g := (lwm 732 (by decide +kernel) rfl)
set_option maxRecDepth 100000 in
theorem bo_3 : Cond.initialized yL_board.cls ∈ lw_g := (lwm 26 (by decide +kernel) rfl)
set_option maxRecDepth 100000 in
theorem bo_5 : (parseMethodDescriptor yL_board.desc).map (fun d => d.parameters.length) = some 5 := by decide +kernel
end
section
set_option maxRecDepth 100000 in
theorem bo_4 : Cond.code yL_board cL_board 21 (some .boolean) ∈ lw_g := (lwm 733 rfl rfl)
end
section
theorem lvs_n {lv : List (Nat × Value)} : lvsub lv [] := trivial
theorem lvs_c {lv t : List (Nat × Value)} {q : Nat × Value} (h : lvg lv q.1 = some q.2) (k : lvsub lv t) : lvsub lv (q :: t) := ⟨h, k⟩
theorem vinl {i : Int32} {n : Nat} (h : ¬ (i < 0 ∨ n ≤ i.toNatClampNeg)) : vp_in i n := h
theorem ml_X0_77 : Cond.methodLink RX0 77 Lib.Math.max.name ∈ lw_g := (lwm 418 (by decide +kernel) rfl)
theorem ml_X1_66 : Cond.methodLink RX1 66 Lib.Math.min.name ∈ lw_g := (lwm 554 (by decide +kernel) rfl)
theorem ml_X1_103 : Cond.methodLink RX1 103 Lib.Math.max.name ∈ lw_g := (lwm 561 (by decide +kernel) rfl)
theorem ml_X4_52 : Cond.methodLink RX4 52 Lib.Math.min.name ∈ lw_g := (lwm 640 (by decide +kernel) rfl)
theorem ml_X4_94 : Cond.methodLink RX4 94 Lib.Math.max.name ∈ lw_g := (lwm 833 (by decide +kernel) rfl)
theorem al_X5_22 : Cond.methodLink RX5 22 arraycopyName ∈ lw_g := (lwm 859 (by decide +kernel) rfl)
theorem mmax_s : Cond.static Lib.Math.max.name ∈ lw_g := (lwm 419 (by decide +kernel) rfl)
theorem mmax_c : Cond.code Lib.Math.max.name Lib.Math.max.code 2 (some .int) ∈ lw_g := (lwm 420 (by decide +kernel) rfl)
theorem mmin_s : Cond.static Lib.Math.min.name ∈ lw_g := (lwm 555 (by decide +kernel) rfl)
theorem mmin_c : Cond.code Lib.Math.min.name Lib.Math.min.code 2 (some .int) ∈ lw_g := (lwm 556 (by decide +kernel) rfl)
theorem m_i : Cond.initialized "java/lang/Math" ∈ lw_g := (lwm 37 (by decide +kernel) rfl)
theorem al_n : Cond.native arraycopyName ∈ lw_g := (lwm 861 (by decide +kernel) rfl)
theorem al_s : Cond.static arraycopyName ∈ lw_g := (lwm 860 (by decide +kernel) rfl)
theorem al_i : Cond.initialized "java/lang/System" ∈ lw_g := (lwm 39 (by decide +kernel) rfl)
end
