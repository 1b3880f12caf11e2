section
-- ===== PART A: goes FIRST, ahead of the names: the tables' words, and 'selects' of the private methods out of them =====
/-- a private method of a class that the tables say can be made, by its rows of tables_1 -/
def lw_okq (q : MethodName × Nat) : Prop := (q.1.cls ≠ "java/lang/invoke/MethodHandle" ∧ q.1.cls ≠ "java/lang/invoke/VarHandle") ∧ Cond.instantiable q.1.cls q.2 ∈ tables_1 ∧ Cond.privateMethod q.1 ∈ tables_1 ∧ Cond.instanceMethod q.1 ∈ tables_1
theorem lw_p0 : lw_okq (⟨"CoatsFitTheMood", "setMood", "(II)I"⟩, 13) := ⟨⟨by decide +kernel, by decide +kernel⟩, List.mem_of_getElem? (i := 18) (by decide +kernel), List.mem_of_getElem? (i := 246) (by decide +kernel), List.mem_of_getElem? (i := 247) (by decide +kernel)⟩
theorem lw_p1 : lw_okq (⟨"CoatsFitTheMood", "moodAt", "(II)I"⟩, 13) := ⟨⟨by decide +kernel, by decide +kernel⟩, List.mem_of_getElem? (i := 18) (by decide +kernel), List.mem_of_getElem? (i := 259) (by decide +kernel), List.mem_of_getElem? (i := 260) (by decide +kernel)⟩
theorem lw_p2 : lw_okq (⟨"CoatsFitTheMood", "giveMood", "(III)V"⟩, 13) := ⟨⟨by decide +kernel, by decide +kernel⟩, List.mem_of_getElem? (i := 18) (by decide +kernel), List.mem_of_getElem? (i := 263) (by decide +kernel), List.mem_of_getElem? (i := 264) (by decide +kernel)⟩
theorem lw_p3 : lw_okq (⟨"CoatsFitTheMood", "isCoat", "(I)Z"⟩, 13) := ⟨⟨by decide +kernel, by decide +kernel⟩, List.mem_of_getElem? (i := 18) (by decide +kernel), List.mem_of_getElem? (i := 267) (by decide +kernel), List.mem_of_getElem? (i := 268) (by decide +kernel)⟩
theorem lw_p4 : lw_okq (⟨"CoatsFitTheMood", "rightAt", "(II)I"⟩, 13) := ⟨⟨by decide +kernel, by decide +kernel⟩, List.mem_of_getElem? (i := 18) (by decide +kernel), List.mem_of_getElem? (i := 294) (by decide +kernel), List.mem_of_getElem? (i := 295) (by decide +kernel)⟩
theorem lw_p5 : lw_okq (⟨"CoatsFitTheMood$Text", "lay", "(I)V"⟩, 5) := ⟨⟨by decide +kernel, by decide +kernel⟩, List.mem_of_getElem? (i := 146) (by decide +kernel), List.mem_of_getElem? (i := 305) (by decide +kernel), List.mem_of_getElem? (i := 306) (by decide +kernel)⟩
theorem lw_p6 : lw_okq (⟨"CoatsFitTheMood$Text", "join", "(I)V"⟩, 5) := ⟨⟨by decide +kernel, by decide +kernel⟩, List.mem_of_getElem? (i := 146) (by decide +kernel), List.mem_of_getElem? (i := 316) (by decide +kernel), List.mem_of_getElem? (i := 317) (by decide +kernel)⟩
theorem lw_p7 : lw_okq (⟨"CoatsFitTheMood$Text", "lift", "()I"⟩, 5) := ⟨⟨by decide +kernel, by decide +kernel⟩, List.mem_of_getElem? (i := 146) (by decide +kernel), List.mem_of_getElem? (i := 320) (by decide +kernel), List.mem_of_getElem? (i := 321) (by decide +kernel)⟩
theorem lw_p8 : lw_okq (⟨"CoatsFitTheMood", "hoursOfEverybody", "(LCoatsFitTheMood$Coat;)I"⟩, 13) := ⟨⟨by decide +kernel, by decide +kernel⟩, List.mem_of_getElem? (i := 18) (by decide +kernel), List.mem_of_getElem? (i := 341) (by decide +kernel), List.mem_of_getElem? (i := 342) (by decide +kernel)⟩
theorem lw_p9 : lw_okq (⟨"CoatsFitTheMood", "hoursOf", "(LCoatsFitTheMood$Coat;I)I"⟩, 13) := ⟨⟨by decide +kernel, by decide +kernel⟩, List.mem_of_getElem? (i := 18) (by decide +kernel), List.mem_of_getElem? (i := 345) (by decide +kernel), List.mem_of_getElem? (i := 346) (by decide +kernel)⟩
theorem lw_p10 : lw_okq (⟨"CoatsFitTheMood", "fineAt", "(III)I"⟩, 13) := ⟨⟨by decide +kernel, by decide +kernel⟩, List.mem_of_getElem? (i := 18) (by decide +kernel), List.mem_of_getElem? (i := 353) (by decide +kernel), List.mem_of_getElem? (i := 354) (by decide +kernel)⟩
theorem lw_p11 : lw_okq (⟨"CoatsFitTheMood", "costAt", "(III)I"⟩, 13) := ⟨⟨by decide +kernel, by decide +kernel⟩, List.mem_of_getElem? (i := 18) (by decide +kernel), List.mem_of_getElem? (i := 362) (by decide +kernel), List.mem_of_getElem? (i := 363) (by decide +kernel)⟩
theorem lw_p12 : lw_okq (⟨"CoatsFitTheMood$Tape", "byteAt", "(I)I"⟩, 7) := ⟨⟨by decide +kernel, by decide +kernel⟩, List.mem_of_getElem? (i := 55) (by decide +kernel), List.mem_of_getElem? (i := 392) (by decide +kernel), List.mem_of_getElem? (i := 393) (by decide +kernel)⟩
theorem lw_p13 : lw_okq (⟨"CoatsFitTheMood$Tape", "scanOne", "(I)I"⟩, 7) := ⟨⟨by decide +kernel, by decide +kernel⟩, List.mem_of_getElem? (i := 55) (by decide +kernel), List.mem_of_getElem? (i := 399) (by decide +kernel), List.mem_of_getElem? (i := 400) (by decide +kernel)⟩
theorem lw_p14 : lw_okq (⟨"CoatsFitTheMood$Tape", "scanWord", "(I)I"⟩, 7) := ⟨⟨by decide +kernel, by decide +kernel⟩, List.mem_of_getElem? (i := 55) (by decide +kernel), List.mem_of_getElem? (i := 406) (by decide +kernel), List.mem_of_getElem? (i := 407) (by decide +kernel)⟩
theorem lw_p15 : lw_okq (⟨"CoatsFitTheMood$Tape", "isWord", "(ILjava/lang/String;)Z"⟩, 7) := ⟨⟨by decide +kernel, by decide +kernel⟩, List.mem_of_getElem? (i := 55) (by decide +kernel), List.mem_of_getElem? (i := 411) (by decide +kernel), List.mem_of_getElem? (i := 412) (by decide +kernel)⟩
def lw_privs_1 : List (MethodName × Nat) := [(⟨"CoatsFitTheMood", "setMood", "(II)I"⟩, 13), (⟨"CoatsFitTheMood", "moodAt", "(II)I"⟩, 13), (⟨"CoatsFitTheMood", "giveMood", "(III)V"⟩, 13), (⟨"CoatsFitTheMood", "isCoat", "(I)Z"⟩, 13), (⟨"CoatsFitTheMood", "rightAt", "(II)I"⟩, 13), (⟨"CoatsFitTheMood$Text", "lay", "(I)V"⟩, 5), (⟨"CoatsFitTheMood$Text", "join", "(I)V"⟩, 5), (⟨"CoatsFitTheMood$Text", "lift", "()I"⟩, 5), (⟨"CoatsFitTheMood", "hoursOfEverybody", "(LCoatsFitTheMood$Coat;)I"⟩, 13), (⟨"CoatsFitTheMood", "hoursOf", "(LCoatsFitTheMood$Coat;I)I"⟩, 13), (⟨"CoatsFitTheMood", "fineAt", "(III)I"⟩, 13), (⟨"CoatsFitTheMood", "costAt", "(III)I"⟩, 13), (⟨"CoatsFitTheMood$Tape", "byteAt", "(I)I"⟩, 7), (⟨"CoatsFitTheMood$Tape", "scanOne", "(I)I"⟩, 7), (⟨"CoatsFitTheMood$Tape", "scanWord", "(I)I"⟩, 7), (⟨"CoatsFitTheMood$Tape", "isWord", "(ILjava/lang/String;)Z"⟩, 7)]
theorem lw_r1 : ∀ q ∈ lw_privs_1, lw_okq q := List.forall_mem_cons.mpr ⟨lw_p0, List.forall_mem_cons.mpr ⟨lw_p1, List.forall_mem_cons.mpr ⟨lw_p2, List.forall_mem_cons.mpr ⟨lw_p3, List.forall_mem_cons.mpr ⟨lw_p4, List.forall_mem_cons.mpr ⟨lw_p5, List.forall_mem_cons.mpr ⟨lw_p6, List.forall_mem_cons.mpr ⟨lw_p7, List.forall_mem_cons.mpr ⟨lw_p8, List.forall_mem_cons.mpr ⟨lw_p9, List.forall_mem_cons.mpr ⟨lw_p10, List.forall_mem_cons.mpr ⟨lw_p11, List.forall_mem_cons.mpr ⟨lw_p12, List.forall_mem_cons.mpr ⟨lw_p13, List.forall_mem_cons.mpr ⟨lw_p14, List.forall_mem_cons.mpr ⟨lw_p15, fun _ h => absurd h List.not_mem_nil⟩⟩⟩⟩⟩⟩⟩⟩⟩⟩⟩⟩⟩⟩⟩⟩
theorem lw_p16 : lw_okq (⟨"CoatsFitTheMood$Tape", "scanNumber", "(I)I"⟩, 7) := ⟨⟨by decide +kernel, by decide +kernel⟩, List.mem_of_getElem? (i := 55) (by decide +kernel), List.mem_of_getElem? (i := 477) (by decide +kernel), List.mem_of_getElem? (i := 478) (by decide +kernel)⟩
theorem lw_p17 : lw_okq (⟨"CoatsFitTheMood$Reader", "stepOver", "(I)Z"⟩, 2) := ⟨⟨by decide +kernel, by decide +kernel⟩, List.mem_of_getElem? (i := 84) (by decide +kernel), List.mem_of_getElem? (i := 484) (by decide +kernel), List.mem_of_getElem? (i := 485) (by decide +kernel)⟩
theorem lw_p18 : lw_okq (⟨"CoatsFitTheMood$Reader", "level", "(LCoatsFitTheMood$Text;II)Z"⟩, 2) := ⟨⟨by decide +kernel, by decide +kernel⟩, List.mem_of_getElem? (i := 84) (by decide +kernel), List.mem_of_getElem? (i := 492) (by decide +kernel), List.mem_of_getElem? (i := 493) (by decide +kernel)⟩
theorem lw_p19 : lw_okq (⟨"CoatsFitTheMood$Reader", "one", "(LCoatsFitTheMood$Text;I)Z"⟩, 2) := ⟨⟨by decide +kernel, by decide +kernel⟩, List.mem_of_getElem? (i := 84) (by decide +kernel), List.mem_of_getElem? (i := 496) (by decide +kernel), List.mem_of_getElem? (i := 497) (by decide +kernel)⟩
theorem lw_p20 : lw_okq (⟨"CoatsFitTheMood$Reader", "prefixed", "(LCoatsFitTheMood$Text;III)Z"⟩, 2) := ⟨⟨by decide +kernel, by decide +kernel⟩, List.mem_of_getElem? (i := 84) (by decide +kernel), List.mem_of_getElem? (i := 500) (by decide +kernel), List.mem_of_getElem? (i := 501) (by decide +kernel)⟩
theorem lw_p21 : lw_okq (⟨"CoatsFitTheMood$Reader", "bracketed", "(LCoatsFitTheMood$Text;I)Z"⟩, 2) := ⟨⟨by decide +kernel, by decide +kernel⟩, List.mem_of_getElem? (i := 84) (by decide +kernel), List.mem_of_getElem? (i := 508) (by decide +kernel), List.mem_of_getElem? (i := 509) (by decide +kernel)⟩
theorem lw_p22 : lw_okq (⟨"CoatsFitTheMood", "planRefusal", "(LCoatsFitTheMood$Sheet;)I"⟩, 13) := ⟨⟨by decide +kernel, by decide +kernel⟩, List.mem_of_getElem? (i := 18) (by decide +kernel), List.mem_of_getElem? (i := 549) (by decide +kernel), List.mem_of_getElem? (i := 550) (by decide +kernel)⟩
theorem lw_p23 : lw_okq (⟨"CoatsFitTheMood", "planTold", "(LCoatsFitTheMood$Sheet;II)I"⟩, 13) := ⟨⟨by decide +kernel, by decide +kernel⟩, List.mem_of_getElem? (i := 18) (by decide +kernel), List.mem_of_getElem? (i := 561) (by decide +kernel), List.mem_of_getElem? (i := 562) (by decide +kernel)⟩
theorem lw_p24 : lw_okq (⟨"CoatsFitTheMood", "tellDay", "(I)V"⟩, 13) := ⟨⟨by decide +kernel, by decide +kernel⟩, List.mem_of_getElem? (i := 18) (by decide +kernel), List.mem_of_getElem? (i := 578) (by decide +kernel), List.mem_of_getElem? (i := 579) (by decide +kernel)⟩
theorem lw_p25 : lw_okq (⟨"CoatsFitTheMood", "tellHour", "(II)V"⟩, 13) := ⟨⟨by decide +kernel, by decide +kernel⟩, List.mem_of_getElem? (i := 18) (by decide +kernel), List.mem_of_getElem? (i := 582) (by decide +kernel), List.mem_of_getElem? (i := 583) (by decide +kernel)⟩
theorem lw_p26 : lw_okq (⟨"CoatsFitTheMood$Day", "firstBehind", "(II)I"⟩, 5) := ⟨⟨by decide +kernel, by decide +kernel⟩, List.mem_of_getElem? (i := 99) (by decide +kernel), List.mem_of_getElem? (i := 601) (by decide +kernel), List.mem_of_getElem? (i := 602) (by decide +kernel)⟩
theorem lw_p27 : lw_okq (⟨"CoatsFitTheMood", "cover", "(I)I"⟩, 13) := ⟨⟨by decide +kernel, by decide +kernel⟩, List.mem_of_getElem? (i := 18) (by decide +kernel), List.mem_of_getElem? (i := 605) (by decide +kernel), List.mem_of_getElem? (i := 606) (by decide +kernel)⟩
theorem lw_p28 : lw_okq (⟨"CoatsFitTheMood", "covers", "(I)Z"⟩, 13) := ⟨⟨by decide +kernel, by decide +kernel⟩, List.mem_of_getElem? (i := 18) (by decide +kernel), List.mem_of_getElem? (i := 615) (by decide +kernel), List.mem_of_getElem? (i := 616) (by decide +kernel)⟩
theorem lw_p29 : lw_okq (⟨"CoatsFitTheMood", "bare", "(I)I"⟩, 13) := ⟨⟨by decide +kernel, by decide +kernel⟩, List.mem_of_getElem? (i := 18) (by decide +kernel), List.mem_of_getElem? (i := 619) (by decide +kernel), List.mem_of_getElem? (i := 620) (by decide +kernel)⟩
theorem lw_p30 : lw_okq (⟨"CoatsFitTheMood", "changes", "(I)I"⟩, 13) := ⟨⟨by decide +kernel, by decide +kernel⟩, List.mem_of_getElem? (i := 18) (by decide +kernel), List.mem_of_getElem? (i := 623) (by decide +kernel), List.mem_of_getElem? (i := 624) (by decide +kernel)⟩
theorem lw_p31 : lw_okq (⟨"CoatsFitTheMood", "cheapCost", "(I)I"⟩, 13) := ⟨⟨by decide +kernel, by decide +kernel⟩, List.mem_of_getElem? (i := 18) (by decide +kernel), List.mem_of_getElem? (i := 627) (by decide +kernel), List.mem_of_getElem? (i := 628) (by decide +kernel)⟩
def lw_privs_2 : List (MethodName × Nat) := [(⟨"CoatsFitTheMood$Tape", "scanNumber", "(I)I"⟩, 7), (⟨"CoatsFitTheMood$Reader", "stepOver", "(I)Z"⟩, 2), (⟨"CoatsFitTheMood$Reader", "level", "(LCoatsFitTheMood$Text;II)Z"⟩, 2), (⟨"CoatsFitTheMood$Reader", "one", "(LCoatsFitTheMood$Text;I)Z"⟩, 2), (⟨"CoatsFitTheMood$Reader", "prefixed", "(LCoatsFitTheMood$Text;III)Z"⟩, 2), (⟨"CoatsFitTheMood$Reader", "bracketed", "(LCoatsFitTheMood$Text;I)Z"⟩, 2), (⟨"CoatsFitTheMood", "planRefusal", "(LCoatsFitTheMood$Sheet;)I"⟩, 13), (⟨"CoatsFitTheMood", "planTold", "(LCoatsFitTheMood$Sheet;II)I"⟩, 13), (⟨"CoatsFitTheMood", "tellDay", "(I)V"⟩, 13), (⟨"CoatsFitTheMood", "tellHour", "(II)V"⟩, 13), (⟨"CoatsFitTheMood$Day", "firstBehind", "(II)I"⟩, 5), (⟨"CoatsFitTheMood", "cover", "(I)I"⟩, 13), (⟨"CoatsFitTheMood", "covers", "(I)Z"⟩, 13), (⟨"CoatsFitTheMood", "bare", "(I)I"⟩, 13), (⟨"CoatsFitTheMood", "changes", "(I)I"⟩, 13), (⟨"CoatsFitTheMood", "cheapCost", "(I)I"⟩, 13)]
theorem lw_r2 : ∀ q ∈ lw_privs_2, lw_okq q := List.forall_mem_cons.mpr ⟨lw_p16, List.forall_mem_cons.mpr ⟨lw_p17, List.forall_mem_cons.mpr ⟨lw_p18, List.forall_mem_cons.mpr ⟨lw_p19, List.forall_mem_cons.mpr ⟨lw_p20, List.forall_mem_cons.mpr ⟨lw_p21, List.forall_mem_cons.mpr ⟨lw_p22, List.forall_mem_cons.mpr ⟨lw_p23, List.forall_mem_cons.mpr ⟨lw_p24, List.forall_mem_cons.mpr ⟨lw_p25, List.forall_mem_cons.mpr ⟨lw_p26, List.forall_mem_cons.mpr ⟨lw_p27, List.forall_mem_cons.mpr ⟨lw_p28, List.forall_mem_cons.mpr ⟨lw_p29, List.forall_mem_cons.mpr ⟨lw_p30, List.forall_mem_cons.mpr ⟨lw_p31, fun _ h => absurd h List.not_mem_nil⟩⟩⟩⟩⟩⟩⟩⟩⟩⟩⟩⟩⟩⟩⟩⟩
theorem lw_p32 : lw_okq (⟨"CoatsFitTheMood", "useless", "()I"⟩, 13) := ⟨⟨by decide +kernel, by decide +kernel⟩, List.mem_of_getElem? (i := 18) (by decide +kernel), List.mem_of_getElem? (i := 662) (by decide +kernel), List.mem_of_getElem? (i := 663) (by decide +kernel)⟩
theorem lw_p33 : lw_okq (⟨"CoatsFitTheMood", "alike", "(Z)I"⟩, 13) := ⟨⟨by decide +kernel, by decide +kernel⟩, List.mem_of_getElem? (i := 18) (by decide +kernel), List.mem_of_getElem? (i := 666) (by decide +kernel), List.mem_of_getElem? (i := 667) (by decide +kernel)⟩
theorem lw_p34 : lw_okq (⟨"CoatsFitTheMood", "apart", "(II)I"⟩, 13) := ⟨⟨by decide +kernel, by decide +kernel⟩, List.mem_of_getElem? (i := 18) (by decide +kernel), List.mem_of_getElem? (i := 670) (by decide +kernel), List.mem_of_getElem? (i := 671) (by decide +kernel)⟩
theorem lw_p35 : lw_okq (⟨"CoatsFitTheMood", "bitsBy", "(LCoatsFitTheMood$Sheet;IIII)I"⟩, 13) := ⟨⟨by decide +kernel, by decide +kernel⟩, List.mem_of_getElem? (i := 18) (by decide +kernel), List.mem_of_getElem? (i := 692) (by decide +kernel), List.mem_of_getElem? (i := 693) (by decide +kernel)⟩
theorem lw_p36 : lw_okq (⟨"CoatsFitTheMood", "wouldBeSo", "(LCoatsFitTheMood$Sheet;IIII)Z"⟩, 13) := ⟨⟨by decide +kernel, by decide +kernel⟩, List.mem_of_getElem? (i := 18) (by decide +kernel), List.mem_of_getElem? (i := 696) (by decide +kernel), List.mem_of_getElem? (i := 697) (by decide +kernel)⟩
theorem lw_p37 : lw_okq (⟨"CoatsFitTheMood", "manyBy", "(LCoatsFitTheMood$Sheet;IIII)I"⟩, 13) := ⟨⟨by decide +kernel, by decide +kernel⟩, List.mem_of_getElem? (i := 18) (by decide +kernel), List.mem_of_getElem? (i := 700) (by decide +kernel), List.mem_of_getElem? (i := 701) (by decide +kernel)⟩
theorem lw_p38 : lw_okq (⟨"CoatsFitTheMood", "leastBy", "(LCoatsFitTheMood$Sheet;IIII)I"⟩, 13) := ⟨⟨by decide +kernel, by decide +kernel⟩, List.mem_of_getElem? (i := 18) (by decide +kernel), List.mem_of_getElem? (i := 704) (by decide +kernel), List.mem_of_getElem? (i := 705) (by decide +kernel)⟩
theorem lw_p39 : lw_okq (⟨"CoatsFitTheMood", "drawnCost", "(I)I"⟩, 13) := ⟨⟨by decide +kernel, by decide +kernel⟩, List.mem_of_getElem? (i := 18) (by decide +kernel), List.mem_of_getElem? (i := 716) (by decide +kernel), List.mem_of_getElem? (i := 717) (by decide +kernel)⟩
theorem lw_p40 : lw_okq (⟨"CoatsFitTheMood", "wornTogether", "()I"⟩, 13) := ⟨⟨by decide +kernel, by decide +kernel⟩, List.mem_of_getElem? (i := 18) (by decide +kernel), List.mem_of_getElem? (i := 740) (by decide +kernel), List.mem_of_getElem? (i := 741) (by decide +kernel)⟩
theorem lw_p41 : lw_okq (⟨"CoatsFitTheMoodModel", "spell", "(IIIIIIIII)V"⟩, 42) := ⟨⟨by decide +kernel, by decide +kernel⟩, List.mem_of_getElem? (i := 772) (by decide +kernel), List.mem_of_getElem? (i := 778) (by decide +kernel), List.mem_of_getElem? (i := 779) (by decide +kernel)⟩
theorem lw_p42 : lw_okq (⟨"CoatsFitTheMoodModel", "isOf", "(II)Z"⟩, 42) := ⟨⟨by decide +kernel, by decide +kernel⟩, List.mem_of_getElem? (i := 772) (by decide +kernel), List.mem_of_getElem? (i := 917) (by decide +kernel), List.mem_of_getElem? (i := 918) (by decide +kernel)⟩
theorem lw_p43 : lw_okq (⟨"CoatsFitTheMoodModel", "isCoat", "(I)Z"⟩, 42) := ⟨⟨by decide +kernel, by decide +kernel⟩, List.mem_of_getElem? (i := 772) (by decide +kernel), List.mem_of_getElem? (i := 926) (by decide +kernel), List.mem_of_getElem? (i := 927) (by decide +kernel)⟩
theorem lw_p44 : lw_okq (⟨"CoatsFitTheMoodModel", "rightAt", "(II)I"⟩, 42) := ⟨⟨by decide +kernel, by decide +kernel⟩, List.mem_of_getElem? (i := 772) (by decide +kernel), List.mem_of_getElem? (i := 941) (by decide +kernel), List.mem_of_getElem? (i := 942) (by decide +kernel)⟩
theorem lw_p45 : lw_okq (⟨"CoatsFitTheMoodModel", "fits", "(III)Z"⟩, 42) := ⟨⟨by decide +kernel, by decide +kernel⟩, List.mem_of_getElem? (i := 772) (by decide +kernel), List.mem_of_getElem? (i := 945) (by decide +kernel), List.mem_of_getElem? (i := 946) (by decide +kernel)⟩
theorem lw_p46 : lw_okq (⟨"CoatsFitTheMoodModel", "says", "(IIII)I"⟩, 42) := ⟨⟨by decide +kernel, by decide +kernel⟩, List.mem_of_getElem? (i := 772) (by decide +kernel), List.mem_of_getElem? (i := 949) (by decide +kernel), List.mem_of_getElem? (i := 950) (by decide +kernel)⟩
theorem lw_p47 : lw_okq (⟨"CoatsFitTheMoodModel", "offOf", "(II)I"⟩, 42) := ⟨⟨by decide +kernel, by decide +kernel⟩, List.mem_of_getElem? (i := 772) (by decide +kernel), List.mem_of_getElem? (i := 953) (by decide +kernel), List.mem_of_getElem? (i := 954) (by decide +kernel)⟩
def lw_privs_3 : List (MethodName × Nat) := [(⟨"CoatsFitTheMood", "useless", "()I"⟩, 13), (⟨"CoatsFitTheMood", "alike", "(Z)I"⟩, 13), (⟨"CoatsFitTheMood", "apart", "(II)I"⟩, 13), (⟨"CoatsFitTheMood", "bitsBy", "(LCoatsFitTheMood$Sheet;IIII)I"⟩, 13), (⟨"CoatsFitTheMood", "wouldBeSo", "(LCoatsFitTheMood$Sheet;IIII)Z"⟩, 13), (⟨"CoatsFitTheMood", "manyBy", "(LCoatsFitTheMood$Sheet;IIII)I"⟩, 13), (⟨"CoatsFitTheMood", "leastBy", "(LCoatsFitTheMood$Sheet;IIII)I"⟩, 13), (⟨"CoatsFitTheMood", "drawnCost", "(I)I"⟩, 13), (⟨"CoatsFitTheMood", "wornTogether", "()I"⟩, 13), (⟨"CoatsFitTheMoodModel", "spell", "(IIIIIIIII)V"⟩, 42), (⟨"CoatsFitTheMoodModel", "isOf", "(II)Z"⟩, 42), (⟨"CoatsFitTheMoodModel", "isCoat", "(I)Z"⟩, 42), (⟨"CoatsFitTheMoodModel", "rightAt", "(II)I"⟩, 42), (⟨"CoatsFitTheMoodModel", "fits", "(III)Z"⟩, 42), (⟨"CoatsFitTheMoodModel", "says", "(IIII)I"⟩, 42), (⟨"CoatsFitTheMoodModel", "offOf", "(II)I"⟩, 42)]
theorem lw_r3 : ∀ q ∈ lw_privs_3, lw_okq q := List.forall_mem_cons.mpr ⟨lw_p32, List.forall_mem_cons.mpr ⟨lw_p33, List.forall_mem_cons.mpr ⟨lw_p34, List.forall_mem_cons.mpr ⟨lw_p35, List.forall_mem_cons.mpr ⟨lw_p36, List.forall_mem_cons.mpr ⟨lw_p37, List.forall_mem_cons.mpr ⟨lw_p38, List.forall_mem_cons.mpr ⟨lw_p39, List.forall_mem_cons.mpr ⟨lw_p40, List.forall_mem_cons.mpr ⟨lw_p41, List.forall_mem_cons.mpr ⟨lw_p42, List.forall_mem_cons.mpr ⟨lw_p43, List.forall_mem_cons.mpr ⟨lw_p44, List.forall_mem_cons.mpr ⟨lw_p45, List.forall_mem_cons.mpr ⟨lw_p46, List.forall_mem_cons.mpr ⟨lw_p47, fun _ h => absurd h List.not_mem_nil⟩⟩⟩⟩⟩⟩⟩⟩⟩⟩⟩⟩⟩⟩⟩⟩
theorem lw_p48 : lw_okq (⟨"CoatsFitTheMoodModel", "read", "(II)I"⟩, 42) := ⟨⟨by decide +kernel, by decide +kernel⟩, List.mem_of_getElem? (i := 772) (by decide +kernel), List.mem_of_getElem? (i := 957) (by decide +kernel), List.mem_of_getElem? (i := 958) (by decide +kernel)⟩
theorem lw_p49 : lw_okq (⟨"CoatsFitTheMoodModel", "next", "()V"⟩, 42) := ⟨⟨by decide +kernel, by decide +kernel⟩, List.mem_of_getElem? (i := 772) (by decide +kernel), List.mem_of_getElem? (i := 961) (by decide +kernel), List.mem_of_getElem? (i := 962) (by decide +kernel)⟩
theorem lw_p50 : lw_okq (⟨"CoatsFitTheMoodModel", "byteAt", "(I)I"⟩, 42) := ⟨⟨by decide +kernel, by decide +kernel⟩, List.mem_of_getElem? (i := 772) (by decide +kernel), List.mem_of_getElem? (i := 965) (by decide +kernel), List.mem_of_getElem? (i := 966) (by decide +kernel)⟩
theorem lw_p51 : lw_okq (⟨"CoatsFitTheMoodModel", "isWord", "(IIIIIIII)Z"⟩, 42) := ⟨⟨by decide +kernel, by decide +kernel⟩, List.mem_of_getElem? (i := 772) (by decide +kernel), List.mem_of_getElem? (i := 974) (by decide +kernel), List.mem_of_getElem? (i := 975) (by decide +kernel)⟩
theorem lw_p52 : lw_okq (⟨"CoatsFitTheMoodModel", "isLetter", "(II)Z"⟩, 42) := ⟨⟨by decide +kernel, by decide +kernel⟩, List.mem_of_getElem? (i := 772) (by decide +kernel), List.mem_of_getElem? (i := 978) (by decide +kernel), List.mem_of_getElem? (i := 979) (by decide +kernel)⟩
theorem lw_p53 : lw_okq (⟨"CoatsFitTheMoodModel", "part", "(Z)I"⟩, 42) := ⟨⟨by decide +kernel, by decide +kernel⟩, List.mem_of_getElem? (i := 772) (by decide +kernel), List.mem_of_getElem? (i := 982) (by decide +kernel), List.mem_of_getElem? (i := 983) (by decide +kernel)⟩
theorem lw_p54 : lw_okq (⟨"CoatsFitTheMoodModel", "fail", "()V"⟩, 42) := ⟨⟨by decide +kernel, by decide +kernel⟩, List.mem_of_getElem? (i := 772) (by decide +kernel), List.mem_of_getElem? (i := 986) (by decide +kernel), List.mem_of_getElem? (i := 987) (by decide +kernel)⟩
theorem lw_p55 : lw_okq (⟨"CoatsFitTheMoodModel", "either0", "()I"⟩, 42) := ⟨⟨by decide +kernel, by decide +kernel⟩, List.mem_of_getElem? (i := 772) (by decide +kernel), List.mem_of_getElem? (i := 990) (by decide +kernel), List.mem_of_getElem? (i := 991) (by decide +kernel)⟩
theorem lw_p56 : lw_okq (⟨"CoatsFitTheMoodModel", "both0", "()I"⟩, 42) := ⟨⟨by decide +kernel, by decide +kernel⟩, List.mem_of_getElem? (i := 772) (by decide +kernel), List.mem_of_getElem? (i := 994) (by decide +kernel), List.mem_of_getElem? (i := 995) (by decide +kernel)⟩
theorem lw_p57 : lw_okq (⟨"CoatsFitTheMoodModel", "not0", "()I"⟩, 42) := ⟨⟨by decide +kernel, by decide +kernel⟩, List.mem_of_getElem? (i := 772) (by decide +kernel), List.mem_of_getElem? (i := 998) (by decide +kernel), List.mem_of_getElem? (i := 999) (by decide +kernel)⟩
theorem lw_p58 : lw_okq (⟨"CoatsFitTheMoodModel", "opens", "()Z"⟩, 42) := ⟨⟨by decide +kernel, by decide +kernel⟩, List.mem_of_getElem? (i := 772) (by decide +kernel), List.mem_of_getElem? (i := 1002) (by decide +kernel), List.mem_of_getElem? (i := 1003) (by decide +kernel)⟩
theorem lw_p59 : lw_okq (⟨"CoatsFitTheMoodModel", "not1", "()I"⟩, 42) := ⟨⟨by decide +kernel, by decide +kernel⟩, List.mem_of_getElem? (i := 772) (by decide +kernel), List.mem_of_getElem? (i := 1006) (by decide +kernel), List.mem_of_getElem? (i := 1007) (by decide +kernel)⟩
theorem lw_p60 : lw_okq (⟨"CoatsFitTheMoodModel", "not2", "()I"⟩, 42) := ⟨⟨by decide +kernel, by decide +kernel⟩, List.mem_of_getElem? (i := 772) (by decide +kernel), List.mem_of_getElem? (i := 1010) (by decide +kernel), List.mem_of_getElem? (i := 1011) (by decide +kernel)⟩
theorem lw_p61 : lw_okq (⟨"CoatsFitTheMoodModel", "not3", "()I"⟩, 42) := ⟨⟨by decide +kernel, by decide +kernel⟩, List.mem_of_getElem? (i := 772) (by decide +kernel), List.mem_of_getElem? (i := 1014) (by decide +kernel), List.mem_of_getElem? (i := 1015) (by decide +kernel)⟩
theorem lw_p62 : lw_okq (⟨"CoatsFitTheMoodModel", "not4", "()I"⟩, 42) := ⟨⟨by decide +kernel, by decide +kernel⟩, List.mem_of_getElem? (i := 772) (by decide +kernel), List.mem_of_getElem? (i := 1018) (by decide +kernel), List.mem_of_getElem? (i := 1019) (by decide +kernel)⟩
theorem lw_p63 : lw_okq (⟨"CoatsFitTheMoodModel", "not5", "()I"⟩, 42) := ⟨⟨by decide +kernel, by decide +kernel⟩, List.mem_of_getElem? (i := 772) (by decide +kernel), List.mem_of_getElem? (i := 1022) (by decide +kernel), List.mem_of_getElem? (i := 1023) (by decide +kernel)⟩
def lw_privs_4 : List (MethodName × Nat) := [(⟨"CoatsFitTheMoodModel", "read", "(II)I"⟩, 42), (⟨"CoatsFitTheMoodModel", "next", "()V"⟩, 42), (⟨"CoatsFitTheMoodModel", "byteAt", "(I)I"⟩, 42), (⟨"CoatsFitTheMoodModel", "isWord", "(IIIIIIII)Z"⟩, 42), (⟨"CoatsFitTheMoodModel", "isLetter", "(II)Z"⟩, 42), (⟨"CoatsFitTheMoodModel", "part", "(Z)I"⟩, 42), (⟨"CoatsFitTheMoodModel", "fail", "()V"⟩, 42), (⟨"CoatsFitTheMoodModel", "either0", "()I"⟩, 42), (⟨"CoatsFitTheMoodModel", "both0", "()I"⟩, 42), (⟨"CoatsFitTheMoodModel", "not0", "()I"⟩, 42), (⟨"CoatsFitTheMoodModel", "opens", "()Z"⟩, 42), (⟨"CoatsFitTheMoodModel", "not1", "()I"⟩, 42), (⟨"CoatsFitTheMoodModel", "not2", "()I"⟩, 42), (⟨"CoatsFitTheMoodModel", "not3", "()I"⟩, 42), (⟨"CoatsFitTheMoodModel", "not4", "()I"⟩, 42), (⟨"CoatsFitTheMoodModel", "not5", "()I"⟩, 42)]
theorem lw_r4 : ∀ q ∈ lw_privs_4, lw_okq q := List.forall_mem_cons.mpr ⟨lw_p48, List.forall_mem_cons.mpr ⟨lw_p49, List.forall_mem_cons.mpr ⟨lw_p50, List.forall_mem_cons.mpr ⟨lw_p51, List.forall_mem_cons.mpr ⟨lw_p52, List.forall_mem_cons.mpr ⟨lw_p53, List.forall_mem_cons.mpr ⟨lw_p54, List.forall_mem_cons.mpr ⟨lw_p55, List.forall_mem_cons.mpr ⟨lw_p56, List.forall_mem_cons.mpr ⟨lw_p57, List.forall_mem_cons.mpr ⟨lw_p58, List.forall_mem_cons.mpr ⟨lw_p59, List.forall_mem_cons.mpr ⟨lw_p60, List.forall_mem_cons.mpr ⟨lw_p61, List.forall_mem_cons.mpr ⟨lw_p62, List.forall_mem_cons.mpr ⟨lw_p63, fun _ h => absurd h List.not_mem_nil⟩⟩⟩⟩⟩⟩⟩⟩⟩⟩⟩⟩⟩⟩⟩⟩
theorem lw_p64 : lw_okq (⟨"CoatsFitTheMoodModel", "added5", "()I"⟩, 42) := ⟨⟨by decide +kernel, by decide +kernel⟩, List.mem_of_getElem? (i := 772) (by decide +kernel), List.mem_of_getElem? (i := 1026) (by decide +kernel), List.mem_of_getElem? (i := 1027) (by decide +kernel)⟩
theorem lw_p65 : lw_okq (⟨"CoatsFitTheMoodModel", "term5", "()I"⟩, 42) := ⟨⟨by decide +kernel, by decide +kernel⟩, List.mem_of_getElem? (i := 772) (by decide +kernel), List.mem_of_getElem? (i := 1030) (by decide +kernel), List.mem_of_getElem? (i := 1031) (by decide +kernel)⟩
theorem lw_p66 : lw_okq (⟨"CoatsFitTheMoodModel", "atom5", "()I"⟩, 42) := ⟨⟨by decide +kernel, by decide +kernel⟩, List.mem_of_getElem? (i := 772) (by decide +kernel), List.mem_of_getElem? (i := 1034) (by decide +kernel), List.mem_of_getElem? (i := 1035) (by decide +kernel)⟩
theorem lw_p67 : lw_okq (⟨"CoatsFitTheMoodModel", "isSign", "(I)Z"⟩, 42) := ⟨⟨by decide +kernel, by decide +kernel⟩, List.mem_of_getElem? (i := 772) (by decide +kernel), List.mem_of_getElem? (i := 1038) (by decide +kernel), List.mem_of_getElem? (i := 1039) (by decide +kernel)⟩
theorem lw_p68 : lw_okq (⟨"CoatsFitTheMoodModel", "name", "()I"⟩, 42) := ⟨⟨by decide +kernel, by decide +kernel⟩, List.mem_of_getElem? (i := 772) (by decide +kernel), List.mem_of_getElem? (i := 1042) (by decide +kernel), List.mem_of_getElem? (i := 1043) (by decide +kernel)⟩
theorem lw_p69 : lw_okq (⟨"CoatsFitTheMoodModel", "added4", "()I"⟩, 42) := ⟨⟨by decide +kernel, by decide +kernel⟩, List.mem_of_getElem? (i := 772) (by decide +kernel), List.mem_of_getElem? (i := 1048) (by decide +kernel), List.mem_of_getElem? (i := 1049) (by decide +kernel)⟩
theorem lw_p70 : lw_okq (⟨"CoatsFitTheMoodModel", "term4", "()I"⟩, 42) := ⟨⟨by decide +kernel, by decide +kernel⟩, List.mem_of_getElem? (i := 772) (by decide +kernel), List.mem_of_getElem? (i := 1052) (by decide +kernel), List.mem_of_getElem? (i := 1053) (by decide +kernel)⟩
theorem lw_p71 : lw_okq (⟨"CoatsFitTheMoodModel", "atom4", "()I"⟩, 42) := ⟨⟨by decide +kernel, by decide +kernel⟩, List.mem_of_getElem? (i := 772) (by decide +kernel), List.mem_of_getElem? (i := 1056) (by decide +kernel), List.mem_of_getElem? (i := 1057) (by decide +kernel)⟩
theorem lw_p72 : lw_okq (⟨"CoatsFitTheMoodModel", "either5", "()I"⟩, 42) := ⟨⟨by decide +kernel, by decide +kernel⟩, List.mem_of_getElem? (i := 772) (by decide +kernel), List.mem_of_getElem? (i := 1060) (by decide +kernel), List.mem_of_getElem? (i := 1061) (by decide +kernel)⟩
theorem lw_p73 : lw_okq (⟨"CoatsFitTheMoodModel", "both5", "()I"⟩, 42) := ⟨⟨by decide +kernel, by decide +kernel⟩, List.mem_of_getElem? (i := 772) (by decide +kernel), List.mem_of_getElem? (i := 1064) (by decide +kernel), List.mem_of_getElem? (i := 1065) (by decide +kernel)⟩
theorem lw_p74 : lw_okq (⟨"CoatsFitTheMoodModel", "added3", "()I"⟩, 42) := ⟨⟨by decide +kernel, by decide +kernel⟩, List.mem_of_getElem? (i := 772) (by decide +kernel), List.mem_of_getElem? (i := 1068) (by decide +kernel), List.mem_of_getElem? (i := 1069) (by decide +kernel)⟩
theorem lw_p75 : lw_okq (⟨"CoatsFitTheMoodModel", "term3", "()I"⟩, 42) := ⟨⟨by decide +kernel, by decide +kernel⟩, List.mem_of_getElem? (i := 772) (by decide +kernel), List.mem_of_getElem? (i := 1072) (by decide +kernel), List.mem_of_getElem? (i := 1073) (by decide +kernel)⟩
theorem lw_p76 : lw_okq (⟨"CoatsFitTheMoodModel", "atom3", "()I"⟩, 42) := ⟨⟨by decide +kernel, by decide +kernel⟩, List.mem_of_getElem? (i := 772) (by decide +kernel), List.mem_of_getElem? (i := 1076) (by decide +kernel), List.mem_of_getElem? (i := 1077) (by decide +kernel)⟩
theorem lw_p77 : lw_okq (⟨"CoatsFitTheMoodModel", "either4", "()I"⟩, 42) := ⟨⟨by decide +kernel, by decide +kernel⟩, List.mem_of_getElem? (i := 772) (by decide +kernel), List.mem_of_getElem? (i := 1080) (by decide +kernel), List.mem_of_getElem? (i := 1081) (by decide +kernel)⟩
theorem lw_p78 : lw_okq (⟨"CoatsFitTheMoodModel", "both4", "()I"⟩, 42) := ⟨⟨by decide +kernel, by decide +kernel⟩, List.mem_of_getElem? (i := 772) (by decide +kernel), List.mem_of_getElem? (i := 1084) (by decide +kernel), List.mem_of_getElem? (i := 1085) (by decide +kernel)⟩
theorem lw_p79 : lw_okq (⟨"CoatsFitTheMoodModel", "added2", "()I"⟩, 42) := ⟨⟨by decide +kernel, by decide +kernel⟩, List.mem_of_getElem? (i := 772) (by decide +kernel), List.mem_of_getElem? (i := 1088) (by decide +kernel), List.mem_of_getElem? (i := 1089) (by decide +kernel)⟩
def lw_privs_5 : List (MethodName × Nat) := [(⟨"CoatsFitTheMoodModel", "added5", "()I"⟩, 42), (⟨"CoatsFitTheMoodModel", "term5", "()I"⟩, 42), (⟨"CoatsFitTheMoodModel", "atom5", "()I"⟩, 42), (⟨"CoatsFitTheMoodModel", "isSign", "(I)Z"⟩, 42), (⟨"CoatsFitTheMoodModel", "name", "()I"⟩, 42), (⟨"CoatsFitTheMoodModel", "added4", "()I"⟩, 42), (⟨"CoatsFitTheMoodModel", "term4", "()I"⟩, 42), (⟨"CoatsFitTheMoodModel", "atom4", "()I"⟩, 42), (⟨"CoatsFitTheMoodModel", "either5", "()I"⟩, 42), (⟨"CoatsFitTheMoodModel", "both5", "()I"⟩, 42), (⟨"CoatsFitTheMoodModel", "added3", "()I"⟩, 42), (⟨"CoatsFitTheMoodModel", "term3", "()I"⟩, 42), (⟨"CoatsFitTheMoodModel", "atom3", "()I"⟩, 42), (⟨"CoatsFitTheMoodModel", "either4", "()I"⟩, 42), (⟨"CoatsFitTheMoodModel", "both4", "()I"⟩, 42), (⟨"CoatsFitTheMoodModel", "added2", "()I"⟩, 42)]
theorem lw_r5 : ∀ q ∈ lw_privs_5, lw_okq q := List.forall_mem_cons.mpr ⟨lw_p64, List.forall_mem_cons.mpr ⟨lw_p65, List.forall_mem_cons.mpr ⟨lw_p66, List.forall_mem_cons.mpr ⟨lw_p67, List.forall_mem_cons.mpr ⟨lw_p68, List.forall_mem_cons.mpr ⟨lw_p69, List.forall_mem_cons.mpr ⟨lw_p70, List.forall_mem_cons.mpr ⟨lw_p71, List.forall_mem_cons.mpr ⟨lw_p72, List.forall_mem_cons.mpr ⟨lw_p73, List.forall_mem_cons.mpr ⟨lw_p74, List.forall_mem_cons.mpr ⟨lw_p75, List.forall_mem_cons.mpr ⟨lw_p76, List.forall_mem_cons.mpr ⟨lw_p77, List.forall_mem_cons.mpr ⟨lw_p78, List.forall_mem_cons.mpr ⟨lw_p79, fun _ h => absurd h List.not_mem_nil⟩⟩⟩⟩⟩⟩⟩⟩⟩⟩⟩⟩⟩⟩⟩⟩
theorem lw_p80 : lw_okq (⟨"CoatsFitTheMoodModel", "term2", "()I"⟩, 42) := ⟨⟨by decide +kernel, by decide +kernel⟩, List.mem_of_getElem? (i := 772) (by decide +kernel), List.mem_of_getElem? (i := 1092) (by decide +kernel), List.mem_of_getElem? (i := 1093) (by decide +kernel)⟩
theorem lw_p81 : lw_okq (⟨"CoatsFitTheMoodModel", "atom2", "()I"⟩, 42) := ⟨⟨by decide +kernel, by decide +kernel⟩, List.mem_of_getElem? (i := 772) (by decide +kernel), List.mem_of_getElem? (i := 1096) (by decide +kernel), List.mem_of_getElem? (i := 1097) (by decide +kernel)⟩
theorem lw_p82 : lw_okq (⟨"CoatsFitTheMoodModel", "either3", "()I"⟩, 42) := ⟨⟨by decide +kernel, by decide +kernel⟩, List.mem_of_getElem? (i := 772) (by decide +kernel), List.mem_of_getElem? (i := 1100) (by decide +kernel), List.mem_of_getElem? (i := 1101) (by decide +kernel)⟩
theorem lw_p83 : lw_okq (⟨"CoatsFitTheMoodModel", "both3", "()I"⟩, 42) := ⟨⟨by decide +kernel, by decide +kernel⟩, List.mem_of_getElem? (i := 772) (by decide +kernel), List.mem_of_getElem? (i := 1104) (by decide +kernel), List.mem_of_getElem? (i := 1105) (by decide +kernel)⟩
theorem lw_p84 : lw_okq (⟨"CoatsFitTheMoodModel", "added1", "()I"⟩, 42) := ⟨⟨by decide +kernel, by decide +kernel⟩, List.mem_of_getElem? (i := 772) (by decide +kernel), List.mem_of_getElem? (i := 1108) (by decide +kernel), List.mem_of_getElem? (i := 1109) (by decide +kernel)⟩
theorem lw_p85 : lw_okq (⟨"CoatsFitTheMoodModel", "term1", "()I"⟩, 42) := ⟨⟨by decide +kernel, by decide +kernel⟩, List.mem_of_getElem? (i := 772) (by decide +kernel), List.mem_of_getElem? (i := 1112) (by decide +kernel), List.mem_of_getElem? (i := 1113) (by decide +kernel)⟩
theorem lw_p86 : lw_okq (⟨"CoatsFitTheMoodModel", "atom1", "()I"⟩, 42) := ⟨⟨by decide +kernel, by decide +kernel⟩, List.mem_of_getElem? (i := 772) (by decide +kernel), List.mem_of_getElem? (i := 1116) (by decide +kernel), List.mem_of_getElem? (i := 1117) (by decide +kernel)⟩
theorem lw_p87 : lw_okq (⟨"CoatsFitTheMoodModel", "either2", "()I"⟩, 42) := ⟨⟨by decide +kernel, by decide +kernel⟩, List.mem_of_getElem? (i := 772) (by decide +kernel), List.mem_of_getElem? (i := 1120) (by decide +kernel), List.mem_of_getElem? (i := 1121) (by decide +kernel)⟩
theorem lw_p88 : lw_okq (⟨"CoatsFitTheMoodModel", "both2", "()I"⟩, 42) := ⟨⟨by decide +kernel, by decide +kernel⟩, List.mem_of_getElem? (i := 772) (by decide +kernel), List.mem_of_getElem? (i := 1124) (by decide +kernel), List.mem_of_getElem? (i := 1125) (by decide +kernel)⟩
theorem lw_p89 : lw_okq (⟨"CoatsFitTheMoodModel", "added0", "()I"⟩, 42) := ⟨⟨by decide +kernel, by decide +kernel⟩, List.mem_of_getElem? (i := 772) (by decide +kernel), List.mem_of_getElem? (i := 1128) (by decide +kernel), List.mem_of_getElem? (i := 1129) (by decide +kernel)⟩
theorem lw_p90 : lw_okq (⟨"CoatsFitTheMoodModel", "term0", "()I"⟩, 42) := ⟨⟨by decide +kernel, by decide +kernel⟩, List.mem_of_getElem? (i := 772) (by decide +kernel), List.mem_of_getElem? (i := 1132) (by decide +kernel), List.mem_of_getElem? (i := 1133) (by decide +kernel)⟩
theorem lw_p91 : lw_okq (⟨"CoatsFitTheMoodModel", "atom0", "()I"⟩, 42) := ⟨⟨by decide +kernel, by decide +kernel⟩, List.mem_of_getElem? (i := 772) (by decide +kernel), List.mem_of_getElem? (i := 1136) (by decide +kernel), List.mem_of_getElem? (i := 1137) (by decide +kernel)⟩
theorem lw_p92 : lw_okq (⟨"CoatsFitTheMoodModel", "either1", "()I"⟩, 42) := ⟨⟨by decide +kernel, by decide +kernel⟩, List.mem_of_getElem? (i := 772) (by decide +kernel), List.mem_of_getElem? (i := 1140) (by decide +kernel), List.mem_of_getElem? (i := 1141) (by decide +kernel)⟩
theorem lw_p93 : lw_okq (⟨"CoatsFitTheMoodModel", "both1", "()I"⟩, 42) := ⟨⟨by decide +kernel, by decide +kernel⟩, List.mem_of_getElem? (i := 772) (by decide +kernel), List.mem_of_getElem? (i := 1144) (by decide +kernel), List.mem_of_getElem? (i := 1145) (by decide +kernel)⟩
theorem lw_p94 : lw_okq (⟨"CoatsFitTheMoodModel", "hoursOf", "(I)I"⟩, 42) := ⟨⟨by decide +kernel, by decide +kernel⟩, List.mem_of_getElem? (i := 772) (by decide +kernel), List.mem_of_getElem? (i := 1151) (by decide +kernel), List.mem_of_getElem? (i := 1152) (by decide +kernel)⟩
theorem lw_p95 : lw_okq (⟨"CoatsFitTheMoodModel", "hoursBy", "(II)I"⟩, 42) := ⟨⟨by decide +kernel, by decide +kernel⟩, List.mem_of_getElem? (i := 772) (by decide +kernel), List.mem_of_getElem? (i := 1155) (by decide +kernel), List.mem_of_getElem? (i := 1156) (by decide +kernel)⟩
def lw_privs_6 : List (MethodName × Nat) := [(⟨"CoatsFitTheMoodModel", "term2", "()I"⟩, 42), (⟨"CoatsFitTheMoodModel", "atom2", "()I"⟩, 42), (⟨"CoatsFitTheMoodModel", "either3", "()I"⟩, 42), (⟨"CoatsFitTheMoodModel", "both3", "()I"⟩, 42), (⟨"CoatsFitTheMoodModel", "added1", "()I"⟩, 42), (⟨"CoatsFitTheMoodModel", "term1", "()I"⟩, 42), (⟨"CoatsFitTheMoodModel", "atom1", "()I"⟩, 42), (⟨"CoatsFitTheMoodModel", "either2", "()I"⟩, 42), (⟨"CoatsFitTheMoodModel", "both2", "()I"⟩, 42), (⟨"CoatsFitTheMoodModel", "added0", "()I"⟩, 42), (⟨"CoatsFitTheMoodModel", "term0", "()I"⟩, 42), (⟨"CoatsFitTheMoodModel", "atom0", "()I"⟩, 42), (⟨"CoatsFitTheMoodModel", "either1", "()I"⟩, 42), (⟨"CoatsFitTheMoodModel", "both1", "()I"⟩, 42), (⟨"CoatsFitTheMoodModel", "hoursOf", "(I)I"⟩, 42), (⟨"CoatsFitTheMoodModel", "hoursBy", "(II)I"⟩, 42)]
theorem lw_r6 : ∀ q ∈ lw_privs_6, lw_okq q := List.forall_mem_cons.mpr ⟨lw_p80, List.forall_mem_cons.mpr ⟨lw_p81, List.forall_mem_cons.mpr ⟨lw_p82, List.forall_mem_cons.mpr ⟨lw_p83, List.forall_mem_cons.mpr ⟨lw_p84, List.forall_mem_cons.mpr ⟨lw_p85, List.forall_mem_cons.mpr ⟨lw_p86, List.forall_mem_cons.mpr ⟨lw_p87, List.forall_mem_cons.mpr ⟨lw_p88, List.forall_mem_cons.mpr ⟨lw_p89, List.forall_mem_cons.mpr ⟨lw_p90, List.forall_mem_cons.mpr ⟨lw_p91, List.forall_mem_cons.mpr ⟨lw_p92, List.forall_mem_cons.mpr ⟨lw_p93, List.forall_mem_cons.mpr ⟨lw_p94, List.forall_mem_cons.mpr ⟨lw_p95, fun _ h => absurd h List.not_mem_nil⟩⟩⟩⟩⟩⟩⟩⟩⟩⟩⟩⟩⟩⟩⟩⟩
theorem lw_p96 : lw_okq (⟨"CoatsFitTheMoodModel", "lays", "(III)V"⟩, 42) := ⟨⟨by decide +kernel, by decide +kernel⟩, List.mem_of_getElem? (i := 772) (by decide +kernel), List.mem_of_getElem? (i := 1159) (by decide +kernel), List.mem_of_getElem? (i := 1160) (by decide +kernel)⟩
theorem lw_p97 : lw_okq (⟨"CoatsFitTheMoodModel", "fineOf", "(III)I"⟩, 42) := ⟨⟨by decide +kernel, by decide +kernel⟩, List.mem_of_getElem? (i := 772) (by decide +kernel), List.mem_of_getElem? (i := 1189) (by decide +kernel), List.mem_of_getElem? (i := 1190) (by decide +kernel)⟩
theorem lw_p98 : lw_okq (⟨"CoatsFitTheMoodModel", "costOf", "(III)I"⟩, 42) := ⟨⟨by decide +kernel, by decide +kernel⟩, List.mem_of_getElem? (i := 772) (by decide +kernel), List.mem_of_getElem? (i := 1193) (by decide +kernel), List.mem_of_getElem? (i := 1194) (by decide +kernel)⟩
theorem lw_p99 : lw_okq (⟨"CoatsFitTheMoodModel", "pushed", "(III)V"⟩, 42) := ⟨⟨by decide +kernel, by decide +kernel⟩, List.mem_of_getElem? (i := 772) (by decide +kernel), List.mem_of_getElem? (i := 1206) (by decide +kernel), List.mem_of_getElem? (i := 1207) (by decide +kernel)⟩
theorem lw_p100 : lw_okq (⟨"CoatsFitTheMoodModel", "planBad", "(I)I"⟩, 42) := ⟨⟨by decide +kernel, by decide +kernel⟩, List.mem_of_getElem? (i := 772) (by decide +kernel), List.mem_of_getElem? (i := 1217) (by decide +kernel), List.mem_of_getElem? (i := 1218) (by decide +kernel)⟩
theorem lw_p101 : lw_okq (⟨"CoatsFitTheMoodModel", "planned", "(III)I"⟩, 42) := ⟨⟨by decide +kernel, by decide +kernel⟩, List.mem_of_getElem? (i := 772) (by decide +kernel), List.mem_of_getElem? (i := 1221) (by decide +kernel), List.mem_of_getElem? (i := 1222) (by decide +kernel)⟩
theorem lw_p102 : lw_okq (⟨"CoatsFitTheMoodModel", "wornAt", "(II)I"⟩, 42) := ⟨⟨by decide +kernel, by decide +kernel⟩, List.mem_of_getElem? (i := 772) (by decide +kernel), List.mem_of_getElem? (i := 1225) (by decide +kernel), List.mem_of_getElem? (i := 1226) (by decide +kernel)⟩
theorem lw_p103 : lw_okq (⟨"CoatsFitTheMoodModel", "coverOf", "(I)I"⟩, 42) := ⟨⟨by decide +kernel, by decide +kernel⟩, List.mem_of_getElem? (i := 772) (by decide +kernel), List.mem_of_getElem? (i := 1239) (by decide +kernel), List.mem_of_getElem? (i := 1240) (by decide +kernel)⟩
theorem lw_p104 : lw_okq (⟨"CoatsFitTheMoodModel", "rights", "(I)V"⟩, 42) := ⟨⟨by decide +kernel, by decide +kernel⟩, List.mem_of_getElem? (i := 772) (by decide +kernel), List.mem_of_getElem? (i := 1243) (by decide +kernel), List.mem_of_getElem? (i := 1244) (by decide +kernel)⟩
theorem lw_p105 : lw_okq (⟨"CoatsFitTheMoodModel", "covers", "(I)Z"⟩, 42) := ⟨⟨by decide +kernel, by decide +kernel⟩, List.mem_of_getElem? (i := 772) (by decide +kernel), List.mem_of_getElem? (i := 1250) (by decide +kernel), List.mem_of_getElem? (i := 1251) (by decide +kernel)⟩
theorem lw_p106 : lw_okq (⟨"CoatsFitTheMoodModel", "bareOf", "(I)I"⟩, 42) := ⟨⟨by decide +kernel, by decide +kernel⟩, List.mem_of_getElem? (i := 772) (by decide +kernel), List.mem_of_getElem? (i := 1254) (by decide +kernel), List.mem_of_getElem? (i := 1255) (by decide +kernel)⟩
theorem lw_p107 : lw_okq (⟨"CoatsFitTheMoodModel", "changesOf", "(I)I"⟩, 42) := ⟨⟨by decide +kernel, by decide +kernel⟩, List.mem_of_getElem? (i := 772) (by decide +kernel), List.mem_of_getElem? (i := 1258) (by decide +kernel), List.mem_of_getElem? (i := 1259) (by decide +kernel)⟩
theorem lw_p108 : lw_okq (⟨"CoatsFitTheMoodModel", "cheapOf", "(I)I"⟩, 42) := ⟨⟨by decide +kernel, by decide +kernel⟩, List.mem_of_getElem? (i := 772) (by decide +kernel), List.mem_of_getElem? (i := 1263) (by decide +kernel), List.mem_of_getElem? (i := 1264) (by decide +kernel)⟩
theorem lw_p109 : lw_okq (⟨"CoatsFitTheMoodModel", "byCoat", "(III)I"⟩, 42) := ⟨⟨by decide +kernel, by decide +kernel⟩, List.mem_of_getElem? (i := 772) (by decide +kernel), List.mem_of_getElem? (i := 1267) (by decide +kernel), List.mem_of_getElem? (i := 1268) (by decide +kernel)⟩
theorem lw_p110 : lw_okq (⟨"CoatsFitTheMoodModel", "laysAside", "(I)V"⟩, 42) := ⟨⟨by decide +kernel, by decide +kernel⟩, List.mem_of_getElem? (i := 772) (by decide +kernel), List.mem_of_getElem? (i := 1288) (by decide +kernel), List.mem_of_getElem? (i := 1289) (by decide +kernel)⟩
theorem lw_p111 : lw_okq (⟨"CoatsFitTheMoodModel", "laysBack", "(I)V"⟩, 42) := ⟨⟨by decide +kernel, by decide +kernel⟩, List.mem_of_getElem? (i := 772) (by decide +kernel), List.mem_of_getElem? (i := 1292) (by decide +kernel), List.mem_of_getElem? (i := 1293) (by decide +kernel)⟩
def lw_privs_7 : List (MethodName × Nat) := [(⟨"CoatsFitTheMoodModel", "lays", "(III)V"⟩, 42), (⟨"CoatsFitTheMoodModel", "fineOf", "(III)I"⟩, 42), (⟨"CoatsFitTheMoodModel", "costOf", "(III)I"⟩, 42), (⟨"CoatsFitTheMoodModel", "pushed", "(III)V"⟩, 42), (⟨"CoatsFitTheMoodModel", "planBad", "(I)I"⟩, 42), (⟨"CoatsFitTheMoodModel", "planned", "(III)I"⟩, 42), (⟨"CoatsFitTheMoodModel", "wornAt", "(II)I"⟩, 42), (⟨"CoatsFitTheMoodModel", "coverOf", "(I)I"⟩, 42), (⟨"CoatsFitTheMoodModel", "rights", "(I)V"⟩, 42), (⟨"CoatsFitTheMoodModel", "covers", "(I)Z"⟩, 42), (⟨"CoatsFitTheMoodModel", "bareOf", "(I)I"⟩, 42), (⟨"CoatsFitTheMoodModel", "changesOf", "(I)I"⟩, 42), (⟨"CoatsFitTheMoodModel", "cheapOf", "(I)I"⟩, 42), (⟨"CoatsFitTheMoodModel", "byCoat", "(III)I"⟩, 42), (⟨"CoatsFitTheMoodModel", "laysAside", "(I)V"⟩, 42), (⟨"CoatsFitTheMoodModel", "laysBack", "(I)V"⟩, 42)]
theorem lw_r7 : ∀ q ∈ lw_privs_7, lw_okq q := List.forall_mem_cons.mpr ⟨lw_p96, List.forall_mem_cons.mpr ⟨lw_p97, List.forall_mem_cons.mpr ⟨lw_p98, List.forall_mem_cons.mpr ⟨lw_p99, List.forall_mem_cons.mpr ⟨lw_p100, List.forall_mem_cons.mpr ⟨lw_p101, List.forall_mem_cons.mpr ⟨lw_p102, List.forall_mem_cons.mpr ⟨lw_p103, List.forall_mem_cons.mpr ⟨lw_p104, List.forall_mem_cons.mpr ⟨lw_p105, List.forall_mem_cons.mpr ⟨lw_p106, List.forall_mem_cons.mpr ⟨lw_p107, List.forall_mem_cons.mpr ⟨lw_p108, List.forall_mem_cons.mpr ⟨lw_p109, List.forall_mem_cons.mpr ⟨lw_p110, List.forall_mem_cons.mpr ⟨lw_p111, fun _ h => absurd h List.not_mem_nil⟩⟩⟩⟩⟩⟩⟩⟩⟩⟩⟩⟩⟩⟩⟩⟩
theorem lw_p112 : lw_okq (⟨"CoatsFitTheMoodModel", "apart", "(II)I"⟩, 42) := ⟨⟨by decide +kernel, by decide +kernel⟩, List.mem_of_getElem? (i := 772) (by decide +kernel), List.mem_of_getElem? (i := 1300) (by decide +kernel), List.mem_of_getElem? (i := 1301) (by decide +kernel)⟩
theorem lw_p113 : lw_okq (⟨"CoatsFitTheMoodModel", "firstOther", "(III)I"⟩, 42) := ⟨⟨by decide +kernel, by decide +kernel⟩, List.mem_of_getElem? (i := 772) (by decide +kernel), List.mem_of_getElem? (i := 1318) (by decide +kernel), List.mem_of_getElem? (i := 1319) (by decide +kernel)⟩
theorem lw_p114 : lw_okq (⟨"CoatsFitTheMoodModel", "hourSet", "(II)I"⟩, 42) := ⟨⟨by decide +kernel, by decide +kernel⟩, List.mem_of_getElem? (i := 772) (by decide +kernel), List.mem_of_getElem? (i := 1322) (by decide +kernel), List.mem_of_getElem? (i := 1323) (by decide +kernel)⟩
theorem lw_p115 : lw_okq (⟨"CoatsFitTheMoodModel", "cheapDrawn", "(II)I"⟩, 42) := ⟨⟨by decide +kernel, by decide +kernel⟩, List.mem_of_getElem? (i := 772) (by decide +kernel), List.mem_of_getElem? (i := 1335) (by decide +kernel), List.mem_of_getElem? (i := 1336) (by decide +kernel)⟩
def lw_privs_8 : List (MethodName × Nat) := [(⟨"CoatsFitTheMoodModel", "apart", "(II)I"⟩, 42), (⟨"CoatsFitTheMoodModel", "firstOther", "(III)I"⟩, 42), (⟨"CoatsFitTheMoodModel", "hourSet", "(II)I"⟩, 42), (⟨"CoatsFitTheMoodModel", "cheapDrawn", "(II)I"⟩, 42)]
theorem lw_r8 : ∀ q ∈ lw_privs_8, lw_okq q := List.forall_mem_cons.mpr ⟨lw_p112, List.forall_mem_cons.mpr ⟨lw_p113, List.forall_mem_cons.mpr ⟨lw_p114, List.forall_mem_cons.mpr ⟨lw_p115, fun _ h => absurd h List.not_mem_nil⟩⟩⟩⟩
def lw_privs : List (MethodName × Nat) := lw_privs_1 ++ (lw_privs_2 ++ (lw_privs_3 ++ (lw_privs_4 ++ (lw_privs_5 ++ (lw_privs_6 ++ (lw_privs_7 ++ (lw_privs_8)))))))
def lw_tbl : List Cond := k2_sels lw_privs ++ tables_1
theorem lw_privs_ok : ∀ q ∈ lw_privs, lw_okq q := by
  show ∀ q ∈ lw_privs_1 ++ (lw_privs_2 ++ (lw_privs_3 ++ (lw_privs_4 ++ (lw_privs_5 ++ (lw_privs_6 ++ (lw_privs_7 ++ (lw_privs_8))))))), lw_okq q
  exact List.forall_mem_append.mpr ⟨lw_r1, List.forall_mem_append.mpr ⟨lw_r2, List.forall_mem_append.mpr ⟨lw_r3, List.forall_mem_append.mpr ⟨lw_r4, List.forall_mem_append.mpr ⟨lw_r5, List.forall_mem_append.mpr ⟨lw_r6, List.forall_mem_append.mpr ⟨lw_r7, lw_r8⟩⟩⟩⟩⟩⟩⟩
-- ===== end of PART A; then your names; then what follows =====
end
section
/-! An abstract machine over which the methods' bytecode is read: cells are (kind, number, place), answers are carried on (a text's 'k'); what it answers, the machine answers (part 02). -/
abbrev AV : Type := Int32 ⊕ (Int64 ⊕ ((Nat × Nat) ⊕ Unit))
abbrev vI (x : Int32) : AV := .inl x
abbrev vL (x : Int64) : AV := .inr (.inl x)
abbrev vR (g i : Nat) : AV := .inr (.inr (.inl (g, i)))
abbrev vU : AV := .inr (.inr (.inr ()))
abbrev Sg : Type := Nat → Nat → Nat → Int32
def upd3 (σ : Sg) (g i j : Nat) (x : Int32) : Sg := fun g' i' j' => if g' = g ∧ i' = i ∧ j' = j then x else σ g' i' j'
/-- n numbers of a row come to another one -/
def cpy3 (σ : Sg) (g i sp g' i' dp n : Nat) : Sg := fun a b j => if a = g' ∧ b = i' ∧ dp ≤ j ∧ j < dp + n then σ g i (sp + (j - dp)) else σ a b j
abbrev AOp : Type := Nat × Nat × Nat × AV × List (Int × Nat)
def ab_nth {α : Type} (d : α) : List α → Nat → α
  | [], _ => d
  | x :: _, 0 => x
  | _ :: r, n + 1 => ab_nth d r n
/-- the lengths of the rows, by kind -/
def ab_lens : List Nat := [0, 0, 0, 160, 3, 40, 0, 160, 161, 161, 161, 0, 0, 40, 0, 216, 216, 216, 216, 24, 0, 72, 8, 72, 8, 6, 4, 0, 0, 0, 0, 960, 6, 160, 72, 8, 24, 24, 9, 9, 225, 216, 216, 24, 24, 72, 24, 4, 4, 4, 160]
abbrev ab_len (g : Nat) : Nat := ab_nth 0 ab_lens g
/-- of rows of references: the kind and the first number that they hold -/
def ab_refs : Nat → Nat × Nat := fun g => match g with
  | 22 => (1, 9)
  | 24 => (1, 0)
  | 25 => (2, 0)
  | 26 => (12, 0)
  | _ => (0, 0)
def ab_i2 (a : Nat) (x y : Int32) : Int32 := match a with
  | 0 => x + y
  | 1 => x - y
  | 2 => x * y
  | 3 => x &&& y
  | 4 => x ||| y
  | 5 => x <<< (y &&& 31)
  | 6 => x >>> (y &&& 31)
  | _ => (x.toUInt32 >>> (y.toUInt32 &&& 31)).toInt32
def ab_l2 (a : Nat) (x y : Int64) : Int64 := match a with
  | 0 => x + y
  | 1 => x - y
  | _ => x * y
def ab_lcmp (x y : Int64) : Int32 := if x < y then -1 else if x = y then 0 else 1
def ab_ka (j : Nat) : Int32 := ab_nth 0 [-1, 0, 0, 1, 2, 0] j
/-- the 12 words of the class: their letters -/
def ab_words : List (List Nat) := [[101, 97, 115, 101, 115], [102, 105, 110, 101, 115], [99, 111, 115, 116, 115], [111, 114], [97, 110, 100], [110, 111, 116], [99, 117, 116], [109, 111, 111, 100], [110, 117, 109, 98, 101, 114], [104, 111, 117, 114], [119, 111, 114, 110], [111, 102, 102]]
def ab_word (k : Nat) : List Nat := ab_nth [] ab_words k
def ab_set (L : List AV) (i : Nat) (v : AV) : List AV := match L, i with
  | [], _ => []
  | _ :: r, 0 => v :: r
  | x :: r, n + 1 => x :: ab_set r n v
def ab_isL (v : AV) : Bool := match v with
  | .inr (.inl _) => true
  | _ => false
def ab_un (v : AV) : AV := match v with
  | .inr (.inl _) => vU
  | v => v
/-- a local is laid; a long whose half it takes is gone -/
def ab_sto (L : List AV) (i : Nat) (v : AV) : List AV := match i with
  | 0 => ab_set L 0 v
  | n + 1 => ab_set (ab_set L n (ab_un (ab_nth vU L n))) (n + 1) v
/-- one step that neither jumps nor calls -/
def ab_st {R : Type} (op : AOp) (L st : List AV) (σ : Sg) (k : List AV → List AV → Sg → Option R) : Option R := match op with
  | (0, _, _, v, _) => k L (v :: st) σ
  | (1, a, _, _, _) => match ab_nth vU L a with
    | .inl x => k L (vI x :: st) σ
    | _ => none
  | (2, a, _, _, _) => match ab_nth vU L a with
    | .inr (.inl x) => k L (vL x :: st) σ
    | _ => none
  | (3, a, _, _, _) => match ab_nth vU L a with
    | .inr (.inr (.inl r)) => k L (.inr (.inr (.inl r)) :: st) σ
    | _ => none
  | (4, a, _, _, _) => match st with
    | .inl x :: st => k (ab_sto L a (vI x)) st σ
    | _ => none
  | (5, a, _, _, _) => match st with
    | .inr (.inl x) :: st => k (ab_set (ab_sto L a (vL x)) (a + 1) vU) st σ
    | _ => none
  | (6, a, _, _, _) => match st with
    | .inr (.inr (.inl r)) :: st => k (ab_sto L a (.inr (.inr (.inl r)))) st σ
    | _ => none
  | (7, a, _, v, _) => match ab_nth vU L a, v with
    | .inl x, .inl y => k (ab_set L a (vI (x + y))) st σ
    | _, _ => none
  | (8, a, _, _, _) => match st with
    | .inl y :: .inl x :: st => k L (vI (ab_i2 a x y) :: st) σ
    | _ => none
  | (9, a, _, _, _) => match st with
    | .inl y :: .inl x :: st => if y = 0 then none else k L (vI (match a with | 0 => x / y | _ => x % y) :: st) σ
    | _ => none
  | (10, a, _, _, _) => match st with
    | .inl x :: st => k L (vI (match a with | 0 => -x | 1 => x.toInt8.toInt32 | _ => x.toInt16.toInt32) :: st) σ
    | _ => none
  | (11, _, _, _, _) => match st with
    | .inl x :: st => k L (vL x.toInt64 :: st) σ
    | _ => none
  | (12, _, _, _, _) => match st with
    | .inr (.inl x) :: st => k L (vI x.toInt32 :: st) σ
    | _ => none
  | (13, a, _, _, _) => match st with
    | .inr (.inl y) :: .inr (.inl x) :: st => k L (vL (ab_l2 a x y) :: st) σ
    | _ => none
  | (14, a, _, _, _) => match st with
    | .inr (.inl y) :: .inr (.inl x) :: st => if y = 0 then none else k L (vL (match a with | 0 => x / y | _ => x % y) :: st) σ
    | _ => none
  | (15, _, _, _, _) => match st with
    | .inr (.inl y) :: .inr (.inl x) :: st => k L (vI (ab_lcmp x y) :: st) σ
    | _ => none
  | (16, _, _, _, _) => match st with
    | .inl x :: st => k L (vI x :: vI x :: st) σ
    | .inr (.inr (.inl r)) :: st => k L (.inr (.inr (.inl r)) :: .inr (.inr (.inl r)) :: st) σ
    | _ => none
  | (17, _, _, _, _) => match st with
    | .inl _ :: st => k L st σ
    | _ => none
  | (18, a, b, _, _) => match st with
    | .inr (.inr (.inl (g, i))) :: st => match Nat.beq g a with
      | true => k L (vI (σ a i b) :: st) σ
      | false => none
    | _ => none
  | (19, a, b, _, _) => match st with
    | .inr (.inr (.inl (g, i))) :: st => match Nat.beq g a with
      | true => k L (vL (σ a i b).toInt64 :: st) σ
      | false => none
    | _ => none
  | (20, a, _, v, _) => match st, v with
    | .inr (.inr (.inl (g, i))) :: st, .inr (.inr (.inl (g', o))) => match Nat.beq g a with
      | true => k L (vR g' (i + o) :: st) σ
      | false => none
    | _, _ => none
  | (21, a, b, _, _) => match st with
    | .inl x :: .inr (.inr (.inl (g, i))) :: st => match Nat.beq g a with
      | true => k L st (upd3 σ a i b x)
      | false => none
    | _ => none
  | (22, a, b, _, _) => match st with
    | .inl x :: .inr (.inr (.inl (g, i))) :: st => match Nat.beq g a with
      | true => k L st (upd3 σ a i b (x &&& 1))
      | false => none
    | _ => none
  | (23, a, b, _, _) => match st with
    | .inr (.inl x) :: .inr (.inr (.inl (g, i))) :: st => match Nat.beq g a with
      | true => if x.toInt32.toInt64 = x then k L st (upd3 σ a i b x.toInt32) else none
      | false => none
    | _ => none
  | (24, a, _, _, _) => match st with
    | .inl j :: .inr (.inr (.inl (g, i))) :: st => match Nat.beq g a with
      | true => if j < 0 then none else if ab_len a ≤ j.toNatClampNeg then none else k L (vI (σ a i j.toNatClampNeg) :: st) σ
      | false => none
    | _ => none
  | (25, a, _, _, _) => match st with
    | .inl x :: .inl j :: .inr (.inr (.inl (g, i))) :: st => match Nat.beq g a with
      | true => if j < 0 then none else if ab_len a ≤ j.toNatClampNeg then none else k L st (upd3 σ a i j.toNatClampNeg x)
      | false => none
    | _ => none
  | (26, a, _, _, _) => match st with
    | .inl j :: .inr (.inr (.inl (g, i))) :: st => match Nat.beq g a with
      | true => if j < 0 then none else if ab_len a ≤ j.toNatClampNeg then none else k L (vI (σ a i j.toNatClampNeg) :: st) σ
      | false => none
    | _ => none
  | (27, a, _, _, _) => match st with
    | .inl x :: .inl j :: .inr (.inr (.inl (g, i))) :: st => match Nat.beq g a with
      | true => if j < 0 then none else if ab_len a ≤ j.toNatClampNeg then none else k L st (upd3 σ a i j.toNatClampNeg (x &&& 1))
      | false => none
    | _ => none
  | (28, a, _, _, _) => match st with
    | .inl j :: .inr (.inr (.inl (g, _))) :: st => match Nat.beq g a with
      | true => if j < 0 then none else if ab_len a ≤ j.toNatClampNeg then none else k L (vR (ab_refs a).1 (j.toNatClampNeg + (ab_refs a).2) :: st) σ
      | false => none
    | _ => none
  | (29, a, _, _, _) => match st with
    | .inl y :: .inl x :: st => k L (vI (match a with | 0 => if x < y then y else x | _ => if x < y then x else y) :: st) σ
    | _ => none
  | (30, _, _, _, _) => match st with
    | .inl x :: st => k L (vI (if x < 0 then -x else x) :: st) σ
    | _ => none
  | (31, a, b, _, _) => match st with
    | .inl n :: .inl dp :: .inr (.inr (.inl (g', i'))) :: .inl sp :: .inr (.inr (.inl (g, i))) :: st => match Nat.beq g a && Nat.beq g' b with
      | true => if sp < 0 then none else if dp < 0 then none else if n < 0 then none else if ab_len a < sp.toNatClampNeg + n.toNatClampNeg then none else if ab_len b < dp.toNatClampNeg + n.toNatClampNeg then none else k L st (cpy3 σ a i sp.toNatClampNeg b i' dp.toNatClampNeg n.toNatClampNeg)
      | false => none
    | _ => none
  | (34, _, _, _, _) => match st with
    | .inl j :: .inr (.inr (.inl (61, _))) :: st => if j < 0 then none else if 6 ≤ j.toNatClampNeg then none else k L (vI (ab_ka j.toNatClampNeg) :: st) σ
    | _ => none
  | _ => none
def ab_lk {α : Type} : List (Nat × α) → Nat → Option α
  | [], _ => none
  | (i, x) :: r, n => match Nat.beq i n with
    | true => some x
    | false => ab_lk r n
abbrev ACall (R : Type) : Type := List AV → Sg → (AV → Sg → Option R) → Option R
abbrev ACut (R : Type) : Type := List AV → List AV → Sg → Option R
def ab_sw {R : Type} (x : Int32) (j : Nat → Option R) (d : Nat) : List (Int × Nat) → Option R
  | [] => j d
  | (c, t) :: r => if x = Int32.ofInt c then j t else ab_sw x j d r
def ab_cnd {R : Type} (c : Nat) (x y : Int32) (A B : Option R) : Option R := match c with
  | 0 => if x = y then A else B
  | 1 => if x = y then B else A
  | 2 => if x < y then A else B
  | 3 => if x < y then B else A
  | 4 => if y < x then A else B
  | _ => if y < x then B else A
def ab_cat (v : AV) : Nat := match v with
  | .inr (.inl _) => 2
  | _ => 1
def ab_cats : List AV → Nat
  | [] => 0
  | v :: r => ab_cat v + ab_cats r
/-- n of the stack, the deepest first -/
def ab_pop : Nat → List AV → List AV → Option (List AV × List AV)
  | 0, st, acc => some (acc, st)
  | _ + 1, [], _ => none
  | n + 1, v :: st, acc => ab_pop n st (v :: acc)
def ab_ev {R : Type} (tab : List (Nat × List AOp)) (Os : List (Nat × ACall R)) (Ks : List (Nat × ACut R)) (fin : AV → Sg → Option R) : Nat → List AOp → List AV → List AV → Sg → Option R
  | 0, _, _, _, _ => none
  | _ + 1, [], _, _, _ => none
  | n + 1, (k, a, b, v, ts) :: ops, L, st, σ => match k with
    | 40 => match ab_lk Ks a with
      | some c => c L st σ
      | none => match ab_lk tab a with
        | some o => ab_ev tab Os Ks fin n o L st σ
        | none => none
    | 41 => match st with
      | .inl x :: st => ab_cnd a x 0 (match ab_lk Ks b with
          | some c => c L st σ
          | none => match ab_lk tab b with
            | some o => ab_ev tab Os Ks fin n o L st σ
            | none => none) (ab_ev tab Os Ks fin n ops L st σ)
      | _ => none
    | 42 => match st with
      | .inl y :: .inl x :: st => ab_cnd a x y (match ab_lk Ks b with
          | some c => c L st σ
          | none => match ab_lk tab b with
            | some o => ab_ev tab Os Ks fin n o L st σ
            | none => none) (ab_ev tab Os Ks fin n ops L st σ)
      | _ => none
    | 43 => match st with
      | .inl x :: st => ab_sw x (fun t => match ab_lk Ks t with
          | some c => c L st σ
          | none => match ab_lk tab t with
            | some o => ab_ev tab Os Ks fin n o L st σ
            | none => none) a ts
      | _ => none
    | 44 => match ab_pop b st [] with
      | some (as, st') => match Nat.ble (ab_cats st') 8 with
        | true => match ab_lk Os a with
          | some f => f as σ (fun r σ1 => match r with
            | .inr (.inr (.inr _)) => ab_ev tab Os Ks fin n ops L st' σ1
            | .inl x => ab_ev tab Os Ks fin n ops L (vI x :: st') σ1
            | .inr (.inl x) => ab_ev tab Os Ks fin n ops L (vL x :: st') σ1
            | _ => none)
          | none => none
        | false => none
      | none => none
    | 45 => match a with
      | 0 => fin vU σ
      | 1 => match st with
        | .inl x :: _ => fin (vI x) σ
        | _ => none
      | 3 => match st with
        | .inl x :: _ => fin (vI (x &&& 1)) σ
        | _ => none
      | _ => match st with
        | .inr (.inl x) :: _ => fin (vL x) σ
        | _ => none
    | _ => ab_st (k, a, b, v, ts) L st σ (fun L' st' σ' => ab_ev tab Os Ks fin n ops L' st' σ')
/-- 1000, but nothing unfolds it -/
noncomputable def FU : Nat := Classical.choose (⟨1000, rfl⟩ : ∃ n : Nat, n = 1000)
theorem FU_eq : FU = 1000 := Classical.choose_spec (⟨1000, rfl⟩ : ∃ n : Nat, n = 1000)
/-- 40, but nothing unfolds it -/
noncomputable def RD : Nat := Classical.choose (⟨40, rfl⟩ : ∃ n : Nat, n = 40)
theorem RD_eq : RD = 40 := Classical.choose_spec (⟨40, rfl⟩ : ∃ n : Nat, n = 40)
abbrev finI (r : AV) (σ : Sg) : Option (Int32 × Sg) := match r with
  | .inl x => some (x, σ)
  | _ => none
abbrev finL (r : AV) (σ : Sg) : Option (Int64 × Sg) := match r with
  | .inr (.inl x) => some (x, σ)
  | _ => none
abbrev finV (r : AV) (σ : Sg) : Option Sg := match r with
  | .inr (.inr (.inr _)) => some σ
  | _ => none
end
section
/-! names: the classes, their fields, the methods by number (printed by wip/gen/names.py out of the listing) -/
def lw_good : List Cond := lw_tbl.filter goodWord
def rx_0 : String := "CoatsFitTheMood$Coat"
def tx_0 : u_T := fun k => match k with
  | 0 => ("CoatsFitTheMood$Coat", "kind", "I", false)
  | 1 => ("CoatsFitTheMood$Coat", "number", "I", false)
  | 2 => ("CoatsFitTheMood$Coat", "cut", "I", false)
  | _ => ("CoatsFitTheMood$Coat", "worn", "I", false)
def ty_0 : Nat → FieldType := fun k => match k with
  | 0 => .int
  | 1 => .int
  | 2 => .int
  | _ => .int
def rx_1 : String := "CoatsFitTheMood$Day"
def tx_1 : u_T := fun k => match k with
  | 0 => ("CoatsFitTheMood$Day", "fines", "[I", true)
  | 1 => ("CoatsFitTheMood$Day", "costs", "[I", true)
  | 2 => ("CoatsFitTheMood$Day", "keeping", "[I", true)
  | 3 => ("CoatsFitTheMood$Day", "least", "[I", true)
  | _ => ("CoatsFitTheMood$Day", "many", "I", false)
def ty_1 : Nat → FieldType := fun k => match k with
  | 0 => .array .int
  | 1 => .array .int
  | 2 => .array .int
  | 3 => .array .int
  | _ => .int
def rx_2 : String := "CoatsFitTheMood$Image"
def tx_2 : u_T := fun k => match k with
  | 0 => ("CoatsFitTheMood$Image", "moods", "[I", true)
  | 1 => ("CoatsFitTheMood$Image", "coats", "[LCoatsFitTheMood$Coat;", true)
  | 2 => ("CoatsFitTheMood$Image", "owned", "I", false)
  | _ => ("CoatsFitTheMood$Image", "rule", "I", false)
def ty_2 : Nat → FieldType := fun k => match k with
  | 0 => .array .int
  | 1 => .array (.object "CoatsFitTheMood$Coat")
  | 2 => .int
  | _ => .int
def rx_3 : String := "CoatsFitTheMood$Reader"
def tx_3 : u_T := fun k => match k with
  | 0 => ("CoatsFitTheMood$Reader", "tape", "LCoatsFitTheMood$Tape;", true)
  | _ => ("CoatsFitTheMood$Reader", "at", "I", false)
def ty_3 : Nat → FieldType := fun k => match k with
  | 0 => .object "CoatsFitTheMood$Tape"
  | _ => .int
def rx_4 : String := "CoatsFitTheMood$Sheet"
def tx_4 : u_T := fun k => match k with
  | 0 => ("CoatsFitTheMood$Sheet", "items", "[I", true)
  | 1 => ("CoatsFitTheMood$Sheet", "sort", "I", false)
  | _ => ("CoatsFitTheMood$Sheet", "size", "I", false)
def ty_4 : Nat → FieldType := fun k => match k with
  | 0 => .array .int
  | 1 => .int
  | _ => .int
def rx_5 : String := "CoatsFitTheMood$Tape"
def tx_5 : u_T := fun k => match k with
  | 0 => ("CoatsFitTheMood$Tape", "bytes", "[I", true)
  | 1 => ("CoatsFitTheMood$Tape", "tokens", "[I", true)
  | 2 => ("CoatsFitTheMood$Tape", "places", "[I", true)
  | 3 => ("CoatsFitTheMood$Tape", "numbers", "[I", true)
  | 4 => ("CoatsFitTheMood$Tape", "size", "I", false)
  | 5 => ("CoatsFitTheMood$Tape", "next", "I", false)
  | _ => ("CoatsFitTheMood$Tape", "many", "I", false)
def ty_5 : Nat → FieldType := fun k => match k with
  | 0 => .array .int
  | 1 => .array .int
  | 2 => .array .int
  | 3 => .array .int
  | 4 => .int
  | 5 => .int
  | _ => .int
def rx_6 : String := "CoatsFitTheMood$Text"
def tx_6 : u_T := fun k => match k with
  | 0 => ("CoatsFitTheMood$Text", "steps", "[I", true)
  | 1 => ("CoatsFitTheMood$Text", "ends", "[I", true)
  | 2 => ("CoatsFitTheMood$Text", "stack", "[I", true)
  | 3 => ("CoatsFitTheMood$Text", "size", "I", false)
  | _ => ("CoatsFitTheMood$Text", "top", "I", false)
def ty_6 : Nat → FieldType := fun k => match k with
  | 0 => .array .int
  | 1 => .array .int
  | 2 => .array .int
  | 3 => .int
  | _ => .int
def rx_7 : String := "CoatsFitTheMood"
def tx_7 : u_T := fun k => match k with
  | 0 => ("CoatsFitTheMood", "moods", "[I", true)
  | 1 => ("CoatsFitTheMood", "drawer", "[LCoatsFitTheMood$Coat;", true)
  | 2 => ("CoatsFitTheMood", "owned", "I", false)
  | 3 => ("CoatsFitTheMood", "trial", "LCoatsFitTheMood$Coat;", true)
  | 4 => ("CoatsFitTheMood", "texts", "[LCoatsFitTheMood$Text;", true)
  | 5 => ("CoatsFitTheMood", "written", "I", false)
  | 6 => ("CoatsFitTheMood", "rule", "I", false)
  | 7 => ("CoatsFitTheMood", "tape", "LCoatsFitTheMood$Tape;", true)
  | 8 => ("CoatsFitTheMood", "reader", "LCoatsFitTheMood$Reader;", true)
  | 9 => ("CoatsFitTheMood", "sheets", "[LCoatsFitTheMood$Sheet;", true)
  | 10 => ("CoatsFitTheMood", "choices", "LCoatsFitTheMood$Day;", true)
  | 11 => ("CoatsFitTheMood", "rights", "[I", true)
  | _ => ("CoatsFitTheMood", "kept", "LCoatsFitTheMood$Image;", true)
def ty_7 : Nat → FieldType := fun k => match k with
  | 0 => .array .int
  | 1 => .array (.object "CoatsFitTheMood$Coat")
  | 2 => .int
  | 3 => .object "CoatsFitTheMood$Coat"
  | 4 => .array (.object "CoatsFitTheMood$Text")
  | 5 => .int
  | 6 => .int
  | 7 => .object "CoatsFitTheMood$Tape"
  | 8 => .object "CoatsFitTheMood$Reader"
  | 9 => .array (.object "CoatsFitTheMood$Sheet")
  | 10 => .object "CoatsFitTheMood$Day"
  | 11 => .array .int
  | _ => .object "CoatsFitTheMood$Image"
def rx_8 : String := "CoatsFitTheMoodModel"
def tx_8 : u_T := fun k => match k with
  | 0 => ("CoatsFitTheMoodModel", "thrown", "I", false)
  | 1 => ("CoatsFitTheMoodModel", "texts", "[I", true)
  | 2 => ("CoatsFitTheMoodModel", "textSize", "[I", true)
  | 3 => ("CoatsFitTheMoodModel", "textCount", "I", false)
  | 4 => ("CoatsFitTheMoodModel", "rule", "I", false)
  | 5 => ("CoatsFitTheMoodModel", "tape", "[I", true)
  | 6 => ("CoatsFitTheMoodModel", "taped", "I", false)
  | 7 => ("CoatsFitTheMoodModel", "moods", "[I", true)
  | 8 => ("CoatsFitTheMoodModel", "kinds", "[I", true)
  | 9 => ("CoatsFitTheMoodModel", "rows", "[I", true)
  | 10 => ("CoatsFitTheMoodModel", "many", "I", false)
  | 11 => ("CoatsFitTheMoodModel", "ofCut", "I", false)
  | 12 => ("CoatsFitTheMoodModel", "ofMood", "I", false)
  | 13 => ("CoatsFitTheMoodModel", "ofNumber", "I", false)
  | 14 => ("CoatsFitTheMoodModel", "ofHour", "I", false)
  | 15 => ("CoatsFitTheMoodModel", "ofWorn", "I", false)
  | 16 => ("CoatsFitTheMoodModel", "ofOff", "I", false)
  | 17 => ("CoatsFitTheMoodModel", "from", "I", false)
  | 18 => ("CoatsFitTheMoodModel", "size", "I", false)
  | 19 => ("CoatsFitTheMoodModel", "here", "I", false)
  | 20 => ("CoatsFitTheMoodModel", "token", "I", false)
  | 21 => ("CoatsFitTheMoodModel", "tokenAt", "I", false)
  | 22 => ("CoatsFitTheMoodModel", "tokenWorth", "J", false)
  | 23 => ("CoatsFitTheMoodModel", "open", "I", false)
  | 24 => ("CoatsFitTheMoodModel", "bad", "Z", false)
  | 25 => ("CoatsFitTheMoodModel", "fault", "I", false)
  | 26 => ("CoatsFitTheMoodModel", "right", "[I", true)
  | 27 => ("CoatsFitTheMoodModel", "now", "[I", true)
  | 28 => ("CoatsFitTheMoodModel", "next", "[I", true)
  | 29 => ("CoatsFitTheMoodModel", "least1", "[I", true)
  | 30 => ("CoatsFitTheMoodModel", "fine1", "[I", true)
  | 31 => ("CoatsFitTheMoodModel", "cost1", "[I", true)
  | 32 => ("CoatsFitTheMoodModel", "wears", "[I", true)
  | 33 => ("CoatsFitTheMoodModel", "moodsWas", "[I", true)
  | 34 => ("CoatsFitTheMoodModel", "moodsKept", "[I", true)
  | 35 => ("CoatsFitTheMoodModel", "rowsKept", "[I", true)
  | 36 => ("CoatsFitTheMoodModel", "manyKept", "I", false)
  | 37 => ("CoatsFitTheMoodModel", "ruleKept", "I", false)
  | 38 => ("CoatsFitTheMoodModel", "isThere", "[Z", true)
  | 39 => ("CoatsFitTheMoodModel", "sorts", "[I", true)
  | 40 => ("CoatsFitTheMoodModel", "sheetSize", "[I", true)
  | _ => ("CoatsFitTheMoodModel", "items", "[I", true)
def ty_8 : Nat → FieldType := fun k => match k with
  | 0 => .int
  | 1 => .array .int
  | 2 => .array .int
  | 3 => .int
  | 4 => .int
  | 5 => .array .int
  | 6 => .int
  | 7 => .array .int
  | 8 => .array .int
  | 9 => .array .int
  | 10 => .int
  | 11 => .int
  | 12 => .int
  | 13 => .int
  | 14 => .int
  | 15 => .int
  | 16 => .int
  | 17 => .int
  | 18 => .int
  | 19 => .int
  | 20 => .int
  | 21 => .int
  | 22 => .long
  | 23 => .int
  | 24 => .boolean
  | 25 => .int
  | 26 => .array .int
  | 27 => .array .int
  | 28 => .array .int
  | 29 => .array .int
  | 30 => .array .int
  | 31 => .array .int
  | 32 => .array .int
  | 33 => .array .int
  | 34 => .array .int
  | 35 => .array .int
  | 36 => .int
  | 37 => .int
  | 38 => .array .boolean
  | 39 => .array .int
  | 40 => .array .int
  | _ => .array .int
def ab_cl : List vw_C := [(rx_0, tx_0, 4), (rx_1, tx_1, 5), (rx_2, tx_2, 4), (rx_3, tx_3, 2), (rx_4, tx_4, 3), (rx_5, tx_5, 7), (rx_6, tx_6, 5), (rx_7, tx_7, 13), (rx_8, tx_8, 42)]
def ab_ty (c : Nat) : Nat → FieldType := ab_nth ty_0 [ty_0, ty_1, ty_2, ty_3, ty_4, ty_5, ty_6, ty_7, ty_8] c
theorem nn_0 : ∀ a, a < 4 → ∀ b, b < 4 → a ≠ b → (tx_0 a).2.1 ≠ (tx_0 b).2.1 := by decide +kernel
theorem tt_0 : ∀ k, k < 4 → parseFieldDescriptor (tx_0 k).2.2.1 = some (ty_0 k) := by decide +kernel
theorem wi_0 : ∀ w ∈ u_ws rx_0 tx_0 4, w ∈ lw_good := by decide +kernel
theorem nn_1 : ∀ a, a < 5 → ∀ b, b < 5 → a ≠ b → (tx_1 a).2.1 ≠ (tx_1 b).2.1 := by decide +kernel
theorem tt_1 : ∀ k, k < 5 → parseFieldDescriptor (tx_1 k).2.2.1 = some (ty_1 k) := by decide +kernel
theorem wi_1 : ∀ w ∈ u_ws rx_1 tx_1 5, w ∈ lw_good := by decide +kernel
theorem nn_2 : ∀ a, a < 4 → ∀ b, b < 4 → a ≠ b → (tx_2 a).2.1 ≠ (tx_2 b).2.1 := by decide +kernel
theorem tt_2 : ∀ k, k < 4 → parseFieldDescriptor (tx_2 k).2.2.1 = some (ty_2 k) := by decide +kernel
theorem wi_2 : ∀ w ∈ u_ws rx_2 tx_2 4, w ∈ lw_good := by decide +kernel
theorem nn_3 : ∀ a, a < 2 → ∀ b, b < 2 → a ≠ b → (tx_3 a).2.1 ≠ (tx_3 b).2.1 := by decide +kernel
theorem tt_3 : ∀ k, k < 2 → parseFieldDescriptor (tx_3 k).2.2.1 = some (ty_3 k) := by decide +kernel
theorem wi_3 : ∀ w ∈ u_ws rx_3 tx_3 2, w ∈ lw_good := by decide +kernel
theorem nn_4 : ∀ a, a < 3 → ∀ b, b < 3 → a ≠ b → (tx_4 a).2.1 ≠ (tx_4 b).2.1 := by decide +kernel
theorem tt_4 : ∀ k, k < 3 → parseFieldDescriptor (tx_4 k).2.2.1 = some (ty_4 k) := by decide +kernel
theorem wi_4 : ∀ w ∈ u_ws rx_4 tx_4 3, w ∈ lw_good := by decide +kernel
theorem nn_5 : ∀ a, a < 7 → ∀ b, b < 7 → a ≠ b → (tx_5 a).2.1 ≠ (tx_5 b).2.1 := by decide +kernel
theorem tt_5 : ∀ k, k < 7 → parseFieldDescriptor (tx_5 k).2.2.1 = some (ty_5 k) := by decide +kernel
theorem wi_5 : ∀ w ∈ u_ws rx_5 tx_5 7, w ∈ lw_good := by decide +kernel
theorem nn_6 : ∀ a, a < 5 → ∀ b, b < 5 → a ≠ b → (tx_6 a).2.1 ≠ (tx_6 b).2.1 := by decide +kernel
theorem tt_6 : ∀ k, k < 5 → parseFieldDescriptor (tx_6 k).2.2.1 = some (ty_6 k) := by decide +kernel
theorem wi_6 : ∀ w ∈ u_ws rx_6 tx_6 5, w ∈ lw_good := by decide +kernel
theorem nn_7 : ∀ a, a < 13 → ∀ b, b < 13 → a ≠ b → (tx_7 a).2.1 ≠ (tx_7 b).2.1 := by decide +kernel
theorem tt_7 : ∀ k, k < 13 → parseFieldDescriptor (tx_7 k).2.2.1 = some (ty_7 k) := by decide +kernel
theorem wi_7 : ∀ w ∈ u_ws rx_7 tx_7 13, w ∈ lw_good := by decide +kernel
theorem nn_8 : ∀ a, a < 42 → ∀ b, b < 42 → a ≠ b → (tx_8 a).2.1 ≠ (tx_8 b).2.1 := by decide +kernel
theorem tt_8 : ∀ k, k < 42 → parseFieldDescriptor (tx_8 k).2.2.1 = some (ty_8 k) := by decide +kernel
theorem wi_8 : ∀ w ∈ u_ws rx_8 tx_8 42, w ∈ lw_good := by decide +kernel
theorem ab_cl_at {c : Nat} {q : vw_C} (h : ab_cl[c]? = some q) : (c = 0 ∧ q = (rx_0, tx_0, 4)) ∨ (c = 1 ∧ q = (rx_1, tx_1, 5)) ∨ (c = 2 ∧ q = (rx_2, tx_2, 4)) ∨ (c = 3 ∧ q = (rx_3, tx_3, 2)) ∨ (c = 4 ∧ q = (rx_4, tx_4, 3)) ∨ (c = 5 ∧ q = (rx_5, tx_5, 7)) ∨ (c = 6 ∧ q = (rx_6, tx_6, 5)) ∨ (c = 7 ∧ q = (rx_7, tx_7, 13)) ∨ (c = 8 ∧ q = (rx_8, tx_8, 42)) := by
  match c with
  | 0 => exact Or.inl ⟨rfl, (Option.some.inj h).symm⟩
  | 1 => exact Or.inr (Or.inl ⟨rfl, (Option.some.inj h).symm⟩)
  | 2 => exact Or.inr (Or.inr (Or.inl ⟨rfl, (Option.some.inj h).symm⟩))
  | 3 => exact Or.inr (Or.inr (Or.inr (Or.inl ⟨rfl, (Option.some.inj h).symm⟩)))
  | 4 => exact Or.inr (Or.inr (Or.inr (Or.inr (Or.inl ⟨rfl, (Option.some.inj h).symm⟩))))
  | 5 => exact Or.inr (Or.inr (Or.inr (Or.inr (Or.inr (Or.inl ⟨rfl, (Option.some.inj h).symm⟩)))))
  | 6 => exact Or.inr (Or.inr (Or.inr (Or.inr (Or.inr (Or.inr (Or.inl ⟨rfl, (Option.some.inj h).symm⟩))))))
  | 7 => exact Or.inr (Or.inr (Or.inr (Or.inr (Or.inr (Or.inr (Or.inr (Or.inl ⟨rfl, (Option.some.inj h).symm⟩)))))))
  | 8 => exact Or.inr (Or.inr (Or.inr (Or.inr (Or.inr (Or.inr (Or.inr (Or.inr (⟨rfl, (Option.some.inj h).symm⟩))))))))
  | n + 9 => exact absurd h (by simp [ab_cl])
theorem ab_cl_in {c : Nat} {C : String} {T : u_T} {N : Nat} (h : ab_cl[c]? = some (C, T, N)) : ∀ w ∈ u_ws C T N, w ∈ lw_good := by
  rcases ab_cl_at h with ⟨rfl, e⟩ | ⟨rfl, e⟩ | ⟨rfl, e⟩ | ⟨rfl, e⟩ | ⟨rfl, e⟩ | ⟨rfl, e⟩ | ⟨rfl, e⟩ | ⟨rfl, e⟩ | ⟨rfl, e⟩
  · cases e; exact wi_0
  · cases e; exact wi_1
  · cases e; exact wi_2
  · cases e; exact wi_3
  · cases e; exact wi_4
  · cases e; exact wi_5
  · cases e; exact wi_6
  · cases e; exact wi_7
  · cases e; exact wi_8
theorem ab_cl_nn {c : Nat} {C : String} {T : u_T} {N : Nat} (h : ab_cl[c]? = some (C, T, N)) : ∀ a, a < N → ∀ b, b < N → a ≠ b → (T a).2.1 ≠ (T b).2.1 := by
  rcases ab_cl_at h with ⟨rfl, e⟩ | ⟨rfl, e⟩ | ⟨rfl, e⟩ | ⟨rfl, e⟩ | ⟨rfl, e⟩ | ⟨rfl, e⟩ | ⟨rfl, e⟩ | ⟨rfl, e⟩ | ⟨rfl, e⟩
  · cases e; exact nn_0
  · cases e; exact nn_1
  · cases e; exact nn_2
  · cases e; exact nn_3
  · cases e; exact nn_4
  · cases e; exact nn_5
  · cases e; exact nn_6
  · cases e; exact nn_7
  · cases e; exact nn_8
theorem ab_cl_tt {c : Nat} {C : String} {T : u_T} {N : Nat} (h : ab_cl[c]? = some (C, T, N)) : ∀ k, k < N → parseFieldDescriptor (T k).2.2.1 = some (ab_ty c k) := by
  rcases ab_cl_at h with ⟨rfl, e⟩ | ⟨rfl, e⟩ | ⟨rfl, e⟩ | ⟨rfl, e⟩ | ⟨rfl, e⟩ | ⟨rfl, e⟩ | ⟨rfl, e⟩ | ⟨rfl, e⟩ | ⟨rfl, e⟩
  · cases e; exact tt_0
  · cases e; exact tt_1
  · cases e; exact tt_2
  · cases e; exact tt_3
  · cases e; exact tt_4
  · cases e; exact tt_5
  · cases e; exact tt_6
  · cases e; exact tt_7
  · cases e; exact tt_8
/-- a kind: 0 objects, 1 rows of ints, 2 rows of booleans, 3 rows of references, 9 none -/
def ab_kds : List Nat := [0, 0, 0, 1, 1, 1, 0, 1, 1, 1, 1, 0, 0, 1, 0, 1, 1, 1, 1, 1, 0, 1, 3, 1, 3, 3, 3, 9, 9, 9, 0, 1, 1, 1, 1, 1, 1, 1, 1, 1, 1, 1, 1, 1, 1, 1, 1, 2, 1, 1, 1]
abbrev ab_kd (g : Nat) : Nat := ab_nth 9 ab_kds g
def ab_cis : List Nat := [7, 0, 6, 99, 99, 99, 5, 99, 99, 99, 99, 3, 4, 99, 1, 99, 99, 99, 99, 99, 2, 99, 99, 99, 99, 99, 99, 99, 99, 99, 8, 99, 99, 99, 99, 99, 99, 99, 99, 99, 99, 99, 99, 99, 99, 99, 99, 99, 99, 99, 99]
abbrev ab_ci (g : Nat) : Nat := ab_nth 99 ab_cis g
/-- the fields of a kind of objects: 0 int, 1 long, 2 a reference (to which kind, how far off) -/
def ab_fds : Nat → List (Nat × Nat × Nat) := fun g => match g with
  | 0 => [(2, 23, 0), (2, 24, 0), (0, 0, 0), (2, 1, 8), (2, 25, 0), (0, 0, 0), (0, 0, 0), (2, 6, 0), (2, 11, 0), (2, 26, 0), (2, 14, 0), (2, 19, 0), (2, 20, 0)]
  | 1 => [(0, 0, 0), (0, 0, 0), (0, 0, 0), (0, 0, 0)]
  | 2 => [(2, 3, 0), (2, 4, 0), (2, 5, 0), (0, 0, 0), (0, 0, 0)]
  | 6 => [(2, 7, 0), (2, 8, 0), (2, 9, 0), (2, 10, 0), (0, 0, 0), (0, 0, 0), (0, 0, 0)]
  | 11 => [(2, 6, 0), (0, 0, 0)]
  | 12 => [(2, 13, 0), (0, 0, 0), (0, 0, 0)]
  | 14 => [(2, 15, 0), (2, 16, 0), (2, 17, 0), (2, 18, 0), (0, 0, 0)]
  | 20 => [(2, 21, 0), (2, 22, 0), (0, 0, 0), (0, 0, 0)]
  | 30 => [(0, 0, 0), (2, 31, 0), (2, 32, 0), (0, 0, 0), (0, 0, 0), (2, 33, 0), (0, 0, 0), (2, 34, 0), (2, 35, 0), (2, 36, 0), (0, 0, 0), (0, 0, 0), (0, 0, 0), (0, 0, 0), (0, 0, 0), (0, 0, 0), (0, 0, 0), (0, 0, 0), (0, 0, 0), (0, 0, 0), (0, 0, 0), (0, 0, 0), (1, 0, 0), (0, 0, 0), (0, 0, 0), (0, 0, 0), (2, 37, 0), (2, 38, 0), (2, 39, 0), (2, 40, 0), (2, 41, 0), (2, 42, 0), (2, 43, 0), (2, 44, 0), (2, 45, 0), (2, 46, 0), (0, 0, 0), (0, 0, 0), (2, 47, 0), (2, 48, 0), (2, 49, 0), (2, 50, 0)]
  | _ => []
def ab_rt (g : Nat) : Nat := match g with
  | 25 => 3
  | 26 => 4
  | _ => 2
def ab_on : Nat → String := ab_nth "" [rx_0, rx_1, rx_2, rx_3, rx_4, rx_5, rx_6, rx_7, rx_8, "java/lang/Integer", "java/lang/String"]
/-- the name of the class of a kind of objects -/
def ab_rn (g : Nat) : String := match g with
  | 0 => rx_7
  | 1 => rx_0
  | 2 => rx_6
  | 6 => rx_5
  | 11 => rx_3
  | 12 => rx_4
  | 14 => rx_1
  | 20 => rx_2
  | 30 => rx_8
  | 60 => "java/lang/String"
  | _ => ""
def ab_mys : List MethodName := [⟨rx_7, "set", "(III)I"⟩,
  ⟨rx_7, "setMood", "(II)I"⟩,
  ⟨rx_7, "coat", "(III)I"⟩,
  ⟨rx_7, "told", "(II)I"⟩,
  ⟨rx_7, "asks", "(III)I"⟩,
  ⟨rx_7, "feed", "(I)I"⟩,
  ⟨rx_7, "text", "()I"⟩,
  ⟨rx_7, "force", "(I)I"⟩,
  ⟨rx_7, "push", "(III)I"⟩,
  ⟨rx_7, "plan", "(III)I"⟩,
  ⟨rx_7, "wear", "(II)I"⟩,
  ⟨rx_7, "day", "(II)I"⟩,
  ⟨rx_7, "dress", "(II)I"⟩,
  ⟨rx_7, "anew", "(III)I"⟩,
  ⟨rx_7, "pushes", "(III)I"⟩,
  ⟨rx_7, "all", "(I)I"⟩,
  ⟨rx_7, "mean", "(II)J"⟩,
  ⟨rx_7, "tells", "(IIII)I"⟩,
  ⟨rx_7, "film", "(IIII)I"⟩,
  ⟨rx_7, "drawn", "(II)I"⟩,
  ⟨rx_7, "chance", "(IIIII)J"⟩,
  ⟨rx_7, "image", "()I"⟩,
  ⟨rx_7, "back", "()I"⟩,
  ⟨rx_7, "count", "(I)I"⟩,
  ⟨rx_7, "sheet", "(III)I"⟩,
  ⟨rx_7, "cell", "(III)I"⟩,
  ⟨rx_7, "copy", "(IIIII)I"⟩,
  ⟨rx_7, "coats", "(IIII)I"⟩,
  ⟨rx_7, "taken", "(II)I"⟩,
  ⟨rx_7, "isOne", "(I)Z"⟩,
  ⟨rx_7, "isHour", "(I)Z"⟩,
  ⟨rx_7, "isPlace", "(I)Z"⟩,
  ⟨rx_7, "isCoat", "(I)Z"⟩,
  ⟨rx_7, "isSheet", "(I)Z"⟩,
  ⟨rx_7, "isPush", "(I)Z"⟩,
  ⟨rx_7, "mostOf", "(I)I"⟩,
  ⟨rx_7, "bounded", "(I)I"⟩,
  ⟨rx_7, "inLowestTerms", "(III)J"⟩,
  ⟨rx_7, "moodAt", "(II)I"⟩,
  ⟨rx_7, "giveMood", "(III)V"⟩,
  ⟨rx_7, "fitsAt", "(LCoatsFitTheMood$Text;LCoatsFitTheMood$Coat;II)Z"⟩,
  ⟨rx_7, "fineAt", "(III)I"⟩,
  ⟨rx_7, "costAt", "(III)I"⟩,
  ⟨rx_7, "rightAt", "(II)I"⟩,
  ⟨rx_7, "hoursOf", "(LCoatsFitTheMood$Coat;I)I"⟩,
  ⟨rx_7, "hoursOfEverybody", "(LCoatsFitTheMood$Coat;)I"⟩,
  ⟨rx_7, "wornTogether", "()I"⟩,
  ⟨rx_7, "planRefusal", "(LCoatsFitTheMood$Sheet;)I"⟩,
  ⟨rx_7, "planTold", "(LCoatsFitTheMood$Sheet;II)I"⟩,
  ⟨rx_7, "tellHour", "(II)V"⟩,
  ⟨rx_7, "tellDay", "(I)V"⟩,
  ⟨rx_7, "cheapCost", "(I)I"⟩,
  ⟨rx_7, "drawnCost", "(I)I"⟩,
  ⟨rx_7, "bare", "(I)I"⟩,
  ⟨rx_7, "cover", "(I)I"⟩,
  ⟨rx_7, "covers", "(I)Z"⟩,
  ⟨rx_7, "changes", "(I)I"⟩,
  ⟨rx_7, "useless", "()I"⟩,
  ⟨rx_7, "alike", "(Z)I"⟩,
  ⟨rx_7, "apart", "(II)I"⟩,
  ⟨rx_7, "firstOtherwise", "(LCoatsFitTheMood$Sheet;LCoatsFitTheMood$Text;LCoatsFitTheMood$Coat;I)I"⟩,
  ⟨rx_7, "wouldBeSo", "(LCoatsFitTheMood$Sheet;IIII)Z"⟩,
  ⟨rx_7, "bitsBy", "(LCoatsFitTheMood$Sheet;IIII)I"⟩,
  ⟨rx_7, "manyBy", "(LCoatsFitTheMood$Sheet;IIII)I"⟩,
  ⟨rx_7, "leastBy", "(LCoatsFitTheMood$Sheet;IIII)I"⟩,
  ⟨rx_8, "in", "(JJJ)Z"⟩,
  ⟨rx_8, "within", "(III)I"⟩,
  ⟨rx_8, "isCoat", "(I)Z"⟩,
  ⟨rx_8, "isHour", "(I)Z"⟩,
  ⟨rx_8, "isOne", "(I)Z"⟩,
  ⟨rx_8, "isOf", "(II)Z"⟩,
  ⟨rx_8, "placeOf", "(I)I"⟩,
  ⟨rx_8, "mostOf", "(I)I"⟩,
  ⟨rx_8, "set", "(III)I"⟩,
  ⟨rx_8, "lays", "(III)V"⟩,
  ⟨rx_8, "coat", "(III)I"⟩,
  ⟨rx_8, "told", "(II)I"⟩,
  ⟨rx_8, "feed", "(I)I"⟩,
  ⟨rx_8, "byteAt", "(I)I"⟩,
  ⟨rx_8, "next", "()V"⟩,
  ⟨rx_8, "fail", "()V"⟩,
  ⟨rx_8, "isLetter", "(II)Z"⟩,
  ⟨rx_8, "isWord", "(IIIIIIII)Z"⟩,
  ⟨rx_8, "isSign", "(I)Z"⟩,
  ⟨rx_8, "opens", "()Z"⟩,
  ⟨rx_8, "name", "()I"⟩,
  ⟨rx_8, "atom5", "()I"⟩,
  ⟨rx_8, "term5", "()I"⟩,
  ⟨rx_8, "added5", "()I"⟩,
  ⟨rx_8, "not5", "()I"⟩,
  ⟨rx_8, "both5", "()I"⟩,
  ⟨rx_8, "either5", "()I"⟩,
  ⟨rx_8, "atom4", "()I"⟩,
  ⟨rx_8, "term4", "()I"⟩,
  ⟨rx_8, "added4", "()I"⟩,
  ⟨rx_8, "not4", "()I"⟩,
  ⟨rx_8, "both4", "()I"⟩,
  ⟨rx_8, "either4", "()I"⟩,
  ⟨rx_8, "atom3", "()I"⟩,
  ⟨rx_8, "term3", "()I"⟩,
  ⟨rx_8, "added3", "()I"⟩,
  ⟨rx_8, "not3", "()I"⟩,
  ⟨rx_8, "both3", "()I"⟩,
  ⟨rx_8, "either3", "()I"⟩,
  ⟨rx_8, "atom2", "()I"⟩,
  ⟨rx_8, "term2", "()I"⟩,
  ⟨rx_8, "added2", "()I"⟩,
  ⟨rx_8, "not2", "()I"⟩,
  ⟨rx_8, "both2", "()I"⟩,
  ⟨rx_8, "either2", "()I"⟩,
  ⟨rx_8, "atom1", "()I"⟩,
  ⟨rx_8, "term1", "()I"⟩,
  ⟨rx_8, "added1", "()I"⟩,
  ⟨rx_8, "not1", "()I"⟩,
  ⟨rx_8, "both1", "()I"⟩,
  ⟨rx_8, "either1", "()I"⟩,
  ⟨rx_8, "atom0", "()I"⟩,
  ⟨rx_8, "term0", "()I"⟩,
  ⟨rx_8, "added0", "()I"⟩,
  ⟨rx_8, "not0", "()I"⟩,
  ⟨rx_8, "both0", "()I"⟩,
  ⟨rx_8, "either0", "()I"⟩,
  ⟨rx_8, "part", "(Z)I"⟩,
  ⟨rx_8, "read", "(II)I"⟩,
  ⟨rx_8, "text", "()I"⟩,
  ⟨rx_8, "force", "(I)I"⟩,
  ⟨rx_8, "offOf", "(II)I"⟩,
  ⟨rx_8, "says", "(IIII)I"⟩,
  ⟨rx_8, "fits", "(III)Z"⟩,
  ⟨rx_8, "fineOf", "(III)I"⟩,
  ⟨rx_8, "costOf", "(III)I"⟩,
  ⟨rx_8, "asks", "(III)I"⟩,
  ⟨rx_8, "rightAt", "(II)I"⟩,
  ⟨rx_8, "hoursBy", "(II)I"⟩,
  ⟨rx_8, "hoursOf", "(I)I"⟩,
  ⟨rx_8, "pushed", "(III)V"⟩,
  ⟨rx_8, "push", "(III)I"⟩,
  ⟨rx_8, "planBad", "(I)I"⟩,
  ⟨rx_8, "wornAt", "(II)I"⟩,
  ⟨rx_8, "planned", "(III)I"⟩,
  ⟨rx_8, "plan", "(III)I"⟩,
  ⟨rx_8, "wear", "(II)I"⟩,
  ⟨rx_8, "bitsOf", "(I)I"⟩,
  ⟨rx_8, "rights", "(I)V"⟩,
  ⟨rx_8, "covers", "(I)Z"⟩,
  ⟨rx_8, "coverOf", "(I)I"⟩,
  ⟨rx_8, "bareOf", "(I)I"⟩,
  ⟨rx_8, "changesOf", "(I)I"⟩,
  ⟨rx_8, "byCoat", "(III)I"⟩,
  ⟨rx_8, "cheapOf", "(I)I"⟩,
  ⟨rx_8, "day", "(II)I"⟩,
  ⟨rx_8, "dress", "(II)I"⟩,
  ⟨rx_8, "anew", "(III)I"⟩,
  ⟨rx_8, "laysAside", "(I)V"⟩,
  ⟨rx_8, "laysBack", "(I)V"⟩,
  ⟨rx_8, "pushes", "(III)I"⟩,
  ⟨rx_8, "apart", "(II)I"⟩,
  ⟨rx_8, "all", "(I)I"⟩,
  ⟨rx_8, "lowest", "(JJI)J"⟩,
  ⟨rx_8, "mean", "(II)J"⟩,
  ⟨rx_8, "firstOther", "(III)I"⟩,
  ⟨rx_8, "hourSet", "(II)I"⟩,
  ⟨rx_8, "tells", "(IIII)I"⟩,
  ⟨rx_8, "film", "(IIII)I"⟩,
  ⟨rx_8, "cheapDrawn", "(II)I"⟩,
  ⟨rx_8, "drawn", "(II)I"⟩,
  ⟨rx_8, "chance", "(IIIII)J"⟩,
  ⟨rx_8, "image", "()I"⟩,
  ⟨rx_8, "back", "()I"⟩,
  ⟨rx_8, "count", "(I)I"⟩,
  ⟨rx_8, "isSheet", "(I)Z"⟩,
  ⟨rx_8, "sheet", "(III)I"⟩,
  ⟨rx_8, "cell", "(III)I"⟩,
  ⟨rx_8, "copy", "(IIIII)I"⟩,
  ⟨rx_8, "coats", "(IIII)I"⟩,
  ⟨rx_8, "over", "(I)I"⟩,
  ⟨rx_8, "taken", "(II)I"⟩,
  ⟨rx_0, "comeAs", "(III)V"⟩,
  ⟨rx_0, "become", "(LCoatsFitTheMood$Coat;)V"⟩,
  ⟨rx_0, "trait", "(I)I"⟩,
  ⟨rx_0, "giveTrait", "(II)V"⟩,
  ⟨rx_0, "wornLonger", "()V"⟩,
  ⟨rx_0, "isUnder", "(I)Z"⟩,
  ⟨rx_0, "off", "(I)I"⟩,
  ⟨rx_0, "fits", "(II)Z"⟩,
  ⟨rx_0, "fine", "(I)I"⟩,
  ⟨rx_0, "cost", "(I)I"⟩,
  ⟨rx_1, "tell", "(IIII)V"⟩,
  ⟨rx_1, "cheapest", "()I"⟩,
  ⟨rx_1, "wornAt", "(I)I"⟩,
  ⟨rx_1, "firstBehind", "(II)I"⟩,
  ⟨rx_3, "readText", "(LCoatsFitTheMood$Text;)I"⟩,
  ⟨rx_3, "stepOver", "(I)Z"⟩,
  ⟨rx_3, "level", "(LCoatsFitTheMood$Text;II)Z"⟩,
  ⟨rx_3, "joins", "(II)Z"⟩,
  ⟨rx_3, "one", "(LCoatsFitTheMood$Text;I)Z"⟩,
  ⟨rx_3, "prefixed", "(LCoatsFitTheMood$Text;III)Z"⟩,
  ⟨rx_3, "bracketed", "(LCoatsFitTheMood$Text;I)Z"⟩,
  ⟨rx_4, "become", "(II)V"⟩,
  ⟨rx_4, "put", "(II)V"⟩,
  ⟨rx_4, "item", "(I)I"⟩,
  ⟨rx_4, "hasRow", "(II)Z"⟩,
  ⟨rx_5, "add", "(I)Z"⟩,
  ⟨rx_5, "clear", "()V"⟩,
  ⟨rx_5, "token", "(I)I"⟩,
  ⟨rx_5, "place", "(I)I"⟩,
  ⟨rx_5, "number", "(I)I"⟩,
  ⟨rx_5, "scan", "()V"⟩,
  ⟨rx_5, "scanOne", "(I)I"⟩,
  ⟨rx_5, "scanNumber", "(I)I"⟩,
  ⟨rx_5, "scanWord", "(I)I"⟩,
  ⟨rx_5, "isWord", "(ILjava/lang/String;)Z"⟩,
  ⟨rx_5, "byteAt", "(I)I"⟩,
  ⟨rx_5, "isBlank", "(I)Z"⟩,
  ⟨rx_5, "isLetter", "(I)Z"⟩,
  ⟨rx_5, "isDigit", "(I)Z"⟩,
  ⟨rx_5, "isSign", "(I)Z"⟩,
  ⟨rx_6, "clear", "()V"⟩,
  ⟨rx_6, "addNumber", "(I)V"⟩,
  ⟨rx_6, "addToken", "(I)V"⟩,
  ⟨rx_6, "endPart", "(I)V"⟩,
  ⟨rx_6, "value", "(ILCoatsFitTheMood$Coat;II)I"⟩,
  ⟨rx_6, "lay", "(I)V"⟩,
  ⟨rx_6, "lift", "()I"⟩,
  ⟨rx_6, "named", "(ILCoatsFitTheMood$Coat;II)I"⟩,
  ⟨rx_6, "join", "(I)V"⟩,
  ⟨rx_6, "joined", "(III)I"⟩,
  ⟨"java/lang/Integer", "bitCount", "(I)I"⟩,
  ⟨"java/lang/String", "length", "()I"⟩,
  ⟨"java/lang/String", "charAt", "(I)C"⟩]
def ab_mbs : List ByteArray := [prog_1_method_2_code, prog_1_method_3_code, prog_1_method_4_code, prog_1_method_5_code, prog_1_method_6_code, prog_1_method_7_code, prog_1_method_8_code, prog_1_method_9_code, prog_1_method_10_code, prog_1_method_11_code, prog_1_method_12_code, prog_1_method_13_code, prog_1_method_14_code, prog_1_method_15_code, prog_1_method_16_code, prog_1_method_17_code, prog_1_method_18_code, prog_1_method_19_code, prog_1_method_20_code, prog_1_method_21_code, prog_1_method_22_code, prog_1_method_23_code, prog_1_method_24_code, prog_1_method_25_code, prog_1_method_26_code, prog_1_method_27_code, prog_1_method_28_code, prog_1_method_29_code, prog_1_method_30_code, prog_1_method_31_code, prog_1_method_32_code, prog_1_method_33_code, prog_1_method_34_code, prog_1_method_35_code, prog_1_method_36_code, prog_1_method_37_code, prog_1_method_38_code, prog_1_method_39_code, prog_1_method_40_code, prog_1_method_41_code, prog_1_method_42_code, prog_1_method_43_code, prog_1_method_44_code, prog_1_method_45_code, prog_1_method_46_code, prog_1_method_47_code, prog_1_method_48_code, prog_1_method_49_code, prog_1_method_50_code, prog_1_method_51_code, prog_1_method_52_code, prog_1_method_53_code, prog_1_method_54_code, prog_1_method_55_code, prog_1_method_56_code, prog_1_method_57_code, prog_1_method_58_code, prog_1_method_59_code, prog_1_method_60_code, prog_1_method_61_code, prog_1_method_62_code, prog_1_method_63_code, prog_1_method_64_code, prog_1_method_65_code, prog_1_method_66_code, prog_10_method_2_code, prog_10_method_3_code, prog_10_method_6_code, prog_10_method_7_code, prog_10_method_8_code, prog_10_method_9_code, prog_10_method_10_code, prog_10_method_11_code, prog_10_method_12_code, prog_10_method_13_code, prog_10_method_14_code, prog_10_method_15_code, prog_10_method_16_code, prog_10_method_17_code, prog_10_method_18_code, prog_10_method_19_code, prog_10_method_20_code, prog_10_method_21_code, prog_10_method_22_code, prog_10_method_23_code, prog_10_method_24_code, prog_10_method_25_code, prog_10_method_26_code, prog_10_method_27_code, prog_10_method_28_code, prog_10_method_29_code, prog_10_method_30_code, prog_10_method_31_code, prog_10_method_32_code, prog_10_method_33_code, prog_10_method_34_code, prog_10_method_35_code, prog_10_method_36_code, prog_10_method_37_code, prog_10_method_38_code, prog_10_method_39_code, prog_10_method_40_code, prog_10_method_41_code, prog_10_method_42_code, prog_10_method_43_code, prog_10_method_44_code, prog_10_method_45_code, prog_10_method_46_code, prog_10_method_47_code, prog_10_method_48_code, prog_10_method_49_code, prog_10_method_50_code, prog_10_method_51_code, prog_10_method_52_code, prog_10_method_53_code, prog_10_method_54_code, prog_10_method_55_code, prog_10_method_56_code, prog_10_method_57_code, prog_10_method_58_code, prog_10_method_59_code, prog_10_method_60_code, prog_10_method_61_code, prog_10_method_62_code, prog_10_method_63_code, prog_10_method_64_code, prog_10_method_65_code, prog_10_method_66_code, prog_10_method_67_code, prog_10_method_68_code, prog_10_method_69_code, prog_10_method_70_code, prog_10_method_71_code, prog_10_method_72_code, prog_10_method_73_code, prog_10_method_74_code, prog_10_method_75_code, prog_10_method_76_code, prog_10_method_77_code, prog_10_method_78_code, prog_10_method_79_code, prog_10_method_80_code, prog_10_method_81_code, prog_10_method_82_code, prog_10_method_83_code, prog_10_method_84_code, prog_10_method_85_code, prog_10_method_86_code, prog_10_method_87_code, prog_10_method_88_code, prog_10_method_89_code, prog_10_method_90_code, prog_10_method_91_code, prog_10_method_92_code, prog_10_method_93_code, prog_10_method_94_code, prog_10_method_95_code, prog_10_method_96_code, prog_10_method_97_code, prog_10_method_98_code, prog_10_method_99_code, prog_10_method_100_code, prog_10_method_101_code, prog_10_method_102_code, prog_10_method_103_code, prog_10_method_104_code, prog_10_method_105_code, prog_10_method_106_code, prog_10_method_107_code, prog_10_method_108_code, prog_10_method_109_code, prog_10_method_110_code, prog_10_method_111_code, prog_10_method_112_code, prog_10_method_113_code, prog_10_method_114_code, prog_10_method_115_code, prog_2_method_2_code, prog_2_method_3_code, prog_2_method_4_code, prog_2_method_5_code, prog_2_method_6_code, prog_2_method_7_code, prog_2_method_8_code, prog_2_method_9_code, prog_2_method_10_code, prog_2_method_11_code, prog_3_method_2_code, prog_3_method_3_code, prog_3_method_4_code, prog_3_method_5_code, prog_5_method_2_code, prog_5_method_3_code, prog_5_method_4_code, prog_5_method_5_code, prog_5_method_6_code, prog_5_method_7_code, prog_5_method_8_code, prog_6_method_2_code, prog_6_method_3_code, prog_6_method_4_code, prog_6_method_5_code, prog_7_method_2_code, prog_7_method_3_code, prog_7_method_4_code, prog_7_method_5_code, prog_7_method_6_code, prog_7_method_7_code, prog_7_method_8_code, prog_7_method_9_code, prog_7_method_10_code, prog_7_method_11_code, prog_7_method_12_code, prog_7_method_13_code, prog_7_method_14_code, prog_7_method_15_code, prog_7_method_16_code, prog_8_method_3_code, prog_8_method_4_code, prog_8_method_5_code, prog_8_method_6_code, prog_8_method_7_code, prog_8_method_8_code, prog_8_method_9_code, prog_8_method_10_code, prog_8_method_11_code, prog_8_method_12_code, prog_11_method_49_code, prog_13_method_54_code, prog_13_method_56_code]
def ab_mls : List Nat := [5, 4, 4, 3, 6, 2, 2, 3, 5, 5, 8, 3, 5, 8, 8, 2, 5, 6, 8, 3, 8, 2, 2, 2, 4, 4, 8, 9, 3, 1, 1, 1, 2, 1, 1, 1, 1, 5, 3, 4, 4, 4, 4, 5, 5, 4, 3, 4, 11, 5, 3, 2, 4, 4, 4, 3, 6, 3, 7, 5, 6, 7, 8, 8, 7, 6, 3, 2, 1, 1, 3, 1, 1, 5, 4, 4, 3, 2, 2, 3, 1, 3, 9, 2, 1, 1, 2, 2, 4, 4, 3, 3, 2, 2, 4, 4, 3, 3, 2, 2, 4, 4, 3, 3, 2, 2, 4, 4, 3, 3, 2, 2, 4, 4, 3, 3, 2, 2, 4, 4, 3, 3, 3, 6, 2, 3, 4, 5, 8, 6, 6, 6, 5, 5, 4, 5, 4, 4, 3, 11, 5, 7, 3, 3, 3, 4, 4, 6, 4, 6, 4, 5, 9, 3, 3, 8, 6, 4, 11, 5, 5, 5, 12, 8, 5, 3, 9, 2, 2, 4, 1, 5, 4, 9, 8, 1, 4, 4, 2, 2, 3, 1, 4, 2, 4, 2, 2, 5, 5, 4, 6, 3, 2, 7, 2, 4, 5, 3, 4, 3, 2, 3, 2, 1, 2, 2, 2, 3, 3, 4, 3, 4, 2, 1, 1, 1, 1, 1, 2, 2, 2, 7, 2, 1, 4, 3, 3, 1, 1, 2]
def ab_mrs : List (Option FieldType) := [(some .int), (some .int), (some .int), (some .int), (some .int), (some .int), (some .int), (some .int), (some .int), (some .int), (some .int), (some .int), (some .int), (some .int), (some .int), (some .int), (some .long), (some .int), (some .int), (some .int), (some .long), (some .int), (some .int), (some .int), (some .int), (some .int), (some .int), (some .int), (some .int), (some .boolean), (some .boolean), (some .boolean), (some .boolean), (some .boolean), (some .boolean), (some .int), (some .int), (some .long), (some .int), none, (some .boolean), (some .int), (some .int), (some .int), (some .int), (some .int), (some .int), (some .int), (some .int), none, none, (some .int), (some .int), (some .int), (some .int), (some .boolean), (some .int), (some .int), (some .int), (some .int), (some .int), (some .boolean), (some .int), (some .int), (some .int), (some .boolean), (some .int), (some .boolean), (some .boolean), (some .boolean), (some .boolean), (some .int), (some .int), (some .int), none, (some .int), (some .int), (some .int), (some .int), none, none, (some .boolean), (some .boolean), (some .boolean), (some .boolean), (some .int), (some .int), (some .int), (some .int), (some .int), (some .int), (some .int), (some .int), (some .int), (some .int), (some .int), (some .int), (some .int), (some .int), (some .int), (some .int), (some .int), (some .int), (some .int), (some .int), (some .int), (some .int), (some .int), (some .int), (some .int), (some .int), (some .int), (some .int), (some .int), (some .int), (some .int), (some .int), (some .int), (some .int), (some .int), (some .int), (some .int), (some .int), (some .int), (some .int), (some .int), (some .int), (some .int), (some .boolean), (some .int), (some .int), (some .int), (some .int), (some .int), (some .int), none, (some .int), (some .int), (some .int), (some .int), (some .int), (some .int), (some .int), none, (some .boolean), (some .int), (some .int), (some .int), (some .int), (some .int), (some .int), (some .int), (some .int), none, none, (some .int), (some .int), (some .int), (some .long), (some .long), (some .int), (some .int), (some .int), (some .int), (some .int), (some .int), (some .long), (some .int), (some .int), (some .int), (some .boolean), (some .int), (some .int), (some .int), (some .int), (some .int), (some .int), none, none, (some .int), none, none, (some .boolean), (some .int), (some .boolean), (some .int), (some .int), none, (some .int), (some .int), (some .int), (some .int), (some .boolean), (some .boolean), (some .boolean), (some .boolean), (some .boolean), (some .boolean), none, none, (some .int), (some .boolean), (some .boolean), none, (some .int), (some .int), (some .int), none, (some .int), (some .int), (some .int), (some .boolean), (some .int), (some .boolean), (some .boolean), (some .boolean), (some .boolean), none, none, none, none, (some .int), none, (some .int), (some .int), none, (some .int), (some .int), (some .int), (some .char)]
def ab_mos : List Nat := [7, 7, 7, 7, 7, 7, 7, 7, 7, 7, 7, 7, 7, 7, 7, 7, 7, 7, 7, 7, 7, 7, 7, 7, 7, 7, 7, 7, 7, 7, 7, 7, 7, 7, 7, 7, 7, 7, 7, 7, 7, 7, 7, 7, 7, 7, 7, 7, 7, 7, 7, 7, 7, 7, 7, 7, 7, 7, 7, 7, 7, 7, 7, 7, 7, 8, 8, 8, 8, 8, 8, 8, 8, 8, 8, 8, 8, 8, 8, 8, 8, 8, 8, 8, 8, 8, 8, 8, 8, 8, 8, 8, 8, 8, 8, 8, 8, 8, 8, 8, 8, 8, 8, 8, 8, 8, 8, 8, 8, 8, 8, 8, 8, 8, 8, 8, 8, 8, 8, 8, 8, 8, 8, 8, 8, 8, 8, 8, 8, 8, 8, 8, 8, 8, 8, 8, 8, 8, 8, 8, 8, 8, 8, 8, 8, 8, 8, 8, 8, 8, 8, 8, 8, 8, 8, 8, 8, 8, 8, 8, 8, 8, 8, 8, 8, 8, 8, 8, 8, 8, 8, 8, 8, 8, 8, 8, 8, 0, 0, 0, 0, 0, 0, 0, 0, 0, 0, 1, 1, 1, 1, 3, 3, 3, 3, 3, 3, 3, 4, 4, 4, 4, 5, 5, 5, 5, 5, 5, 5, 5, 5, 5, 5, 5, 5, 5, 5, 6, 6, 6, 6, 6, 6, 6, 6, 6, 6, 9, 10, 10]
abbrev ab_my (i : Nat) : MethodName := ab_nth ⟨"", "", ""⟩ ab_mys i
abbrev ab_mb (i : Nat) : ByteArray := ab_nth ⟨#[]⟩ ab_mbs i
abbrev ab_ml (i : Nat) : Nat := ab_nth 0 ab_mls i
abbrev ab_mr (i : Nat) : Option FieldType := ab_nth none ab_mrs i
abbrev ab_mo (i : Nat) : Nat := ab_nth 99 ab_mos i
/-- which field an entry of a class names: (entry, kind, place) -/
def ab_fl : Nat → List (Nat × Nat × Nat) := fun o => match o with
  | 0 => [(9, 1, 0), (15, 1, 1), (18, 1, 2), (21, 1, 3)]
  | 1 => [(9, 14, 0), (15, 14, 1), (18, 14, 2), (21, 14, 3), (24, 14, 4)]
  | 3 => [(9, 11, 0), (25, 11, 1)]
  | 4 => [(9, 12, 0), (15, 12, 1), (19, 12, 2)]
  | 5 => [(9, 6, 0), (15, 6, 1), (18, 6, 2), (21, 6, 3), (24, 6, 4), (28, 6, 6), (31, 6, 5)]
  | 6 => [(9, 2, 0), (15, 2, 1), (18, 2, 2), (31, 2, 3), (35, 2, 4), (56, 1, 2), (61, 1, 1), (64, 1, 3)]
  | 7 => [(9, 0, 0), (15, 0, 1), (19, 0, 2), (24, 0, 3), (30, 0, 4), (34, 0, 5), (37, 0, 6), (43, 0, 7), (52, 0, 8), (58, 0, 9), (65, 0, 10), (69, 0, 11), (75, 0, 12), (140, 6, 4), (173, 12, 2), (217, 1, 2), (240, 12, 1), (260, 20, 0), (267, 20, 1), (270, 20, 2), (271, 20, 3), (279, 12, 0), (288, 1, 1), (312, 1, 3), (319, 14, 4)]
  | 8 => [(13, 30, 1), (17, 30, 2), (20, 30, 5), (23, 30, 7), (26, 30, 8), (29, 30, 9), (32, 30, 26), (35, 30, 27), (38, 30, 28), (41, 30, 29), (44, 30, 30), (47, 30, 31), (50, 30, 32), (53, 30, 33), (56, 30, 34), (59, 30, 35), (62, 30, 36), (65, 30, 38), (69, 30, 39), (72, 30, 40), (75, 30, 41), (82, 30, 3), (85, 30, 10), (126, 30, 4), (145, 30, 6), (148, 30, 18), (151, 30, 17), (154, 30, 19), (160, 30, 21), (163, 30, 20), (174, 30, 22), (180, 30, 24), (184, 30, 25), (190, 30, 23), (202, 30, 11), (205, 30, 12), (208, 30, 13), (211, 30, 14), (214, 30, 15), (217, 30, 16), (462, 30, 37)]
  | _ => []
/-- which method an entry of a class names: (entry, number, arguments, how) -/
def ab_cs : Nat → List (Nat × Nat × Nat × Nat) := fun o => match o with
  | 0 => [(24, 177, 3, 0), (38, 183, 1, 0), (42, 36, 1, 2)]
  | 1 => [(28, 30, 1, 2), (39, 190, 2, 0)]
  | 3 => [(15, 217, 0, 0), (20, 207, 0, 0), (29, 192, 1, 0), (33, 193, 3, 0), (37, 205, 1, 0), (41, 220, 1, 0), (45, 204, 1, 0), (48, 195, 2, 0), (52, 196, 4, 0), (56, 194, 2, 1), (60, 219, 1, 0), (63, 197, 2, 0), (66, 206, 1, 0), (69, 218, 1, 0)]
  | 4 => [(31, 201, 2, 0)]
  | 5 => [(34, 212, 1, 0), (38, 213, 1, 1), (42, 208, 1, 0), (45, 214, 1, 1), (48, 210, 1, 0), (51, 215, 1, 1), (54, 209, 1, 0), (57, 216, 1, 1), (62, 211, 2, 0), (88, 228, 0, 0), (94, 229, 1, 0)]
  | 6 => [(24, 218, 1, 0), (38, 222, 1, 0), (41, 224, 4, 1), (45, 225, 1, 0), (48, 223, 0, 0), (52, 36, 1, 2), (67, 183, 1, 0), (70, 226, 3, 1)]
  | 7 => [(85, 1, 2, 0), (89, 32, 1, 0), (93, 35, 1, 1), (97, 179, 1, 0), (100, 180, 2, 0), (104, 31, 1, 1), (107, 38, 2, 0), (110, 39, 3, 0), (113, 177, 3, 0), (116, 43, 2, 0), (119, 45, 1, 0), (123, 40, 4, 1), (127, 41, 3, 0), (131, 42, 3, 0), (134, 183, 1, 0), (137, 202, 1, 0), (143, 191, 1, 0), (147, 203, 0, 0), (150, 29, 1, 1), (153, 30, 1, 1), (156, 34, 1, 1), (159, 36, 1, 1), (162, 33, 1, 1), (165, 47, 1, 0), (169, 48, 3, 0), (174, 200, 1, 0), (177, 181, 0, 0), (180, 50, 1, 0), (184, 188, 0, 0), (188, 189, 1, 0), (191, 54, 1, 0), (194, 227, 1, 1), (199, 53, 1, 0), (202, 56, 1, 0), (205, 51, 1, 0), (208, 198, 2, 0), (211, 199, 2, 0), (214, 178, 1, 0), (220, 44, 2, 0), (224, 49, 2, 0), (227, 57, 0, 0), (230, 58, 1, 0), (236, 37, 3, 1), (243, 60, 4, 1), (247, 62, 5, 0), (251, 63, 5, 0), (254, 64, 5, 0), (257, 52, 1, 0), (272, 46, 0, 0), (275, 201, 2, 0), (282, 2, 3, 0), (285, 182, 1, 0), (299, 221, 4, 0), (303, 184, 2, 0), (306, 185, 1, 0), (309, 186, 1, 0), (315, 187, 4, 0), (323, 55, 1, 0), (326, 59, 2, 0), (332, 61, 5, 0)]
  | 8 => [(88, 65, 3, 1), (98, 68, 1, 1), (102, 67, 1, 0), (107, 70, 2, 0), (111, 72, 1, 1), (115, 76, 2, 0), (119, 74, 3, 0), (123, 71, 1, 1), (137, 132, 2, 0), (140, 134, 1, 0), (157, 78, 1, 0), (187, 81, 2, 0), (193, 80, 0, 0), (196, 79, 0, 0), (198, 82, 8, 0), (220, 83, 1, 0), (223, 84, 0, 0), (227, 85, 0, 0), (231, 86, 0, 0), (234, 87, 0, 0), (239, 88, 0, 0), (244, 89, 0, 0), (247, 90, 0, 0), (250, 91, 0, 0), (253, 92, 0, 0), (256, 93, 0, 0), (259, 94, 0, 0), (262, 95, 0, 0), (265, 96, 0, 0), (268, 97, 0, 0), (271, 98, 0, 0), (274, 99, 0, 0), (277, 100, 0, 0), (280, 101, 0, 0), (283, 102, 0, 0), (286, 103, 0, 0), (289, 104, 0, 0), (292, 105, 0, 0), (295, 106, 0, 0), (298, 107, 0, 0), (301, 108, 0, 0), (304, 109, 0, 0), (307, 110, 0, 0), (310, 111, 0, 0), (313, 112, 0, 0), (316, 113, 0, 0), (319, 114, 0, 0), (322, 115, 0, 0), (325, 116, 0, 0), (328, 117, 0, 0), (331, 118, 0, 0), (334, 119, 0, 0), (337, 120, 0, 0), (340, 121, 0, 0), (343, 122, 1, 0), (347, 123, 2, 0), (350, 126, 2, 0), (353, 66, 3, 1), (357, 127, 4, 0), (363, 128, 3, 0), (367, 129, 3, 0), (370, 130, 3, 0), (373, 133, 2, 0), (376, 69, 1, 1), (381, 135, 3, 0), (384, 138, 2, 0), (387, 170, 1, 1), (390, 137, 1, 0), (393, 139, 3, 0), (396, 143, 1, 0), (400, 142, 1, 1), (403, 144, 1, 0), (407, 148, 3, 0), (414, 145, 1, 0), (417, 146, 1, 0), (420, 147, 1, 0), (423, 149, 1, 0), (426, 171, 3, 0), (429, 153, 1, 0), (432, 154, 1, 0), (435, 156, 2, 0), (442, 158, 3, 1), (446, 160, 3, 0), (451, 161, 2, 0), (457, 164, 2, 0), (467, 75, 3, 0), (470, 175, 1, 1)]
  | _ => []
/-- which constant an entry of a class names -/
def ab_ks : Nat → List (Nat × AV) := fun o => match o with
  | 1 => [(32, vI 1000000)]
  | 5 => [(60, vR 60 0), (66, vR 60 1), (68, vR 60 2), (70, vR 60 3), (72, vR 60 4), (74, vR 60 5), (76, vR 60 6), (78, vR 60 7), (80, vR 60 8), (82, vR 60 9), (84, vR 60 10), (86, vR 60 11)]
  | 7 => [(234, vL (-4611686018427387904)), (322, vI 1103515245)]
  | 8 => [(92, vL 23), (94, vL 2), (96, vL 223), (105, vL 3), (129, vL 5), (131, vL 9), (133, vL 99), (135, vL 6), (143, vL 255), (166, vL 97), (168, vL 122), (170, vL 48), (172, vL 57), (178, vL 10), (237, vL 43), (242, vL 60), (361, vL 9923), (379, vL (-99)), (406, vI 1000000), (410, vL 4), (412, vL 33), (438, vL (-4611686018427387904)), (440, vL 24), (449, vL 8), (454, vL 40), (456, vI 1103515245), (460, vL 9999), (465, vL (-1))]
  | 9 => [(265, vI 1431655765), (266, vI 858993459), (267, vI 252645135)]
  | _ => []
/-- which member of Math or System an entry names: 0 max, 1 min, 2 abs, 3 arraycopy -/
def ab_js : Nat → List (Nat × Nat) := fun o => match o with
  | 0 => [(28, 1)]
  | 1 => [(33, 1)]
  | 4 => [(22, 1), (28, 0)]
  | 7 => [(261, 3), (291, 1), (296, 0), (329, 2)]
  | _ => []
end
