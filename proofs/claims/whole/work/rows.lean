section
-- ===== PART A: goes FIRST, ahead of the names: the tables' words, and 'selects' of the private methods out of them =====
/-- a private method of a class that the tables say can be made, by its rows of tables_1 -/
def lw_okq (q : MethodName × Nat) : Prop := (q.1.cls ≠ "java/lang/invoke/MethodHandle" ∧ q.1.cls ≠ "java/lang/invoke/VarHandle") ∧ Cond.instantiable q.1.cls q.2 ∈ tables_1 ∧ Cond.privateMethod q.1 ∈ tables_1 ∧ Cond.instanceMethod q.1 ∈ tables_1
theorem lw_p0 : lw_okq (⟨"CoatsFitTheMood", "setMood", "(II)I"⟩, 13) := ⟨⟨by decide +kernel, by decide +kernel⟩, List.mem_of_getElem? (i := 18) (by decide +kernel), List.mem_of_getElem? (i := 246) (by decide +kernel), List.mem_of_getElem? (i := 247) (by decide +kernel)⟩
theorem lw_p1 : lw_okq (⟨"CoatsFitTheMood", "moodAt", "(II)I"⟩, 13) := ⟨⟨by decide +kernel, by decide +kernel⟩, List.mem_of_getElem? (i := 18) (by decide +kernel), List.mem_of_getElem? (i := 259) (by decide +kernel), List.mem_of_getElem? (i := 260) (by decide +kernel)⟩
theorem lw_p2 : lw_okq (⟨"CoatsFitTheMood", "giveMood", "(III)V"⟩, 13) := ⟨⟨by decide +kernel, by decide +kernel⟩, List.mem_of_getElem? (i := 18) (by decide +kernel), List.mem_of_getElem? (i := 263) (by decide +kernel), List.mem_of_getElem? (i := 264) (by decide +kernel)⟩
theorem lw_p3 : lw_okq (⟨"CoatsFitTheMood", "isCoat", "(I)Z"⟩, 13) := ⟨⟨by decide +kernel, by decide +kernel⟩, List.mem_of_getElem? (i := 18) (by decide +kernel), List.mem_of_getElem? (i := 267) (by decide +kernel), List.mem_of_getElem? (i := 268) (by decide +kernel)⟩
theorem lw_p4 : lw_okq (⟨"CoatsFitTheMood", "rightAt", "(II)I"⟩, 13) := ⟨⟨by decide +kernel, by decide +kernel⟩, List.mem_of_getElem? (i := 18) (by decide +kernel), List.mem_of_getElem? (i := 294) (by decide +kernel), List.mem_of_getElem? (i := 295) (by decide +kernel)⟩
theorem lw_p5 : lw_okq (⟨"CoatsFitTheMood$Text", "lay", "(I)V"⟩, 5) := ⟨⟨by decide +kernel, by decide +kernel⟩, List.mem_of_getElem? (i := 146) (by decide +kernel), List.mem_of_getElem? (i := 305) (by decide +kernel), List.mem_of_getElem? (i := 306) (by decide +kernel)⟩
theorem lw_p6 : lw_okq (⟨"CoatsFitTheMood$Text", "join", "(I)V"⟩, 5) := ⟨⟨by decide +kernel, by decide +kernel⟩, List.mem_of_getElem? (i := 146) (by decide +kernel), List.mem_of_getElem? (i := 316) (by decide +kernel), List.mem_of_getElem? (i := 317) (by decide +kernel)⟩
theorem lw_p7 : lw_okq (⟨"CoatsFitTheMood$Text", "lift", "()I"⟩, 5) := ⟨⟨by decide +kernel, by decide +kernel⟩, List.mem_of_getElem? (i := 146) (by decide +kernel), List.mem_of_getElem? (i := 320) (by decide +kernel), List.mem_of_getElem? (i := 321) (by decide +kernel)⟩
theorem lw_p8 : lw_okq (⟨"CoatsFitTheMood", "hoursOfEverybody", "(LCoatsFitTheMood$Coat;)I"⟩, 13) := ⟨⟨by decide +kernel, by decide +kernel⟩, List.mem_of_getElem? (i := 18) (by decide +kernel), List.mem_of_getElem? (i := 341) (by decide +kernel), List.mem_of_getElem? (i := 342) (by decide +kernel)⟩
theorem lw_p9 : lw_okq (⟨"CoatsFitTheMood", "hoursOf", "(LCoatsFitTheMood$Coat;I)I"⟩, 13) := ⟨⟨by decide +kernel, by decide +kernel⟩, List.mem_of_getElem? (i := 18) (by decide +kernel), List.mem_of_getElem? (i := 345) (by decide +kernel), List.mem_of_getElem? (i := 346) (by decide +kernel)⟩
theorem lw_p10 : lw_okq (⟨"CoatsFitTheMood", "fineAt", "(III)I"⟩, 13) := ⟨⟨by decide +kernel, by decide +kernel⟩, List.mem_of_getElem? (i := 18) (by decide +kernel), List.mem_of_getElem? (i := 353) (by decide +kernel), List.mem_of_getElem? (i := 354) (by decide +kernel)⟩
theorem lw_p11 : lw_okq (⟨"CoatsFitTheMood", "costAt", "(III)I"⟩, 13) := ⟨⟨by decide +kernel, by decide +kernel⟩, List.mem_of_getElem? (i := 18) (by decide +kernel), List.mem_of_getElem? (i := 362) (by decide +kernel), List.mem_of_getElem? (i := 363) (by decide +kernel)⟩
theorem lw_p12 : lw_okq (⟨"CoatsFitTheMood$Tape", "byteAt", "(I)I"⟩, 7) := ⟨⟨by decide +kernel, by decide +kernel⟩, List.mem_of_getElem? (i := 55) (by decide +kernel), List.mem_of_getElem? (i := 392) (by decide +kernel), List.mem_of_getElem? (i := 393) (by decide +kernel)⟩
theorem lw_p13 : lw_okq (⟨"CoatsFitTheMood$Tape", "scanOne", "(I)I"⟩, 7) := ⟨⟨by decide +kernel, by decide +kernel⟩, List.mem_of_getElem? (i := 55) (by decide +kernel), List.mem_of_getElem? (i := 399) (by decide +kernel), List.mem_of_getElem? (i := 400) (by decide +kernel)⟩
theorem lw_p14 : lw_okq (⟨"CoatsFitTheMood$Tape", "scanWord", "(I)I"⟩, 7) := ⟨⟨by decide +kernel, by decide +kernel⟩, List.mem_of_getElem? (i := 55) (by decide +kernel), List.mem_of_getElem? (i := 406) (by decide +kernel), List.mem_of_getElem? (i := 407) (by decide +kernel)⟩
theorem lw_p15 : lw_okq (⟨"CoatsFitTheMood$Tape", "isWord", "(ILjava/lang/String;)Z"⟩, 7) := ⟨⟨by decide +kernel, by decide +kernel⟩, List.mem_of_getElem? (i := 55) (by decide +kernel), List.mem_of_getElem? (i := 411) (by decide +kernel), List.mem_of_getElem? (i := 412) (by decide +kernel)⟩
def lw_privs_1 : List (MethodName × Nat) := [(⟨"CoatsFitTheMood", "setMood", "(II)I"⟩, 13), (⟨"CoatsFitTheMood", "moodAt", "(II)I"⟩, 13), (⟨"CoatsFitTheMood", "giveMood", "(III)V"⟩, 13), (⟨"CoatsFitTheMood", "isCoat", "(I)Z"⟩, 13), (⟨"CoatsFitTheMood", "rightAt", "(II)I"⟩, 13), (⟨"CoatsFitTheMood$Text", "lay", "(I)V"⟩, 5), (⟨"CoatsFitTheMood$Text", "join", "(I)V"⟩, 5), (⟨"CoatsFitTheMood$Text", "lift", "()I"⟩, 5), (⟨"CoatsFitTheMood", "hoursOfEverybody", "(LCoatsFitTheMood$Coat;)I"⟩, 13), (⟨"CoatsFitTheMood", "hoursOf", "(LCoatsFitTheMood$Coat;I)I"⟩, 13), (⟨"CoatsFitTheMood", "fineAt", "(III)I"⟩, 13), (⟨"CoatsFitTheMood", "costAt", "(III)I"⟩, 13), (⟨"CoatsFitTheMood$Tape", "byteAt", "(I)I"⟩, 7), (⟨"CoatsFitTheMood$Tape", "scanOne", "(I)I"⟩, 7), (⟨"CoatsFitTheMood$Tape", "scanWord", "(I)I"⟩, 7), (⟨"CoatsFitTheMood$Tape", "isWord", "(ILjava/lang/String;)Z"⟩, 7)]
theorem lw_r1 : ∀ q ∈ lw_privs_1, lw_okq q := List.forall_mem_cons.mpr ⟨lw_p0, List.forall_mem_cons.mpr ⟨lw_p1, List.forall_mem_cons.mpr ⟨lw_p2, List.forall_mem_cons.mpr ⟨lw_p3, List.forall_mem_cons.mpr ⟨lw_p4, List.forall_mem_cons.mpr ⟨lw_p5, List.forall_mem_cons.mpr ⟨lw_p6, List.forall_mem_cons.mpr ⟨lw_p7, List.forall_mem_cons.mpr ⟨lw_p8, List.forall_mem_cons.mpr ⟨lw_p9, List.forall_mem_cons.mpr ⟨lw_p10, List.forall_mem_cons.mpr ⟨lw_p11, List.forall_mem_cons.mpr ⟨lw_p12, List.forall_mem_cons.mpr ⟨lw_p13, List.forall_mem_cons.mpr ⟨lw_p14, List.forall_mem_cons.mpr ⟨lw_p15, fun _ h => absurd h List.not_mem_nil⟩⟩⟩⟩⟩⟩⟩⟩⟩⟩⟩⟩⟩⟩⟩⟩
theorem lw_p16 : lw_okq (⟨"CoatsFitTheMood$Tape", "scanNumber", "(I)I"⟩, 7) := ⟨⟨by decide +kernel, by decide +kernel⟩, List.mem_of_getElem? (i := 55) (by decide +kernel), List.mem_of_getElem? (i := 477) (by decide +kernel), List.mem_of_getElem? (i := 478) (by decide +kernel)⟩
theorem lw_p17 : lw_okq (⟨"CoatsFitTheMood$Reader", "stepOver", "(I)Z"⟩, 2) := ⟨⟨by decide +kernel, by decide +kernel⟩, List.mem_of_getElem? (i := 84) (by decide +kernel), List.mem_of_getElem? (i := 484) (by decide +kernel), List.mem_of_getElem? (i := 485) (by decide +kernel)⟩
theorem lw_p18 : lw_okq (⟨"CoatsFitTheMood$Reader", "level", "(LCoatsFitTheMood$Text;II)Z"⟩, 2) := ⟨⟨by decide +kernel, by decide +kernel⟩, List.mem_of_getElem? (i := 84) (by decide +kernel), List.mem_of_getElem? (i := 492) (by decide +kernel), List.mem_of_getElem? (i := 493) (by decide +kernel)⟩
theorem lw_p19 : lw_okq (⟨"CoatsFitTheMood$Reader", "one", "(LCoatsFitTheMood$Text;I)Z"⟩, 2) := ⟨⟨by decide +kernel, by decide +kernel⟩, List.mem_of_getElem? (i := 84) (by decide +kernel), List.mem_of_getElem? (i := 496) (by decide +kernel), List.mem_of_getElem? (i := 497) (by decide +kernel)⟩
theorem lw_p20 : lw_okq (⟨"CoatsFitTheMood$Reader", "prefixed", "(LCoatsFitTheMood$Text;III)Z"⟩, 2) := ⟨⟨by decide +kernel, by decide +kernel⟩, List.mem_of_getElem? (i := 84) (by decide +kernel), List.mem_of_getElem? (i := 500) (by decide +kernel), List.mem_of_getElem? (i := 501) (by decide +kernel)⟩
theorem lw_p21 : lw_okq (⟨"CoatsFitTheMood$Reader", "bracketed", "(LCoatsFitTheMood$Text;I)Z"⟩, 2) := ⟨⟨by decide +kernel, by decide +kernel⟩, List.mem_of_getElem? (i := 84) (by decide +kernel), List.mem_of_getElem? (i := 508) (by decide +kernel), List.mem_of_getElem? (i := 509) (by decide +kernel)⟩
theorem lw_p22 : lw_okq (⟨"CoatsFitTheMood", "planRefusal", "(LCoatsFitTheMood$Sheet;)I"⟩, 13) := ⟨⟨by decide +kernel, by decide +kernel⟩, List.mem_of_getElem? (i := 18) (by decide +kernel), List.mem_of_getElem? (i := 549) (by decide +kernel), List.mem_of_getElem? (i := 550) (by decide +kernel)⟩
theorem lw_p23 : lw_okq (⟨"CoatsFitTheMood", "planTold", "(LCoatsFitTheMood$Sheet;II)I"⟩, 13) := ⟨⟨by decide +kernel, by decide +kernel⟩, List.mem_of_getElem? (i := 18) (by decide +kernel), List.mem_of_getElem? (i := 561) (by decide +kernel), List.mem_of_getElem? (i := 562) (by decide +kernel)⟩
theorem lw_p24 : lw_okq (⟨"CoatsFitTheMood", "tellDay", "(I)V"⟩, 13) := ⟨⟨by decide +kernel, by decide +kernel⟩, List.mem_of_getElem? (i := 18) (by decide +kernel), List.mem_of_getElem? (i := 578) (by decide +kernel), List.mem_of_getElem? (i := 579) (by decide +kernel)⟩
theorem lw_p25 : lw_okq (⟨"CoatsFitTheMood", "tellHour", "(II)V"⟩, 13) := ⟨⟨by decide +kernel, by decide +kernel⟩, List.mem_of_getElem? (i := 18) (by decide +kernel), List.mem_of_getElem? (i := 582) (by decide +kernel), List.mem_of_getElem? (i := 583) (by decide +kernel)⟩
theorem lw_p26 : lw_okq (⟨"CoatsFitTheMood$Day", "firstBehind", "(II)I"⟩, 5) := ⟨⟨by decide +kernel, by decide +kernel⟩, List.mem_of_getElem? (i := 99) (by decide +kernel), List.mem_of_getElem? (i := 601) (by decide +kernel), List.mem_of_getElem? (i := 602) (by decide +kernel)⟩
theorem lw_p27 : lw_okq (⟨"CoatsFitTheMood", "cover", "(I)I"⟩, 13) := ⟨⟨by decide +kernel, by decide +kernel⟩, List.mem_of_getElem? (i := 18) (by decide +kernel), List.mem_of_getElem? (i := 605) (by decide +kernel), List.mem_of_getElem? (i := 606) (by decide +kernel)⟩
theorem lw_p28 : lw_okq (⟨"CoatsFitTheMood", "covers", "(I)Z"⟩, 13) := ⟨⟨by decide +kernel, by decide +kernel⟩, List.mem_of_getElem? (i := 18) (by decide +kernel), List.mem_of_getElem? (i := 615) (by decide +kernel), List.mem_of_getElem? (i := 616) (by decide +kernel)⟩
theorem lw_p29 : lw_okq (⟨"CoatsFitTheMood", "bare", "(I)I"⟩, 13) := ⟨⟨by decide +kernel, by decide +kernel⟩, List.mem_of_getElem? (i := 18) (by decide +kernel), List.mem_of_getElem? (i := 619) (by decide +kernel), List.mem_of_getElem? (i := 620) (by decide +kernel)⟩
theorem lw_p30 : lw_okq (⟨"CoatsFitTheMood", "changes", "(I)I"⟩, 13) := ⟨⟨by decide +kernel, by decide +kernel⟩, List.mem_of_getElem? (i := 18) (by decide +kernel), List.mem_of_getElem? (i := 623) (by decide +kernel), List.mem_of_getElem? (i := 624) (by decide +kernel)⟩
theorem lw_p31 : lw_okq (⟨"CoatsFitTheMood", "cheapCost", "(I)I"⟩, 13) := ⟨⟨by decide +kernel, by decide +kernel⟩, List.mem_of_getElem? (i := 18) (by decide +kernel), List.mem_of_getElem? (i := 627) (by decide +kernel), List.mem_of_getElem? (i := 628) (by decide +kernel)⟩
def lw_privs_2 : List (MethodName × Nat) := [(⟨"CoatsFitTheMood$Tape", "scanNumber", "(I)I"⟩, 7), (⟨"CoatsFitTheMood$Reader", "stepOver", "(I)Z"⟩, 2), (⟨"CoatsFitTheMood$Reader", "level", "(LCoatsFitTheMood$Text;II)Z"⟩, 2), (⟨"CoatsFitTheMood$Reader", "one", "(LCoatsFitTheMood$Text;I)Z"⟩, 2), (⟨"CoatsFitTheMood$Reader", "prefixed", "(LCoatsFitTheMood$Text;III)Z"⟩, 2), (⟨"CoatsFitTheMood$Reader", "bracketed", "(LCoatsFitTheMood$Text;I)Z"⟩, 2), (⟨"CoatsFitTheMood", "planRefusal", "(LCoatsFitTheMood$Sheet;)I"⟩, 13), (⟨"CoatsFitTheMood", "planTold", "(LCoatsFitTheMood$Sheet;II)I"⟩, 13), (⟨"CoatsFitTheMood", "tellDay", "(I)V"⟩, 13), (⟨"CoatsFitTheMood", "tellHour", "(II)V"⟩, 13), (⟨"CoatsFitTheMood$Day", "firstBehind", "(II)I"⟩, 5), (⟨"CoatsFitTheMood", "cover", "(I)I"⟩, 13), (⟨"CoatsFitTheMood", "covers", "(I)Z"⟩, 13), (⟨"CoatsFitTheMood", "bare", "(I)I"⟩, 13), (⟨"CoatsFitTheMood", "changes", "(I)I"⟩, 13), (⟨"CoatsFitTheMood", "cheapCost", "(I)I"⟩, 13)]
theorem lw_r2 : ∀ q ∈ lw_privs_2, lw_okq q := List.forall_mem_cons.mpr ⟨lw_p16, List.forall_mem_cons.mpr ⟨lw_p17, List.forall_mem_cons.mpr ⟨lw_p18, List.forall_mem_cons.mpr ⟨lw_p19, List.forall_mem_cons.mpr ⟨lw_p20, List.forall_mem_cons.mpr ⟨lw_p21, List.forall_mem_cons.mpr ⟨lw_p22, List.forall_mem_cons.mpr ⟨lw_p23, List.forall_mem_cons.mpr ⟨lw_p24, List.forall_mem_cons.mpr ⟨lw_p25, List.forall_mem_cons.mpr ⟨lw_p26, List.forall_mem_cons.mpr ⟨lw_p27, List.forall_mem_cons.mpr ⟨lw_p28, List.forall_mem_cons.mpr ⟨lw_p29, List.forall_mem_cons.mpr ⟨lw_p30, List.forall_mem_cons.mpr ⟨lw_p31, fun _ h => absurd h List.not_mem_nil⟩⟩⟩⟩⟩⟩⟩⟩⟩⟩⟩⟩⟩⟩⟩⟩
theorem lw_p32 : lw_okq (⟨"CoatsFitTheMood", "useless", "()I"⟩, 13) := ⟨⟨by decide +kernel, by decide +kernel⟩, List.mem_of_getElem? (i := 18) (by decide +kernel), List.mem_of_getElem? (i := 662) (by decide +kernel), List.mem_of_getElem? (i := 663) (by decide +kernel)⟩
theorem lw_p33 : lw_okq (⟨"CoatsFitTheMood", "alike", "(Z)I"⟩, 13) := ⟨⟨by decide +kernel, by decide +kernel⟩, List.mem_of_getElem? (i := 18) (by decide +kernel), List.mem_of_getElem? (i := 666) (by decide +kernel), List.mem_of_getElem? (i := 667) (by decide +kernel)⟩
theorem lw_p34 : lw_okq (⟨"CoatsFitTheMood", "apart", "(II)I"⟩, 13) := ⟨⟨by decide +kernel, by decide +kernel⟩, List.mem_of_getElem? (i := 18) (by decide +kernel), List.mem_of_getElem? (i := 670) (by decide +kernel), List.mem_of_getElem? (i := 671) (by decide +kernel)⟩
theorem lw_p35 : lw_okq (⟨"CoatsFitTheMood", "bitsBy", "(LCoatsFitTheMood$Sheet;IIII)I"⟩, 13) := ⟨⟨by decide +kernel, by decide +kernel⟩, List.mem_of_getElem? (i := 18) (by decide +kernel), List.mem_of_getElem? (i := 692) (by decide +kernel), List.mem_of_getElem? (i := 693) (by decide +kernel)⟩
theorem lw_p36 : lw_okq (⟨"CoatsFitTheMood", "wouldBeSo", "(LCoatsFitTheMood$Sheet;IIII)Z"⟩, 13) := ⟨⟨by decide +kernel, by decide +kernel⟩, List.mem_of_getElem? (i := 18) (by decide +kernel), List.mem_of_getElem? (i := 696) (by decide +kernel), List.mem_of_getElem? (i := 697) (by decide +kernel)⟩
theorem lw_p37 : lw_okq (⟨"CoatsFitTheMood", "manyBy", "(LCoatsFitTheMood$Sheet;IIII)I"⟩, 13) := ⟨⟨by decide +kernel, by decide +kernel⟩, List.mem_of_getElem? (i := 18) (by decide +kernel), List.mem_of_getElem? (i := 700) (by decide +kernel), List.mem_of_getElem? (i := 701) (by decide +kernel)⟩
theorem lw_p38 : lw_okq (⟨"CoatsFitTheMood", "leastBy", "(LCoatsFitTheMood$Sheet;IIII)I"⟩, 13) := ⟨⟨by decide +kernel, by decide +kernel⟩, List.mem_of_getElem? (i := 18) (by decide +kernel), List.mem_of_getElem? (i := 704) (by decide +kernel), List.mem_of_getElem? (i := 705) (by decide +kernel)⟩
theorem lw_p39 : lw_okq (⟨"CoatsFitTheMood", "drawnCost", "(I)I"⟩, 13) := ⟨⟨by decide +kernel, by decide +kernel⟩, List.mem_of_getElem? (i := 18) (by decide +kernel), List.mem_of_getElem? (i := 716) (by decide +kernel), List.mem_of_getElem? (i := 717) (by decide +kernel)⟩
theorem lw_p40 : lw_okq (⟨"CoatsFitTheMood", "wornTogether", "()I"⟩, 13) := ⟨⟨by decide +kernel, by decide +kernel⟩, List.mem_of_getElem? (i := 18) (by decide +kernel), List.mem_of_getElem? (i := 740) (by decide +kernel), List.mem_of_getElem? (i := 741) (by decide +kernel)⟩
theorem lw_p41 : lw_okq (⟨"CoatsFitTheMoodModel", "spell", "(IIIIIIIII)V"⟩, 42) := ⟨⟨by decide +kernel, by decide +kernel⟩, List.mem_of_getElem? (i := 772) (by decide +kernel), List.mem_of_getElem? (i := 778) (by decide +kernel), List.mem_of_getElem? (i := 779) (by decide +kernel)⟩
theorem lw_p42 : lw_okq (⟨"CoatsFitTheMoodModel", "isOf", "(II)Z"⟩, 42) := ⟨⟨by decide +kernel, by decide +kernel⟩, List.mem_of_getElem? (i := 772) (by decide +kernel), List.mem_of_getElem? (i := 917) (by decide +kernel), List.mem_of_getElem? (i := 918) (by decide +kernel)⟩
theorem lw_p43 : lw_okq (⟨"CoatsFitTheMoodModel", "isCoat", "(I)Z"⟩, 42) := ⟨⟨by decide +kernel, by decide +kernel⟩, List.mem_of_getElem? (i := 772) (by decide +kernel), List.mem_of_getElem? (i := 926) (by decide +kernel), List.mem_of_getElem? (i := 927) (by decide +kernel)⟩
theorem lw_p44 : lw_okq (⟨"CoatsFitTheMoodModel", "rightAt", "(II)I"⟩, 42) := ⟨⟨by decide +kernel, by decide +kernel⟩, List.mem_of_getElem? (i := 772) (by decide +kernel), List.mem_of_getElem? (i := 941) (by decide +kernel), List.mem_of_getElem? (i := 942) (by decide +kernel)⟩
theorem lw_p45 : lw_okq (⟨"CoatsFitTheMoodModel", "fits", "(III)Z"⟩, 42) := ⟨⟨by decide +kernel, by decide +kernel⟩, List.mem_of_getElem? (i := 772) (by decide +kernel), List.mem_of_getElem? (i := 945) (by decide +kernel), List.mem_of_getElem? (i := 946) (by decide +kernel)⟩
theorem lw_p46 : lw_okq (⟨"CoatsFitTheMoodModel", "says", "(IIII)I"⟩, 42) := ⟨⟨by decide +kernel, by decide +kernel⟩, List.mem_of_getElem? (i := 772) (by decide +kernel), List.mem_of_getElem? (i := 949) (by decide +kernel), List.mem_of_getElem? (i := 950) (by decide +kernel)⟩
theorem lw_p47 : lw_okq (⟨"CoatsFitTheMoodModel", "offOf", "(II)I"⟩, 42) := ⟨⟨by decide +kernel, by decide +kernel⟩, List.mem_of_getElem? (i := 772) (by decide +kernel), List.mem_of_getElem? (i := 953) (by decide +kernel), List.mem_of_getElem? (i := 954) (by decide +kernel)⟩
def lw_privs_3 : List (MethodName × Nat) := [(⟨"CoatsFitTheMood", "useless", "()I"⟩, 13), (⟨"CoatsFitTheMood", "alike", "(Z)I"⟩, 13), (⟨"CoatsFitTheMood", "apart", "(II)I"⟩, 13), (⟨"CoatsFitTheMood", "bitsBy", "(LCoatsFitTheMood$Sheet;IIII)I"⟩, 13), (⟨"CoatsFitTheMood", "wouldBeSo", "(LCoatsFitTheMood$Sheet;IIII)Z"⟩, 13), (⟨"CoatsFitTheMood", "manyBy", "(LCoatsFitTheMood$Sheet;IIII)I"⟩, 13), (⟨"CoatsFitTheMood", "leastBy", "(LCoatsFitTheMood$Sheet;IIII)I"⟩, 13), (⟨"CoatsFitTheMood", "drawnCost", "(I)I"⟩, 13), (⟨"CoatsFitTheMood", "wornTogether", "()I"⟩, 13), (⟨"CoatsFitTheMoodModel", "spell", "(IIIIIIIII)V"⟩, 42), (⟨"CoatsFitTheMoodModel", "isOf", "(II)Z"⟩, 42), (⟨"CoatsFitTheMoodModel", "isCoat", "(I)Z"⟩, 42), (⟨"CoatsFitTheMoodModel", "rightAt", "(II)I"⟩, 42), (⟨"CoatsFitTheMoodModel", "fits", "(III)Z"⟩, 42), (⟨"CoatsFitTheMoodModel", "says", "(IIII)I"⟩, 42), (⟨"CoatsFitTheMoodModel", "offOf", "(II)I"⟩, 42)]
theorem lw_r3 : ∀ q ∈ lw_privs_3, lw_okq q := List.forall_mem_cons.mpr ⟨lw_p32, List.forall_mem_cons.mpr ⟨lw_p33, List.forall_mem_cons.mpr ⟨lw_p34, List.forall_mem_cons.mpr ⟨lw_p35, List.forall_mem_cons.mpr ⟨lw_p36, List.forall_mem_cons.mpr ⟨lw_p37, List.forall_mem_cons.mpr ⟨lw_p38, List.forall_mem_cons.mpr ⟨lw_p39, List.forall_mem_cons.mpr ⟨lw_p40, List.forall_mem_cons.mpr ⟨lw_p41, List.forall_mem_cons.mpr ⟨lw_p42, List.forall_mem_cons.mpr ⟨lw_p43, List.forall_mem_cons.mpr ⟨lw_p44, List.forall_mem_cons.mpr ⟨lw_p45, List.forall_mem_cons.mpr ⟨lw_p46, List.forall_mem_cons.mpr ⟨lw_p47, fun _ h => absurd h List.not_mem_nil⟩⟩⟩⟩⟩⟩⟩⟩⟩⟩⟩⟩⟩⟩⟩⟩
theorem lw_p48 : lw_okq (⟨"CoatsFitTheMoodModel", "read", "(II)I"⟩, 42) := ⟨⟨by decide +kernel, by decide +kernel⟩, List.mem_of_getElem? (i := 772) (by decide +kernel), List.mem_of_getElem? (i := 957) (by decide +kernel), List.mem_of_getElem? (i := 958) (by decide +kernel)⟩
theorem lw_p49 : lw_okq (⟨"CoatsFitTheMoodModel", "next", "()V"⟩, 42) := ⟨⟨by decide +kernel, by decide +kernel⟩, List.mem_of_getElem? (i := 772) (by decide +kernel), List.mem_of_getElem? (i := 961) (by decide +kernel), List.mem_of_getElem? (i := 962) (by decide +kernel)⟩
theorem lw_p50 : lw_okq (⟨"CoatsFitTheMoodModel", "byteAt", "(I)I"⟩, 42) := ⟨⟨by decide +kernel, by decide +kernel⟩, List.mem_of_getElem? (i := 772) (by decide +kernel), List.mem_of_getElem? (i := 965) (by decide +kernel), List.mem_of_getElem? (i := 966) (by decide +kernel)⟩
theorem lw_p51 : lw_okq (⟨"CoatsFitTheMoodModel", "isWord", "(IIIIIIII)Z"⟩, 42) := ⟨⟨by decide +kernel, by decide +kernel⟩, List.mem_of_getElem? (i := 772) (by decide +kernel), List.mem_of_getElem? (i := 974) (by decide +kernel), List.mem_of_getElem? (i := 975) (by decide +kernel)⟩
theorem lw_p52 : lw_okq (⟨"CoatsFitTheMoodModel", "isLetter", "(II)Z"⟩, 42) := ⟨⟨by decide +kernel, by decide +kernel⟩, List.mem_of_getElem? (i := 772) (by decide +kernel), List.mem_of_getElem? (i := 978) (by decide +kernel), List.mem_of_getElem? (i := 979) (by decide +kernel)⟩
theorem lw_p53 : lw_okq (⟨"CoatsFitTheMoodModel", "part", "(Z)I"⟩, 42) := ⟨⟨by decide +kernel, by decide +kernel⟩, List.mem_of_getElem? (i := 772) (by decide +kernel), List.mem_of_getElem? (i := 982) (by decide +kernel), List.mem_of_getElem? (i := 983) (by decide +kernel)⟩
theorem lw_p54 : lw_okq (⟨"CoatsFitTheMoodModel", "fail", "()V"⟩, 42) := ⟨⟨by decide +kernel, by decide +kernel⟩, List.mem_of_getElem? (i := 772) (by decide +kernel), List.mem_of_getElem? (i := 986) (by decide +kernel), List.mem_of_getElem? (i := 987) (by decide +kernel)⟩
theorem lw_p55 : lw_okq (⟨"CoatsFitTheMoodModel", "either0", "()I"⟩, 42) := ⟨⟨by decide +kernel, by decide +kernel⟩, List.mem_of_getElem? (i := 772) (by decide +kernel), List.mem_of_getElem? (i := 990) (by decide +kernel), List.mem_of_getElem? (i := 991) (by decide +kernel)⟩
theorem lw_p56 : lw_okq (⟨"CoatsFitTheMoodModel", "both0", "()I"⟩, 42) := ⟨⟨by decide +kernel, by decide +kernel⟩, List.mem_of_getElem? (i := 772) (by decide +kernel), List.mem_of_getElem? (i := 994) (by decide +kernel), List.mem_of_getElem? (i := 995) (by decide +kernel)⟩
theorem lw_p57 : lw_okq (⟨"CoatsFitTheMoodModel", "not0", "()I"⟩, 42) := ⟨⟨by decide +kernel, by decide +kernel⟩, List.mem_of_getElem? (i := 772) (by decide +kernel), List.mem_of_getElem? (i := 998) (by decide +kernel), List.mem_of_getElem? (i := 999) (by decide +kernel)⟩
theorem lw_p58 : lw_okq (⟨"CoatsFitTheMoodModel", "opens", "()Z"⟩, 42) := ⟨⟨by decide +kernel, by decide +kernel⟩, List.mem_of_getElem? (i := 772) (by decide +kernel), List.mem_of_getElem? (i := 1002) (by decide +kernel), List.mem_of_getElem? (i := 1003) (by decide +kernel)⟩
theorem lw_p59 : lw_okq (⟨"CoatsFitTheMoodModel", "not1", "()I"⟩, 42) := ⟨⟨by decide +kernel, by decide +kernel⟩, List.mem_of_getElem? (i := 772) (by decide +kernel), List.mem_of_getElem? (i := 1006) (by decide +kernel), List.mem_of_getElem? (i := 1007) (by decide +kernel)⟩
theorem lw_p60 : lw_okq (⟨"CoatsFitTheMoodModel", "not2", "()I"⟩, 42) := ⟨⟨by decide +kernel, by decide +kernel⟩, List.mem_of_getElem? (i := 772) (by decide +kernel), List.mem_of_getElem? (i := 1010) (by decide +kernel), List.mem_of_getElem? (i := 1011) (by decide +kernel)⟩
theorem lw_p61 : lw_okq (⟨"CoatsFitTheMoodModel", "not3", "()I"⟩, 42) := ⟨⟨by decide +kernel, by decide +kernel⟩, List.mem_of_getElem? (i := 772) (by decide +kernel), List.mem_of_getElem? (i := 1014) (by decide +kernel), List.mem_of_getElem? (i := 1015) (by decide +kernel)⟩
theorem lw_p62 : lw_okq (⟨"CoatsFitTheMoodModel", "not4", "()I"⟩, 42) := ⟨⟨by decide +kernel, by decide +kernel⟩, List.mem_of_getElem? (i := 772) (by decide +kernel), List.mem_of_getElem? (i := 1018) (by decide +kernel), List.mem_of_getElem? (i := 1019) (by decide +kernel)⟩
theorem lw_p63 : lw_okq (⟨"CoatsFitTheMoodModel", "not5", "()I"⟩, 42) := ⟨⟨by decide +kernel, by decide +kernel⟩, List.mem_of_getElem? (i := 772) (by decide +kernel), List.mem_of_getElem? (i := 1022) (by decide +kernel), List.mem_of_getElem? (i := 1023) (by decide +kernel)⟩
def lw_privs_4 : List (MethodName × Nat) := [(⟨"CoatsFitTheMoodModel", "read", "(II)I"⟩, 42), (⟨"CoatsFitTheMoodModel", "next", "()V"⟩, 42), (⟨"CoatsFitTheMoodModel", "byteAt", "(I)I"⟩, 42), (⟨"CoatsFitTheMoodModel", "isWord", "(IIIIIIII)Z"⟩, 42), (⟨"CoatsFitTheMoodModel", "isLetter", "(II)Z"⟩, 42), (⟨"CoatsFitTheMoodModel", "part", "(Z)I"⟩, 42), (⟨"CoatsFitTheMoodModel", "fail", "()V"⟩, 42), (⟨"CoatsFitTheMoodModel", "either0", "()I"⟩, 42), (⟨"CoatsFitTheMoodModel", "both0", "()I"⟩, 42), (⟨"CoatsFitTheMoodModel", "not0", "()I"⟩, 42), (⟨"CoatsFitTheMoodModel", "opens", "()Z"⟩, 42), (⟨"CoatsFitTheMoodModel", "not1", "()I"⟩, 42), (⟨"CoatsFitTheMoodModel", "not2", "()I"⟩, 42), (⟨"CoatsFitTheMoodModel", "not3", "()I"⟩, 42), (⟨"CoatsFitTheMoodModel", "not4", "()I"⟩, 42), (⟨"CoatsFitTheMoodModel", "not5", "()I"⟩, 42)]
theorem lw_r4 : ∀ q ∈ lw_privs_4, lw_okq q := List.forall_mem_cons.mpr ⟨lw_p48, List.forall_mem_cons.mpr ⟨lw_p49, List.forall_mem_cons.mpr ⟨lw_p50, List.forall_mem_cons.mpr ⟨lw_p51, List.forall_mem_cons.mpr ⟨lw_p52, List.forall_mem_cons.mpr ⟨lw_p53, List.forall_mem_cons.mpr ⟨lw_p54, List.forall_mem_cons.mpr ⟨lw_p55, List.forall_mem_cons.mpr ⟨lw_p56, List.forall_mem_cons.mpr ⟨lw_p57, List.forall_mem_cons.mpr ⟨lw_p58, List.forall_mem_cons.mpr ⟨lw_p59, List.forall_mem_cons.mpr ⟨lw_p60, List.forall_mem_cons.mpr ⟨lw_p61, List.forall_mem_cons.mpr ⟨lw_p62, List.forall_mem_cons.mpr ⟨lw_p63, fun _ h => absurd h List.not_mem_nil⟩⟩⟩⟩⟩⟩⟩⟩⟩⟩⟩⟩⟩⟩⟩⟩
theorem lw_p64 : lw_okq (⟨"CoatsFitTheMoodModel", "added5", "()I"⟩, 42) := ⟨⟨by decide +kernel, by decide +kernel⟩, List.mem_of_getElem? (i := 772) (by decide +kernel), List.mem_of_getElem? (i := 1026) (by decide +kernel), List.mem_of_getElem? (i := 1027) (by decide +kernel)⟩
theorem lw_p65 : lw_okq (⟨"CoatsFitTheMoodModel", "term5", "()I"⟩, 42) := ⟨⟨by decide +kernel, by decide +kernel⟩, List.mem_of_getElem? (i := 772) (by decide +kernel), List.mem_of_getElem? (i := 1030) (by decide +kernel), List.mem_of_getElem? (i := 1031) (by decide +kernel)⟩
theorem lw_p66 : lw_okq (⟨"CoatsFitTheMoodModel", "atom5", "()I"⟩, 42) := ⟨⟨by decide +kernel, by decide +kernel⟩, List.mem_of_getElem? (i := 772) (by decide +kernel), List.mem_of_getElem? (i := 1034) (by decide +kernel), List.mem_of_getElem? (i := 1035) (by decide +kernel)⟩
theorem lw_p67 : lw_okq (⟨"CoatsFitTheMoodModel", "isSign", "(I)Z"⟩, 42) := ⟨⟨by decide +kernel, by decide +kernel⟩, List.mem_of_getElem? (i := 772) (by decide +kernel), List.mem_of_getElem? (i := 1038) (by decide +kernel), List.mem_of_getElem? (i := 1039) (by decide +kernel)⟩
theorem lw_p68 : lw_okq (⟨"CoatsFitTheMoodModel", "name", "()I"⟩, 42) := ⟨⟨by decide +kernel, by decide +kernel⟩, List.mem_of_getElem? (i := 772) (by decide +kernel), List.mem_of_getElem? (i := 1042) (by decide +kernel), List.mem_of_getElem? (i := 1043) (by decide +kernel)⟩
theorem lw_p69 : lw_okq (⟨"CoatsFitTheMoodModel", "added4", "()I"⟩, 42) := ⟨⟨by decide +kernel, by decide +kernel⟩, List.mem_of_getElem? (i := 772) (by decide +kernel), List.mem_of_getElem? (i := 1048) (by decide +kernel), List.mem_of_getElem? (i := 1049) (by decide +kernel)⟩
theorem lw_p70 : lw_okq (⟨"CoatsFitTheMoodModel", "term4", "()I"⟩, 42) := ⟨⟨by decide +kernel, by decide +kernel⟩, List.mem_of_getElem? (i := 772) (by decide +kernel), List.mem_of_getElem? (i := 1052) (by decide +kernel), List.mem_of_getElem? (i := 1053) (by decide +kernel)⟩
theorem lw_p71 : lw_okq (⟨"CoatsFitTheMoodModel", "atom4", "()I"⟩, 42) := ⟨⟨by decide +kernel, by decide +kernel⟩, List.mem_of_getElem? (i := 772) (by decide +kernel), List.mem_of_getElem? (i := 1056) (by decide +kernel), List.mem_of_getElem? (i := 1057) (by decide +kernel)⟩
theorem lw_p72 : lw_okq (⟨"CoatsFitTheMoodModel", "either5", "()I"⟩, 42) := ⟨⟨by decide +kernel, by decide +kernel⟩, List.mem_of_getElem? (i := 772) (by decide +kernel), List.mem_of_getElem? (i := 1060) (by decide +kernel), List.mem_of_getElem? (i := 1061) (by decide +kernel)⟩
theorem lw_p73 : lw_okq (⟨"CoatsFitTheMoodModel", "both5", "()I"⟩, 42) := ⟨⟨by decide +kernel, by decide +kernel⟩, List.mem_of_getElem? (i := 772) (by decide +kernel), List.mem_of_getElem? (i := 1064) (by decide +kernel), List.mem_of_getElem? (i := 1065) (by decide +kernel)⟩
theorem lw_p74 : lw_okq (⟨"CoatsFitTheMoodModel", "added3", "()I"⟩, 42) := ⟨⟨by decide +kernel, by decide +kernel⟩, List.mem_of_getElem? (i := 772) (by decide +kernel), List.mem_of_getElem? (i := 1068) (by decide +kernel), List.mem_of_getElem? (i := 1069) (by decide +kernel)⟩
theorem lw_p75 : lw_okq (⟨"CoatsFitTheMoodModel", "term3", "()I"⟩, 42) := ⟨⟨by decide +kernel, by decide +kernel⟩, List.mem_of_getElem? (i := 772) (by decide +kernel), List.mem_of_getElem? (i := 1072) (by decide +kernel), List.mem_of_getElem? (i := 1073) (by decide +kernel)⟩
theorem lw_p76 : lw_okq (⟨"CoatsFitTheMoodModel", "atom3", "()I"⟩, 42) := ⟨⟨by decide +kernel, by decide +kernel⟩, List.mem_of_getElem? (i := 772) (by decide +kernel), List.mem_of_getElem? (i := 1076) (by decide +kernel), List.mem_of_getElem? (i := 1077) (by decide +kernel)⟩
theorem lw_p77 : lw_okq (⟨"CoatsFitTheMoodModel", "either4", "()I"⟩, 42) := ⟨⟨by decide +kernel, by decide +kernel⟩, List.mem_of_getElem? (i := 772) (by decide +kernel), List.mem_of_getElem? (i := 1080) (by decide +kernel), List.mem_of_getElem? (i := 1081) (by decide +kernel)⟩
theorem lw_p78 : lw_okq (⟨"CoatsFitTheMoodModel", "both4", "()I"⟩, 42) := ⟨⟨by decide +kernel, by decide +kernel⟩, List.mem_of_getElem? (i := 772) (by decide +kernel), List.mem_of_getElem? (i := 1084) (by decide +kernel), List.mem_of_getElem? (i := 1085) (by decide +kernel)⟩
theorem lw_p79 : lw_okq (⟨"CoatsFitTheMoodModel", "added2", "()I"⟩, 42) := ⟨⟨by decide +kernel, by decide +kernel⟩, List.mem_of_getElem? (i := 772) (by decide +kernel), List.mem_of_getElem? (i := 1088) (by decide +kernel), List.mem_of_getElem? (i := 1089) (by decide +kernel)⟩
def lw_privs_5 : List (MethodName × Nat) := [(⟨"CoatsFitTheMoodModel", "added5", "()I"⟩, 42), (⟨"CoatsFitTheMoodModel", "term5", "()I"⟩, 42), (⟨"CoatsFitTheMoodModel", "atom5", "()I"⟩, 42), (⟨"CoatsFitTheMoodModel", "isSign", "(I)Z"⟩, 42), (⟨"CoatsFitTheMoodModel", "name", "()I"⟩, 42), (⟨"CoatsFitTheMoodModel", "added4", "()I"⟩, 42), (⟨"CoatsFitTheMoodModel", "term4", "()I"⟩, 42), (⟨"CoatsFitTheMoodModel", "atom4", "()I"⟩, 42), (⟨"CoatsFitTheMoodModel", "either5", "()I"⟩, 42), (⟨"CoatsFitTheMoodModel", "both5", "()I"⟩, 42), (⟨"CoatsFitTheMoodModel", "added3", "()I"⟩, 42), (⟨"CoatsFitTheMoodModel", "term3", "()I"⟩, 42), (⟨"CoatsFitTheMoodModel", "atom3", "()I"⟩, 42), (⟨"CoatsFitTheMoodModel", "either4", "()I"⟩, 42), (⟨"CoatsFitTheMoodModel", "both4", "()I"⟩, 42), (⟨"CoatsFitTheMoodModel", "added2", "()I"⟩, 42)]
theorem lw_r5 : ∀ q ∈ lw_privs_5, lw_okq q := List.forall_mem_cons.mpr ⟨lw_p64, List.forall_mem_cons.mpr ⟨lw_p65, List.forall_mem_cons.mpr ⟨lw_p66, List.forall_mem_cons.mpr ⟨lw_p67, List.forall_mem_cons.mpr ⟨lw_p68, List.forall_mem_cons.mpr ⟨lw_p69, List.forall_mem_cons.mpr ⟨lw_p70, List.forall_mem_cons.mpr ⟨lw_p71, List.forall_mem_cons.mpr ⟨lw_p72, List.forall_mem_cons.mpr ⟨lw_p73, List.forall_mem_cons.mpr ⟨lw_p74, List.forall_mem_cons.mpr ⟨lw_p75, List.forall_mem_cons.mpr ⟨lw_p76, List.forall_mem_cons.mpr ⟨lw_p77, List.forall_mem_cons.mpr ⟨lw_p78, List.forall_mem_cons.mpr ⟨lw_p79, fun _ h => absurd h List.not_mem_nil⟩⟩⟩⟩⟩⟩⟩⟩⟩⟩⟩⟩⟩⟩⟩⟩
theorem lw_p80 : lw_okq (⟨"CoatsFitTheMoodModel", "term2", "()I"⟩, 42) := ⟨⟨by decide +kernel, by decide +kernel⟩, List.mem_of_getElem? (i := 772) (by decide +kernel), List.mem_of_getElem? (i := 1092) (by decide +kernel), List.mem_of_getElem? (i := 1093) (by decide +kernel)⟩
theorem lw_p81 : lw_okq (⟨"CoatsFitTheMoodModel", "atom2", "()I"⟩, 42) := ⟨⟨by decide +kernel, by decide +kernel⟩, List.mem_of_getElem? (i := 772) (by decide +kernel), List.mem_of_getElem? (i := 1096) (by decide +kernel), List.mem_of_getElem? (i := 1097) (by decide +kernel)⟩
theorem lw_p82 : lw_okq (⟨"CoatsFitTheMoodModel", "either3", "()I"⟩, 42) := ⟨⟨by decide +kernel, by decide +kernel⟩, List.mem_of_getElem? (i := 772) (by decide +kernel), List.mem_of_getElem? (i := 1100) (by decide +kernel), List.mem_of_getElem? (i := 1101) (by decide +kernel)⟩
theorem lw_p83 : lw_okq (⟨"CoatsFitTheMoodModel", "both3", "()I"⟩, 42) := ⟨⟨by decide +kernel, by decide +kernel⟩, List.mem_of_getElem? (i := 772) (by decide +kernel), List.mem_of_getElem? (i := 1104) (by decide +kernel), List.mem_of_getElem? (i := 1105) (by decide +kernel)⟩
theorem lw_p84 : lw_okq (⟨"CoatsFitTheMoodModel", "added1", "()I"⟩, 42) := ⟨⟨by decide +kernel, by decide +kernel⟩, List.mem_of_getElem? (i := 772) (by decide +kernel), List.mem_of_getElem? (i := 1108) (by decide +kernel), List.mem_of_getElem? (i := 1109) (by decide +kernel)⟩
theorem lw_p85 : lw_okq (⟨"CoatsFitTheMoodModel", "term1", "()I"⟩, 42) := ⟨⟨by decide +kernel, by decide +kernel⟩, List.mem_of_getElem? (i := 772) (by decide +kernel), List.mem_of_getElem? (i := 1112) (by decide +kernel), List.mem_of_getElem? (i := 1113) (by decide +kernel)⟩
theorem lw_p86 : lw_okq (⟨"CoatsFitTheMoodModel", "atom1", "()I"⟩, 42) := ⟨⟨by decide +kernel, by decide +kernel⟩, List.mem_of_getElem? (i := 772) (by decide +kernel), List.mem_of_getElem? (i := 1116) (by decide +kernel), List.mem_of_getElem? (i := 1117) (by decide +kernel)⟩
theorem lw_p87 : lw_okq (⟨"CoatsFitTheMoodModel", "either2", "()I"⟩, 42) := ⟨⟨by decide +kernel, by decide +kernel⟩, List.mem_of_getElem? (i := 772) (by decide +kernel), List.mem_of_getElem? (i := 1120) (by decide +kernel), List.mem_of_getElem? (i := 1121) (by decide +kernel)⟩
theorem lw_p88 : lw_okq (⟨"CoatsFitTheMoodModel", "both2", "()I"⟩, 42) := ⟨⟨by decide +kernel, by decide +kernel⟩, List.mem_of_getElem? (i := 772) (by decide +kernel), List.mem_of_getElem? (i := 1124) (by decide +kernel), List.mem_of_getElem? (i := 1125) (by decide +kernel)⟩
theorem lw_p89 : lw_okq (⟨"CoatsFitTheMoodModel", "added0", "()I"⟩, 42) := ⟨⟨by decide +kernel, by decide +kernel⟩, List.mem_of_getElem? (i := 772) (by decide +kernel), List.mem_of_getElem? (i := 1128) (by decide +kernel), List.mem_of_getElem? (i := 1129) (by decide +kernel)⟩
theorem lw_p90 : lw_okq (⟨"CoatsFitTheMoodModel", "term0", "()I"⟩, 42) := ⟨⟨by decide +kernel, by decide +kernel⟩, List.mem_of_getElem? (i := 772) (by decide +kernel), List.mem_of_getElem? (i := 1132) (by decide +kernel), List.mem_of_getElem? (i := 1133) (by decide +kernel)⟩
theorem lw_p91 : lw_okq (⟨"CoatsFitTheMoodModel", "atom0", "()I"⟩, 42) := ⟨⟨by decide +kernel, by decide +kernel⟩, List.mem_of_getElem? (i := 772) (by decide +kernel), List.mem_of_getElem? (i := 1136) (by decide +kernel), List.mem_of_getElem? (i := 1137) (by decide +kernel)⟩
theorem lw_p92 : lw_okq (⟨"CoatsFitTheMoodModel", "either1", "()I"⟩, 42) := ⟨⟨by decide +kernel, by decide +kernel⟩, List.mem_of_getElem? (i := 772) (by decide +kernel), List.mem_of_getElem? (i := 1140) (by decide +kernel), List.mem_of_getElem? (i := 1141) (by decide +kernel)⟩
theorem lw_p93 : lw_okq (⟨"CoatsFitTheMoodModel", "both1", "()I"⟩, 42) := ⟨⟨by decide +kernel, by decide +kernel⟩, List.mem_of_getElem? (i := 772) (by decide +kernel), List.mem_of_getElem? (i := 1144) (by decide +kernel), List.mem_of_getElem? (i := 1145) (by decide +kernel)⟩
theorem lw_p94 : lw_okq (⟨"CoatsFitTheMoodModel", "hoursOf", "(I)I"⟩, 42) := ⟨⟨by decide +kernel, by decide +kernel⟩, List.mem_of_getElem? (i := 772) (by decide +kernel), List.mem_of_getElem? (i := 1151) (by decide +kernel), List.mem_of_getElem? (i := 1152) (by decide +kernel)⟩
theorem lw_p95 : lw_okq (⟨"CoatsFitTheMoodModel", "hoursBy", "(II)I"⟩, 42) := ⟨⟨by decide +kernel, by decide +kernel⟩, List.mem_of_getElem? (i := 772) (by decide +kernel), List.mem_of_getElem? (i := 1155) (by decide +kernel), List.mem_of_getElem? (i := 1156) (by decide +kernel)⟩
def lw_privs_6 : List (MethodName × Nat) := [(⟨"CoatsFitTheMoodModel", "term2", "()I"⟩, 42), (⟨"CoatsFitTheMoodModel", "atom2", "()I"⟩, 42), (⟨"CoatsFitTheMoodModel", "either3", "()I"⟩, 42), (⟨"CoatsFitTheMoodModel", "both3", "()I"⟩, 42), (⟨"CoatsFitTheMoodModel", "added1", "()I"⟩, 42), (⟨"CoatsFitTheMoodModel", "term1", "()I"⟩, 42), (⟨"CoatsFitTheMoodModel", "atom1", "()I"⟩, 42), (⟨"CoatsFitTheMoodModel", "either2", "()I"⟩, 42), (⟨"CoatsFitTheMoodModel", "both2", "()I"⟩, 42), (⟨"CoatsFitTheMoodModel", "added0", "()I"⟩, 42), (⟨"CoatsFitTheMoodModel", "term0", "()I"⟩, 42), (⟨"CoatsFitTheMoodModel", "atom0", "()I"⟩, 42), (⟨"CoatsFitTheMoodModel", "either1", "()I"⟩, 42), (⟨"CoatsFitTheMoodModel", "both1", "()I"⟩, 42), (⟨"CoatsFitTheMoodModel", "hoursOf", "(I)I"⟩, 42), (⟨"CoatsFitTheMoodModel", "hoursBy", "(II)I"⟩, 42)]
theorem lw_r6 : ∀ q ∈ lw_privs_6, lw_okq q := List.forall_mem_cons.mpr ⟨lw_p80, List.forall_mem_cons.mpr ⟨lw_p81, List.forall_mem_cons.mpr ⟨lw_p82, List.forall_mem_cons.mpr ⟨lw_p83, List.forall_mem_cons.mpr ⟨lw_p84, List.forall_mem_cons.mpr ⟨lw_p85, List.forall_mem_cons.mpr ⟨lw_p86, List.forall_mem_cons.mpr ⟨lw_p87, List.forall_mem_cons.mpr ⟨lw_p88, List.forall_mem_cons.mpr ⟨lw_p89, List.forall_mem_cons.mpr ⟨lw_p90, List.forall_mem_cons.mpr ⟨lw_p91, List.forall_mem_cons.mpr ⟨lw_p92, List.forall_mem_cons.mpr ⟨lw_p93, List.forall_mem_cons.mpr ⟨lw_p94, List.forall_mem_cons.mpr ⟨lw_p95, fun _ h => absurd h List.not_mem_nil⟩⟩⟩⟩⟩⟩⟩⟩⟩⟩⟩⟩⟩⟩⟩⟩
theorem lw_p96 : lw_okq (⟨"CoatsFitTheMoodModel", "lays", "(III)V"⟩, 42) := ⟨⟨by decide +kernel, by decide +kernel⟩, List.mem_of_getElem? (i := 772) (by decide +kernel), List.mem_of_getElem? (i := 1159) (by decide +kernel), List.mem_of_getElem? (i := 1160) (by decide +kernel)⟩
theorem lw_p97 : lw_okq (⟨"CoatsFitTheMoodModel", "fineOf", "(III)I"⟩, 42) := ⟨⟨by decide +kernel, by decide +kernel⟩, List.mem_of_getElem? (i := 772) (by decide +kernel), List.mem_of_getElem? (i := 1189) (by decide +kernel), List.mem_of_getElem? (i := 1190) (by decide +kernel)⟩
theorem lw_p98 : lw_okq (⟨"CoatsFitTheMoodModel", "costOf", "(III)I"⟩, 42) := ⟨⟨by decide +kernel, by decide +kernel⟩, List.mem_of_getElem? (i := 772) (by decide +kernel), List.mem_of_getElem? (i := 1193) (by decide +kernel), List.mem_of_getElem? (i := 1194) (by decide +kernel)⟩
theorem lw_p99 : lw_okq (⟨"CoatsFitTheMoodModel", "pushed", "(III)V"⟩, 42) := ⟨⟨by decide +kernel, by decide +kernel⟩, List.mem_of_getElem? (i := 772) (by decide +kernel), List.mem_of_getElem? (i := 1206) (by decide +kernel), List.mem_of_getElem? (i := 1207) (by decide +kernel)⟩
theorem lw_p100 : lw_okq (⟨"CoatsFitTheMoodModel", "planBad", "(I)I"⟩, 42) := ⟨⟨by decide +kernel, by decide +kernel⟩, List.mem_of_getElem? (i := 772) (by decide +kernel), List.mem_of_getElem? (i := 1217) (by decide +kernel), List.mem_of_getElem? (i := 1218) (by decide +kernel)⟩
theorem lw_p101 : lw_okq (⟨"CoatsFitTheMoodModel", "planned", "(III)I"⟩, 42) := ⟨⟨by decide +kernel, by decide +kernel⟩, List.mem_of_getElem? (i := 772) (by decide +kernel), List.mem_of_getElem? (i := 1221) (by decide +kernel), List.mem_of_getElem? (i := 1222) (by decide +kernel)⟩
theorem lw_p102 : lw_okq (⟨"CoatsFitTheMoodModel", "wornAt", "(II)I"⟩, 42) := ⟨⟨by decide +kernel, by decide +kernel⟩, List.mem_of_getElem? (i := 772) (by decide +kernel), List.mem_of_getElem? (i := 1225) (by decide +kernel), List.mem_of_getElem? (i := 1226) (by decide +kernel)⟩
theorem lw_p103 : lw_okq (⟨"CoatsFitTheMoodModel", "coverOf", "(I)I"⟩, 42) := ⟨⟨by decide +kernel, by decide +kernel⟩, List.mem_of_getElem? (i := 772) (by decide +kernel), List.mem_of_getElem? (i := 1239) (by decide +kernel), List.mem_of_getElem? (i := 1240) (by decide +kernel)⟩
theorem lw_p104 : lw_okq (⟨"CoatsFitTheMoodModel", "rights", "(I)V"⟩, 42) := ⟨⟨by decide +kernel, by decide +kernel⟩, List.mem_of_getElem? (i := 772) (by decide +kernel), List.mem_of_getElem? (i := 1243) (by decide +kernel), List.mem_of_getElem? (i := 1244) (by decide +kernel)⟩
theorem lw_p105 : lw_okq (⟨"CoatsFitTheMoodModel", "covers", "(I)Z"⟩, 42) := ⟨⟨by decide +kernel, by decide +kernel⟩, List.mem_of_getElem? (i := 772) (by decide +kernel), List.mem_of_getElem? (i := 1250) (by decide +kernel), List.mem_of_getElem? (i := 1251) (by decide +kernel)⟩
theorem lw_p106 : lw_okq (⟨"CoatsFitTheMoodModel", "bareOf", "(I)I"⟩, 42) := ⟨⟨by decide +kernel, by decide +kernel⟩, List.mem_of_getElem? (i := 772) (by decide +kernel), List.mem_of_getElem? (i := 1254) (by decide +kernel), List.mem_of_getElem? (i := 1255) (by decide +kernel)⟩
theorem lw_p107 : lw_okq (⟨"CoatsFitTheMoodModel", "changesOf", "(I)I"⟩, 42) := ⟨⟨by decide +kernel, by decide +kernel⟩, List.mem_of_getElem? (i := 772) (by decide +kernel), List.mem_of_getElem? (i := 1258) (by decide +kernel), List.mem_of_getElem? (i := 1259) (by decide +kernel)⟩
theorem lw_p108 : lw_okq (⟨"CoatsFitTheMoodModel", "cheapOf", "(I)I"⟩, 42) := ⟨⟨by decide +kernel, by decide +kernel⟩, List.mem_of_getElem? (i := 772) (by decide +kernel), List.mem_of_getElem? (i := 1263) (by decide +kernel), List.mem_of_getElem? (i := 1264) (by decide +kernel)⟩
theorem lw_p109 : lw_okq (⟨"CoatsFitTheMoodModel", "byCoat", "(III)I"⟩, 42) := ⟨⟨by decide +kernel, by decide +kernel⟩, List.mem_of_getElem? (i := 772) (by decide +kernel), List.mem_of_getElem? (i := 1267) (by decide +kernel), List.mem_of_getElem? (i := 1268) (by decide +kernel)⟩
theorem lw_p110 : lw_okq (⟨"CoatsFitTheMoodModel", "laysAside", "(I)V"⟩, 42) := ⟨⟨by decide +kernel, by decide +kernel⟩, List.mem_of_getElem? (i := 772) (by decide +kernel), List.mem_of_getElem? (i := 1288) (by decide +kernel), List.mem_of_getElem? (i := 1289) (by decide +kernel)⟩
theorem lw_p111 : lw_okq (⟨"CoatsFitTheMoodModel", "laysBack", "(I)V"⟩, 42) := ⟨⟨by decide +kernel, by decide +kernel⟩, List.mem_of_getElem? (i := 772) (by decide +kernel), List.mem_of_getElem? (i := 1292) (by decide +kernel), List.mem_of_getElem? (i := 1293) (by decide +kernel)⟩
def lw_privs_7 : List (MethodName × Nat) := [(⟨"CoatsFitTheMoodModel", "lays", "(III)V"⟩, 42), (⟨"CoatsFitTheMoodModel", "fineOf", "(III)I"⟩, 42), (⟨"CoatsFitTheMoodModel", "costOf", "(III)I"⟩, 42), (⟨"CoatsFitTheMoodModel", "pushed", "(III)V"⟩, 42), (⟨"CoatsFitTheMoodModel", "planBad", "(I)I"⟩, 42), (⟨"CoatsFitTheMoodModel", "planned", "(III)I"⟩, 42), (⟨"CoatsFitTheMoodModel", "wornAt", "(II)I"⟩, 42), (⟨"CoatsFitTheMoodModel", "coverOf", "(I)I"⟩, 42), (⟨"CoatsFitTheMoodModel", "rights", "(I)V"⟩, 42), (⟨"CoatsFitTheMoodModel", "covers", "(I)Z"⟩, 42), (⟨"CoatsFitTheMoodModel", "bareOf", "(I)I"⟩, 42), (⟨"CoatsFitTheMoodModel", "changesOf", "(I)I"⟩, 42), (⟨"CoatsFitTheMoodModel", "cheapOf", "(I)I"⟩, 42), (⟨"CoatsFitTheMoodModel", "byCoat", "(III)I"⟩, 42), (⟨"CoatsFitTheMoodModel", "laysAside", "(I)V"⟩, 42), (⟨"CoatsFitTheMoodModel", "laysBack", "(I)V"⟩, 42)]
theorem lw_r7 : ∀ q ∈ lw_privs_7, lw_okq q := List.forall_mem_cons.mpr ⟨lw_p96, List.forall_mem_cons.mpr ⟨lw_p97, List.forall_mem_cons.mpr ⟨lw_p98, List.forall_mem_cons.mpr ⟨lw_p99, List.forall_mem_cons.mpr ⟨lw_p100, List.forall_mem_cons.mpr ⟨lw_p101, List.forall_mem_cons.mpr ⟨lw_p102, List.forall_mem_cons.mpr ⟨lw_p103, List.forall_mem_cons.mpr ⟨lw_p104, List.forall_mem_cons.mpr ⟨lw_p105, List.forall_mem_cons.mpr ⟨lw_p106, List.forall_mem_cons.mpr ⟨lw_p107, List.forall_mem_cons.mpr ⟨lw_p108, List.forall_mem_cons.mpr ⟨lw_p109, List.forall_mem_cons.mpr ⟨lw_p110, List.forall_mem_cons.mpr ⟨lw_p111, fun _ h => absurd h List.not_mem_nil⟩⟩⟩⟩⟩⟩⟩⟩⟩⟩⟩⟩⟩⟩⟩⟩
theorem lw_p112 : lw_okq (⟨"CoatsFitTheMoodModel", "apart", "(II)I"⟩, 42) := ⟨⟨by decide +kernel, by decide +kernel⟩, List.mem_of_getElem? (i := 772) (by decide +kernel), List.mem_of_getElem? (i := 1300) (by decide +kernel), List.mem_of_getElem? (i := 1301) (by decide +kernel)⟩
theorem lw_p113 : lw_okq (⟨"CoatsFitTheMoodModel", "firstOther", "(III)I"⟩, 42) := ⟨⟨by decide +kernel, by decide +kernel⟩, List.mem_of_getElem? (i := 772) (by decide +kernel), List.mem_of_getElem? (i := 1318) (by decide +kernel), List.mem_of_getElem? (i := 1319) (by decide +kernel)⟩
theorem lw_p114 : lw_okq (⟨"CoatsFitTheMoodModel", "hourSet", "(II)I"⟩, 42) := ⟨⟨by decide +kernel, by decide +kernel⟩, List.mem_of_getElem? (i := 772) (by decide +kernel), List.mem_of_getElem? (i := 1322) (by decide +kernel), List.mem_of_getElem? (i := 1323) (by decide +kernel)⟩
theorem lw_p115 : lw_okq (⟨"CoatsFitTheMoodModel", "cheapDrawn", "(II)I"⟩, 42) := ⟨⟨by decide +kernel, by decide +kernel⟩, List.mem_of_getElem? (i := 772) (by decide +kernel), List.mem_of_getElem? (i := 1335) (by decide +kernel), List.mem_of_getElem? (i := 1336) (by decide +kernel)⟩
def lw_privs_8 : List (MethodName × Nat) := [(⟨"CoatsFitTheMoodModel", "apart", "(II)I"⟩, 42), (⟨"CoatsFitTheMoodModel", "firstOther", "(III)I"⟩, 42), (⟨"CoatsFitTheMoodModel", "hourSet", "(II)I"⟩, 42), (⟨"CoatsFitTheMoodModel", "cheapDrawn", "(II)I"⟩, 42)]
theorem lw_r8 : ∀ q ∈ lw_privs_8, lw_okq q := List.forall_mem_cons.mpr ⟨lw_p112, List.forall_mem_cons.mpr ⟨lw_p113, List.forall_mem_cons.mpr ⟨lw_p114, List.forall_mem_cons.mpr ⟨lw_p115, fun _ h => absurd h List.not_mem_nil⟩⟩⟩⟩
def lw_privs : List (MethodName × Nat) := lw_privs_1 ++ (lw_privs_2 ++ (lw_privs_3 ++ (lw_privs_4 ++ (lw_privs_5 ++ (lw_privs_6 ++ (lw_privs_7 ++ (lw_privs_8)))))))
def lw_tbl : List Cond := k2_sels lw_privs ++ tables_1
theorem lw_privs_ok : ∀ q ∈ lw_privs, lw_okq q := by
  show ∀ q ∈ lw_privs_1 ++ (lw_privs_2 ++ (lw_privs_3 ++ (lw_privs_4 ++ (lw_privs_5 ++ (lw_privs_6 ++ (lw_privs_7 ++ (lw_privs_8))))))), lw_okq q
  exact List.forall_mem_append.mpr ⟨lw_r1, List.forall_mem_append.mpr ⟨lw_r2, List.forall_mem_append.mpr ⟨lw_r3, List.forall_mem_append.mpr ⟨lw_r4, List.forall_mem_append.mpr ⟨lw_r5, List.forall_mem_append.mpr ⟨lw_r6, List.forall_mem_append.mpr ⟨lw_r7, lw_r8⟩⟩⟩⟩⟩⟩⟩
-- ===== end of PART A; then your names; then what follows =====
end
section
/-! An abstract machine over which the methods' bytecode is read: cells are (kind, number, place), answers are carried on (a text's 'k'); what it answers, the machine answers (part 02). -/
abbrev AV : Type := Int32 ⊕ (Int64 ⊕ ((Nat × Nat) ⊕ Unit))
abbrev vI (x : Int32) : AV := .inl x
abbrev vL (x : Int64) : AV := .inr (.inl x)
abbrev vR (g i : Nat) : AV := .inr (.inr (.inl (g, i)))
abbrev vU : AV := .inr (.inr (.inr ()))
abbrev Sg : Type := Nat → Nat → Nat → Int32
def upd3 (σ : Sg) (g i j : Nat) (x : Int32) : Sg := fun g' i' j' => if g' = g ∧ i' = i ∧ j' = j then x else σ g' i' j'
/-- n numbers of a row come to another one -/
def cpy3 (σ : Sg) (g i sp g' i' dp n : Nat) : Sg := fun a b j => if a = g' ∧ b = i' ∧ dp ≤ j ∧ j < dp + n then σ g i (sp + (j - dp)) else σ a b j
abbrev AOp : Type := Nat × Nat × Nat × AV × List (Int × Nat)
def ab_nth {α : Type} (d : α) : List α → Nat → α
  | [], _ => d
  | x :: _, 0 => x
  | _ :: r, n + 1 => ab_nth d r n
/-- the lengths of the rows, by kind -/
def ab_lens : List Nat := [0, 0, 0, 160, 3, 40, 0, 160, 161, 161, 161, 0, 0, 40, 0, 216, 216, 216, 216, 24, 0, 72, 8, 72, 8, 6, 4, 0, 0, 0, 0, 960, 6, 160, 72, 8, 24, 24, 9, 9, 225, 216, 216, 24, 24, 72, 24, 4, 4, 4, 160]
abbrev ab_len (g : Nat) : Nat := ab_nth 0 ab_lens g
/-- of rows of references: the kind and the first number that they hold -/
def ab_refs : Nat → Nat × Nat := fun g => match g with
  | 22 => (1, 9)
  | 24 => (1, 0)
  | 25 => (2, 0)
  | 26 => (12, 0)
  | _ => (0, 0)
def ab_i2 (a : Nat) (x y : Int32) : Int32 := match a with
  | 0 => x + y
  | 1 => x - y
  | 2 => x * y
  | 3 => x &&& y
  | 4 => x ||| y
  | 5 => x <<< (y &&& 31)
  | 6 => x >>> (y &&& 31)
  | _ => (x.toUInt32 >>> (y.toUInt32 &&& 31)).toInt32
def ab_l2 (a : Nat) (x y : Int64) : Int64 := match a with
  | 0 => x + y
  | 1 => x - y
  | _ => x * y
def ab_ka (j : Nat) : Int32 := ab_nth 0 [-1, 0, 0, 1, 2, 0] j
/-- the 12 words of the class: their letters -/
def ab_words : List (List Nat) := [[101, 97, 115, 101, 115], [102, 105, 110, 101, 115], [99, 111, 115, 116, 115], [111, 114], [97, 110, 100], [110, 111, 116], [99, 117, 116], [109, 111, 111, 100], [110, 117, 109, 98, 101, 114], [104, 111, 117, 114], [119, 111, 114, 110], [111, 102, 102]]
def ab_word (k : Nat) : List Nat := ab_nth [] ab_words k
def ab_set (L : List AV) (i : Nat) (v : AV) : List AV := match L, i with
  | [], _ => []
  | _ :: r, 0 => v :: r
  | x :: r, n + 1 => x :: ab_set r n v
def ab_isL (v : AV) : Bool := match v with
  | .inr (.inl _) => true
  | _ => false
def ab_un (v : AV) : AV := match v with
  | .inr (.inl _) => vU
  | v => v
/-- a local is laid; a long whose half it takes is gone -/
def ab_sto (L : List AV) (i : Nat) (v : AV) : List AV := match i with
  | 0 => ab_set L 0 v
  | n + 1 => ab_set (ab_set L n (ab_un (ab_nth vU L n))) (n + 1) v
def ab_cat (v : AV) : Nat := match v with
  | .inr (.inl _) => 2
  | _ => 1
def ab_cats : List AV → Nat
  | [] => 0
  | v :: r => ab_cat v + ab_cats r
/-- one step that neither jumps nor calls -/
def ab_st {R : Type} (op : AOp) (L st : List AV) (σ : Sg) (k : List AV → List AV → Sg → Option R) : Option R := match op with
  | (0, _, _, v, _) => k L (v :: st) σ
  | (1, a, _, _, _) => match ab_nth vU L a with
    | .inl x => k L (vI x :: st) σ
    | _ => none
  | (2, a, _, _, _) => match ab_nth vU L a with
    | .inr (.inl x) => k L (vL x :: st) σ
    | _ => none
  | (3, a, _, _, _) => match ab_nth vU L a with
    | .inr (.inr (.inl r)) => k L (.inr (.inr (.inl r)) :: st) σ
    | _ => none
  | (4, a, _, _, _) => match st with
    | .inl x :: st => k (ab_sto L a (vI x)) st σ
    | _ => none
  | (5, a, _, _, _) => match st with
    | .inr (.inl x) :: st => k (ab_set (ab_sto L a (vL x)) (a + 1) vU) st σ
    | _ => none
  | (6, a, _, _, _) => match st with
    | .inr (.inr (.inl r)) :: st => k (ab_sto L a (.inr (.inr (.inl r)))) st σ
    | _ => none
  | (7, a, _, v, _) => match ab_nth vU L a, v with
    | .inl x, .inl y => k (ab_set L a (vI (x + y))) st σ
    | _, _ => none
  | (8, a, _, _, _) => match st with
    | .inl y :: .inl x :: st => k L (vI (ab_i2 a x y) :: st) σ
    | _ => none
  | (9, a, _, _, _) => match st with
    | .inl y :: .inl x :: st => if y = 0 then none else k L (vI (match a with | 0 => x / y | _ => x - x / y * y) :: st) σ
    | _ => none
  | (10, a, _, _, _) => match st with
    | .inl x :: st => k L (vI (match a with | 0 => -x | 1 => x.toInt8.toInt32 | _ => x.toInt16.toInt32) :: st) σ
    | _ => none
  | (11, _, _, _, _) => match st with
    | .inl x :: st => k L (vL x.toInt64 :: st) σ
    | _ => none
  | (12, _, _, _, _) => match st with
    | .inr (.inl x) :: st => k L (vI x.toInt32 :: st) σ
    | _ => none
  | (13, a, _, _, _) => match st with
    | .inr (.inl y) :: .inr (.inl x) :: st => k L (vL (ab_l2 a x y) :: st) σ
    | _ => none
  | (14, a, _, _, _) => match st with
    | .inr (.inl y) :: .inr (.inl x) :: st => if y = 0 then none else k L (vL (match a with | 0 => x / y | _ => x - x / y * y) :: st) σ
    | _ => none
  | (15, _, _, _, _) => match st with
    | .inr (.inl y) :: .inr (.inl x) :: st => k L (vI (lg_cmp x y) :: st) σ
    | _ => none
  | (16, _, _, _, _) => match st with
    | .inl x :: st => k L (vI x :: vI x :: st) σ
    | .inr (.inr (.inl r)) :: st => k L (.inr (.inr (.inl r)) :: .inr (.inr (.inl r)) :: st) σ
    | _ => none
  | (17, _, _, _, _) => match st with
    | .inl _ :: st => k L st σ
    | _ => none
  | (18, a, b, _, _) => match st with
    | .inr (.inr (.inl (g, i))) :: st => match Nat.beq g a with
      | true => k L (vI (σ a i b) :: st) σ
      | false => none
    | _ => none
  | (19, a, b, _, _) => match st with
    | .inr (.inr (.inl (g, i))) :: st => match Nat.beq g a with
      | true => k L (vL (σ a i b).toInt64 :: st) σ
      | false => none
    | _ => none
  | (20, a, _, v, _) => match st, v with
    | .inr (.inr (.inl (g, i))) :: st, .inr (.inr (.inl (g', o))) => match Nat.beq g a with
      | true => k L (vR g' (i + o) :: st) σ
      | false => none
    | _, _ => none
  | (21, a, b, _, _) => match st with
    | .inl x :: .inr (.inr (.inl (g, i))) :: st => match Nat.beq g a with
      | true => k L st (upd3 σ a i b x)
      | false => none
    | _ => none
  | (22, a, b, _, _) => match st with
    | .inl x :: .inr (.inr (.inl (g, i))) :: st => match Nat.beq g a with
      | true => if x = 0 then k L st (upd3 σ a i b 0) else if x = 1 then k L st (upd3 σ a i b 1) else none
      | false => none
    | _ => none
  | (23, a, b, _, _) => match st with
    | .inr (.inl x) :: .inr (.inr (.inl (g, i))) :: st => match Nat.beq g a with
      | true => if x.toInt32.toInt64 = x then k L st (upd3 σ a i b x.toInt32) else none
      | false => none
    | _ => none
  | (24, a, _, _, _) => match st with
    | .inl j :: .inr (.inr (.inl (g, i))) :: st => match Nat.beq g a with
      | true => if j < 0 then none else if ab_len a ≤ j.toNatClampNeg then none else k L (vI (σ a i j.toNatClampNeg) :: st) σ
      | false => none
    | _ => none
  | (25, a, _, _, _) => match st with
    | .inl x :: .inl j :: .inr (.inr (.inl (g, i))) :: st => match Nat.beq g a with
      | true => if j < 0 then none else if ab_len a ≤ j.toNatClampNeg then none else k L st (upd3 σ a i j.toNatClampNeg x)
      | false => none
    | _ => none
  | (26, a, _, _, _) => match st with
    | .inl j :: .inr (.inr (.inl (g, i))) :: st => match Nat.beq g a with
      | true => if j < 0 then none else if ab_len a ≤ j.toNatClampNeg then none else k L (vI (σ a i j.toNatClampNeg) :: st) σ
      | false => none
    | _ => none
  | (27, a, _, _, _) => match st with
    | .inl x :: .inl j :: .inr (.inr (.inl (g, i))) :: st => match Nat.beq g a with
      | true => if j < 0 then none else if ab_len a ≤ j.toNatClampNeg then none else k L st (upd3 σ a i j.toNatClampNeg (x &&& 1))
      | false => none
    | _ => none
  | (28, a, _, _, _) => match st with
    | .inl j :: .inr (.inr (.inl (g, _))) :: st => match Nat.beq g a with
      | true => if j < 0 then none else if ab_len a ≤ j.toNatClampNeg then none else k L (vR (ab_refs a).1 (j.toNatClampNeg + (ab_refs a).2) :: st) σ
      | false => none
    | _ => none
  | (29, a, _, _, _) => match st with
    | .inl y :: .inl x :: st => match Nat.ble (ab_cats st) 8 with
      | true => k L (vI (match a with | 0 => if x < y then y else x | _ => if y < x then y else x) :: st) σ
      | false => none
    | _ => none
  | (30, _, _, _, _) => match st with
    | .inl x :: st => match Nat.ble (ab_cats st) 8 with
      | true => k L (vI (if 0 ≤ x then x else 0 - x) :: st) σ
      | false => none
    | _ => none
  | (31, a, b, _, _) => match st with
    | .inl n :: .inl dp :: .inr (.inr (.inl (g', i'))) :: .inl sp :: .inr (.inr (.inl (g, i))) :: st => match Nat.beq g a && Nat.beq g' b && Nat.ble (ab_cats st) 8 with
      | true => if sp < 0 then none else if dp < 0 then none else if n < 0 then none else if ab_len a < sp.toNatClampNeg + n.toNatClampNeg then none else if ab_len b < dp.toNatClampNeg + n.toNatClampNeg then none else k L st (cpy3 σ a i sp.toNatClampNeg b i' dp.toNatClampNeg n.toNatClampNeg)
      | false => none
    | _ => none
  | (34, _, _, _, _) => match st with
    | .inl j :: .inr (.inr (.inl (61, _))) :: st => if j < 0 then none else if 6 ≤ j.toNatClampNeg then none else k L (vI (ab_ka j.toNatClampNeg) :: st) σ
    | _ => none
  | _ => none
def ab_lk {α : Type} : List (Nat × α) → Nat → Option α
  | [], _ => none
  | (i, x) :: r, n => match Nat.beq i n with
    | true => some x
    | false => ab_lk r n
abbrev ACall (R : Type) : Type := List AV → Sg → (AV → Sg → Option R) → Option R
abbrev ACut (R : Type) : Type := List AV → List AV → Sg → Option R
def ab_sw {R : Type} (x : Int32) (j : Nat → Option R) (d : Nat) : List (Int × Nat) → Option R
  | [] => j d
  | (c, t) :: r => if x = Int32.ofInt c then j t else ab_sw x j d r
def ab_cnd {R : Type} (c : Nat) (x y : Int32) (A B : Option R) : Option R := match c with
  | 0 => if x = y then A else B
  | 1 => if x = y then B else A
  | 2 => if x < y then A else B
  | 3 => if x < y then B else A
  | 4 => if y < x then A else B
  | _ => if y < x then B else A
/-- n of the stack, the deepest first -/
def ab_pop : Nat → List AV → List AV → Option (List AV × List AV)
  | 0, st, acc => some (acc, st)
  | _ + 1, [], _ => none
  | n + 1, v :: st, acc => ab_pop n st (v :: acc)
def ab_ev {R : Type} (tab : List (Nat × List AOp)) (Os : List (Nat × ACall R)) (Ks : List (Nat × ACut R)) (fin : AV → Sg → Option R) : Nat → List AOp → List AV → List AV → Sg → Option R
  | 0, _, _, _, _ => none
  | _ + 1, [], _, _, _ => none
  | n + 1, (k, a, b, v, ts) :: ops, L, st, σ => match k with
    | 40 => match ab_lk Ks a with
      | some c => c L st σ
      | none => match ab_lk tab a with
        | some o => ab_ev tab Os Ks fin n o L st σ
        | none => none
    | 41 => match st with
      | .inl x :: st => ab_cnd a x 0 (match ab_lk Ks b with
          | some c => c L st σ
          | none => match ab_lk tab b with
            | some o => ab_ev tab Os Ks fin n o L st σ
            | none => none) (ab_ev tab Os Ks fin n ops L st σ)
      | _ => none
    | 42 => match st with
      | .inl y :: .inl x :: st => ab_cnd a x y (match ab_lk Ks b with
          | some c => c L st σ
          | none => match ab_lk tab b with
            | some o => ab_ev tab Os Ks fin n o L st σ
            | none => none) (ab_ev tab Os Ks fin n ops L st σ)
      | _ => none
    | 43 => match st with
      | .inl x :: st => ab_sw x (fun t => match ab_lk Ks t with
          | some c => c L st σ
          | none => match ab_lk tab t with
            | some o => ab_ev tab Os Ks fin n o L st σ
            | none => none) a ts
      | _ => none
    | 44 => match ab_pop b st [] with
      | some (as, st') => match Nat.ble (ab_cats st') 8 with
        | true => match ab_lk Os a with
          | some f => f as σ (fun r σ1 => match r with
            | .inr (.inr (.inr _)) => ab_ev tab Os Ks fin n ops L st' σ1
            | .inl x => ab_ev tab Os Ks fin n ops L (vI x :: st') σ1
            | .inr (.inl x) => ab_ev tab Os Ks fin n ops L (vL x :: st') σ1
            | _ => none)
          | none => none
        | false => none
      | none => none
    | 45 => match a with
      | 0 => match st with
        | [] => fin vU σ
        | _ => none
      | 1 => match st with
        | [.inl x] => fin (vI x) σ
        | _ => none
      | 3 => match st with
        | [.inl x] => fin (vI (x &&& 1)) σ
        | _ => none
      | _ => match st with
        | [.inr (.inl x)] => fin (vL x) σ
        | _ => none
    | _ => ab_st (k, a, b, v, ts) L st σ (fun L' st' σ' => ab_ev tab Os Ks fin n ops L' st' σ')
/-- 1000, but nothing unfolds it -/
noncomputable def FU : Nat := Classical.choose (⟨1000, rfl⟩ : ∃ n : Nat, n = 1000)
theorem FU_eq : FU = 1000 := Classical.choose_spec (⟨1000, rfl⟩ : ∃ n : Nat, n = 1000)
/-- 40, but nothing unfolds it -/
noncomputable def RD : Nat := Classical.choose (⟨40, rfl⟩ : ∃ n : Nat, n = 40)
theorem RD_eq : RD = 40 := Classical.choose_spec (⟨40, rfl⟩ : ∃ n : Nat, n = 40)
abbrev finI (r : AV) (σ : Sg) : Option (Int32 × Sg) := match r with
  | .inl x => some (x, σ)
  | _ => none
abbrev finL (r : AV) (σ : Sg) : Option (Int64 × Sg) := match r with
  | .inr (.inl x) => some (x, σ)
  | _ => none
abbrev finV (r : AV) (σ : Sg) : Option Sg := match r with
  | .inr (.inr (.inr _)) => some σ
  | _ => none
end
section
/-! names: the classes, their fields, the methods by number (printed by wip/gen/names.py out of the listing) -/
def lw_good : List Cond := lw_tbl.filter goodWord
def rx_0 : String := "CoatsFitTheMood$Coat"
def tx_0 : u_T := fun k => match k with
  | 0 => ("CoatsFitTheMood$Coat", "kind", "I", false)
  | 1 => ("CoatsFitTheMood$Coat", "number", "I", false)
  | 2 => ("CoatsFitTheMood$Coat", "cut", "I", false)
  | _ => ("CoatsFitTheMood$Coat", "worn", "I", false)
def ty_0 : Nat → FieldType := fun k => match k with
  | 0 => .int
  | 1 => .int
  | 2 => .int
  | _ => .int
def rx_1 : String := "CoatsFitTheMood$Day"
def tx_1 : u_T := fun k => match k with
  | 0 => ("CoatsFitTheMood$Day", "fines", "[I", true)
  | 1 => ("CoatsFitTheMood$Day", "costs", "[I", true)
  | 2 => ("CoatsFitTheMood$Day", "keeping", "[I", true)
  | 3 => ("CoatsFitTheMood$Day", "least", "[I", true)
  | _ => ("CoatsFitTheMood$Day", "many", "I", false)
def ty_1 : Nat → FieldType := fun k => match k with
  | 0 => .array .int
  | 1 => .array .int
  | 2 => .array .int
  | 3 => .array .int
  | _ => .int
def rx_2 : String := "CoatsFitTheMood$Image"
def tx_2 : u_T := fun k => match k with
  | 0 => ("CoatsFitTheMood$Image", "moods", "[I", true)
  | 1 => ("CoatsFitTheMood$Image", "coats", "[LCoatsFitTheMood$Coat;", true)
  | 2 => ("CoatsFitTheMood$Image", "owned", "I", false)
  | _ => ("CoatsFitTheMood$Image", "rule", "I", false)
def ty_2 : Nat → FieldType := fun k => match k with
  | 0 => .array .int
  | 1 => .array (.object "CoatsFitTheMood$Coat")
  | 2 => .int
  | _ => .int
def rx_3 : String := "CoatsFitTheMood$Reader"
def tx_3 : u_T := fun k => match k with
  | 0 => ("CoatsFitTheMood$Reader", "tape", "LCoatsFitTheMood$Tape;", true)
  | _ => ("CoatsFitTheMood$Reader", "at", "I", false)
def ty_3 : Nat → FieldType := fun k => match k with
  | 0 => .object "CoatsFitTheMood$Tape"
  | _ => .int
def rx_4 : String := "CoatsFitTheMood$Sheet"
def tx_4 : u_T := fun k => match k with
  | 0 => ("CoatsFitTheMood$Sheet", "items", "[I", true)
  | 1 => ("CoatsFitTheMood$Sheet", "sort", "I", false)
  | _ => ("CoatsFitTheMood$Sheet", "size", "I", false)
def ty_4 : Nat → FieldType := fun k => match k with
  | 0 => .array .int
  | 1 => .int
  | _ => .int
def rx_5 : String := "CoatsFitTheMood$Tape"
def tx_5 : u_T := fun k => match k with
  | 0 => ("CoatsFitTheMood$Tape", "bytes", "[I", true)
  | 1 => ("CoatsFitTheMood$Tape", "tokens", "[I", true)
  | 2 => ("CoatsFitTheMood$Tape", "places", "[I", true)
  | 3 => ("CoatsFitTheMood$Tape", "numbers", "[I", true)
  | 4 => ("CoatsFitTheMood$Tape", "size", "I", false)
  | 5 => ("CoatsFitTheMood$Tape", "next", "I", false)
  | _ => ("CoatsFitTheMood$Tape", "many", "I", false)
def ty_5 : Nat → FieldType := fun k => match k with
  | 0 => .array .int
  | 1 => .array .int
  | 2 => .array .int
  | 3 => .array .int
  | 4 => .int
  | 5 => .int
  | _ => .int
def rx_6 : String := "CoatsFitTheMood$Text"
def tx_6 : u_T := fun k => match k with
  | 0 => ("CoatsFitTheMood$Text", "steps", "[I", true)
  | 1 => ("CoatsFitTheMood$Text", "ends", "[I", true)
  | 2 => ("CoatsFitTheMood$Text", "stack", "[I", true)
  | 3 => ("CoatsFitTheMood$Text", "size", "I", false)
  | _ => ("CoatsFitTheMood$Text", "top", "I", false)
def ty_6 : Nat → FieldType := fun k => match k with
  | 0 => .array .int
  | 1 => .array .int
  | 2 => .array .int
  | 3 => .int
  | _ => .int
def rx_7 : String := "CoatsFitTheMood"
def tx_7 : u_T := fun k => match k with
  | 0 => ("CoatsFitTheMood", "moods", "[I", true)
  | 1 => ("CoatsFitTheMood", "drawer", "[LCoatsFitTheMood$Coat;", true)
  | 2 => ("CoatsFitTheMood", "owned", "I", false)
  | 3 => ("CoatsFitTheMood", "trial", "LCoatsFitTheMood$Coat;", true)
  | 4 => ("CoatsFitTheMood", "texts", "[LCoatsFitTheMood$Text;", true)
  | 5 => ("CoatsFitTheMood", "written", "I", false)
  | 6 => ("CoatsFitTheMood", "rule", "I", false)
  | 7 => ("CoatsFitTheMood", "tape", "LCoatsFitTheMood$Tape;", true)
  | 8 => ("CoatsFitTheMood", "reader", "LCoatsFitTheMood$Reader;", true)
  | 9 => ("CoatsFitTheMood", "sheets", "[LCoatsFitTheMood$Sheet;", true)
  | 10 => ("CoatsFitTheMood", "choices", "LCoatsFitTheMood$Day;", true)
  | 11 => ("CoatsFitTheMood", "rights", "[I", true)
  | _ => ("CoatsFitTheMood", "kept", "LCoatsFitTheMood$Image;", true)
def ty_7 : Nat → FieldType := fun k => match k with
  | 0 => .array .int
  | 1 => .array (.object "CoatsFitTheMood$Coat")
  | 2 => .int
  | 3 => .object "CoatsFitTheMood$Coat"
  | 4 => .array (.object "CoatsFitTheMood$Text")
  | 5 => .int
  | 6 => .int
  | 7 => .object "CoatsFitTheMood$Tape"
  | 8 => .object "CoatsFitTheMood$Reader"
  | 9 => .array (.object "CoatsFitTheMood$Sheet")
  | 10 => .object "CoatsFitTheMood$Day"
  | 11 => .array .int
  | _ => .object "CoatsFitTheMood$Image"
def rx_8 : String := "CoatsFitTheMoodModel"
def tx_8 : u_T := fun k => match k with
  | 0 => ("CoatsFitTheMoodModel", "thrown", "I", false)
  | 1 => ("CoatsFitTheMoodModel", "texts", "[I", true)
  | 2 => ("CoatsFitTheMoodModel", "textSize", "[I", true)
  | 3 => ("CoatsFitTheMoodModel", "textCount", "I", false)
  | 4 => ("CoatsFitTheMoodModel", "rule", "I", false)
  | 5 => ("CoatsFitTheMoodModel", "tape", "[I", true)
  | 6 => ("CoatsFitTheMoodModel", "taped", "I", false)
  | 7 => ("CoatsFitTheMoodModel", "moods", "[I", true)
  | 8 => ("CoatsFitTheMoodModel", "kinds", "[I", true)
  | 9 => ("CoatsFitTheMoodModel", "rows", "[I", true)
  | 10 => ("CoatsFitTheMoodModel", "many", "I", false)
  | 11 => ("CoatsFitTheMoodModel", "ofCut", "I", false)
  | 12 => ("CoatsFitTheMoodModel", "ofMood", "I", false)
  | 13 => ("CoatsFitTheMoodModel", "ofNumber", "I", false)
  | 14 => ("CoatsFitTheMoodModel", "ofHour", "I", false)
  | 15 => ("CoatsFitTheMoodModel", "ofWorn", "I", false)
  | 16 => ("CoatsFitTheMoodModel", "ofOff", "I", false)
  | 17 => ("CoatsFitTheMoodModel", "from", "I", false)
  | 18 => ("CoatsFitTheMoodModel", "size", "I", false)
  | 19 => ("CoatsFitTheMoodModel", "here", "I", false)
  | 20 => ("CoatsFitTheMoodModel", "token", "I", false)
  | 21 => ("CoatsFitTheMoodModel", "tokenAt", "I", false)
  | 22 => ("CoatsFitTheMoodModel", "tokenWorth", "J", false)
  | 23 => ("CoatsFitTheMoodModel", "open", "I", false)
  | 24 => ("CoatsFitTheMoodModel", "bad", "Z", false)
  | 25 => ("CoatsFitTheMoodModel", "fault", "I", false)
  | 26 => ("CoatsFitTheMoodModel", "right", "[I", true)
  | 27 => ("CoatsFitTheMoodModel", "now", "[I", true)
  | 28 => ("CoatsFitTheMoodModel", "next", "[I", true)
  | 29 => ("CoatsFitTheMoodModel", "least1", "[I", true)
  | 30 => ("CoatsFitTheMoodModel", "fine1", "[I", true)
  | 31 => ("CoatsFitTheMoodModel", "cost1", "[I", true)
  | 32 => ("CoatsFitTheMoodModel", "wears", "[I", true)
  | 33 => ("CoatsFitTheMoodModel", "moodsWas", "[I", true)
  | 34 => ("CoatsFitTheMoodModel", "moodsKept", "[I", true)
  | 35 => ("CoatsFitTheMoodModel", "rowsKept", "[I", true)
  | 36 => ("CoatsFitTheMoodModel", "manyKept", "I", false)
  | 37 => ("CoatsFitTheMoodModel", "ruleKept", "I", false)
  | 38 => ("CoatsFitTheMoodModel", "isThere", "[Z", true)
  | 39 => ("CoatsFitTheMoodModel", "sorts", "[I", true)
  | 40 => ("CoatsFitTheMoodModel", "sheetSize", "[I", true)
  | _ => ("CoatsFitTheMoodModel", "items", "[I", true)
def ty_8 : Nat → FieldType := fun k => match k with
  | 0 => .int
  | 1 => .array .int
  | 2 => .array .int
  | 3 => .int
  | 4 => .int
  | 5 => .array .int
  | 6 => .int
  | 7 => .array .int
  | 8 => .array .int
  | 9 => .array .int
  | 10 => .int
  | 11 => .int
  | 12 => .int
  | 13 => .int
  | 14 => .int
  | 15 => .int
  | 16 => .int
  | 17 => .int
  | 18 => .int
  | 19 => .int
  | 20 => .int
  | 21 => .int
  | 22 => .long
  | 23 => .int
  | 24 => .boolean
  | 25 => .int
  | 26 => .array .int
  | 27 => .array .int
  | 28 => .array .int
  | 29 => .array .int
  | 30 => .array .int
  | 31 => .array .int
  | 32 => .array .int
  | 33 => .array .int
  | 34 => .array .int
  | 35 => .array .int
  | 36 => .int
  | 37 => .int
  | 38 => .array .boolean
  | 39 => .array .int
  | 40 => .array .int
  | _ => .array .int
def ab_cl : List vw_C := [(rx_0, tx_0, 4), (rx_1, tx_1, 5), (rx_2, tx_2, 4), (rx_3, tx_3, 2), (rx_4, tx_4, 3), (rx_5, tx_5, 7), (rx_6, tx_6, 5), (rx_7, tx_7, 13), (rx_8, tx_8, 42)]
def ab_ty (c : Nat) : Nat → FieldType := ab_nth ty_0 [ty_0, ty_1, ty_2, ty_3, ty_4, ty_5, ty_6, ty_7, ty_8] c
theorem nn_0 : ∀ a, a < 4 → ∀ b, b < 4 → a ≠ b → (tx_0 a).2.1 ≠ (tx_0 b).2.1 := by decide +kernel
theorem tt_0 : ∀ k, k < 4 → parseFieldDescriptor (tx_0 k).2.2.1 = some (ty_0 k) := by decide +kernel
theorem wi_0 : ∀ w ∈ u_ws rx_0 tx_0 4, w ∈ lw_good := by decide +kernel
theorem nn_1 : ∀ a, a < 5 → ∀ b, b < 5 → a ≠ b → (tx_1 a).2.1 ≠ (tx_1 b).2.1 := by decide +kernel
theorem tt_1 : ∀ k, k < 5 → parseFieldDescriptor (tx_1 k).2.2.1 = some (ty_1 k) := by decide +kernel
theorem wi_1 : ∀ w ∈ u_ws rx_1 tx_1 5, w ∈ lw_good := by decide +kernel
theorem nn_2 : ∀ a, a < 4 → ∀ b, b < 4 → a ≠ b → (tx_2 a).2.1 ≠ (tx_2 b).2.1 := by decide +kernel
theorem tt_2 : ∀ k, k < 4 → parseFieldDescriptor (tx_2 k).2.2.1 = some (ty_2 k) := by decide +kernel
theorem wi_2 : ∀ w ∈ u_ws rx_2 tx_2 4, w ∈ lw_good := by decide +kernel
theorem nn_3 : ∀ a, a < 2 → ∀ b, b < 2 → a ≠ b → (tx_3 a).2.1 ≠ (tx_3 b).2.1 := by decide +kernel
theorem tt_3 : ∀ k, k < 2 → parseFieldDescriptor (tx_3 k).2.2.1 = some (ty_3 k) := by decide +kernel
theorem wi_3 : ∀ w ∈ u_ws rx_3 tx_3 2, w ∈ lw_good := by decide +kernel
theorem nn_4 : ∀ a, a < 3 → ∀ b, b < 3 → a ≠ b → (tx_4 a).2.1 ≠ (tx_4 b).2.1 := by decide +kernel
theorem tt_4 : ∀ k, k < 3 → parseFieldDescriptor (tx_4 k).2.2.1 = some (ty_4 k) := by decide +kernel
theorem wi_4 : ∀ w ∈ u_ws rx_4 tx_4 3, w ∈ lw_good := by decide +kernel
theorem nn_5 : ∀ a, a < 7 → ∀ b, b < 7 → a ≠ b → (tx_5 a).2.1 ≠ (tx_5 b).2.1 := by decide +kernel
theorem tt_5 : ∀ k, k < 7 → parseFieldDescriptor (tx_5 k).2.2.1 = some (ty_5 k) := by decide +kernel
theorem wi_5 : ∀ w ∈ u_ws rx_5 tx_5 7, w ∈ lw_good := by decide +kernel
theorem nn_6 : ∀ a, a < 5 → ∀ b, b < 5 → a ≠ b → (tx_6 a).2.1 ≠ (tx_6 b).2.1 := by decide +kernel
theorem tt_6 : ∀ k, k < 5 → parseFieldDescriptor (tx_6 k).2.2.1 = some (ty_6 k) := by decide +kernel
theorem wi_6 : ∀ w ∈ u_ws rx_6 tx_6 5, w ∈ lw_good := by decide +kernel
theorem nn_7 : ∀ a, a < 13 → ∀ b, b < 13 → a ≠ b → (tx_7 a).2.1 ≠ (tx_7 b).2.1 := by decide +kernel
theorem tt_7 : ∀ k, k < 13 → parseFieldDescriptor (tx_7 k).2.2.1 = some (ty_7 k) := by decide +kernel
theorem wi_7 : ∀ w ∈ u_ws rx_7 tx_7 13, w ∈ lw_good := by decide +kernel
theorem nn_8 : ∀ a, a < 42 → ∀ b, b < 42 → a ≠ b → (tx_8 a).2.1 ≠ (tx_8 b).2.1 := by decide +kernel
theorem tt_8 : ∀ k, k < 42 → parseFieldDescriptor (tx_8 k).2.2.1 = some (ty_8 k) := by decide +kernel
theorem wi_8 : ∀ w ∈ u_ws rx_8 tx_8 42, w ∈ lw_good := by decide +kernel
theorem ab_cl_at {c : Nat} {q : vw_C} (h : ab_cl[c]? = some q) : (c = 0 ∧ q = (rx_0, tx_0, 4)) ∨ (c = 1 ∧ q = (rx_1, tx_1, 5)) ∨ (c = 2 ∧ q = (rx_2, tx_2, 4)) ∨ (c = 3 ∧ q = (rx_3, tx_3, 2)) ∨ (c = 4 ∧ q = (rx_4, tx_4, 3)) ∨ (c = 5 ∧ q = (rx_5, tx_5, 7)) ∨ (c = 6 ∧ q = (rx_6, tx_6, 5)) ∨ (c = 7 ∧ q = (rx_7, tx_7, 13)) ∨ (c = 8 ∧ q = (rx_8, tx_8, 42)) := by
  match c with
  | 0 => exact Or.inl ⟨rfl, (Option.some.inj h).symm⟩
  | 1 => exact Or.inr (Or.inl ⟨rfl, (Option.some.inj h).symm⟩)
  | 2 => exact Or.inr (Or.inr (Or.inl ⟨rfl, (Option.some.inj h).symm⟩))
  | 3 => exact Or.inr (Or.inr (Or.inr (Or.inl ⟨rfl, (Option.some.inj h).symm⟩)))
  | 4 => exact Or.inr (Or.inr (Or.inr (Or.inr (Or.inl ⟨rfl, (Option.some.inj h).symm⟩))))
  | 5 => exact Or.inr (Or.inr (Or.inr (Or.inr (Or.inr (Or.inl ⟨rfl, (Option.some.inj h).symm⟩)))))
  | 6 => exact Or.inr (Or.inr (Or.inr (Or.inr (Or.inr (Or.inr (Or.inl ⟨rfl, (Option.some.inj h).symm⟩))))))
  | 7 => exact Or.inr (Or.inr (Or.inr (Or.inr (Or.inr (Or.inr (Or.inr (Or.inl ⟨rfl, (Option.some.inj h).symm⟩)))))))
  | 8 => exact Or.inr (Or.inr (Or.inr (Or.inr (Or.inr (Or.inr (Or.inr (Or.inr (⟨rfl, (Option.some.inj h).symm⟩))))))))
  | n + 9 => exact absurd h (by simp [ab_cl])
theorem ab_cl_in {c : Nat} {C : String} {T : u_T} {N : Nat} (h : ab_cl[c]? = some (C, T, N)) : ∀ w ∈ u_ws C T N, w ∈ lw_good := by
  rcases ab_cl_at h with ⟨rfl, e⟩ | ⟨rfl, e⟩ | ⟨rfl, e⟩ | ⟨rfl, e⟩ | ⟨rfl, e⟩ | ⟨rfl, e⟩ | ⟨rfl, e⟩ | ⟨rfl, e⟩ | ⟨rfl, e⟩
  · cases e; exact wi_0
  · cases e; exact wi_1
  · cases e; exact wi_2
  · cases e; exact wi_3
  · cases e; exact wi_4
  · cases e; exact wi_5
  · cases e; exact wi_6
  · cases e; exact wi_7
  · cases e; exact wi_8
theorem ab_cl_nn {c : Nat} {C : String} {T : u_T} {N : Nat} (h : ab_cl[c]? = some (C, T, N)) : ∀ a, a < N → ∀ b, b < N → a ≠ b → (T a).2.1 ≠ (T b).2.1 := by
  rcases ab_cl_at h with ⟨rfl, e⟩ | ⟨rfl, e⟩ | ⟨rfl, e⟩ | ⟨rfl, e⟩ | ⟨rfl, e⟩ | ⟨rfl, e⟩ | ⟨rfl, e⟩ | ⟨rfl, e⟩ | ⟨rfl, e⟩
  · cases e; exact nn_0
  · cases e; exact nn_1
  · cases e; exact nn_2
  · cases e; exact nn_3
  · cases e; exact nn_4
  · cases e; exact nn_5
  · cases e; exact nn_6
  · cases e; exact nn_7
  · cases e; exact nn_8
theorem ab_cl_tt {c : Nat} {C : String} {T : u_T} {N : Nat} (h : ab_cl[c]? = some (C, T, N)) : ∀ k, k < N → parseFieldDescriptor (T k).2.2.1 = some (ab_ty c k) := by
  rcases ab_cl_at h with ⟨rfl, e⟩ | ⟨rfl, e⟩ | ⟨rfl, e⟩ | ⟨rfl, e⟩ | ⟨rfl, e⟩ | ⟨rfl, e⟩ | ⟨rfl, e⟩ | ⟨rfl, e⟩ | ⟨rfl, e⟩
  · cases e; exact tt_0
  · cases e; exact tt_1
  · cases e; exact tt_2
  · cases e; exact tt_3
  · cases e; exact tt_4
  · cases e; exact tt_5
  · cases e; exact tt_6
  · cases e; exact tt_7
  · cases e; exact tt_8
/-- a kind: 0 objects, 1 rows of ints, 2 rows of booleans, 3 rows of references, 9 none -/
def ab_kds : List Nat := [0, 0, 0, 1, 1, 1, 0, 1, 1, 1, 1, 0, 0, 1, 0, 1, 1, 1, 1, 1, 0, 1, 3, 1, 3, 3, 3, 9, 9, 9, 0, 1, 1, 1, 1, 1, 1, 1, 1, 1, 1, 1, 1, 1, 1, 1, 1, 2, 1, 1, 1]
abbrev ab_kd (g : Nat) : Nat := ab_nth 9 ab_kds g
def ab_cis : List Nat := [7, 0, 6, 99, 99, 99, 5, 99, 99, 99, 99, 3, 4, 99, 1, 99, 99, 99, 99, 99, 2, 99, 99, 99, 99, 99, 99, 99, 99, 99, 8, 99, 99, 99, 99, 99, 99, 99, 99, 99, 99, 99, 99, 99, 99, 99, 99, 99, 99, 99, 99]
abbrev ab_ci (g : Nat) : Nat := ab_nth 99 ab_cis g
/-- the fields of a kind of objects: 0 int, 1 long, 2 a reference (to which kind, how far off) -/
def ab_fds : Nat → List (Nat × Nat × Nat) := fun g => match g with
  | 0 => [(2, 23, 0), (2, 24, 0), (0, 0, 0), (2, 1, 8), (2, 25, 0), (0, 0, 0), (0, 0, 0), (2, 6, 0), (2, 11, 0), (2, 26, 0), (2, 14, 0), (2, 19, 0), (2, 20, 0)]
  | 1 => [(0, 0, 0), (0, 0, 0), (0, 0, 0), (0, 0, 0)]
  | 2 => [(2, 3, 0), (2, 4, 0), (2, 5, 0), (0, 0, 0), (0, 0, 0)]
  | 6 => [(2, 7, 0), (2, 8, 0), (2, 9, 0), (2, 10, 0), (0, 0, 0), (0, 0, 0), (0, 0, 0)]
  | 11 => [(2, 6, 0), (0, 0, 0)]
  | 12 => [(2, 13, 0), (0, 0, 0), (0, 0, 0)]
  | 14 => [(2, 15, 0), (2, 16, 0), (2, 17, 0), (2, 18, 0), (0, 0, 0)]
  | 20 => [(2, 21, 0), (2, 22, 0), (0, 0, 0), (0, 0, 0)]
  | 30 => [(0, 0, 0), (2, 31, 0), (2, 32, 0), (0, 0, 0), (0, 0, 0), (2, 33, 0), (0, 0, 0), (2, 34, 0), (2, 35, 0), (2, 36, 0), (0, 0, 0), (0, 0, 0), (0, 0, 0), (0, 0, 0), (0, 0, 0), (0, 0, 0), (0, 0, 0), (0, 0, 0), (0, 0, 0), (0, 0, 0), (0, 0, 0), (0, 0, 0), (1, 0, 0), (0, 0, 0), (0, 0, 0), (0, 0, 0), (2, 37, 0), (2, 38, 0), (2, 39, 0), (2, 40, 0), (2, 41, 0), (2, 42, 0), (2, 43, 0), (2, 44, 0), (2, 45, 0), (2, 46, 0), (0, 0, 0), (0, 0, 0), (2, 47, 0), (2, 48, 0), (2, 49, 0), (2, 50, 0)]
  | _ => []
def ab_rt (g : Nat) : Nat := match g with
  | 25 => 3
  | 26 => 4
  | _ => 2
def ab_on : Nat → String := ab_nth "" [rx_0, rx_1, rx_2, rx_3, rx_4, rx_5, rx_6, rx_7, rx_8, "java/lang/Integer", "java/lang/String"]
/-- the name of the class of a kind of objects -/
def ab_rn (g : Nat) : String := match g with
  | 0 => rx_7
  | 1 => rx_0
  | 2 => rx_6
  | 6 => rx_5
  | 11 => rx_3
  | 12 => rx_4
  | 14 => rx_1
  | 20 => rx_2
  | 30 => rx_8
  | 60 => "java/lang/String"
  | _ => ""
def ab_mys : List MethodName := [⟨rx_7, "set", "(III)I"⟩,
  ⟨rx_7, "setMood", "(II)I"⟩,
  ⟨rx_7, "coat", "(III)I"⟩,
  ⟨rx_7, "told", "(II)I"⟩,
  ⟨rx_7, "asks", "(III)I"⟩,
  ⟨rx_7, "feed", "(I)I"⟩,
  ⟨rx_7, "text", "()I"⟩,
  ⟨rx_7, "force", "(I)I"⟩,
  ⟨rx_7, "push", "(III)I"⟩,
  ⟨rx_7, "plan", "(III)I"⟩,
  ⟨rx_7, "wear", "(II)I"⟩,
  ⟨rx_7, "day", "(II)I"⟩,
  ⟨rx_7, "dress", "(II)I"⟩,
  ⟨rx_7, "anew", "(III)I"⟩,
  ⟨rx_7, "pushes", "(III)I"⟩,
  ⟨rx_7, "all", "(I)I"⟩,
  ⟨rx_7, "mean", "(II)J"⟩,
  ⟨rx_7, "tells", "(IIII)I"⟩,
  ⟨rx_7, "film", "(IIII)I"⟩,
  ⟨rx_7, "drawn", "(II)I"⟩,
  ⟨rx_7, "chance", "(IIIII)J"⟩,
  ⟨rx_7, "image", "()I"⟩,
  ⟨rx_7, "back", "()I"⟩,
  ⟨rx_7, "count", "(I)I"⟩,
  ⟨rx_7, "sheet", "(III)I"⟩,
  ⟨rx_7, "cell", "(III)I"⟩,
  ⟨rx_7, "copy", "(IIIII)I"⟩,
  ⟨rx_7, "coats", "(IIII)I"⟩,
  ⟨rx_7, "taken", "(II)I"⟩,
  ⟨rx_7, "isOne", "(I)Z"⟩,
  ⟨rx_7, "isHour", "(I)Z"⟩,
  ⟨rx_7, "isPlace", "(I)Z"⟩,
  ⟨rx_7, "isCoat", "(I)Z"⟩,
  ⟨rx_7, "isSheet", "(I)Z"⟩,
  ⟨rx_7, "isPush", "(I)Z"⟩,
  ⟨rx_7, "mostOf", "(I)I"⟩,
  ⟨rx_7, "bounded", "(I)I"⟩,
  ⟨rx_7, "inLowestTerms", "(III)J"⟩,
  ⟨rx_7, "moodAt", "(II)I"⟩,
  ⟨rx_7, "giveMood", "(III)V"⟩,
  ⟨rx_7, "fitsAt", "(LCoatsFitTheMood$Text;LCoatsFitTheMood$Coat;II)Z"⟩,
  ⟨rx_7, "fineAt", "(III)I"⟩,
  ⟨rx_7, "costAt", "(III)I"⟩,
  ⟨rx_7, "rightAt", "(II)I"⟩,
  ⟨rx_7, "hoursOf", "(LCoatsFitTheMood$Coat;I)I"⟩,
  ⟨rx_7, "hoursOfEverybody", "(LCoatsFitTheMood$Coat;)I"⟩,
  ⟨rx_7, "wornTogether", "()I"⟩,
  ⟨rx_7, "planRefusal", "(LCoatsFitTheMood$Sheet;)I"⟩,
  ⟨rx_7, "planTold", "(LCoatsFitTheMood$Sheet;II)I"⟩,
  ⟨rx_7, "tellHour", "(II)V"⟩,
  ⟨rx_7, "tellDay", "(I)V"⟩,
  ⟨rx_7, "cheapCost", "(I)I"⟩,
  ⟨rx_7, "drawnCost", "(I)I"⟩,
  ⟨rx_7, "bare", "(I)I"⟩,
  ⟨rx_7, "cover", "(I)I"⟩,
  ⟨rx_7, "covers", "(I)Z"⟩,
  ⟨rx_7, "changes", "(I)I"⟩,
  ⟨rx_7, "useless", "()I"⟩,
  ⟨rx_7, "alike", "(Z)I"⟩,
  ⟨rx_7, "apart", "(II)I"⟩,
  ⟨rx_7, "firstOtherwise", "(LCoatsFitTheMood$Sheet;LCoatsFitTheMood$Text;LCoatsFitTheMood$Coat;I)I"⟩,
  ⟨rx_7, "wouldBeSo", "(LCoatsFitTheMood$Sheet;IIII)Z"⟩,
  ⟨rx_7, "bitsBy", "(LCoatsFitTheMood$Sheet;IIII)I"⟩,
  ⟨rx_7, "manyBy", "(LCoatsFitTheMood$Sheet;IIII)I"⟩,
  ⟨rx_7, "leastBy", "(LCoatsFitTheMood$Sheet;IIII)I"⟩,
  ⟨rx_8, "in", "(JJJ)Z"⟩,
  ⟨rx_8, "within", "(III)I"⟩,
  ⟨rx_8, "isCoat", "(I)Z"⟩,
  ⟨rx_8, "isHour", "(I)Z"⟩,
  ⟨rx_8, "isOne", "(I)Z"⟩,
  ⟨rx_8, "isOf", "(II)Z"⟩,
  ⟨rx_8, "placeOf", "(I)I"⟩,
  ⟨rx_8, "mostOf", "(I)I"⟩,
  ⟨rx_8, "set", "(III)I"⟩,
  ⟨rx_8, "lays", "(III)V"⟩,
  ⟨rx_8, "coat", "(III)I"⟩,
  ⟨rx_8, "told", "(II)I"⟩,
  ⟨rx_8, "feed", "(I)I"⟩,
  ⟨rx_8, "byteAt", "(I)I"⟩,
  ⟨rx_8, "next", "()V"⟩,
  ⟨rx_8, "fail", "()V"⟩,
  ⟨rx_8, "isLetter", "(II)Z"⟩,
  ⟨rx_8, "isWord", "(IIIIIIII)Z"⟩,
  ⟨rx_8, "isSign", "(I)Z"⟩,
  ⟨rx_8, "opens", "()Z"⟩,
  ⟨rx_8, "name", "()I"⟩,
  ⟨rx_8, "atom5", "()I"⟩,
  ⟨rx_8, "term5", "()I"⟩,
  ⟨rx_8, "added5", "()I"⟩,
  ⟨rx_8, "not5", "()I"⟩,
  ⟨rx_8, "both5", "()I"⟩,
  ⟨rx_8, "either5", "()I"⟩,
  ⟨rx_8, "atom4", "()I"⟩,
  ⟨rx_8, "term4", "()I"⟩,
  ⟨rx_8, "added4", "()I"⟩,
  ⟨rx_8, "not4", "()I"⟩,
  ⟨rx_8, "both4", "()I"⟩,
  ⟨rx_8, "either4", "()I"⟩,
  ⟨rx_8, "atom3", "()I"⟩,
  ⟨rx_8, "term3", "()I"⟩,
  ⟨rx_8, "added3", "()I"⟩,
  ⟨rx_8, "not3", "()I"⟩,
  ⟨rx_8, "both3", "()I"⟩,
  ⟨rx_8, "either3", "()I"⟩,
  ⟨rx_8, "atom2", "()I"⟩,
  ⟨rx_8, "term2", "()I"⟩,
  ⟨rx_8, "added2", "()I"⟩,
  ⟨rx_8, "not2", "()I"⟩,
  ⟨rx_8, "both2", "()I"⟩,
  ⟨rx_8, "either2", "()I"⟩,
  ⟨rx_8, "atom1", "()I"⟩,
  ⟨rx_8, "term1", "()I"⟩,
  ⟨rx_8, "added1", "()I"⟩,
  ⟨rx_8, "not1", "()I"⟩,
  ⟨rx_8, "both1", "()I"⟩,
  ⟨rx_8, "either1", "()I"⟩,
  ⟨rx_8, "atom0", "()I"⟩,
  ⟨rx_8, "term0", "()I"⟩,
  ⟨rx_8, "added0", "()I"⟩,
  ⟨rx_8, "not0", "()I"⟩,
  ⟨rx_8, "both0", "()I"⟩,
  ⟨rx_8, "either0", "()I"⟩,
  ⟨rx_8, "part", "(Z)I"⟩,
  ⟨rx_8, "read", "(II)I"⟩,
  ⟨rx_8, "text", "()I"⟩,
  ⟨rx_8, "force", "(I)I"⟩,
  ⟨rx_8, "offOf", "(II)I"⟩,
  ⟨rx_8, "says", "(IIII)I"⟩,
  ⟨rx_8, "fits", "(III)Z"⟩,
  ⟨rx_8, "fineOf", "(III)I"⟩,
  ⟨rx_8, "costOf", "(III)I"⟩,
  ⟨rx_8, "asks", "(III)I"⟩,
  ⟨rx_8, "rightAt", "(II)I"⟩,
  ⟨rx_8, "hoursBy", "(II)I"⟩,
  ⟨rx_8, "hoursOf", "(I)I"⟩,
  ⟨rx_8, "pushed", "(III)V"⟩,
  ⟨rx_8, "push", "(III)I"⟩,
  ⟨rx_8, "planBad", "(I)I"⟩,
  ⟨rx_8, "wornAt", "(II)I"⟩,
  ⟨rx_8, "planned", "(III)I"⟩,
  ⟨rx_8, "plan", "(III)I"⟩,
  ⟨rx_8, "wear", "(II)I"⟩,
  ⟨rx_8, "bitsOf", "(I)I"⟩,
  ⟨rx_8, "rights", "(I)V"⟩,
  ⟨rx_8, "covers", "(I)Z"⟩,
  ⟨rx_8, "coverOf", "(I)I"⟩,
  ⟨rx_8, "bareOf", "(I)I"⟩,
  ⟨rx_8, "changesOf", "(I)I"⟩,
  ⟨rx_8, "byCoat", "(III)I"⟩,
  ⟨rx_8, "cheapOf", "(I)I"⟩,
  ⟨rx_8, "day", "(II)I"⟩,
  ⟨rx_8, "dress", "(II)I"⟩,
  ⟨rx_8, "anew", "(III)I"⟩,
  ⟨rx_8, "laysAside", "(I)V"⟩,
  ⟨rx_8, "laysBack", "(I)V"⟩,
  ⟨rx_8, "pushes", "(III)I"⟩,
  ⟨rx_8, "apart", "(II)I"⟩,
  ⟨rx_8, "all", "(I)I"⟩,
  ⟨rx_8, "lowest", "(JJI)J"⟩,
  ⟨rx_8, "mean", "(II)J"⟩,
  ⟨rx_8, "firstOther", "(III)I"⟩,
  ⟨rx_8, "hourSet", "(II)I"⟩,
  ⟨rx_8, "tells", "(IIII)I"⟩,
  ⟨rx_8, "film", "(IIII)I"⟩,
  ⟨rx_8, "cheapDrawn", "(II)I"⟩,
  ⟨rx_8, "drawn", "(II)I"⟩,
  ⟨rx_8, "chance", "(IIIII)J"⟩,
  ⟨rx_8, "image", "()I"⟩,
  ⟨rx_8, "back", "()I"⟩,
  ⟨rx_8, "count", "(I)I"⟩,
  ⟨rx_8, "isSheet", "(I)Z"⟩,
  ⟨rx_8, "sheet", "(III)I"⟩,
  ⟨rx_8, "cell", "(III)I"⟩,
  ⟨rx_8, "copy", "(IIIII)I"⟩,
  ⟨rx_8, "coats", "(IIII)I"⟩,
  ⟨rx_8, "over", "(I)I"⟩,
  ⟨rx_8, "taken", "(II)I"⟩,
  ⟨rx_0, "comeAs", "(III)V"⟩,
  ⟨rx_0, "become", "(LCoatsFitTheMood$Coat;)V"⟩,
  ⟨rx_0, "trait", "(I)I"⟩,
  ⟨rx_0, "giveTrait", "(II)V"⟩,
  ⟨rx_0, "wornLonger", "()V"⟩,
  ⟨rx_0, "isUnder", "(I)Z"⟩,
  ⟨rx_0, "off", "(I)I"⟩,
  ⟨rx_0, "fits", "(II)Z"⟩,
  ⟨rx_0, "fine", "(I)I"⟩,
  ⟨rx_0, "cost", "(I)I"⟩,
  ⟨rx_1, "tell", "(IIII)V"⟩,
  ⟨rx_1, "cheapest", "()I"⟩,
  ⟨rx_1, "wornAt", "(I)I"⟩,
  ⟨rx_1, "firstBehind", "(II)I"⟩,
  ⟨rx_3, "readText", "(LCoatsFitTheMood$Text;)I"⟩,
  ⟨rx_3, "stepOver", "(I)Z"⟩,
  ⟨rx_3, "level", "(LCoatsFitTheMood$Text;II)Z"⟩,
  ⟨rx_3, "joins", "(II)Z"⟩,
  ⟨rx_3, "one", "(LCoatsFitTheMood$Text;I)Z"⟩,
  ⟨rx_3, "prefixed", "(LCoatsFitTheMood$Text;III)Z"⟩,
  ⟨rx_3, "bracketed", "(LCoatsFitTheMood$Text;I)Z"⟩,
  ⟨rx_4, "become", "(II)V"⟩,
  ⟨rx_4, "put", "(II)V"⟩,
  ⟨rx_4, "item", "(I)I"⟩,
  ⟨rx_4, "hasRow", "(II)Z"⟩,
  ⟨rx_5, "add", "(I)Z"⟩,
  ⟨rx_5, "clear", "()V"⟩,
  ⟨rx_5, "token", "(I)I"⟩,
  ⟨rx_5, "place", "(I)I"⟩,
  ⟨rx_5, "number", "(I)I"⟩,
  ⟨rx_5, "scan", "()V"⟩,
  ⟨rx_5, "scanOne", "(I)I"⟩,
  ⟨rx_5, "scanNumber", "(I)I"⟩,
  ⟨rx_5, "scanWord", "(I)I"⟩,
  ⟨rx_5, "isWord", "(ILjava/lang/String;)Z"⟩,
  ⟨rx_5, "byteAt", "(I)I"⟩,
  ⟨rx_5, "isBlank", "(I)Z"⟩,
  ⟨rx_5, "isLetter", "(I)Z"⟩,
  ⟨rx_5, "isDigit", "(I)Z"⟩,
  ⟨rx_5, "isSign", "(I)Z"⟩,
  ⟨rx_6, "clear", "()V"⟩,
  ⟨rx_6, "addNumber", "(I)V"⟩,
  ⟨rx_6, "addToken", "(I)V"⟩,
  ⟨rx_6, "endPart", "(I)V"⟩,
  ⟨rx_6, "value", "(ILCoatsFitTheMood$Coat;II)I"⟩,
  ⟨rx_6, "lay", "(I)V"⟩,
  ⟨rx_6, "lift", "()I"⟩,
  ⟨rx_6, "named", "(ILCoatsFitTheMood$Coat;II)I"⟩,
  ⟨rx_6, "join", "(I)V"⟩,
  ⟨rx_6, "joined", "(III)I"⟩,
  ⟨"java/lang/Integer", "bitCount", "(I)I"⟩,
  ⟨"java/lang/String", "length", "()I"⟩,
  ⟨"java/lang/String", "charAt", "(I)C"⟩]
def ab_mbs : List ByteArray := [prog_1_method_2_code, prog_1_method_3_code, prog_1_method_4_code, prog_1_method_5_code, prog_1_method_6_code, prog_1_method_7_code, prog_1_method_8_code, prog_1_method_9_code, prog_1_method_10_code, prog_1_method_11_code, prog_1_method_12_code, prog_1_method_13_code, prog_1_method_14_code, prog_1_method_15_code, prog_1_method_16_code, prog_1_method_17_code, prog_1_method_18_code, prog_1_method_19_code, prog_1_method_20_code, prog_1_method_21_code, prog_1_method_22_code, prog_1_method_23_code, prog_1_method_24_code, prog_1_method_25_code, prog_1_method_26_code, prog_1_method_27_code, prog_1_method_28_code, prog_1_method_29_code, prog_1_method_30_code, prog_1_method_31_code, prog_1_method_32_code, prog_1_method_33_code, prog_1_method_34_code, prog_1_method_35_code, prog_1_method_36_code, prog_1_method_37_code, prog_1_method_38_code, prog_1_method_39_code, prog_1_method_40_code, prog_1_method_41_code, prog_1_method_42_code, prog_1_method_43_code, prog_1_method_44_code, prog_1_method_45_code, prog_1_method_46_code, prog_1_method_47_code, prog_1_method_48_code, prog_1_method_49_code, prog_1_method_50_code, prog_1_method_51_code, prog_1_method_52_code, prog_1_method_53_code, prog_1_method_54_code, prog_1_method_55_code, prog_1_method_56_code, prog_1_method_57_code, prog_1_method_58_code, prog_1_method_59_code, prog_1_method_60_code, prog_1_method_61_code, prog_1_method_62_code, prog_1_method_63_code, prog_1_method_64_code, prog_1_method_65_code, prog_1_method_66_code, prog_10_method_2_code, prog_10_method_3_code, prog_10_method_6_code, prog_10_method_7_code, prog_10_method_8_code, prog_10_method_9_code, prog_10_method_10_code, prog_10_method_11_code, prog_10_method_12_code, prog_10_method_13_code, prog_10_method_14_code, prog_10_method_15_code, prog_10_method_16_code, prog_10_method_17_code, prog_10_method_18_code, prog_10_method_19_code, prog_10_method_20_code, prog_10_method_21_code, prog_10_method_22_code, prog_10_method_23_code, prog_10_method_24_code, prog_10_method_25_code, prog_10_method_26_code, prog_10_method_27_code, prog_10_method_28_code, prog_10_method_29_code, prog_10_method_30_code, prog_10_method_31_code, prog_10_method_32_code, prog_10_method_33_code, prog_10_method_34_code, prog_10_method_35_code, prog_10_method_36_code, prog_10_method_37_code, prog_10_method_38_code, prog_10_method_39_code, prog_10_method_40_code, prog_10_method_41_code, prog_10_method_42_code, prog_10_method_43_code, prog_10_method_44_code, prog_10_method_45_code, prog_10_method_46_code, prog_10_method_47_code, prog_10_method_48_code, prog_10_method_49_code, prog_10_method_50_code, prog_10_method_51_code, prog_10_method_52_code, prog_10_method_53_code, prog_10_method_54_code, prog_10_method_55_code, prog_10_method_56_code, prog_10_method_57_code, prog_10_method_58_code, prog_10_method_59_code, prog_10_method_60_code, prog_10_method_61_code, prog_10_method_62_code, prog_10_method_63_code, prog_10_method_64_code, prog_10_method_65_code, prog_10_method_66_code, prog_10_method_67_code, prog_10_method_68_code, prog_10_method_69_code, prog_10_method_70_code, prog_10_method_71_code, prog_10_method_72_code, prog_10_method_73_code, prog_10_method_74_code, prog_10_method_75_code, prog_10_method_76_code, prog_10_method_77_code, prog_10_method_78_code, prog_10_method_79_code, prog_10_method_80_code, prog_10_method_81_code, prog_10_method_82_code, prog_10_method_83_code, prog_10_method_84_code, prog_10_method_85_code, prog_10_method_86_code, prog_10_method_87_code, prog_10_method_88_code, prog_10_method_89_code, prog_10_method_90_code, prog_10_method_91_code, prog_10_method_92_code, prog_10_method_93_code, prog_10_method_94_code, prog_10_method_95_code, prog_10_method_96_code, prog_10_method_97_code, prog_10_method_98_code, prog_10_method_99_code, prog_10_method_100_code, prog_10_method_101_code, prog_10_method_102_code, prog_10_method_103_code, prog_10_method_104_code, prog_10_method_105_code, prog_10_method_106_code, prog_10_method_107_code, prog_10_method_108_code, prog_10_method_109_code, prog_10_method_110_code, prog_10_method_111_code, prog_10_method_112_code, prog_10_method_113_code, prog_10_method_114_code, prog_10_method_115_code, prog_2_method_2_code, prog_2_method_3_code, prog_2_method_4_code, prog_2_method_5_code, prog_2_method_6_code, prog_2_method_7_code, prog_2_method_8_code, prog_2_method_9_code, prog_2_method_10_code, prog_2_method_11_code, prog_3_method_2_code, prog_3_method_3_code, prog_3_method_4_code, prog_3_method_5_code, prog_5_method_2_code, prog_5_method_3_code, prog_5_method_4_code, prog_5_method_5_code, prog_5_method_6_code, prog_5_method_7_code, prog_5_method_8_code, prog_6_method_2_code, prog_6_method_3_code, prog_6_method_4_code, prog_6_method_5_code, prog_7_method_2_code, prog_7_method_3_code, prog_7_method_4_code, prog_7_method_5_code, prog_7_method_6_code, prog_7_method_7_code, prog_7_method_8_code, prog_7_method_9_code, prog_7_method_10_code, prog_7_method_11_code, prog_7_method_12_code, prog_7_method_13_code, prog_7_method_14_code, prog_7_method_15_code, prog_7_method_16_code, prog_8_method_3_code, prog_8_method_4_code, prog_8_method_5_code, prog_8_method_6_code, prog_8_method_7_code, prog_8_method_8_code, prog_8_method_9_code, prog_8_method_10_code, prog_8_method_11_code, prog_8_method_12_code, prog_11_method_49_code, prog_13_method_54_code, prog_13_method_56_code]
def ab_mls : List Nat := [5, 4, 4, 3, 6, 2, 2, 3, 5, 5, 8, 3, 5, 8, 8, 2, 5, 6, 8, 3, 8, 2, 2, 2, 4, 4, 8, 9, 3, 1, 1, 1, 2, 1, 1, 1, 1, 5, 3, 4, 4, 4, 4, 5, 5, 4, 3, 4, 11, 5, 3, 2, 4, 4, 4, 3, 6, 3, 7, 5, 6, 7, 8, 8, 7, 6, 3, 2, 1, 1, 3, 1, 1, 5, 4, 4, 3, 2, 2, 3, 1, 3, 9, 2, 1, 1, 2, 2, 4, 4, 3, 3, 2, 2, 4, 4, 3, 3, 2, 2, 4, 4, 3, 3, 2, 2, 4, 4, 3, 3, 2, 2, 4, 4, 3, 3, 2, 2, 4, 4, 3, 3, 3, 6, 2, 3, 4, 5, 8, 6, 6, 6, 5, 5, 4, 5, 4, 4, 3, 11, 5, 7, 3, 3, 3, 4, 4, 6, 4, 6, 4, 5, 9, 3, 3, 8, 6, 4, 11, 5, 5, 5, 12, 8, 5, 3, 9, 2, 2, 4, 1, 5, 4, 9, 8, 1, 4, 4, 2, 2, 3, 1, 4, 2, 4, 2, 2, 5, 5, 4, 6, 3, 2, 7, 2, 4, 5, 3, 4, 3, 2, 3, 2, 1, 2, 2, 2, 3, 3, 4, 3, 4, 2, 1, 1, 1, 1, 1, 2, 2, 2, 7, 2, 1, 4, 3, 3, 1, 1, 2]
def ab_mrs : List (Option FieldType) := [(some .int), (some .int), (some .int), (some .int), (some .int), (some .int), (some .int), (some .int), (some .int), (some .int), (some .int), (some .int), (some .int), (some .int), (some .int), (some .int), (some .long), (some .int), (some .int), (some .int), (some .long), (some .int), (some .int), (some .int), (some .int), (some .int), (some .int), (some .int), (some .int), (some .boolean), (some .boolean), (some .boolean), (some .boolean), (some .boolean), (some .boolean), (some .int), (some .int), (some .long), (some .int), none, (some .boolean), (some .int), (some .int), (some .int), (some .int), (some .int), (some .int), (some .int), (some .int), none, none, (some .int), (some .int), (some .int), (some .int), (some .boolean), (some .int), (some .int), (some .int), (some .int), (some .int), (some .boolean), (some .int), (some .int), (some .int), (some .boolean), (some .int), (some .boolean), (some .boolean), (some .boolean), (some .boolean), (some .int), (some .int), (some .int), none, (some .int), (some .int), (some .int), (some .int), none, none, (some .boolean), (some .boolean), (some .boolean), (some .boolean), (some .int), (some .int), (some .int), (some .int), (some .int), (some .int), (some .int), (some .int), (some .int), (some .int), (some .int), (some .int), (some .int), (some .int), (some .int), (some .int), (some .int), (some .int), (some .int), (some .int), (some .int), (some .int), (some .int), (some .int), (some .int), (some .int), (some .int), (some .int), (some .int), (some .int), (some .int), (some .int), (some .int), (some .int), (some .int), (some .int), (some .int), (some .int), (some .int), (some .int), (some .int), (some .int), (some .int), (some .boolean), (some .int), (some .int), (some .int), (some .int), (some .int), (some .int), none, (some .int), (some .int), (some .int), (some .int), (some .int), (some .int), (some .int), none, (some .boolean), (some .int), (some .int), (some .int), (some .int), (some .int), (some .int), (some .int), (some .int), none, none, (some .int), (some .int), (some .int), (some .long), (some .long), (some .int), (some .int), (some .int), (some .int), (some .int), (some .int), (some .long), (some .int), (some .int), (some .int), (some .boolean), (some .int), (some .int), (some .int), (some .int), (some .int), (some .int), none, none, (some .int), none, none, (some .boolean), (some .int), (some .boolean), (some .int), (some .int), none, (some .int), (some .int), (some .int), (some .int), (some .boolean), (some .boolean), (some .boolean), (some .boolean), (some .boolean), (some .boolean), none, none, (some .int), (some .boolean), (some .boolean), none, (some .int), (some .int), (some .int), none, (some .int), (some .int), (some .int), (some .boolean), (some .int), (some .boolean), (some .boolean), (some .boolean), (some .boolean), none, none, none, none, (some .int), none, (some .int), (some .int), none, (some .int), (some .int), (some .int), (some .char)]
def ab_mos : List Nat := [7, 7, 7, 7, 7, 7, 7, 7, 7, 7, 7, 7, 7, 7, 7, 7, 7, 7, 7, 7, 7, 7, 7, 7, 7, 7, 7, 7, 7, 7, 7, 7, 7, 7, 7, 7, 7, 7, 7, 7, 7, 7, 7, 7, 7, 7, 7, 7, 7, 7, 7, 7, 7, 7, 7, 7, 7, 7, 7, 7, 7, 7, 7, 7, 7, 8, 8, 8, 8, 8, 8, 8, 8, 8, 8, 8, 8, 8, 8, 8, 8, 8, 8, 8, 8, 8, 8, 8, 8, 8, 8, 8, 8, 8, 8, 8, 8, 8, 8, 8, 8, 8, 8, 8, 8, 8, 8, 8, 8, 8, 8, 8, 8, 8, 8, 8, 8, 8, 8, 8, 8, 8, 8, 8, 8, 8, 8, 8, 8, 8, 8, 8, 8, 8, 8, 8, 8, 8, 8, 8, 8, 8, 8, 8, 8, 8, 8, 8, 8, 8, 8, 8, 8, 8, 8, 8, 8, 8, 8, 8, 8, 8, 8, 8, 8, 8, 8, 8, 8, 8, 8, 8, 8, 8, 8, 8, 8, 0, 0, 0, 0, 0, 0, 0, 0, 0, 0, 1, 1, 1, 1, 3, 3, 3, 3, 3, 3, 3, 4, 4, 4, 4, 5, 5, 5, 5, 5, 5, 5, 5, 5, 5, 5, 5, 5, 5, 5, 6, 6, 6, 6, 6, 6, 6, 6, 6, 6, 9, 10, 10]
abbrev ab_my (i : Nat) : MethodName := ab_nth ⟨"", "", ""⟩ ab_mys i
abbrev ab_mb (i : Nat) : ByteArray := ab_nth ⟨#[]⟩ ab_mbs i
abbrev ab_ml (i : Nat) : Nat := ab_nth 0 ab_mls i
abbrev ab_mr (i : Nat) : Option FieldType := ab_nth none ab_mrs i
abbrev ab_mo (i : Nat) : Nat := ab_nth 99 ab_mos i
/-- which field an entry of a class names: (entry, kind, place, its word) -/
def ab_fl : Nat → List (Nat × Nat × Nat × Nat) := fun o => match o with
  | 0 => [(9, 1, 0, 148), (15, 1, 1, 149), (18, 1, 2, 152), (21, 1, 3, 155)]
  | 1 => [(9, 14, 0, 220), (15, 14, 1, 221), (18, 14, 2, 222), (21, 14, 3, 223), (24, 14, 4, 224)]
  | 3 => [(9, 11, 0, 205), (25, 11, 1, 206)]
  | 4 => [(9, 12, 0, 288), (15, 12, 1, 290), (19, 12, 2, 292)]
  | 5 => [(9, 6, 0, 176), (15, 6, 1, 177), (18, 6, 2, 178), (21, 6, 3, 179), (24, 6, 4, 180), (28, 6, 6, 183), (31, 6, 5, 182)]
  | 6 => [(9, 2, 0, 267), (15, 2, 1, 268), (18, 2, 2, 269), (31, 2, 3, 270), (35, 2, 4, 271), (56, 1, 2, 153), (61, 1, 1, 150), (64, 1, 3, 156)]
  | 7 => [(9, 0, 0, 317), (15, 0, 1, 318), (19, 0, 2, 319), (24, 0, 3, 320), (30, 0, 4, 321), (34, 0, 5, 322), (37, 0, 6, 323), (43, 0, 7, 324), (52, 0, 8, 325), (58, 0, 9, 326), (65, 0, 10, 327), (69, 0, 11, 328), (75, 0, 12, 329), (140, 6, 4, 181), (173, 12, 2, 293), (217, 1, 2, 154), (240, 12, 1, 291), (260, 20, 0, 246), (267, 20, 1, 248), (270, 20, 2, 250), (271, 20, 3, 252), (279, 12, 0, 289), (288, 1, 1, 151), (312, 1, 3, 157), (319, 14, 4, 225)]
  | 8 => [(13, 30, 1, 897), (17, 30, 2, 898), (20, 30, 5, 901), (23, 30, 7, 903), (26, 30, 8, 904), (29, 30, 9, 905), (32, 30, 26, 922), (35, 30, 27, 923), (38, 30, 28, 924), (41, 30, 29, 925), (44, 30, 30, 926), (47, 30, 31, 927), (50, 30, 32, 928), (53, 30, 33, 929), (56, 30, 34, 930), (59, 30, 35, 931), (62, 30, 36, 932), (65, 30, 38, 934), (69, 30, 39, 935), (72, 30, 40, 936), (75, 30, 41, 937), (82, 30, 3, 899), (85, 30, 10, 906), (126, 30, 4, 900), (145, 30, 6, 902), (148, 30, 18, 914), (151, 30, 17, 913), (154, 30, 19, 915), (160, 30, 21, 917), (163, 30, 20, 916), (174, 30, 22, 918), (180, 30, 24, 920), (184, 30, 25, 921), (190, 30, 23, 919), (202, 30, 11, 907), (205, 30, 12, 908), (208, 30, 13, 909), (211, 30, 14, 910), (214, 30, 15, 911), (217, 30, 16, 912), (462, 30, 37, 933)]
  | _ => []
/-- which method an entry of a class names: (entry, number, arguments, how) -/
def ab_cs : Nat → List (Nat × Nat × Nat × Nat × Nat) := fun o => match o with
  | 0 => [(24, 177, 3, 0, 768), (38, 183, 1, 0, 455), (42, 36, 1, 2, 0)]
  | 1 => [(28, 30, 1, 2, 0), (39, 190, 2, 0, 716)]
  | 3 => [(15, 217, 0, 0, 502), (20, 207, 0, 0, 503), (29, 192, 1, 0, 599), (33, 193, 3, 0, 607), (37, 205, 1, 0, 635), (41, 220, 1, 0, 639), (45, 204, 1, 0, 603), (48, 195, 2, 0, 611), (52, 196, 4, 0, 615), (56, 194, 2, 1, 632), (60, 219, 1, 0, 619), (63, 197, 2, 0, 623), (66, 206, 1, 0, 627), (69, 218, 1, 0, 631)]
  | 4 => [(31, 201, 2, 0, 672)]
  | 5 => [(34, 212, 1, 0, 507), (38, 213, 1, 1, 511), (42, 208, 1, 0, 514), (45, 214, 1, 1, 518), (48, 210, 1, 0, 521), (51, 215, 1, 1, 589), (54, 209, 1, 0, 592), (57, 216, 1, 1, 596), (62, 211, 2, 0, 526), (88, 228, 0, 0, 530), (94, 229, 1, 0, 540)]
  | 6 => [(24, 218, 1, 0, 309), (38, 222, 1, 0, 420), (41, 224, 4, 1, 424), (45, 225, 1, 0, 431), (48, 223, 0, 0, 435), (52, 36, 1, 2, 0), (67, 183, 1, 0, 427), (70, 226, 3, 1, 439)]
  | 7 => [(85, 1, 2, 0, 361), (89, 32, 1, 0, 382), (93, 35, 1, 1, 386), (97, 179, 1, 0, 389), (100, 180, 2, 0, 393), (104, 31, 1, 1, 365), (107, 38, 2, 0, 374), (110, 39, 3, 0, 378), (113, 177, 3, 0, 401), (116, 43, 2, 0, 409), (119, 45, 1, 0, 456), (123, 40, 4, 1, 413), (127, 41, 3, 0, 468), (131, 42, 3, 0, 477), (134, 183, 1, 0, 485), (137, 202, 1, 0, 490), (143, 191, 1, 0, 498), (147, 203, 0, 0, 640), (150, 29, 1, 1, 368), (153, 30, 1, 1, 371), (156, 34, 1, 1, 653), (159, 36, 1, 1, 656), (162, 33, 1, 1, 661), (165, 47, 1, 0, 664), (169, 48, 3, 0, 676), (174, 200, 1, 0, 668), (177, 181, 0, 0, 684), (180, 50, 1, 0, 693), (184, 188, 0, 0, 706), (188, 189, 1, 0, 712), (191, 54, 1, 0, 720), (194, 227, 1, 1, 724), (199, 53, 1, 0, 734), (202, 56, 1, 0, 738), (205, 51, 1, 0, 742), (208, 198, 2, 0, 750), (211, 199, 2, 0, 756), (214, 178, 1, 0, 764), (220, 44, 2, 0, 460), (224, 49, 2, 0, 697), (227, 57, 0, 0, 777), (230, 58, 1, 0, 781), (236, 37, 3, 1, 797), (243, 60, 4, 1, 804), (247, 62, 5, 0, 807), (251, 63, 5, 0, 815), (254, 64, 5, 0, 819), (257, 52, 1, 0, 831), (272, 46, 0, 0, 855), (275, 201, 2, 0, 871), (282, 2, 3, 0, 876), (285, 182, 1, 0, 881), (299, 221, 4, 0, 416), (303, 184, 2, 0, 451), (306, 185, 1, 0, 472), (309, 186, 1, 0, 481), (315, 187, 4, 0, 701), (323, 55, 1, 0, 730), (326, 59, 2, 0, 785), (332, 61, 5, 0, 811)]
  | 8 => [(88, 65, 3, 1, 1029), (98, 68, 1, 1, 1037), (102, 67, 1, 0, 1041), (107, 70, 2, 0, 1032), (111, 72, 1, 1, 1045), (115, 76, 2, 0, 1048), (119, 74, 3, 0, 1274), (123, 71, 1, 1, 1053), (137, 132, 2, 0, 1056), (140, 134, 1, 0, 1266), (157, 78, 1, 0, 1080), (187, 81, 2, 0, 1093), (193, 80, 0, 0, 1101), (196, 79, 0, 0, 1076), (198, 82, 8, 0, 1089), (220, 83, 1, 0, 1153), (223, 84, 0, 0, 1117), (227, 85, 0, 0, 1157), (231, 86, 0, 0, 1149), (234, 87, 0, 0, 1145), (239, 88, 0, 0, 1141), (244, 89, 0, 0, 1137), (247, 90, 0, 0, 1179), (250, 91, 0, 0, 1175), (253, 92, 0, 0, 1171), (256, 93, 0, 0, 1167), (259, 94, 0, 0, 1163), (262, 95, 0, 0, 1133), (265, 96, 0, 0, 1199), (268, 97, 0, 0, 1195), (271, 98, 0, 0, 1191), (274, 99, 0, 0, 1187), (277, 100, 0, 0, 1183), (280, 101, 0, 0, 1129), (283, 102, 0, 0, 1219), (286, 103, 0, 0, 1215), (289, 104, 0, 0, 1211), (292, 105, 0, 0, 1207), (295, 106, 0, 0, 1203), (298, 107, 0, 0, 1125), (301, 108, 0, 0, 1239), (304, 109, 0, 0, 1235), (307, 110, 0, 0, 1231), (310, 111, 0, 0, 1227), (313, 112, 0, 0, 1223), (316, 113, 0, 0, 1121), (319, 114, 0, 0, 1259), (322, 115, 0, 0, 1255), (325, 116, 0, 0, 1251), (328, 117, 0, 0, 1247), (331, 118, 0, 0, 1243), (334, 119, 0, 0, 1113), (337, 120, 0, 0, 1109), (340, 121, 0, 0, 1105), (343, 122, 1, 0, 1097), (347, 123, 2, 0, 1072), (350, 126, 2, 0, 1068), (353, 66, 3, 1, 1263), (357, 127, 4, 0, 1064), (363, 128, 3, 0, 1060), (367, 129, 3, 0, 1304), (370, 130, 3, 0, 1308), (373, 133, 2, 0, 1270), (376, 69, 1, 1, 1316), (381, 135, 3, 0, 1321), (384, 138, 2, 0, 1340), (387, 170, 1, 1, 1329), (390, 137, 1, 0, 1332), (393, 139, 3, 0, 1336), (396, 143, 1, 0, 1358), (400, 142, 1, 1, 1362), (403, 144, 1, 0, 1365), (407, 148, 3, 0, 1382), (414, 145, 1, 0, 1354), (417, 146, 1, 0, 1369), (420, 147, 1, 0, 1373), (423, 149, 1, 0, 1378), (426, 171, 3, 0, 1390), (429, 153, 1, 0, 1403), (432, 154, 1, 0, 1407), (435, 156, 2, 0, 1415), (442, 158, 3, 1, 1425), (446, 160, 3, 0, 1433), (451, 161, 2, 0, 1437), (457, 164, 2, 0, 1450), (467, 75, 3, 0, 1485), (470, 175, 1, 1, 1490)]
  | _ => []
/-- which constant an entry of a class names -/
def ab_ks : Nat → List (Nat × AV × Nat) := fun o => match o with
  | 1 => [(32, vI 1000000, 710)]
  | 5 => [(60, vR 60 0, 0), (66, vR 60 1, 0), (68, vR 60 2, 0), (70, vR 60 3, 0), (72, vR 60 4, 0), (74, vR 60 5, 0), (76, vR 60 6, 0), (78, vR 60 7, 0), (80, vR 60 8, 0), (82, vR 60 9, 0), (84, vR 60 10, 0), (86, vR 60 11, 0)]
  | 7 => [(234, vL (-4611686018427387904), 796), (322, vI 1103515245, 835)]
  | 8 => [(92, vL 23, 1040), (94, vL 2, 1319), (96, vL 223, 1036), (105, vL 3, 1028), (129, vL 5, 1282), (131, vL 9, 1283), (133, vL 99, 1284), (135, vL 6, 1052), (143, vL 255, 1290), (166, vL 97, 1084), (168, vL 122, 1085), (170, vL 48, 1086), (172, vL 57, 1087), (178, vL 10, 1088), (237, vL 43, 1161), (242, vL 60, 1162), (361, vL 9923, 1303), (379, vL (-99), 1320), (406, vI 1000000, 1377), (410, vL 4, 1352), (412, vL 33, 1353), (438, vL (-4611686018427387904), 1423), (440, vL 24, 1424), (449, vL 8, 1432), (454, vL 40, 1445), (456, vI 1103515245, 1454), (460, vL 9999, 1459), (465, vL (-1), 1394)]
  | 9 => [(265, vI 1431655765, 727), (266, vI 858993459, 728), (267, vI 252645135, 729)]
  | _ => []
/-- which member of Math or System an entry names: 0 max, 1 min, 2 abs, 3 arraycopy -/
def ab_js : Nat → List (Nat × Nat × Nat) := fun o => match o with
  | 0 => [(28, 1, 688)]
  | 1 => [(33, 1, 711)]
  | 4 => [(22, 1, 754), (28, 0, 755)]
  | 7 => [(261, 3, 844), (291, 1, 445), (296, 0, 448), (329, 2, 789)]
  | _ => []
/-- the places of the words of a method: its code, what it is, its choice, its class -/
def ab_mks : List (Nat × Nat × Nat × Nat) := [(360, 358, 359, 117), (364, 363, 0, 117), (400, 398, 399, 117), (408, 406, 407, 117), (467, 465, 466, 117), (489, 487, 488, 117), (497, 495, 496, 117), (648, 646, 647, 117), (652, 650, 651, 117), (660, 658, 659, 117), (683, 681, 682, 117), (692, 690, 691, 117), (749, 747, 748, 117), (763, 761, 762, 117), (772, 770, 771, 117), (776, 774, 775, 117), (795, 793, 794, 117), (803, 801, 802, 117), (826, 824, 825, 117), (830, 828, 829, 117), (839, 837, 838, 117), (843, 841, 842, 117), (850, 848, 849, 117), (854, 852, 853, 117), (862, 860, 861, 117), (866, 864, 865, 117), (870, 868, 869, 117), (875, 873, 874, 117), (880, 878, 879, 117), (370, 369, 0, 117), (373, 372, 0, 117), (367, 366, 0, 117), (385, 384, 3, 117), (663, 662, 0, 117), (655, 654, 0, 117), (388, 387, 0, 117), (444, 443, 0, 117), (799, 798, 0, 117), (377, 376, 1, 117), (381, 380, 2, 117), (415, 414, 0, 117), (471, 470, 10, 117), (480, 479, 11, 117), (412, 411, 4, 117), (463, 462, 9, 117), (459, 458, 8, 117), (858, 857, 40, 117), (667, 666, 22, 117), (679, 678, 23, 117), (700, 699, 25, 117), (696, 695, 24, 117), (745, 744, 31, 117), (834, 833, 39, 117), (737, 736, 29, 117), (723, 722, 27, 117), (733, 732, 28, 117), (741, 740, 30, 117), (780, 779, 32, 117), (784, 783, 33, 117), (788, 787, 34, 117), (806, 805, 0, 117), (814, 813, 36, 117), (810, 809, 35, 117), (818, 817, 37, 117), (822, 821, 38, 117), (1031, 1030, 0, 125), (1265, 1264, 0, 125), (1044, 1043, 43, 125), (1039, 1038, 0, 125), (1318, 1317, 0, 125), (1035, 1034, 42, 125), (1055, 1054, 0, 125), (1047, 1046, 0, 125), (1027, 1025, 1026, 125), (1277, 1276, 96, 125), (1281, 1279, 1280, 125), (1051, 1049, 1050, 125), (1289, 1287, 1288, 125), (1083, 1082, 50, 125), (1079, 1078, 49, 125), (1104, 1103, 54, 125), (1096, 1095, 52, 125), (1092, 1091, 51, 125), (1156, 1155, 67, 125), (1120, 1119, 58, 125), (1160, 1159, 68, 125), (1152, 1151, 66, 125), (1148, 1147, 65, 125), (1144, 1143, 64, 125), (1140, 1139, 63, 125), (1182, 1181, 73, 125), (1178, 1177, 72, 125), (1174, 1173, 71, 125), (1170, 1169, 70, 125), (1166, 1165, 69, 125), (1136, 1135, 62, 125), (1202, 1201, 78, 125), (1198, 1197, 77, 125), (1194, 1193, 76, 125), (1190, 1189, 75, 125), (1186, 1185, 74, 125), (1132, 1131, 61, 125), (1222, 1221, 83, 125), (1218, 1217, 82, 125), (1214, 1213, 81, 125), (1210, 1209, 80, 125), (1206, 1205, 79, 125), (1128, 1127, 60, 125), (1242, 1241, 88, 125), (1238, 1237, 87, 125), (1234, 1233, 86, 125), (1230, 1229, 85, 125), (1226, 1225, 84, 125), (1124, 1123, 59, 125), (1262, 1261, 93, 125), (1258, 1257, 92, 125), (1254, 1253, 91, 125), (1250, 1249, 90, 125), (1246, 1245, 89, 125), (1116, 1115, 57, 125), (1112, 1111, 56, 125), (1108, 1107, 55, 125), (1100, 1099, 53, 125), (1075, 1074, 48, 125), (1294, 1292, 1293, 125), (1298, 1296, 1297, 125), (1071, 1070, 47, 125), (1067, 1066, 46, 125), (1063, 1062, 45, 125), (1307, 1306, 97, 125), (1311, 1310, 98, 125), (1302, 1300, 1301, 125), (1059, 1058, 44, 125), (1273, 1272, 95, 125), (1269, 1268, 94, 125), (1324, 1323, 99, 125), (1315, 1313, 1314, 125), (1335, 1334, 100, 125), (1343, 1342, 102, 125), (1339, 1338, 101, 125), (1328, 1326, 1327, 125), (1347, 1345, 1346, 125), (1364, 1363, 0, 125), (1361, 1360, 104, 125), (1368, 1367, 105, 125), (1357, 1356, 103, 125), (1372, 1371, 106, 125), (1376, 1375, 107, 125), (1385, 1384, 109, 125), (1381, 1380, 108, 125), (1351, 1349, 1350, 125), (1389, 1387, 1388, 125), (1398, 1396, 1397, 125), (1406, 1405, 110, 125), (1410, 1409, 111, 125), (1402, 1400, 1401, 125), (1418, 1417, 112, 125), (1414, 1412, 1413, 125), (1427, 1426, 0, 125), (1422, 1420, 1421, 125), (1436, 1435, 113, 125), (1440, 1439, 114, 125), (1431, 1429, 1430, 125), (1444, 1442, 1443, 125), (1453, 1452, 115, 125), (1449, 1447, 1448, 125), (1458, 1456, 1457, 125), (1463, 1461, 1462, 125), (1467, 1465, 1466, 125), (1471, 1469, 1470, 125), (1331, 1330, 0, 125), (1393, 1391, 1392, 125), (1476, 1474, 1475, 125), (1480, 1478, 1479, 125), (1484, 1482, 1483, 125), (1492, 1491, 0, 125), (1489, 1487, 1488, 125), (404, 402, 403, 118), (767, 765, 766, 118), (392, 390, 391, 118), (396, 394, 395, 118), (687, 685, 686, 118), (884, 882, 883, 118), (430, 428, 429, 118), (454, 452, 453, 118), (475, 473, 474, 118), (484, 482, 483, 118), (704, 702, 703, 121), (709, 707, 708, 121), (715, 713, 714, 121), (719, 718, 26, 121), (501, 499, 500, 120), (602, 601, 17, 120), (610, 609, 18, 120), (634, 633, 0, 120), (614, 613, 19, 120), (618, 617, 20, 120), (626, 625, 21, 120), (753, 751, 752, 124), (759, 757, 758, 124), (671, 669, 670, 124), (675, 673, 674, 124), (493, 491, 492, 119), (643, 641, 642, 119), (606, 604, 605, 119), (638, 636, 637, 119), (630, 628, 629, 119), (506, 504, 505, 119), (517, 516, 13, 119), (595, 594, 16, 119), (524, 523, 14, 119), (529, 528, 15, 119), (510, 509, 12, 119), (513, 512, 0, 119), (520, 519, 0, 119), (591, 590, 0, 119), (598, 597, 0, 119), (308, 306, 307, 123), (312, 310, 311, 123), (622, 620, 621, 123), (316, 314, 315, 123), (419, 417, 418, 123), (423, 422, 5, 123), (438, 437, 7, 123), (426, 425, 0, 123), (434, 433, 6, 123), (441, 440, 0, 123), (726, 725, 0, 131), (533, 531, 532, 127), (543, 541, 542, 127)]
abbrev ab_mk (i : Nat) : Nat × Nat × Nat × Nat := ab_nth (0, 0, 0, 0) ab_mks i
/-- whether a method is static -/
def ab_mts : List Nat := [0, 0, 0, 0, 0, 0, 0, 0, 0, 0, 0, 0, 0, 0, 0, 0, 0, 0, 0, 0, 0, 0, 0, 0, 0, 0, 0, 0, 0, 1, 1, 1, 0, 1, 1, 1, 1, 1, 0, 0, 1, 0, 0, 0, 0, 0, 0, 0, 0, 0, 0, 0, 0, 0, 0, 0, 0, 0, 0, 0, 1, 0, 0, 0, 0, 1, 1, 0, 1, 1, 0, 1, 1, 0, 0, 0, 0, 0, 0, 0, 0, 0, 0, 0, 0, 0, 0, 0, 0, 0, 0, 0, 0, 0, 0, 0, 0, 0, 0, 0, 0, 0, 0, 0, 0, 0, 0, 0, 0, 0, 0, 0, 0, 0, 0, 0, 0, 0, 0, 0, 0, 0, 0, 0, 0, 0, 0, 0, 0, 0, 0, 0, 0, 0, 0, 0, 0, 0, 0, 0, 0, 0, 1, 0, 0, 0, 0, 0, 0, 0, 0, 0, 0, 0, 0, 0, 0, 0, 1, 0, 0, 0, 0, 0, 0, 0, 0, 0, 0, 0, 1, 0, 0, 0, 0, 1, 0, 0, 0, 0, 0, 0, 0, 0, 0, 0, 0, 0, 0, 0, 0, 0, 0, 0, 1, 0, 0, 0, 0, 0, 0, 0, 0, 0, 0, 0, 0, 0, 0, 0, 0, 0, 0, 1, 1, 1, 1, 0, 0, 0, 0, 0, 0, 0, 1, 0, 1, 1, 0, 0]
abbrev ab_mt (i : Nat) : Nat := ab_nth 0 ab_mts i
/-- the same of the members of Math and System -/
def ab_jks : List (Nat × Nat × Nat) := [(449, 450, 126), (446, 447, 126), (790, 791, 126), (845, 846, 132)]
abbrev ab_jk (i : Nat) : Nat × Nat × Nat := ab_nth (0, 0, 0) ab_jks i
end
section
/-! What the abstract machine's cells are in the real heap: (kind, number) at an address; a method's contract over the whole of a side's cells -/
abbrev ab_Gt : Type := va_G × (Nat → ClassId) × (Nat → Nat → Nat) × (Nat → Nat) × (Nat → Prop) × List (Nat × Nat)
abbrev gD (G : ab_Gt) : va_G := G.1
abbrev gC (G : ab_Gt) : Nat → ClassId := G.2.1
abbrev gad (G : ab_Gt) : Nat → Nat → Nat := G.2.2.1
abbrev gV (G : ab_Gt) : Nat → Nat := G.2.2.2.1
abbrev gA (G : ab_Gt) : Nat → Prop := G.2.2.2.2.1
abbrev gP (G : ab_Gt) : List (Nat × Nat) := G.2.2.2.2.2
def ab_val (G : ab_Gt) : AV → Value
  | .inl x => .int x
  | .inr (.inl x) => .long x
  | .inr (.inr (.inl q)) => .ref (gad G q.1 q.2)
  | .inr (.inr (.inr _)) => .null
def ab_rv (G : ab_Gt) : AV → Option Value
  | .inr (.inr (.inr _)) => none
  | v => some (ab_val G v)
def ab_fval (G : ab_Gt) (ρ : Nat → Int32) (i j : Nat) (f : Nat × Nat × Nat) : Value := match f.1 with
  | 0 => .int (ρ j)
  | 1 => .long (ρ j).toInt64
  | _ => .ref (gad G f.2.1 (i + f.2.2))
def ab_fvs (G : ab_Gt) (ρ : Nat → Int32) (i : Nat) : Nat → List (Nat × Nat × Nat) → List Value
  | _, [] => []
  | j, f :: r => ab_fval G ρ i j f :: ab_fvs G ρ i (j + 1) r
theorem ab_fvs_at (G : ab_Gt) (ρ : Nat → Int32) (i : Nat) (fs : List (Nat × Nat × Nat)) : ∀ (j k : Nat), (ab_fvs G ρ i j fs)[k]? = (fs[k]?).map (ab_fval G ρ i (j + k)) := by
  induction fs with
  | nil => intro j k; simp [ab_fvs]
  | cons f r ih =>
    intro j k
    cases k with
    | zero => simp [ab_fvs]
    | succ k => simp only [ab_fvs, List.getElem?_cons_succ, ih, Nat.add_assoc, Nat.add_comm 1 k]
theorem ab_fvs_len (G : ab_Gt) (ρ : Nat → Int32) (i : Nat) (fs : List (Nat × Nat × Nat)) : ∀ j, (ab_fvs G ρ i j fs).length = fs.length := by
  induction fs with
  | nil => intro j; rfl
  | cons f r ih => intro j; simp [ab_fvs, ih]
theorem ab_fvs_set (G : ab_Gt) (ρ : Nat → Int32) (i : Nat) (fs : List (Nat × Nat × Nat)) {k : Nat} {f : Nat × Nat × Nat} (hf : fs[k]? = some f) (x : Int32) (v : Value) (hv : ab_fval G (upd ρ k x) i k f = v) : (ab_fvs G ρ i 0 fs).set k v = ab_fvs G (upd ρ k x) i 0 fs := by
  apply List.ext_getElem?
  intro n
  rw [List.getElem?_set, ab_fvs_at, ab_fvs_at]
  have hk : k < fs.length := (List.getElem?_eq_some_iff.mp hf).1
  by_cases h : k = n
  · subst h
    rw [if_pos rfl, if_pos (by rw [ab_fvs_len]; exact hk), hf, Nat.zero_add]
    simp [hv]
  · rw [if_neg h]
    congr 1
    funext f
    have hn : ¬ n = k := fun e => h e.symm
    simp [ab_fval, upd, hn]
def ab_ent (G : ab_Gt) (ρ : Nat → Int32) (g i : Nat) : va_E := match ab_kd g with
  | 0 => .inr (ab_ci g, ab_fvs G ρ i 0 (ab_fds g))
  | 1 => .inl (gC G 0, (ab_len g, .inl ρ))
  | 2 => .inl (gC G 1, (ab_len g, .inl ρ))
  | _ => .inl (gC G (ab_rt g), (ab_len g, .inr (.inr (.inr (.inr (fun j => some (gad G (ab_refs g).1 (j + (ab_refs g).2))))))))
def ab_ws (G : ab_Gt) (σ : Sg) : va_W := (gP G).map (fun q => (gad G q.1 q.2, ab_ent G (σ q.1 q.2) q.1 q.2))
def ab_tys (G : ab_Gt) : List (ClassId × FieldType) := [(gC G 0, .int), (gC G 1, .boolean), (gC G 2, .object "CoatsFitTheMood$Coat"), (gC G 3, .object "CoatsFitTheMood$Text"), (gC G 4, .object "CoatsFitTheMood$Sheet")]
def ab_okr (G : ab_Gt) (q : Nat × Nat) : Prop := q ∈ gP G ∨ (q.1 = 60 ∧ q.2 < 12) ∨ q = (61, 0)
def ab_ok (G : ab_Gt) : AV → Prop
  | .inr (.inr (.inl q)) => ab_okr G q
  | _ => True
/-- the places of the words in the class's file, and their texts -/
def ab_wi (w : Nat) : Nat := ab_nth 0 [60, 66, 68, 70, 72, 74, 76, 78, 80, 82, 84, 86] w
def ab_wt (w : Nat) : String := ab_nth "" ["eases", "fines", "costs", "or", "and", "not", "cut", "mood", "number", "hour", "worn", "off"] w
def ab_wlen : List Nat := ab_words.map List.length
def ab_wbyt : List (List Int32) := ab_words.map (fun l => l.map Int32.ofNat)
/-- what the tables say, and what never changes: the nest's words, the row of kinds, the words of the class -/
def ab_KK (G : ab_Gt) (U : State) : Prop := va_K (gD G) ab_cl (ab_tys G) U ∧
  (va_Nw (.methodLinkNest "CoatsFitTheMood$Text" 52 ⟨"CoatsFitTheMood", "bounded", "(I)I"⟩ "CoatsFitTheMood") U ∧ va_Nw (.methodLinkNest "CoatsFitTheMood$Coat" 42 ⟨"CoatsFitTheMood", "bounded", "(I)I"⟩ "CoatsFitTheMood") U ∧ va_Nw (.methodLinkNest "CoatsFitTheMood$Day" 28 ⟨"CoatsFitTheMood", "isHour", "(I)Z"⟩ "CoatsFitTheMood") U ∧ va_Nw (.fieldLinkNest "CoatsFitTheMood$Coat" 34 "CoatsFitTheMood" "KIND_ABOVE" "[I" "CoatsFitTheMood") U) ∧
  (va_Z "CoatsFitTheMood" "KIND_ABOVE" "[I" (.ref (gad G 61 0)) (gA G) U U.heap ∧ va_T .int (gad G 61 0) 6 (fun j => .int (ab_ka j)) (gA G) U U.heap) ∧
  ((∀ w, w < 12 → vk_R "CoatsFitTheMood$Tape" (ab_wi w) (ab_wt w) (gad G 60 w) U) ∧ vk_S 12 ab_wlen ab_wbyt (gad G 60) (gV G) (gA G) U U.heap ∧
  va_Z "java/lang/String" "COMPACT_STRINGS" "Z" (.int 1) (gA G) U U.heap ∧ va_Zq "jdk/internal/util/Preconditions" "SIOOBE_FORMATTER" "Ljava/util/function/BiFunction;" (gA G) U U.heap)
theorem ab_KK.moved {G : ab_Gt} {s U : State} (h : ab_KK G s) (hW : s.WarmedH U.vm) (hH : ∀ a : Nat, a < s.heap.size → ¬ gA G a → U.heap[a]? = s.heap[a]?) : ab_KK G U := by
  obtain ⟨h1, ⟨n1, n2, n3, n4⟩, ⟨z1, z2⟩, s1, s2, c1, c2⟩ := h
  exact ⟨h1.moved hW.alike, ⟨va_Nw.warmM hW n1, va_Nw.warmM hW n2, va_Nw.warmM hW n3, va_Nw.warmF hW n4⟩, ⟨(z1.moved hW.alike).kept hH, (z2.moved hW.alike).kept hH⟩, fun w hw => vk_R.warm hW (s1 w hw), (s2.moved hW.alike).kept hH, (c1.moved hW.alike).kept hH, (c2.moved hW.alike).kept hH⟩
theorem ab_KK.calling {G : ab_Gt} {U : State} (h : ab_KK G U) (g : JFrame) (mk : MethodId) (a : Array Value) : ab_KK G (U.calling g mk a) := h.moved (U := U.calling g mk a) (State.WarmedH.refl U) (fun _ _ _ => rfl)
def ab_Pc (G : ab_Gt) (as : List AV) (σ : Sg) : Array Value → State → Prop := fun a U => a = (as.map (ab_val G)).toArray ∧ va_P (gD G) ab_cl (ab_ws G σ) U.heap ∧ ab_KK G U
theorem ab_Pc.blind (G : ab_Gt) (as : List AV) (σ : Sg) : FrameBlind (ab_Pc G as σ) := fun a U g mk h => ⟨h.1, h.2.1, h.2.2.calling g mk a⟩
def ab_Qc (G : ab_Gt) (r : AV) (σ : Sg) : Array Value → State → Outcome → State → Prop := fun _ st o t => o = .returned (ab_rv G r) ∧ va_P (gD G) ab_cl (ab_ws G σ) t.heap ∧ va_F (gA G) st t
def ab_W (id : Nat) : List Cond := .code (ab_my id) (ab_mb id) (ab_ml id) (ab_mr id) :: lw_good
def ab_R (d : Nat) : Room := { frames := d, cells := 0, slots := 0, locals := 64 * d }
def ab_Met (l : Launch) (G : ab_Gt) (id d : Nat) (as : List AV) (σ : Sg) (r : AV) (σ' : Sg) : Prop := Met l (ab_my id) (ab_W id) (ab_R d) (ab_Pc G as σ) (ab_Qc G r σ') 0 0 (gA G)
def ab_isR : AV → Bool
  | .inr (.inr (.inl _)) => true
  | _ => false
/-- the receiver is of the method's class -/
def ab_rcv (id : Nat) (as : List AV) : Prop := match as with
  | .inr (.inr (.inl q)) :: _ => ab_rn q.1 = (ab_my id).cls
  | _ => False
def ab_CO (l : Launch) (G : ab_Gt) (id d : Nat) (as : List AV) (σ : Sg) (r : AV) (σ' : Sg) : Prop := (∀ v ∈ as, ab_ok G v) → ab_Met l G id d as σ r σ'
def ab_Cx (G : ab_Gt) (id d : Nat) (p : Program) (R : Room) (s : State) (m : MethodId) (args : Array Value) (meth : Method) (c : Code) (cells slots : Nat) : Prop :=
  p.tables.exec = Jvm.exec ∧ c.code = ab_mb id ∧ c.maxLocals = ab_ml id ∧ s.vm.findClass (ab_on (ab_mo id)) = some m.cls ∧ (∀ w ∈ ab_W id, w.before args s = true) ∧ meth.sig.returnType = ab_mr id ∧ meth.locks = false ∧ d ≤ R.frames ∧ 64 * d ≤ R.locals ∧ ab_KK G s ∧ cells ≤ R.cells ∧ slots ≤ R.slots
def ab_LH (G : ab_Gt) (n : Nat) (ls : Array Slot) (L : List AV) : Prop := ls.size = n ∧ L.length = n ∧ lv_wf ls ∧ ∀ i, ab_nth vU L i ≠ vU → ls[i]? = some (.val (ab_val G (ab_nth vU L i)))
def ab_Ret (l : Launch) (G : ab_Gt) (id d pc : Nat) (L st : List AV) (σ : Sg) (r : AV) (σ' : Sg) : Prop :=
  ∀ (p : Program) (e : Env) (R : Room) (s : State) (m : MethodId) (args : Array Value) (below : List Frame) (meth : Method) (c : Code) (cells slots : Nat) (H : Heap) (locs : List Loc) (ls : Array Slot),
    ab_Cx G id d p R s m args meth c cells slots → ab_LH G (ab_ml id) ls L → (∀ v ∈ L, ab_ok G v) → (∀ v ∈ st, ab_ok G v) → va_P (gD G) ab_cl (ab_ws G σ) H → va_S (gA G) s.heap H locs →
    W p l e R s m args below meth c H locs cells slots (MQ below (ab_Qc G r σ') args s cells slots (gA G)) (F0 m pc ls (st.map (ab_val G)))
/-- a side's cells: apart, no cell twice, and what they refer to is among them -/
def ab_GG (G : ab_Gt) : Prop := (∀ σ, va_D (gA G) (ab_ws G σ)) ∧ (gP G).Nodup ∧ (∀ g i, (g, i) ∈ gP G → ∀ (k : Nat) (f : Nat × Nat × Nat), (ab_fds g)[k]? = some f → f.1 = 2 → (f.2.1, i + f.2.2) ∈ gP G) ∧ (∀ g i, (g, i) ∈ gP G → ab_kd g = 3 → ∀ j, j < ab_len g → ((ab_refs g).1, j + (ab_refs g).2) ∈ gP G) ∧ ∀ q ∈ gP G, ab_kd q.1 ≠ 9
theorem ab_ws_at {G : ab_Gt} (σ : Sg) {g i : Nat} (h : (g, i) ∈ gP G) : ∃ q0 : Nat, (gP G)[q0]? = some (g, i) ∧ (ab_ws G σ)[q0]? = some (gad G g i, ab_ent G (σ g i) g i) := by
  obtain ⟨q0, hq⟩ := List.getElem?_of_mem h
  exact ⟨q0, hq, by simp [ab_ws, List.getElem?_map, hq]⟩
theorem ab_nd {α : Type} {l : List α} (h : l.Nodup) : ∀ (i j : Nat) (x : α), l[i]? = some x → l[j]? = some x → i = j := by
  induction l with
  | nil => intro i j x h1; simp at h1
  | cons a r ih =>
    obtain ⟨h1, h2⟩ := List.nodup_cons.mp h
    intro i j x e1 e2
    cases i with
    | zero =>
      cases j with
      | zero => rfl
      | succ j =>
        simp only [List.getElem?_cons_zero, Option.some.injEq, List.getElem?_cons_succ] at e1 e2
        subst e1
        exact absurd (List.mem_of_getElem? e2) h1
    | succ i =>
      cases j with
      | zero =>
        simp only [List.getElem?_cons_zero, Option.some.injEq, List.getElem?_cons_succ] at e1 e2
        subst e2
        exact absurd (List.mem_of_getElem? e1) h1
      | succ j =>
        simp only [List.getElem?_cons_succ] at e1 e2
        rw [ih h2 i j x e1 e2]
theorem ab_ws_set {G : ab_Gt} (hn : (gP G).Nodup) (σ σ' : Sg) {g i q0 : Nat} (hq : (gP G)[q0]? = some (g, i)) (ho : ∀ g' i', (g', i') ≠ (g, i) → σ' g' i' = σ g' i') {a : Nat} {en : va_E} (ha : a = gad G g i) (he : en = ab_ent G (σ' g i) g i) : (ab_ws G σ).set q0 (a, en) = ab_ws G σ' := by
  subst ha; subst he
  apply List.ext_getElem?
  intro k
  have hl : q0 < (gP G).length := (List.getElem?_eq_some_iff.mp hq).1
  rw [List.getElem?_set]
  by_cases h : q0 = k
  · subst h
    rw [if_pos rfl, if_pos (by simpa [ab_ws] using hl)]
    simp [ab_ws, List.getElem?_map, hq]
  · rw [if_neg h]
    simp only [ab_ws, List.getElem?_map]
    cases hk : (gP G)[k]? with
    | none => rfl
    | some q =>
      have hne : q ≠ (g, i) := fun e => by
        subst e
        exact h (ab_nd hn q0 k _ hq hk)
      simp [ho q.1 q.2 hne]
theorem upd3_row (σ : Sg) (g i j : Nat) (x : Int32) : upd3 σ g i j x g i = upd (σ g i) j x := by
  funext k
  simp [upd3, upd]
theorem upd3_off (σ : Sg) (g i j : Nat) (x : Int32) (g' i' : Nat) (h : (g', i') ≠ (g, i)) : upd3 σ g i j x g' i' = σ g' i' := by
  funext k
  have : ¬ (g' = g ∧ i' = i ∧ k = j) := fun e => h (by rw [e.1, e.2.1])
  simp [upd3, this]
end
section
/-! the checks that a program makes of each method's table -/
def ab_at (k : Nat) (w : Cond) : Bool := (match lw_tbl[k]? with
  | some x => decide (x = w)
  | none => false) && goodWord w
theorem ab_at_in {k : Nat} {w : Cond} (h : ab_at k w = true) : w ∈ lw_good := by
  unfold ab_at at h
  rw [Bool.and_eq_true] at h
  cases hk : lw_tbl[k]? with
  | none => rw [hk] at h; exact absurd h.1 (by simp)
  | some x =>
    rw [hk] at h
    have e : x = w := of_decide_eq_true h.1
    subst e
    exact List.mem_filter.mpr ⟨List.mem_of_getElem? hk, h.2⟩
def ab_ksb (o : Nat) (q : Nat × AV × Nat) : Bool := match q.2.1 with
  | .inl x => ab_at q.2.2 (.constant (ab_on o) q.1 x)
  | .inr (.inl x) => ab_at q.2.2 (.constantLong (ab_on o) q.1 x)
  | .inr (.inr (.inl r)) => o == 5 && r.1 == 60 && decide (r.2 < 12) && q.1 == ab_wi r.2
  | _ => false
theorem ab_ks_ok : ∀ o, o < 11 → (ab_ks o).all (ab_ksb o) = true := by decide +kernel
def ab_fkind (t : FieldType) : Nat := match t with
  | .int => 0
  | .boolean => 0
  | .long => 1
  | _ => 2
def ab_flb (o : Nat) (q : Nat × Nat × Nat × Nat) : Bool := match ab_cl[ab_ci q.2.1]? with
  | some (_, T, N) => decide (q.2.2.1 < N) && ab_kd q.2.1 == 0 && (ab_fds q.2.1).length == N && ab_at q.2.2.2 (.fieldLink (ab_on o) q.1 (T q.2.2.1).1 (T q.2.2.1).2.1 (T q.2.2.1).2.2.1) && (match (ab_fds q.2.1)[q.2.2.1]? with
    | some f => f.1 == ab_fkind (ab_ty (ab_ci q.2.1) q.2.2.1)
    | none => false)
  | none => false
theorem ab_fl_ok : ∀ o, o < 11 → (ab_fl o).all (ab_flb o) = true := by decide +kernel
def ab_nest (o ix : Nat) (y : MethodName) : Bool := (o == 6 && ix == 52 && decide (y = ⟨"CoatsFitTheMood", "bounded", "(I)I"⟩)) || (o == 0 && ix == 42 && decide (y = ⟨"CoatsFitTheMood", "bounded", "(I)I"⟩)) || (o == 1 && ix == 28 && decide (y = ⟨"CoatsFitTheMood", "isHour", "(I)Z"⟩))
set_option maxRecDepth 100000 in
theorem cw_0 : lw_tbl[(ab_mk 0).1]? = some (.code (ab_my 0) (ab_mb 0) (ab_ml 0) (ab_mr 0)) := by rfl
set_option maxRecDepth 100000 in
theorem cw_1 : lw_tbl[(ab_mk 1).1]? = some (.code (ab_my 1) (ab_mb 1) (ab_ml 1) (ab_mr 1)) := by rfl
set_option maxRecDepth 100000 in
theorem cw_2 : lw_tbl[(ab_mk 2).1]? = some (.code (ab_my 2) (ab_mb 2) (ab_ml 2) (ab_mr 2)) := by rfl
set_option maxRecDepth 100000 in
theorem cw_3 : lw_tbl[(ab_mk 3).1]? = some (.code (ab_my 3) (ab_mb 3) (ab_ml 3) (ab_mr 3)) := by rfl
set_option maxRecDepth 100000 in
theorem cw_4 : lw_tbl[(ab_mk 4).1]? = some (.code (ab_my 4) (ab_mb 4) (ab_ml 4) (ab_mr 4)) := by rfl
set_option maxRecDepth 100000 in
theorem cw_5 : lw_tbl[(ab_mk 5).1]? = some (.code (ab_my 5) (ab_mb 5) (ab_ml 5) (ab_mr 5)) := by rfl
set_option maxRecDepth 100000 in
theorem cw_6 : lw_tbl[(ab_mk 6).1]? = some (.code (ab_my 6) (ab_mb 6) (ab_ml 6) (ab_mr 6)) := by rfl
set_option maxRecDepth 100000 in
theorem cw_7 : lw_tbl[(ab_mk 7).1]? = some (.code (ab_my 7) (ab_mb 7) (ab_ml 7) (ab_mr 7)) := by rfl
set_option maxRecDepth 100000 in
theorem cw_8 : lw_tbl[(ab_mk 8).1]? = some (.code (ab_my 8) (ab_mb 8) (ab_ml 8) (ab_mr 8)) := by rfl
set_option maxRecDepth 100000 in
theorem cw_9 : lw_tbl[(ab_mk 9).1]? = some (.code (ab_my 9) (ab_mb 9) (ab_ml 9) (ab_mr 9)) := by rfl
set_option maxRecDepth 100000 in
theorem cw_10 : lw_tbl[(ab_mk 10).1]? = some (.code (ab_my 10) (ab_mb 10) (ab_ml 10) (ab_mr 10)) := by rfl
set_option maxRecDepth 100000 in
theorem cw_11 : lw_tbl[(ab_mk 11).1]? = some (.code (ab_my 11) (ab_mb 11) (ab_ml 11) (ab_mr 11)) := by rfl
set_option maxRecDepth 100000 in
theorem cw_12 : lw_tbl[(ab_mk 12).1]? = some (.code (ab_my 12) (ab_mb 12) (ab_ml 12) (ab_mr 12)) := by rfl
set_option maxRecDepth 100000 in
theorem cw_13 : lw_tbl[(ab_mk 13).1]? = some (.code (ab_my 13) (ab_mb 13) (ab_ml 13) (ab_mr 13)) := by rfl
set_option maxRecDepth 100000 in
theorem cw_14 : lw_tbl[(ab_mk 14).1]? = some (.code (ab_my 14) (ab_mb 14) (ab_ml 14) (ab_mr 14)) := by rfl
set_option maxRecDepth 100000 in
theorem cw_15 : lw_tbl[(ab_mk 15).1]? = some (.code (ab_my 15) (ab_mb 15) (ab_ml 15) (ab_mr 15)) := by rfl
set_option maxRecDepth 100000 in
theorem cw_16 : lw_tbl[(ab_mk 16).1]? = some (.code (ab_my 16) (ab_mb 16) (ab_ml 16) (ab_mr 16)) := by rfl
set_option maxRecDepth 100000 in
theorem cw_17 : lw_tbl[(ab_mk 17).1]? = some (.code (ab_my 17) (ab_mb 17) (ab_ml 17) (ab_mr 17)) := by rfl
set_option maxRecDepth 100000 in
theorem cw_18 : lw_tbl[(ab_mk 18).1]? = some (.code (ab_my 18) (ab_mb 18) (ab_ml 18) (ab_mr 18)) := by rfl
set_option maxRecDepth 100000 in
theorem cw_19 : lw_tbl[(ab_mk 19).1]? = some (.code (ab_my 19) (ab_mb 19) (ab_ml 19) (ab_mr 19)) := by rfl
set_option maxRecDepth 100000 in
theorem cw_20 : lw_tbl[(ab_mk 20).1]? = some (.code (ab_my 20) (ab_mb 20) (ab_ml 20) (ab_mr 20)) := by rfl
set_option maxRecDepth 100000 in
theorem cw_21 : lw_tbl[(ab_mk 21).1]? = some (.code (ab_my 21) (ab_mb 21) (ab_ml 21) (ab_mr 21)) := by rfl
set_option maxRecDepth 100000 in
theorem cw_22 : lw_tbl[(ab_mk 22).1]? = some (.code (ab_my 22) (ab_mb 22) (ab_ml 22) (ab_mr 22)) := by rfl
set_option maxRecDepth 100000 in
theorem cw_23 : lw_tbl[(ab_mk 23).1]? = some (.code (ab_my 23) (ab_mb 23) (ab_ml 23) (ab_mr 23)) := by rfl
set_option maxRecDepth 100000 in
theorem cw_24 : lw_tbl[(ab_mk 24).1]? = some (.code (ab_my 24) (ab_mb 24) (ab_ml 24) (ab_mr 24)) := by rfl
set_option maxRecDepth 100000 in
theorem cw_25 : lw_tbl[(ab_mk 25).1]? = some (.code (ab_my 25) (ab_mb 25) (ab_ml 25) (ab_mr 25)) := by rfl
set_option maxRecDepth 100000 in
theorem cw_26 : lw_tbl[(ab_mk 26).1]? = some (.code (ab_my 26) (ab_mb 26) (ab_ml 26) (ab_mr 26)) := by rfl
set_option maxRecDepth 100000 in
theorem cw_27 : lw_tbl[(ab_mk 27).1]? = some (.code (ab_my 27) (ab_mb 27) (ab_ml 27) (ab_mr 27)) := by rfl
set_option maxRecDepth 100000 in
theorem cw_28 : lw_tbl[(ab_mk 28).1]? = some (.code (ab_my 28) (ab_mb 28) (ab_ml 28) (ab_mr 28)) := by rfl
set_option maxRecDepth 100000 in
theorem cw_29 : lw_tbl[(ab_mk 29).1]? = some (.code (ab_my 29) (ab_mb 29) (ab_ml 29) (ab_mr 29)) := by rfl
set_option maxRecDepth 100000 in
theorem cw_30 : lw_tbl[(ab_mk 30).1]? = some (.code (ab_my 30) (ab_mb 30) (ab_ml 30) (ab_mr 30)) := by rfl
set_option maxRecDepth 100000 in
theorem cw_31 : lw_tbl[(ab_mk 31).1]? = some (.code (ab_my 31) (ab_mb 31) (ab_ml 31) (ab_mr 31)) := by rfl
set_option maxRecDepth 100000 in
theorem cw_32 : lw_tbl[(ab_mk 32).1]? = some (.code (ab_my 32) (ab_mb 32) (ab_ml 32) (ab_mr 32)) := by rfl
set_option maxRecDepth 100000 in
theorem cw_33 : lw_tbl[(ab_mk 33).1]? = some (.code (ab_my 33) (ab_mb 33) (ab_ml 33) (ab_mr 33)) := by rfl
set_option maxRecDepth 100000 in
theorem cw_34 : lw_tbl[(ab_mk 34).1]? = some (.code (ab_my 34) (ab_mb 34) (ab_ml 34) (ab_mr 34)) := by rfl
set_option maxRecDepth 100000 in
theorem cw_35 : lw_tbl[(ab_mk 35).1]? = some (.code (ab_my 35) (ab_mb 35) (ab_ml 35) (ab_mr 35)) := by rfl
set_option maxRecDepth 100000 in
theorem cw_36 : lw_tbl[(ab_mk 36).1]? = some (.code (ab_my 36) (ab_mb 36) (ab_ml 36) (ab_mr 36)) := by rfl
set_option maxRecDepth 100000 in
theorem cw_37 : lw_tbl[(ab_mk 37).1]? = some (.code (ab_my 37) (ab_mb 37) (ab_ml 37) (ab_mr 37)) := by rfl
set_option maxRecDepth 100000 in
theorem cw_38 : lw_tbl[(ab_mk 38).1]? = some (.code (ab_my 38) (ab_mb 38) (ab_ml 38) (ab_mr 38)) := by rfl
set_option maxRecDepth 100000 in
theorem cw_39 : lw_tbl[(ab_mk 39).1]? = some (.code (ab_my 39) (ab_mb 39) (ab_ml 39) (ab_mr 39)) := by rfl
set_option maxRecDepth 100000 in
theorem cw_40 : lw_tbl[(ab_mk 40).1]? = some (.code (ab_my 40) (ab_mb 40) (ab_ml 40) (ab_mr 40)) := by rfl
set_option maxRecDepth 100000 in
theorem cw_41 : lw_tbl[(ab_mk 41).1]? = some (.code (ab_my 41) (ab_mb 41) (ab_ml 41) (ab_mr 41)) := by rfl
set_option maxRecDepth 100000 in
theorem cw_42 : lw_tbl[(ab_mk 42).1]? = some (.code (ab_my 42) (ab_mb 42) (ab_ml 42) (ab_mr 42)) := by rfl
set_option maxRecDepth 100000 in
theorem cw_43 : lw_tbl[(ab_mk 43).1]? = some (.code (ab_my 43) (ab_mb 43) (ab_ml 43) (ab_mr 43)) := by rfl
set_option maxRecDepth 100000 in
theorem cw_44 : lw_tbl[(ab_mk 44).1]? = some (.code (ab_my 44) (ab_mb 44) (ab_ml 44) (ab_mr 44)) := by rfl
set_option maxRecDepth 100000 in
theorem cw_45 : lw_tbl[(ab_mk 45).1]? = some (.code (ab_my 45) (ab_mb 45) (ab_ml 45) (ab_mr 45)) := by rfl
set_option maxRecDepth 100000 in
theorem cw_46 : lw_tbl[(ab_mk 46).1]? = some (.code (ab_my 46) (ab_mb 46) (ab_ml 46) (ab_mr 46)) := by rfl
set_option maxRecDepth 100000 in
theorem cw_47 : lw_tbl[(ab_mk 47).1]? = some (.code (ab_my 47) (ab_mb 47) (ab_ml 47) (ab_mr 47)) := by rfl
set_option maxRecDepth 100000 in
theorem cw_48 : lw_tbl[(ab_mk 48).1]? = some (.code (ab_my 48) (ab_mb 48) (ab_ml 48) (ab_mr 48)) := by rfl
set_option maxRecDepth 100000 in
theorem cw_49 : lw_tbl[(ab_mk 49).1]? = some (.code (ab_my 49) (ab_mb 49) (ab_ml 49) (ab_mr 49)) := by rfl
set_option maxRecDepth 100000 in
theorem cw_50 : lw_tbl[(ab_mk 50).1]? = some (.code (ab_my 50) (ab_mb 50) (ab_ml 50) (ab_mr 50)) := by rfl
set_option maxRecDepth 100000 in
theorem cw_51 : lw_tbl[(ab_mk 51).1]? = some (.code (ab_my 51) (ab_mb 51) (ab_ml 51) (ab_mr 51)) := by rfl
set_option maxRecDepth 100000 in
theorem cw_52 : lw_tbl[(ab_mk 52).1]? = some (.code (ab_my 52) (ab_mb 52) (ab_ml 52) (ab_mr 52)) := by rfl
set_option maxRecDepth 100000 in
theorem cw_53 : lw_tbl[(ab_mk 53).1]? = some (.code (ab_my 53) (ab_mb 53) (ab_ml 53) (ab_mr 53)) := by rfl
set_option maxRecDepth 100000 in
theorem cw_54 : lw_tbl[(ab_mk 54).1]? = some (.code (ab_my 54) (ab_mb 54) (ab_ml 54) (ab_mr 54)) := by rfl
set_option maxRecDepth 100000 in
theorem cw_55 : lw_tbl[(ab_mk 55).1]? = some (.code (ab_my 55) (ab_mb 55) (ab_ml 55) (ab_mr 55)) := by rfl
set_option maxRecDepth 100000 in
theorem cw_56 : lw_tbl[(ab_mk 56).1]? = some (.code (ab_my 56) (ab_mb 56) (ab_ml 56) (ab_mr 56)) := by rfl
set_option maxRecDepth 100000 in
theorem cw_57 : lw_tbl[(ab_mk 57).1]? = some (.code (ab_my 57) (ab_mb 57) (ab_ml 57) (ab_mr 57)) := by rfl
set_option maxRecDepth 100000 in
theorem cw_58 : lw_tbl[(ab_mk 58).1]? = some (.code (ab_my 58) (ab_mb 58) (ab_ml 58) (ab_mr 58)) := by rfl
set_option maxRecDepth 100000 in
theorem cw_59 : lw_tbl[(ab_mk 59).1]? = some (.code (ab_my 59) (ab_mb 59) (ab_ml 59) (ab_mr 59)) := by rfl
set_option maxRecDepth 100000 in
theorem cw_60 : lw_tbl[(ab_mk 60).1]? = some (.code (ab_my 60) (ab_mb 60) (ab_ml 60) (ab_mr 60)) := by rfl
set_option maxRecDepth 100000 in
theorem cw_61 : lw_tbl[(ab_mk 61).1]? = some (.code (ab_my 61) (ab_mb 61) (ab_ml 61) (ab_mr 61)) := by rfl
set_option maxRecDepth 100000 in
theorem cw_62 : lw_tbl[(ab_mk 62).1]? = some (.code (ab_my 62) (ab_mb 62) (ab_ml 62) (ab_mr 62)) := by rfl
set_option maxRecDepth 100000 in
theorem cw_63 : lw_tbl[(ab_mk 63).1]? = some (.code (ab_my 63) (ab_mb 63) (ab_ml 63) (ab_mr 63)) := by rfl
set_option maxRecDepth 100000 in
theorem cw_64 : lw_tbl[(ab_mk 64).1]? = some (.code (ab_my 64) (ab_mb 64) (ab_ml 64) (ab_mr 64)) := by rfl
set_option maxRecDepth 100000 in
theorem cw_65 : lw_tbl[(ab_mk 65).1]? = some (.code (ab_my 65) (ab_mb 65) (ab_ml 65) (ab_mr 65)) := by rfl
set_option maxRecDepth 100000 in
theorem cw_66 : lw_tbl[(ab_mk 66).1]? = some (.code (ab_my 66) (ab_mb 66) (ab_ml 66) (ab_mr 66)) := by rfl
set_option maxRecDepth 100000 in
theorem cw_67 : lw_tbl[(ab_mk 67).1]? = some (.code (ab_my 67) (ab_mb 67) (ab_ml 67) (ab_mr 67)) := by rfl
set_option maxRecDepth 100000 in
theorem cw_68 : lw_tbl[(ab_mk 68).1]? = some (.code (ab_my 68) (ab_mb 68) (ab_ml 68) (ab_mr 68)) := by rfl
set_option maxRecDepth 100000 in
theorem cw_69 : lw_tbl[(ab_mk 69).1]? = some (.code (ab_my 69) (ab_mb 69) (ab_ml 69) (ab_mr 69)) := by rfl
set_option maxRecDepth 100000 in
theorem cw_70 : lw_tbl[(ab_mk 70).1]? = some (.code (ab_my 70) (ab_mb 70) (ab_ml 70) (ab_mr 70)) := by rfl
set_option maxRecDepth 100000 in
theorem cw_71 : lw_tbl[(ab_mk 71).1]? = some (.code (ab_my 71) (ab_mb 71) (ab_ml 71) (ab_mr 71)) := by rfl
set_option maxRecDepth 100000 in
theorem cw_72 : lw_tbl[(ab_mk 72).1]? = some (.code (ab_my 72) (ab_mb 72) (ab_ml 72) (ab_mr 72)) := by rfl
set_option maxRecDepth 100000 in
theorem cw_73 : lw_tbl[(ab_mk 73).1]? = some (.code (ab_my 73) (ab_mb 73) (ab_ml 73) (ab_mr 73)) := by rfl
set_option maxRecDepth 100000 in
theorem cw_74 : lw_tbl[(ab_mk 74).1]? = some (.code (ab_my 74) (ab_mb 74) (ab_ml 74) (ab_mr 74)) := by rfl
set_option maxRecDepth 100000 in
theorem cw_75 : lw_tbl[(ab_mk 75).1]? = some (.code (ab_my 75) (ab_mb 75) (ab_ml 75) (ab_mr 75)) := by rfl
set_option maxRecDepth 100000 in
theorem cw_76 : lw_tbl[(ab_mk 76).1]? = some (.code (ab_my 76) (ab_mb 76) (ab_ml 76) (ab_mr 76)) := by rfl
set_option maxRecDepth 100000 in
theorem cw_77 : lw_tbl[(ab_mk 77).1]? = some (.code (ab_my 77) (ab_mb 77) (ab_ml 77) (ab_mr 77)) := by rfl
set_option maxRecDepth 100000 in
theorem cw_78 : lw_tbl[(ab_mk 78).1]? = some (.code (ab_my 78) (ab_mb 78) (ab_ml 78) (ab_mr 78)) := by rfl
set_option maxRecDepth 100000 in
theorem cw_79 : lw_tbl[(ab_mk 79).1]? = some (.code (ab_my 79) (ab_mb 79) (ab_ml 79) (ab_mr 79)) := by rfl
set_option maxRecDepth 100000 in
theorem cw_80 : lw_tbl[(ab_mk 80).1]? = some (.code (ab_my 80) (ab_mb 80) (ab_ml 80) (ab_mr 80)) := by rfl
set_option maxRecDepth 100000 in
theorem cw_81 : lw_tbl[(ab_mk 81).1]? = some (.code (ab_my 81) (ab_mb 81) (ab_ml 81) (ab_mr 81)) := by rfl
set_option maxRecDepth 100000 in
theorem cw_82 : lw_tbl[(ab_mk 82).1]? = some (.code (ab_my 82) (ab_mb 82) (ab_ml 82) (ab_mr 82)) := by rfl
set_option maxRecDepth 100000 in
theorem cw_83 : lw_tbl[(ab_mk 83).1]? = some (.code (ab_my 83) (ab_mb 83) (ab_ml 83) (ab_mr 83)) := by rfl
set_option maxRecDepth 100000 in
theorem cw_84 : lw_tbl[(ab_mk 84).1]? = some (.code (ab_my 84) (ab_mb 84) (ab_ml 84) (ab_mr 84)) := by rfl
set_option maxRecDepth 100000 in
theorem cw_85 : lw_tbl[(ab_mk 85).1]? = some (.code (ab_my 85) (ab_mb 85) (ab_ml 85) (ab_mr 85)) := by rfl
set_option maxRecDepth 100000 in
theorem cw_86 : lw_tbl[(ab_mk 86).1]? = some (.code (ab_my 86) (ab_mb 86) (ab_ml 86) (ab_mr 86)) := by rfl
set_option maxRecDepth 100000 in
theorem cw_87 : lw_tbl[(ab_mk 87).1]? = some (.code (ab_my 87) (ab_mb 87) (ab_ml 87) (ab_mr 87)) := by rfl
set_option maxRecDepth 100000 in
theorem cw_88 : lw_tbl[(ab_mk 88).1]? = some (.code (ab_my 88) (ab_mb 88) (ab_ml 88) (ab_mr 88)) := by rfl
set_option maxRecDepth 100000 in
theorem cw_89 : lw_tbl[(ab_mk 89).1]? = some (.code (ab_my 89) (ab_mb 89) (ab_ml 89) (ab_mr 89)) := by rfl
set_option maxRecDepth 100000 in
theorem cw_90 : lw_tbl[(ab_mk 90).1]? = some (.code (ab_my 90) (ab_mb 90) (ab_ml 90) (ab_mr 90)) := by rfl
set_option maxRecDepth 100000 in
theorem cw_91 : lw_tbl[(ab_mk 91).1]? = some (.code (ab_my 91) (ab_mb 91) (ab_ml 91) (ab_mr 91)) := by rfl
set_option maxRecDepth 100000 in
theorem cw_92 : lw_tbl[(ab_mk 92).1]? = some (.code (ab_my 92) (ab_mb 92) (ab_ml 92) (ab_mr 92)) := by rfl
set_option maxRecDepth 100000 in
theorem cw_93 : lw_tbl[(ab_mk 93).1]? = some (.code (ab_my 93) (ab_mb 93) (ab_ml 93) (ab_mr 93)) := by rfl
set_option maxRecDepth 100000 in
theorem cw_94 : lw_tbl[(ab_mk 94).1]? = some (.code (ab_my 94) (ab_mb 94) (ab_ml 94) (ab_mr 94)) := by rfl
set_option maxRecDepth 100000 in
theorem cw_95 : lw_tbl[(ab_mk 95).1]? = some (.code (ab_my 95) (ab_mb 95) (ab_ml 95) (ab_mr 95)) := by rfl
set_option maxRecDepth 100000 in
theorem cw_96 : lw_tbl[(ab_mk 96).1]? = some (.code (ab_my 96) (ab_mb 96) (ab_ml 96) (ab_mr 96)) := by rfl
set_option maxRecDepth 100000 in
theorem cw_97 : lw_tbl[(ab_mk 97).1]? = some (.code (ab_my 97) (ab_mb 97) (ab_ml 97) (ab_mr 97)) := by rfl
set_option maxRecDepth 100000 in
theorem cw_98 : lw_tbl[(ab_mk 98).1]? = some (.code (ab_my 98) (ab_mb 98) (ab_ml 98) (ab_mr 98)) := by rfl
set_option maxRecDepth 100000 in
theorem cw_99 : lw_tbl[(ab_mk 99).1]? = some (.code (ab_my 99) (ab_mb 99) (ab_ml 99) (ab_mr 99)) := by rfl
set_option maxRecDepth 100000 in
theorem cw_100 : lw_tbl[(ab_mk 100).1]? = some (.code (ab_my 100) (ab_mb 100) (ab_ml 100) (ab_mr 100)) := by rfl
set_option maxRecDepth 100000 in
theorem cw_101 : lw_tbl[(ab_mk 101).1]? = some (.code (ab_my 101) (ab_mb 101) (ab_ml 101) (ab_mr 101)) := by rfl
set_option maxRecDepth 100000 in
theorem cw_102 : lw_tbl[(ab_mk 102).1]? = some (.code (ab_my 102) (ab_mb 102) (ab_ml 102) (ab_mr 102)) := by rfl
set_option maxRecDepth 100000 in
theorem cw_103 : lw_tbl[(ab_mk 103).1]? = some (.code (ab_my 103) (ab_mb 103) (ab_ml 103) (ab_mr 103)) := by rfl
set_option maxRecDepth 100000 in
theorem cw_104 : lw_tbl[(ab_mk 104).1]? = some (.code (ab_my 104) (ab_mb 104) (ab_ml 104) (ab_mr 104)) := by rfl
set_option maxRecDepth 100000 in
theorem cw_105 : lw_tbl[(ab_mk 105).1]? = some (.code (ab_my 105) (ab_mb 105) (ab_ml 105) (ab_mr 105)) := by rfl
set_option maxRecDepth 100000 in
theorem cw_106 : lw_tbl[(ab_mk 106).1]? = some (.code (ab_my 106) (ab_mb 106) (ab_ml 106) (ab_mr 106)) := by rfl
set_option maxRecDepth 100000 in
theorem cw_107 : lw_tbl[(ab_mk 107).1]? = some (.code (ab_my 107) (ab_mb 107) (ab_ml 107) (ab_mr 107)) := by rfl
set_option maxRecDepth 100000 in
theorem cw_108 : lw_tbl[(ab_mk 108).1]? = some (.code (ab_my 108) (ab_mb 108) (ab_ml 108) (ab_mr 108)) := by rfl
set_option maxRecDepth 100000 in
theorem cw_109 : lw_tbl[(ab_mk 109).1]? = some (.code (ab_my 109) (ab_mb 109) (ab_ml 109) (ab_mr 109)) := by rfl
set_option maxRecDepth 100000 in
theorem cw_110 : lw_tbl[(ab_mk 110).1]? = some (.code (ab_my 110) (ab_mb 110) (ab_ml 110) (ab_mr 110)) := by rfl
set_option maxRecDepth 100000 in
theorem cw_111 : lw_tbl[(ab_mk 111).1]? = some (.code (ab_my 111) (ab_mb 111) (ab_ml 111) (ab_mr 111)) := by rfl
set_option maxRecDepth 100000 in
theorem cw_112 : lw_tbl[(ab_mk 112).1]? = some (.code (ab_my 112) (ab_mb 112) (ab_ml 112) (ab_mr 112)) := by rfl
set_option maxRecDepth 100000 in
theorem cw_113 : lw_tbl[(ab_mk 113).1]? = some (.code (ab_my 113) (ab_mb 113) (ab_ml 113) (ab_mr 113)) := by rfl
set_option maxRecDepth 100000 in
theorem cw_114 : lw_tbl[(ab_mk 114).1]? = some (.code (ab_my 114) (ab_mb 114) (ab_ml 114) (ab_mr 114)) := by rfl
set_option maxRecDepth 100000 in
theorem cw_115 : lw_tbl[(ab_mk 115).1]? = some (.code (ab_my 115) (ab_mb 115) (ab_ml 115) (ab_mr 115)) := by rfl
set_option maxRecDepth 100000 in
theorem cw_116 : lw_tbl[(ab_mk 116).1]? = some (.code (ab_my 116) (ab_mb 116) (ab_ml 116) (ab_mr 116)) := by rfl
set_option maxRecDepth 100000 in
theorem cw_117 : lw_tbl[(ab_mk 117).1]? = some (.code (ab_my 117) (ab_mb 117) (ab_ml 117) (ab_mr 117)) := by rfl
set_option maxRecDepth 100000 in
theorem cw_118 : lw_tbl[(ab_mk 118).1]? = some (.code (ab_my 118) (ab_mb 118) (ab_ml 118) (ab_mr 118)) := by rfl
set_option maxRecDepth 100000 in
theorem cw_119 : lw_tbl[(ab_mk 119).1]? = some (.code (ab_my 119) (ab_mb 119) (ab_ml 119) (ab_mr 119)) := by rfl
set_option maxRecDepth 100000 in
theorem cw_120 : lw_tbl[(ab_mk 120).1]? = some (.code (ab_my 120) (ab_mb 120) (ab_ml 120) (ab_mr 120)) := by rfl
set_option maxRecDepth 100000 in
theorem cw_121 : lw_tbl[(ab_mk 121).1]? = some (.code (ab_my 121) (ab_mb 121) (ab_ml 121) (ab_mr 121)) := by rfl
set_option maxRecDepth 100000 in
theorem cw_122 : lw_tbl[(ab_mk 122).1]? = some (.code (ab_my 122) (ab_mb 122) (ab_ml 122) (ab_mr 122)) := by rfl
set_option maxRecDepth 100000 in
theorem cw_123 : lw_tbl[(ab_mk 123).1]? = some (.code (ab_my 123) (ab_mb 123) (ab_ml 123) (ab_mr 123)) := by rfl
set_option maxRecDepth 100000 in
theorem cw_124 : lw_tbl[(ab_mk 124).1]? = some (.code (ab_my 124) (ab_mb 124) (ab_ml 124) (ab_mr 124)) := by rfl
set_option maxRecDepth 100000 in
theorem cw_125 : lw_tbl[(ab_mk 125).1]? = some (.code (ab_my 125) (ab_mb 125) (ab_ml 125) (ab_mr 125)) := by rfl
set_option maxRecDepth 100000 in
theorem cw_126 : lw_tbl[(ab_mk 126).1]? = some (.code (ab_my 126) (ab_mb 126) (ab_ml 126) (ab_mr 126)) := by rfl
set_option maxRecDepth 100000 in
theorem cw_127 : lw_tbl[(ab_mk 127).1]? = some (.code (ab_my 127) (ab_mb 127) (ab_ml 127) (ab_mr 127)) := by rfl
set_option maxRecDepth 100000 in
theorem cw_128 : lw_tbl[(ab_mk 128).1]? = some (.code (ab_my 128) (ab_mb 128) (ab_ml 128) (ab_mr 128)) := by rfl
set_option maxRecDepth 100000 in
theorem cw_129 : lw_tbl[(ab_mk 129).1]? = some (.code (ab_my 129) (ab_mb 129) (ab_ml 129) (ab_mr 129)) := by rfl
set_option maxRecDepth 100000 in
theorem cw_130 : lw_tbl[(ab_mk 130).1]? = some (.code (ab_my 130) (ab_mb 130) (ab_ml 130) (ab_mr 130)) := by rfl
set_option maxRecDepth 100000 in
theorem cw_131 : lw_tbl[(ab_mk 131).1]? = some (.code (ab_my 131) (ab_mb 131) (ab_ml 131) (ab_mr 131)) := by rfl
set_option maxRecDepth 100000 in
theorem cw_132 : lw_tbl[(ab_mk 132).1]? = some (.code (ab_my 132) (ab_mb 132) (ab_ml 132) (ab_mr 132)) := by rfl
set_option maxRecDepth 100000 in
theorem cw_133 : lw_tbl[(ab_mk 133).1]? = some (.code (ab_my 133) (ab_mb 133) (ab_ml 133) (ab_mr 133)) := by rfl
set_option maxRecDepth 100000 in
theorem cw_134 : lw_tbl[(ab_mk 134).1]? = some (.code (ab_my 134) (ab_mb 134) (ab_ml 134) (ab_mr 134)) := by rfl
set_option maxRecDepth 100000 in
theorem cw_135 : lw_tbl[(ab_mk 135).1]? = some (.code (ab_my 135) (ab_mb 135) (ab_ml 135) (ab_mr 135)) := by rfl
set_option maxRecDepth 100000 in
theorem cw_136 : lw_tbl[(ab_mk 136).1]? = some (.code (ab_my 136) (ab_mb 136) (ab_ml 136) (ab_mr 136)) := by rfl
set_option maxRecDepth 100000 in
theorem cw_137 : lw_tbl[(ab_mk 137).1]? = some (.code (ab_my 137) (ab_mb 137) (ab_ml 137) (ab_mr 137)) := by rfl
set_option maxRecDepth 100000 in
theorem cw_138 : lw_tbl[(ab_mk 138).1]? = some (.code (ab_my 138) (ab_mb 138) (ab_ml 138) (ab_mr 138)) := by rfl
set_option maxRecDepth 100000 in
theorem cw_139 : lw_tbl[(ab_mk 139).1]? = some (.code (ab_my 139) (ab_mb 139) (ab_ml 139) (ab_mr 139)) := by rfl
set_option maxRecDepth 100000 in
theorem cw_140 : lw_tbl[(ab_mk 140).1]? = some (.code (ab_my 140) (ab_mb 140) (ab_ml 140) (ab_mr 140)) := by rfl
set_option maxRecDepth 100000 in
theorem cw_141 : lw_tbl[(ab_mk 141).1]? = some (.code (ab_my 141) (ab_mb 141) (ab_ml 141) (ab_mr 141)) := by rfl
set_option maxRecDepth 100000 in
theorem cw_142 : lw_tbl[(ab_mk 142).1]? = some (.code (ab_my 142) (ab_mb 142) (ab_ml 142) (ab_mr 142)) := by rfl
set_option maxRecDepth 100000 in
theorem cw_143 : lw_tbl[(ab_mk 143).1]? = some (.code (ab_my 143) (ab_mb 143) (ab_ml 143) (ab_mr 143)) := by rfl
set_option maxRecDepth 100000 in
theorem cw_144 : lw_tbl[(ab_mk 144).1]? = some (.code (ab_my 144) (ab_mb 144) (ab_ml 144) (ab_mr 144)) := by rfl
set_option maxRecDepth 100000 in
theorem cw_145 : lw_tbl[(ab_mk 145).1]? = some (.code (ab_my 145) (ab_mb 145) (ab_ml 145) (ab_mr 145)) := by rfl
set_option maxRecDepth 100000 in
theorem cw_146 : lw_tbl[(ab_mk 146).1]? = some (.code (ab_my 146) (ab_mb 146) (ab_ml 146) (ab_mr 146)) := by rfl
set_option maxRecDepth 100000 in
theorem cw_147 : lw_tbl[(ab_mk 147).1]? = some (.code (ab_my 147) (ab_mb 147) (ab_ml 147) (ab_mr 147)) := by rfl
set_option maxRecDepth 100000 in
theorem cw_148 : lw_tbl[(ab_mk 148).1]? = some (.code (ab_my 148) (ab_mb 148) (ab_ml 148) (ab_mr 148)) := by rfl
set_option maxRecDepth 100000 in
theorem cw_149 : lw_tbl[(ab_mk 149).1]? = some (.code (ab_my 149) (ab_mb 149) (ab_ml 149) (ab_mr 149)) := by rfl
set_option maxRecDepth 100000 in
theorem cw_150 : lw_tbl[(ab_mk 150).1]? = some (.code (ab_my 150) (ab_mb 150) (ab_ml 150) (ab_mr 150)) := by rfl
set_option maxRecDepth 100000 in
theorem cw_151 : lw_tbl[(ab_mk 151).1]? = some (.code (ab_my 151) (ab_mb 151) (ab_ml 151) (ab_mr 151)) := by rfl
set_option maxRecDepth 100000 in
theorem cw_152 : lw_tbl[(ab_mk 152).1]? = some (.code (ab_my 152) (ab_mb 152) (ab_ml 152) (ab_mr 152)) := by rfl
set_option maxRecDepth 100000 in
theorem cw_153 : lw_tbl[(ab_mk 153).1]? = some (.code (ab_my 153) (ab_mb 153) (ab_ml 153) (ab_mr 153)) := by rfl
set_option maxRecDepth 100000 in
theorem cw_154 : lw_tbl[(ab_mk 154).1]? = some (.code (ab_my 154) (ab_mb 154) (ab_ml 154) (ab_mr 154)) := by rfl
set_option maxRecDepth 100000 in
theorem cw_155 : lw_tbl[(ab_mk 155).1]? = some (.code (ab_my 155) (ab_mb 155) (ab_ml 155) (ab_mr 155)) := by rfl
set_option maxRecDepth 100000 in
theorem cw_156 : lw_tbl[(ab_mk 156).1]? = some (.code (ab_my 156) (ab_mb 156) (ab_ml 156) (ab_mr 156)) := by rfl
set_option maxRecDepth 100000 in
theorem cw_157 : lw_tbl[(ab_mk 157).1]? = some (.code (ab_my 157) (ab_mb 157) (ab_ml 157) (ab_mr 157)) := by rfl
set_option maxRecDepth 100000 in
theorem cw_158 : lw_tbl[(ab_mk 158).1]? = some (.code (ab_my 158) (ab_mb 158) (ab_ml 158) (ab_mr 158)) := by rfl
set_option maxRecDepth 100000 in
theorem cw_159 : lw_tbl[(ab_mk 159).1]? = some (.code (ab_my 159) (ab_mb 159) (ab_ml 159) (ab_mr 159)) := by rfl
set_option maxRecDepth 100000 in
theorem cw_160 : lw_tbl[(ab_mk 160).1]? = some (.code (ab_my 160) (ab_mb 160) (ab_ml 160) (ab_mr 160)) := by rfl
set_option maxRecDepth 100000 in
theorem cw_161 : lw_tbl[(ab_mk 161).1]? = some (.code (ab_my 161) (ab_mb 161) (ab_ml 161) (ab_mr 161)) := by rfl
set_option maxRecDepth 100000 in
theorem cw_162 : lw_tbl[(ab_mk 162).1]? = some (.code (ab_my 162) (ab_mb 162) (ab_ml 162) (ab_mr 162)) := by rfl
set_option maxRecDepth 100000 in
theorem cw_163 : lw_tbl[(ab_mk 163).1]? = some (.code (ab_my 163) (ab_mb 163) (ab_ml 163) (ab_mr 163)) := by rfl
set_option maxRecDepth 100000 in
theorem cw_164 : lw_tbl[(ab_mk 164).1]? = some (.code (ab_my 164) (ab_mb 164) (ab_ml 164) (ab_mr 164)) := by rfl
set_option maxRecDepth 100000 in
theorem cw_165 : lw_tbl[(ab_mk 165).1]? = some (.code (ab_my 165) (ab_mb 165) (ab_ml 165) (ab_mr 165)) := by rfl
set_option maxRecDepth 100000 in
theorem cw_166 : lw_tbl[(ab_mk 166).1]? = some (.code (ab_my 166) (ab_mb 166) (ab_ml 166) (ab_mr 166)) := by rfl
set_option maxRecDepth 100000 in
theorem cw_167 : lw_tbl[(ab_mk 167).1]? = some (.code (ab_my 167) (ab_mb 167) (ab_ml 167) (ab_mr 167)) := by rfl
set_option maxRecDepth 100000 in
theorem cw_168 : lw_tbl[(ab_mk 168).1]? = some (.code (ab_my 168) (ab_mb 168) (ab_ml 168) (ab_mr 168)) := by rfl
set_option maxRecDepth 100000 in
theorem cw_169 : lw_tbl[(ab_mk 169).1]? = some (.code (ab_my 169) (ab_mb 169) (ab_ml 169) (ab_mr 169)) := by rfl
set_option maxRecDepth 100000 in
theorem cw_170 : lw_tbl[(ab_mk 170).1]? = some (.code (ab_my 170) (ab_mb 170) (ab_ml 170) (ab_mr 170)) := by rfl
set_option maxRecDepth 100000 in
theorem cw_171 : lw_tbl[(ab_mk 171).1]? = some (.code (ab_my 171) (ab_mb 171) (ab_ml 171) (ab_mr 171)) := by rfl
set_option maxRecDepth 100000 in
theorem cw_172 : lw_tbl[(ab_mk 172).1]? = some (.code (ab_my 172) (ab_mb 172) (ab_ml 172) (ab_mr 172)) := by rfl
set_option maxRecDepth 100000 in
theorem cw_173 : lw_tbl[(ab_mk 173).1]? = some (.code (ab_my 173) (ab_mb 173) (ab_ml 173) (ab_mr 173)) := by rfl
set_option maxRecDepth 100000 in
theorem cw_174 : lw_tbl[(ab_mk 174).1]? = some (.code (ab_my 174) (ab_mb 174) (ab_ml 174) (ab_mr 174)) := by rfl
set_option maxRecDepth 100000 in
theorem cw_175 : lw_tbl[(ab_mk 175).1]? = some (.code (ab_my 175) (ab_mb 175) (ab_ml 175) (ab_mr 175)) := by rfl
set_option maxRecDepth 100000 in
theorem cw_176 : lw_tbl[(ab_mk 176).1]? = some (.code (ab_my 176) (ab_mb 176) (ab_ml 176) (ab_mr 176)) := by rfl
set_option maxRecDepth 100000 in
theorem cw_177 : lw_tbl[(ab_mk 177).1]? = some (.code (ab_my 177) (ab_mb 177) (ab_ml 177) (ab_mr 177)) := by rfl
set_option maxRecDepth 100000 in
theorem cw_178 : lw_tbl[(ab_mk 178).1]? = some (.code (ab_my 178) (ab_mb 178) (ab_ml 178) (ab_mr 178)) := by rfl
set_option maxRecDepth 100000 in
theorem cw_179 : lw_tbl[(ab_mk 179).1]? = some (.code (ab_my 179) (ab_mb 179) (ab_ml 179) (ab_mr 179)) := by rfl
set_option maxRecDepth 100000 in
theorem cw_180 : lw_tbl[(ab_mk 180).1]? = some (.code (ab_my 180) (ab_mb 180) (ab_ml 180) (ab_mr 180)) := by rfl
set_option maxRecDepth 100000 in
theorem cw_181 : lw_tbl[(ab_mk 181).1]? = some (.code (ab_my 181) (ab_mb 181) (ab_ml 181) (ab_mr 181)) := by rfl
set_option maxRecDepth 100000 in
theorem cw_182 : lw_tbl[(ab_mk 182).1]? = some (.code (ab_my 182) (ab_mb 182) (ab_ml 182) (ab_mr 182)) := by rfl
set_option maxRecDepth 100000 in
theorem cw_183 : lw_tbl[(ab_mk 183).1]? = some (.code (ab_my 183) (ab_mb 183) (ab_ml 183) (ab_mr 183)) := by rfl
set_option maxRecDepth 100000 in
theorem cw_184 : lw_tbl[(ab_mk 184).1]? = some (.code (ab_my 184) (ab_mb 184) (ab_ml 184) (ab_mr 184)) := by rfl
set_option maxRecDepth 100000 in
theorem cw_185 : lw_tbl[(ab_mk 185).1]? = some (.code (ab_my 185) (ab_mb 185) (ab_ml 185) (ab_mr 185)) := by rfl
set_option maxRecDepth 100000 in
theorem cw_186 : lw_tbl[(ab_mk 186).1]? = some (.code (ab_my 186) (ab_mb 186) (ab_ml 186) (ab_mr 186)) := by rfl
set_option maxRecDepth 100000 in
theorem cw_187 : lw_tbl[(ab_mk 187).1]? = some (.code (ab_my 187) (ab_mb 187) (ab_ml 187) (ab_mr 187)) := by rfl
set_option maxRecDepth 100000 in
theorem cw_188 : lw_tbl[(ab_mk 188).1]? = some (.code (ab_my 188) (ab_mb 188) (ab_ml 188) (ab_mr 188)) := by rfl
set_option maxRecDepth 100000 in
theorem cw_189 : lw_tbl[(ab_mk 189).1]? = some (.code (ab_my 189) (ab_mb 189) (ab_ml 189) (ab_mr 189)) := by rfl
set_option maxRecDepth 100000 in
theorem cw_190 : lw_tbl[(ab_mk 190).1]? = some (.code (ab_my 190) (ab_mb 190) (ab_ml 190) (ab_mr 190)) := by rfl
set_option maxRecDepth 100000 in
theorem cw_191 : lw_tbl[(ab_mk 191).1]? = some (.code (ab_my 191) (ab_mb 191) (ab_ml 191) (ab_mr 191)) := by rfl
set_option maxRecDepth 100000 in
theorem cw_192 : lw_tbl[(ab_mk 192).1]? = some (.code (ab_my 192) (ab_mb 192) (ab_ml 192) (ab_mr 192)) := by rfl
set_option maxRecDepth 100000 in
theorem cw_193 : lw_tbl[(ab_mk 193).1]? = some (.code (ab_my 193) (ab_mb 193) (ab_ml 193) (ab_mr 193)) := by rfl
set_option maxRecDepth 100000 in
theorem cw_194 : lw_tbl[(ab_mk 194).1]? = some (.code (ab_my 194) (ab_mb 194) (ab_ml 194) (ab_mr 194)) := by rfl
set_option maxRecDepth 100000 in
theorem cw_195 : lw_tbl[(ab_mk 195).1]? = some (.code (ab_my 195) (ab_mb 195) (ab_ml 195) (ab_mr 195)) := by rfl
set_option maxRecDepth 100000 in
theorem cw_196 : lw_tbl[(ab_mk 196).1]? = some (.code (ab_my 196) (ab_mb 196) (ab_ml 196) (ab_mr 196)) := by rfl
set_option maxRecDepth 100000 in
theorem cw_197 : lw_tbl[(ab_mk 197).1]? = some (.code (ab_my 197) (ab_mb 197) (ab_ml 197) (ab_mr 197)) := by rfl
set_option maxRecDepth 100000 in
theorem cw_198 : lw_tbl[(ab_mk 198).1]? = some (.code (ab_my 198) (ab_mb 198) (ab_ml 198) (ab_mr 198)) := by rfl
set_option maxRecDepth 100000 in
theorem cw_199 : lw_tbl[(ab_mk 199).1]? = some (.code (ab_my 199) (ab_mb 199) (ab_ml 199) (ab_mr 199)) := by rfl
set_option maxRecDepth 100000 in
theorem cw_200 : lw_tbl[(ab_mk 200).1]? = some (.code (ab_my 200) (ab_mb 200) (ab_ml 200) (ab_mr 200)) := by rfl
set_option maxRecDepth 100000 in
theorem cw_201 : lw_tbl[(ab_mk 201).1]? = some (.code (ab_my 201) (ab_mb 201) (ab_ml 201) (ab_mr 201)) := by rfl
set_option maxRecDepth 100000 in
theorem cw_202 : lw_tbl[(ab_mk 202).1]? = some (.code (ab_my 202) (ab_mb 202) (ab_ml 202) (ab_mr 202)) := by rfl
set_option maxRecDepth 100000 in
theorem cw_203 : lw_tbl[(ab_mk 203).1]? = some (.code (ab_my 203) (ab_mb 203) (ab_ml 203) (ab_mr 203)) := by rfl
set_option maxRecDepth 100000 in
theorem cw_204 : lw_tbl[(ab_mk 204).1]? = some (.code (ab_my 204) (ab_mb 204) (ab_ml 204) (ab_mr 204)) := by rfl
set_option maxRecDepth 100000 in
theorem cw_205 : lw_tbl[(ab_mk 205).1]? = some (.code (ab_my 205) (ab_mb 205) (ab_ml 205) (ab_mr 205)) := by rfl
set_option maxRecDepth 100000 in
theorem cw_206 : lw_tbl[(ab_mk 206).1]? = some (.code (ab_my 206) (ab_mb 206) (ab_ml 206) (ab_mr 206)) := by rfl
set_option maxRecDepth 100000 in
theorem cw_207 : lw_tbl[(ab_mk 207).1]? = some (.code (ab_my 207) (ab_mb 207) (ab_ml 207) (ab_mr 207)) := by rfl
set_option maxRecDepth 100000 in
theorem cw_208 : lw_tbl[(ab_mk 208).1]? = some (.code (ab_my 208) (ab_mb 208) (ab_ml 208) (ab_mr 208)) := by rfl
set_option maxRecDepth 100000 in
theorem cw_209 : lw_tbl[(ab_mk 209).1]? = some (.code (ab_my 209) (ab_mb 209) (ab_ml 209) (ab_mr 209)) := by rfl
set_option maxRecDepth 100000 in
theorem cw_210 : lw_tbl[(ab_mk 210).1]? = some (.code (ab_my 210) (ab_mb 210) (ab_ml 210) (ab_mr 210)) := by rfl
set_option maxRecDepth 100000 in
theorem cw_211 : lw_tbl[(ab_mk 211).1]? = some (.code (ab_my 211) (ab_mb 211) (ab_ml 211) (ab_mr 211)) := by rfl
set_option maxRecDepth 100000 in
theorem cw_212 : lw_tbl[(ab_mk 212).1]? = some (.code (ab_my 212) (ab_mb 212) (ab_ml 212) (ab_mr 212)) := by rfl
set_option maxRecDepth 100000 in
theorem cw_213 : lw_tbl[(ab_mk 213).1]? = some (.code (ab_my 213) (ab_mb 213) (ab_ml 213) (ab_mr 213)) := by rfl
set_option maxRecDepth 100000 in
theorem cw_214 : lw_tbl[(ab_mk 214).1]? = some (.code (ab_my 214) (ab_mb 214) (ab_ml 214) (ab_mr 214)) := by rfl
set_option maxRecDepth 100000 in
theorem cw_215 : lw_tbl[(ab_mk 215).1]? = some (.code (ab_my 215) (ab_mb 215) (ab_ml 215) (ab_mr 215)) := by rfl
set_option maxRecDepth 100000 in
theorem cw_216 : lw_tbl[(ab_mk 216).1]? = some (.code (ab_my 216) (ab_mb 216) (ab_ml 216) (ab_mr 216)) := by rfl
set_option maxRecDepth 100000 in
theorem cw_217 : lw_tbl[(ab_mk 217).1]? = some (.code (ab_my 217) (ab_mb 217) (ab_ml 217) (ab_mr 217)) := by rfl
set_option maxRecDepth 100000 in
theorem cw_218 : lw_tbl[(ab_mk 218).1]? = some (.code (ab_my 218) (ab_mb 218) (ab_ml 218) (ab_mr 218)) := by rfl
set_option maxRecDepth 100000 in
theorem cw_219 : lw_tbl[(ab_mk 219).1]? = some (.code (ab_my 219) (ab_mb 219) (ab_ml 219) (ab_mr 219)) := by rfl
set_option maxRecDepth 100000 in
theorem cw_220 : lw_tbl[(ab_mk 220).1]? = some (.code (ab_my 220) (ab_mb 220) (ab_ml 220) (ab_mr 220)) := by rfl
set_option maxRecDepth 100000 in
theorem cw_221 : lw_tbl[(ab_mk 221).1]? = some (.code (ab_my 221) (ab_mb 221) (ab_ml 221) (ab_mr 221)) := by rfl
set_option maxRecDepth 100000 in
theorem cw_222 : lw_tbl[(ab_mk 222).1]? = some (.code (ab_my 222) (ab_mb 222) (ab_ml 222) (ab_mr 222)) := by rfl
set_option maxRecDepth 100000 in
theorem cw_223 : lw_tbl[(ab_mk 223).1]? = some (.code (ab_my 223) (ab_mb 223) (ab_ml 223) (ab_mr 223)) := by rfl
set_option maxRecDepth 100000 in
theorem cw_224 : lw_tbl[(ab_mk 224).1]? = some (.code (ab_my 224) (ab_mb 224) (ab_ml 224) (ab_mr 224)) := by rfl
set_option maxRecDepth 100000 in
theorem cw_225 : lw_tbl[(ab_mk 225).1]? = some (.code (ab_my 225) (ab_mb 225) (ab_ml 225) (ab_mr 225)) := by rfl
set_option maxRecDepth 100000 in
theorem cw_226 : lw_tbl[(ab_mk 226).1]? = some (.code (ab_my 226) (ab_mb 226) (ab_ml 226) (ab_mr 226)) := by rfl
set_option maxRecDepth 100000 in
theorem cw_227 : lw_tbl[(ab_mk 227).1]? = some (.code (ab_my 227) (ab_mb 227) (ab_ml 227) (ab_mr 227)) := by rfl
set_option maxRecDepth 100000 in
theorem cw_228 : lw_tbl[(ab_mk 228).1]? = some (.code (ab_my 228) (ab_mb 228) (ab_ml 228) (ab_mr 228)) := by rfl
set_option maxRecDepth 100000 in
theorem cw_229 : lw_tbl[(ab_mk 229).1]? = some (.code (ab_my 229) (ab_mb 229) (ab_ml 229) (ab_mr 229)) := by rfl
theorem ab_cw : ∀ id, id < 230 → lw_tbl[(ab_mk id).1]? = some (.code (ab_my id) (ab_mb id) (ab_ml id) (ab_mr id))
  | 0, _ => cw_0
  | 1, _ => cw_1
  | 2, _ => cw_2
  | 3, _ => cw_3
  | 4, _ => cw_4
  | 5, _ => cw_5
  | 6, _ => cw_6
  | 7, _ => cw_7
  | 8, _ => cw_8
  | 9, _ => cw_9
  | 10, _ => cw_10
  | 11, _ => cw_11
  | 12, _ => cw_12
  | 13, _ => cw_13
  | 14, _ => cw_14
  | 15, _ => cw_15
  | 16, _ => cw_16
  | 17, _ => cw_17
  | 18, _ => cw_18
  | 19, _ => cw_19
  | 20, _ => cw_20
  | 21, _ => cw_21
  | 22, _ => cw_22
  | 23, _ => cw_23
  | 24, _ => cw_24
  | 25, _ => cw_25
  | 26, _ => cw_26
  | 27, _ => cw_27
  | 28, _ => cw_28
  | 29, _ => cw_29
  | 30, _ => cw_30
  | 31, _ => cw_31
  | 32, _ => cw_32
  | 33, _ => cw_33
  | 34, _ => cw_34
  | 35, _ => cw_35
  | 36, _ => cw_36
  | 37, _ => cw_37
  | 38, _ => cw_38
  | 39, _ => cw_39
  | 40, _ => cw_40
  | 41, _ => cw_41
  | 42, _ => cw_42
  | 43, _ => cw_43
  | 44, _ => cw_44
  | 45, _ => cw_45
  | 46, _ => cw_46
  | 47, _ => cw_47
  | 48, _ => cw_48
  | 49, _ => cw_49
  | 50, _ => cw_50
  | 51, _ => cw_51
  | 52, _ => cw_52
  | 53, _ => cw_53
  | 54, _ => cw_54
  | 55, _ => cw_55
  | 56, _ => cw_56
  | 57, _ => cw_57
  | 58, _ => cw_58
  | 59, _ => cw_59
  | 60, _ => cw_60
  | 61, _ => cw_61
  | 62, _ => cw_62
  | 63, _ => cw_63
  | 64, _ => cw_64
  | 65, _ => cw_65
  | 66, _ => cw_66
  | 67, _ => cw_67
  | 68, _ => cw_68
  | 69, _ => cw_69
  | 70, _ => cw_70
  | 71, _ => cw_71
  | 72, _ => cw_72
  | 73, _ => cw_73
  | 74, _ => cw_74
  | 75, _ => cw_75
  | 76, _ => cw_76
  | 77, _ => cw_77
  | 78, _ => cw_78
  | 79, _ => cw_79
  | 80, _ => cw_80
  | 81, _ => cw_81
  | 82, _ => cw_82
  | 83, _ => cw_83
  | 84, _ => cw_84
  | 85, _ => cw_85
  | 86, _ => cw_86
  | 87, _ => cw_87
  | 88, _ => cw_88
  | 89, _ => cw_89
  | 90, _ => cw_90
  | 91, _ => cw_91
  | 92, _ => cw_92
  | 93, _ => cw_93
  | 94, _ => cw_94
  | 95, _ => cw_95
  | 96, _ => cw_96
  | 97, _ => cw_97
  | 98, _ => cw_98
  | 99, _ => cw_99
  | 100, _ => cw_100
  | 101, _ => cw_101
  | 102, _ => cw_102
  | 103, _ => cw_103
  | 104, _ => cw_104
  | 105, _ => cw_105
  | 106, _ => cw_106
  | 107, _ => cw_107
  | 108, _ => cw_108
  | 109, _ => cw_109
  | 110, _ => cw_110
  | 111, _ => cw_111
  | 112, _ => cw_112
  | 113, _ => cw_113
  | 114, _ => cw_114
  | 115, _ => cw_115
  | 116, _ => cw_116
  | 117, _ => cw_117
  | 118, _ => cw_118
  | 119, _ => cw_119
  | 120, _ => cw_120
  | 121, _ => cw_121
  | 122, _ => cw_122
  | 123, _ => cw_123
  | 124, _ => cw_124
  | 125, _ => cw_125
  | 126, _ => cw_126
  | 127, _ => cw_127
  | 128, _ => cw_128
  | 129, _ => cw_129
  | 130, _ => cw_130
  | 131, _ => cw_131
  | 132, _ => cw_132
  | 133, _ => cw_133
  | 134, _ => cw_134
  | 135, _ => cw_135
  | 136, _ => cw_136
  | 137, _ => cw_137
  | 138, _ => cw_138
  | 139, _ => cw_139
  | 140, _ => cw_140
  | 141, _ => cw_141
  | 142, _ => cw_142
  | 143, _ => cw_143
  | 144, _ => cw_144
  | 145, _ => cw_145
  | 146, _ => cw_146
  | 147, _ => cw_147
  | 148, _ => cw_148
  | 149, _ => cw_149
  | 150, _ => cw_150
  | 151, _ => cw_151
  | 152, _ => cw_152
  | 153, _ => cw_153
  | 154, _ => cw_154
  | 155, _ => cw_155
  | 156, _ => cw_156
  | 157, _ => cw_157
  | 158, _ => cw_158
  | 159, _ => cw_159
  | 160, _ => cw_160
  | 161, _ => cw_161
  | 162, _ => cw_162
  | 163, _ => cw_163
  | 164, _ => cw_164
  | 165, _ => cw_165
  | 166, _ => cw_166
  | 167, _ => cw_167
  | 168, _ => cw_168
  | 169, _ => cw_169
  | 170, _ => cw_170
  | 171, _ => cw_171
  | 172, _ => cw_172
  | 173, _ => cw_173
  | 174, _ => cw_174
  | 175, _ => cw_175
  | 176, _ => cw_176
  | 177, _ => cw_177
  | 178, _ => cw_178
  | 179, _ => cw_179
  | 180, _ => cw_180
  | 181, _ => cw_181
  | 182, _ => cw_182
  | 183, _ => cw_183
  | 184, _ => cw_184
  | 185, _ => cw_185
  | 186, _ => cw_186
  | 187, _ => cw_187
  | 188, _ => cw_188
  | 189, _ => cw_189
  | 190, _ => cw_190
  | 191, _ => cw_191
  | 192, _ => cw_192
  | 193, _ => cw_193
  | 194, _ => cw_194
  | 195, _ => cw_195
  | 196, _ => cw_196
  | 197, _ => cw_197
  | 198, _ => cw_198
  | 199, _ => cw_199
  | 200, _ => cw_200
  | 201, _ => cw_201
  | 202, _ => cw_202
  | 203, _ => cw_203
  | 204, _ => cw_204
  | 205, _ => cw_205
  | 206, _ => cw_206
  | 207, _ => cw_207
  | 208, _ => cw_208
  | 209, _ => cw_209
  | 210, _ => cw_210
  | 211, _ => cw_211
  | 212, _ => cw_212
  | 213, _ => cw_213
  | 214, _ => cw_214
  | 215, _ => cw_215
  | 216, _ => cw_216
  | 217, _ => cw_217
  | 218, _ => cw_218
  | 219, _ => cw_219
  | 220, _ => cw_220
  | 221, _ => cw_221
  | 222, _ => cw_222
  | 223, _ => cw_223
  | 224, _ => cw_224
  | 225, _ => cw_225
  | 226, _ => cw_226
  | 227, _ => cw_227
  | 228, _ => cw_228
  | 229, _ => cw_229
  | n + 230, h => absurd h (by omega)
/-- a method's own words, but for its code -/
def ab_mkb (id : Nat) : Bool :=
  goodWord (.code (ab_my id) ⟨#[]⟩ (ab_ml id) (ab_mr id)) && decide (ab_ml id ≤ 40) && ab_at (ab_mk id).2.2.2 (.initialized (ab_my id).cls) && !((ab_my id).cls == "java/lang/invoke/MethodHandle") && !((ab_my id).cls == "java/lang/invoke/VarHandle") && plainName (ab_my id).cls && (match ab_mt id with
  | 0 => ab_at (ab_mk id).2.1 (.instanceMethod (ab_my id)) && ab_at (ab_mk id).2.2.1 (.selects (ab_my id).cls (ab_my id) (ab_my id))
  | _ => ab_at (ab_mk id).2.1 (.static (ab_my id)))
theorem ab_mk_ok : (List.range 230).all ab_mkb = true := by decide +kernel
theorem ab_code_in {id : Nat} (h : id < 230) : Cond.code (ab_my id) (ab_mb id) (ab_ml id) (ab_mr id) ∈ lw_good := List.mem_filter.mpr ⟨List.mem_of_getElem? (ab_cw id h), rfl⟩
def ab_csb (o : Nat) (q : Nat × Nat × Nat × Nat × Nat) : Bool :=
  decide (q.2.1 < 230) && decide ((parseMethodDescriptor (ab_my q.2.1).desc).map (fun d => d.parameters.length) = some q.2.2.1) &&
  (match q.2.2.2.1 with
  | 0 => ab_at q.2.2.2.2 (.methodLink (ab_on o) q.1 (ab_my q.2.1)) && ab_mt q.2.1 == 0
  | 1 => ab_at q.2.2.2.2 (.methodLink (ab_on o) q.1 (ab_my q.2.1)) && ab_mt q.2.1 == 1
  | _ => ab_nest o q.1 (ab_my q.2.1) && ab_mt q.2.1 == 1)
theorem ab_cs_ok : ∀ o, o < 11 → (ab_cs o).all (ab_csb o) = true := by decide +kernel
def ab_jn (j : Nat) : MethodName := match j with
  | 0 => Lib.Math.max.name
  | 1 => Lib.Math.min.name
  | 2 => Lib.Math.abs.name
  | _ => arraycopyName
def ab_jsb (o : Nat) (q : Nat × Nat × Nat) : Bool := ab_at q.2.2 (.methodLink (ab_on o) q.1 (ab_jn q.2.1))
theorem ab_js_ok : ∀ o, o < 11 → (ab_js o).all (ab_jsb o) = true := by decide +kernel
theorem ab_jm0 : Cond.static Lib.Math.max.name ∈ lw_good ∧ Cond.code Lib.Math.max.name Lib.Math.max.code 2 (some .int) ∈ lw_good ∧ Cond.initialized "java/lang/Math" ∈ lw_good := ⟨ab_at_in (k := (ab_jk 0).1) (by decide +kernel), ab_at_in (k := (ab_jk 0).2.1) (by decide +kernel), ab_at_in (k := (ab_jk 0).2.2) (by decide +kernel)⟩
theorem ab_jm1 : Cond.static Lib.Math.min.name ∈ lw_good ∧ Cond.code Lib.Math.min.name Lib.Math.min.code 2 (some .int) ∈ lw_good := ⟨ab_at_in (k := (ab_jk 1).1) (by decide +kernel), ab_at_in (k := (ab_jk 1).2.1) (by decide +kernel)⟩
theorem ab_jm2 : Cond.static Lib.Math.abs.name ∈ lw_good ∧ Cond.code Lib.Math.abs.name Lib.Math.abs.code 1 (some .int) ∈ lw_good := ⟨ab_at_in (k := (ab_jk 2).1) (by decide +kernel), ab_at_in (k := (ab_jk 2).2.1) (by decide +kernel)⟩
theorem ab_jm3 : Cond.static arraycopyName ∈ lw_good ∧ Cond.native arraycopyName ∈ lw_good ∧ Cond.initialized "java/lang/System" ∈ lw_good := ⟨ab_at_in (k := (ab_jk 3).1) (by decide +kernel), ab_at_in (k := (ab_jk 3).2.1) (by decide +kernel), ab_at_in (k := (ab_jk 3).2.2) (by decide +kernel)⟩
def ab_c0 (o : Nat) (i : Instr) (n : Nat) (v : AV) : Bool := match i with
  | .iconst z => n == 1 && decide (vI (Int32.ofInt z) = v)
  | .bipush z => n == 2 && decide (vI (Int8.ofInt z).toInt32 = v)
  | .sipush z => n == 3 && decide (vI (Int16.ofInt z).toInt32 = v)
  | .lconst z => n == 1 && decide (vL (Int64.ofNat z.val) = v)
  | .ldc ix => n == 2 && (ab_ks o).any (fun q => q.1 == ix && decide (q.2.1 = v)) && !(ab_isL v)
  | .ldc_w ix => n == 3 && (ab_ks o).any (fun q => q.1 == ix && decide (q.2.1 = v)) && !(ab_isL v) && !(ab_isR v)
  | .ldc2_w ix => n == 3 && (ab_ks o).any (fun q => q.1 == ix && decide (q.2.1 = v)) && ab_isL v
  | .getstatic ix => n == 3 && o == 0 && ix == 34 && decide (v = vR 61 0)
  | _ => false
def ab_c1 (i : Instr) (n a nL : Nat) : Bool := match i with
  | .iload k => n == 2 && k == a && decide (a < nL)
  | .iload_n k => n == 1 && k.val == a && decide (a < nL)
  | _ => false
def ab_c2 (i : Instr) (n a nL : Nat) : Bool := match i with
  | .lload k => n == 2 && k == a && decide (a < nL)
  | .lload_n k => n == 1 && k.val == a && decide (a < nL)
  | _ => false
def ab_c3 (i : Instr) (n a nL : Nat) : Bool := match i with
  | .aload k => n == 2 && k == a && decide (a < nL)
  | .aload_n k => n == 1 && k.val == a && decide (a < nL)
  | _ => false
def ab_c4 (i : Instr) (n a nL : Nat) : Bool := match i with
  | .istore k => n == 2 && k == a && decide (a < nL)
  | .istore_n k => n == 1 && k.val == a && decide (a < nL)
  | _ => false
def ab_c5 (i : Instr) (n a nL : Nat) : Bool := match i with
  | .lstore k => n == 2 && k == a && decide (a + 1 < nL)
  | .lstore_n k => n == 1 && k.val == a && decide (a + 1 < nL)
  | _ => false
def ab_c6 (i : Instr) (n a nL : Nat) : Bool := match i with
  | .astore k => n == 2 && k == a && decide (a < nL)
  | .astore_n k => n == 1 && k.val == a && decide (a < nL)
  | _ => false
def ab_c7 (i : Instr) (n a nL : Nat) (v : AV) : Bool := match i with
  | .iinc k z => n == 3 && k == a && decide (a < nL) && decide (vI (Int32.ofInt z) = v)
  | _ => false
def ab_c8 (i : Instr) (n a : Nat) : Bool := n == 1 && match i with
  | .iadd => a == 0
  | .isub => a == 1
  | .imul => a == 2
  | .iand => a == 3
  | .ior => a == 4
  | .ishl => a == 5
  | .ishr => a == 6
  | .iushr => a == 7
  | _ => false
def ab_c9 (i : Instr) (n a : Nat) : Bool := n == 1 && match i with
  | .idiv => a == 0
  | .irem => a == 1
  | _ => false
def ab_c10 (i : Instr) (n a : Nat) : Bool := n == 1 && match i with
  | .ineg => a == 0
  | .i2b => a == 1
  | .i2s => a == 2
  | _ => false
def ab_c13 (i : Instr) (n a : Nat) : Bool := n == 1 && match i with
  | .ladd => a == 0
  | .lsub => a == 1
  | .lmul => a == 2
  | _ => false
def ab_c14 (i : Instr) (n a : Nat) : Bool := n == 1 && match i with
  | .ldiv => a == 0
  | .lrem => a == 1
  | _ => false
/-- the plain ones -/
def ab_cp (i : Instr) (n k : Nat) : Bool := n == 1 && match i with
  | .i2l => k == 11
  | .l2i => k == 12
  | .lcmp => k == 15
  | .dup => k == 16
  | .pop => k == 17
  | _ => false
def ab_fk (a b : Nat) : Nat × Nat × Nat := ab_nth (9, 0, 0) (ab_fds a) b
def ab_c18 (o : Nat) (i : Instr) (n a b t : Nat) : Bool := match i with
  | .getfield ix => n == 3 && (ab_fl o).any (fun q => q.1 == ix && q.2.1 == a && q.2.2.1 == b) && (ab_fk a b).1 == t
  | _ => false
def ab_c21 (o : Nat) (i : Instr) (n a b : Nat) (ty : FieldType) : Bool := match i with
  | .putfield ix => n == 3 && (ab_fl o).any (fun q => q.1 == ix && q.2.1 == a && q.2.2.1 == b) && decide (ab_ty (ab_ci a) b = ty) && (match ab_cl[ab_ci a]? with
    | some (_, T, _) => !(T b).2.2.2
    | none => false)
  | _ => false
def ab_ca (i : Instr) (n k a : Nat) : Bool := n == 1 && match i with
  | .iaload => (k == 24 && ab_kd a == 1) || k == 34
  | .iastore => k == 25 && ab_kd a == 1
  | .baload => k == 26 && ab_kd a == 2
  | .bastore => k == 27 && ab_kd a == 2
  | .aaload => k == 28 && ab_kd a == 3
  | _ => false
def ab_cj (o : Nat) (i : Instr) (n j : Nat) : Bool := match i with
  | .invokestatic ix => n == 3 && (ab_js o).any (fun q => q.1 == ix && q.2.1 == j)
  | _ => false
def ab_cc (c : ClassFile.Cond) : Nat := match c with
  | .eq => 0
  | .ne => 1
  | .lt => 2
  | .ge => 3
  | .gt => 4
  | .le => 5
def ab_swT (pc : Nat) : List Int → Int → List (Int × Nat) → Bool
  | [], _, [] => true
  | f :: fs, lo, (c, t) :: r => c == lo && ((pc : Int) + f == (t : Int)) && ab_swT pc fs (lo + 1) r
  | _, _, _ => false
def ab_swL (pc : Nat) : List (Int × Int) → List (Int × Nat) → Bool
  | [], [] => true
  | (z, f) :: fs, (c, t) :: r => c == z && decide (-1000 < z) && decide (z < 1000) && ((pc : Int) + f == (t : Int)) && ab_swL pc fs r
  | _, _ => false
def ab_kop (o : Nat) (nL pc : Nat) (i : Instr) (n : Nat) (op : AOp) : Bool := match op with
  | (0, _, _, v, _) => ab_c0 o i n v
  | (1, a, _, _, _) => ab_c1 i n a nL
  | (2, a, _, _, _) => ab_c2 i n a nL
  | (3, a, _, _, _) => ab_c3 i n a nL
  | (4, a, _, _, _) => ab_c4 i n a nL
  | (5, a, _, _, _) => ab_c5 i n a nL
  | (6, a, _, _, _) => ab_c6 i n a nL
  | (7, a, _, v, _) => ab_c7 i n a nL v
  | (8, a, _, _, _) => ab_c8 i n a
  | (9, a, _, _, _) => ab_c9 i n a
  | (10, a, _, _, _) => ab_c10 i n a
  | (13, a, _, _, _) => ab_c13 i n a
  | (14, a, _, _, _) => ab_c14 i n a
  | (18, a, b, _, _) => ab_c18 o i n a b 0
  | (19, a, b, _, _) => ab_c18 o i n a b 1
  | (20, a, b, v, _) => ab_c18 o i n a b 2 && decide (v = vR (ab_fk a b).2.1 (ab_fk a b).2.2)
  | (21, a, b, _, _) => ab_c21 o i n a b .int
  | (22, a, b, _, _) => ab_c21 o i n a b .boolean
  | (23, a, b, _, _) => ab_c21 o i n a b .long
  | (24, a, _, _, _) => ab_ca i n 24 a
  | (25, a, _, _, _) => ab_ca i n 25 a
  | (26, a, _, _, _) => ab_ca i n 26 a
  | (27, a, _, _, _) => ab_ca i n 27 a
  | (28, a, _, _, _) => ab_ca i n 28 a
  | (29, a, _, _, _) => ab_cj o i n a && decide (a < 2)
  | (30, _, _, _, _) => ab_cj o i n 2
  | (31, a, b, _, _) => ab_cj o i n 3 && ab_kd a == 1 && ab_kd b == 1
  | (34, _, _, _, _) => ab_ca i n 34 61
  | (40, t, _, _, _) => match i with
    | .goto f => n == 3 && ((pc : Int) + f == (t : Int))
    | _ => false
  | (41, c, t, _, _) => match i with
    | .ifCond z f => n == 3 && ab_cc z == c && ((pc : Int) + f == (t : Int))
    | _ => false
  | (42, c, t, _, _) => match i with
    | .if_icmp z f => n == 3 && ab_cc z == c && ((pc : Int) + f == (t : Int))
    | _ => false
  | (43, d, _, _, ts) => match i with
    | .tableswitch f lo hi fs => ((pc : Int) + f == (d : Int)) && decide (-1000 < lo) && decide (hi < 1000) && hi + 1 == lo + (fs.toList.length : Int) && ab_swT pc fs.toList lo ts
    | .lookupswitch f ps => ((pc : Int) + f == (d : Int)) && (ps.toList.zip (ps.toList.drop 1)).all (fun (a, next) => decide (a.1 < next.1)) && ab_swL pc ps.toList ts
    | _ => false
  | (44, id, b, _, _) => match i with
    | .invokevirtual ix => n == 3 && (ab_cs o).any (fun q => q.1 == ix && q.2.1 == id && q.2.2.1 + 1 == b && q.2.2.2.1 == 0)
    | .invokestatic ix => n == 3 && (ab_cs o).any (fun q => q.1 == ix && q.2.1 == id && q.2.2.1 == b && !(q.2.2.2.1 == 0))
    | _ => false
  | (45, t, _, _, _) => n == 1 && match i with
    | .ireturn => t == 1 || t == 3
    | .lreturn => t == 2
    | .return_ => t == 0
    | _ => false
  | (k, _, _, _, _) => ab_cp i n k
def ab_chk (o : Nat) (cc : ByteArray) (nL pc : Nat) (op : AOp) : Bool := match decode cc pc with
  | .ok (i, n) => ab_kop o nL pc i n op
  | .error _ => false
def ab_ln (cc : ByteArray) (pc : Nat) : Nat := match decode cc pc with
  | .ok (_, n) => n
  | .error _ => 0
theorem ab_chk_inv {o : Nat} {cc : ByteArray} {nL pc : Nat} {op : AOp} (h : ab_chk o cc nL pc op = true) : ∃ i n, decode cc pc = .ok (i, n) ∧ ab_ln cc pc = n ∧ ab_kop o nL pc i n op = true := by
  unfold ab_chk at h
  cases hd : decode cc pc with
  | error e => rw [hd] at h; cases h
  | ok q =>
    obtain ⟨i, n⟩ := q
    rw [hd] at h
    exact ⟨i, n, rfl, by simp [ab_ln, hd], h⟩
/-- a run of steps in the bytes: each is what its byte says; the last may go on elsewhere without a step -/
def ab_bk (o : Nat) (cc : ByteArray) (nL ty : Nat) : Nat → List AOp → Bool
  | _, [] => true
  | pc, op :: ops => match op with
    | (40, t, 1, _, _) => t == pc
    | (45, t, _, _, _) => t == ty && ab_chk o cc nL pc op
    | op => ab_chk o cc nL pc op && ab_bk o cc nL ty (pc + ab_ln cc pc) ops
end
section
/-! each step of the abstract machine is the real one's -/
theorem ab_nth_lt {L : List AV} : ∀ {i : Nat}, ab_nth vU L i ≠ vU → i < L.length := by
  induction L with
  | nil => intro i h; exact absurd (by cases i <;> rfl) h
  | cons a r ih =>
    intro i h
    cases i with
    | zero => simp
    | succ i => simp only [List.length_cons]; exact Nat.succ_lt_succ (ih h)
theorem ab_nth_mem {L : List AV} : ∀ {i : Nat}, i < L.length → ab_nth vU L i ∈ L := by
  induction L with
  | nil => intro i h; simp at h
  | cons a r ih =>
    intro i h
    cases i with
    | zero => simp [ab_nth]
    | succ i => exact List.mem_cons_of_mem _ (ih (Nat.lt_of_succ_lt_succ h))
theorem ab_set_len (L : List AV) : ∀ (i : Nat) (v : AV), (ab_set L i v).length = L.length := by
  induction L with
  | nil => intro i v; cases i <;> rfl
  | cons a r ih =>
    intro i v
    cases i with
    | zero => rfl
    | succ i => simp [ab_set, ih]
theorem ab_set_at (L : List AV) : ∀ (i : Nat) (v : AV) (j : Nat), ab_nth vU (ab_set L i v) j = if j = i ∧ i < L.length then v else ab_nth vU L j := by
  induction L with
  | nil => intro i v j; cases i <;> cases j <;> simp [ab_set, ab_nth]
  | cons a r ih =>
    intro i v j
    cases i with
    | zero => cases j <;> simp [ab_set, ab_nth]
    | succ i => cases j <;> simp [ab_set, ab_nth, ih]
theorem ab_set_mem {L : List AV} : ∀ {i : Nat} {v x : AV}, x ∈ ab_set L i v → x = v ∨ x ∈ L := by
  induction L with
  | nil => intro i v x h; cases i <;> simp [ab_set] at h
  | cons a r ih =>
    intro i v x h
    cases i with
    | zero =>
      rcases List.mem_cons.mp h with h | h
      · exact Or.inl h
      · exact Or.inr (List.mem_cons_of_mem _ h)
    | succ i =>
      rcases List.mem_cons.mp h with h | h
      · exact Or.inr (by rw [h]; exact List.mem_cons_self)
      · rcases ih h with h | h
        · exact Or.inl h
        · exact Or.inr (List.mem_cons_of_mem _ h)
theorem ab_sto_len (L : List AV) (i : Nat) (v : AV) : (ab_sto L i v).length = L.length := by
  cases i <;> simp [ab_sto, ab_set_len]
theorem ab_un_ok {G : ab_Gt} {v : AV} (h : ab_ok G v) : ab_ok G (ab_un v) := by
  unfold ab_un
  split
  · trivial
  · exact h
theorem ab_nth_ok {G : ab_Gt} {L : List AV} (h : ∀ v ∈ L, ab_ok G v) (i : Nat) : ab_ok G (ab_nth vU L i) := by
  by_cases hi : ab_nth vU L i = vU
  · rw [hi]; trivial
  · exact h _ (ab_nth_mem (ab_nth_lt hi))
theorem ab_sto_ok {G : ab_Gt} {L : List AV} {i : Nat} {v : AV} (h : ∀ v ∈ L, ab_ok G v) (hv : ab_ok G v) : ∀ x ∈ ab_sto L i v, ab_ok G x := by
  intro x hx
  cases i with
  | zero =>
    rcases ab_set_mem hx with e | e
    · rw [e]; exact hv
    · exact h x e
  | succ i =>
    rcases ab_set_mem hx with e | e
    · rw [e]; exact hv
    · rcases ab_set_mem e with e | e
      · rw [e]; exact ab_un_ok (ab_nth_ok h i)
      · exact h x e
theorem ab_set_ok {G : ab_Gt} {L : List AV} {i : Nat} {v : AV} (h : ∀ v ∈ L, ab_ok G v) (hv : ab_ok G v) : ∀ x ∈ ab_set L i v, ab_ok G x := by
  intro x hx
  rcases ab_set_mem hx with e | e
  · rw [e]; exact hv
  · exact h x e
theorem ab_val_cat1 {G : ab_Gt} {v : AV} (h : ab_isL v = false) : (ab_val G v).category = 1 := by
  match v with
  | .inl x => rfl
  | .inr (.inl x) => cases h
  | .inr (.inr (.inl q)) => rfl
  | .inr (.inr (.inr _)) => rfl
theorem ab_un_eq {v : AV} (h : ab_un v ≠ vU) : ab_un v = v ∧ ab_isL v = false := by
  match v with
  | .inl x => exact ⟨rfl, rfl⟩
  | .inr (.inl x) => exact absurd rfl h
  | .inr (.inr (.inl q)) => exact ⟨rfl, rfl⟩
  | .inr (.inr (.inr _)) => exact ⟨rfl, rfl⟩
theorem ab_LH.lv {G : ab_Gt} {n : Nat} {ls : Array Slot} {L : List AV} (h : ab_LH G n ls L) : ∃ lv : List (Nat × Value), lv_has ls n lv ∧ ∀ i, ab_nth vU L i ≠ vU → (i, ab_val G (ab_nth vU L i)) ∈ lv := by
  obtain ⟨h1, h2, h3, h4⟩ := h
  refine ⟨(List.range n).filterMap (fun i => if ab_nth vU L i = vU then none else some (i, ab_val G (ab_nth vU L i))), ⟨h1, h3, fun q hq => ?_⟩, fun i hi => ?_⟩
  · obtain ⟨i, -, hi⟩ := List.mem_filterMap.mp hq
    by_cases hv : ab_nth vU L i = vU
    · rw [if_pos hv] at hi; cases hi
    · rw [if_neg hv] at hi
      cases hi
      exact h4 i hv
  · have := ab_nth_lt hi
    exact List.mem_filterMap.mpr ⟨i, List.mem_range.mpr (by omega), by rw [if_neg hi]⟩
theorem ab_LH.of {G : ab_Gt} {n : Nat} {ls : Array Slot} {L : List AV} {lv : List (Nat × Value)} (h : lv_has ls n lv) (hl : L.length = n) (hm : ∀ i, ab_nth vU L i ≠ vU → (i, ab_val G (ab_nth vU L i)) ∈ lv) : ab_LH G n ls L := ⟨h.1, hl, h.2.1, fun i hi => h.2.2 _ (hm i hi)⟩
theorem ab_LH.sto {G : ab_Gt} {n : Nat} {ls' : Array Slot} {L : List AV} {i : Nat} {v : AV} {lv : List (Nat × Value)} (hL : L.length = n) (hm : ∀ i, ab_nth vU L i ≠ vU → (i, ab_val G (ab_nth vU L i)) ∈ lv) (hi : i < n)
    (h' : lv_has ls' n ((i, ab_val G v) :: lv.filter (fun q => !(q.1 == i) && !(q.1 + 1 == i && q.2.category == 2)))) : ab_LH G n ls' (ab_sto L i v) := by
  refine ab_LH.of h' (by rw [ab_sto_len, hL]) fun j hj => ?_
  cases i with
  | zero =>
    unfold ab_sto at hj ⊢
    rw [ab_set_at] at hj ⊢
    by_cases e : j = 0
    · subst e
      rw [if_pos ⟨rfl, by omega⟩]
      exact List.mem_cons_self
    · have ne : ¬ (j = 0 ∧ 0 < L.length) := fun q => e q.1
      rw [if_neg ne] at hj ⊢
      refine List.mem_cons_of_mem _ (List.mem_filter.mpr ⟨hm j hj, ?_⟩)
      simp [e]
  | succ i =>
    unfold ab_sto at hj ⊢
    simp only [ab_set_at, ab_set_len] at hj ⊢
    by_cases e : j = i + 1
    · subst e
      rw [if_pos ⟨rfl, by omega⟩]
      exact List.mem_cons_self
    · have ne : ¬ (j = i + 1 ∧ i + 1 < L.length) := fun q => e q.1
      rw [if_neg ne] at hj ⊢
      by_cases e2 : j = i
      · subst e2
        have pe : j = j ∧ j < L.length := ⟨rfl, by omega⟩
        rw [if_pos pe] at hj ⊢
        obtain ⟨u1, u2⟩ := ab_un_eq hj
        rw [u1] at hj ⊢
        refine List.mem_cons_of_mem _ (List.mem_filter.mpr ⟨hm j hj, ?_⟩)
        simp [ab_val_cat1 u2]
      · have ne2 : ¬ (j = i ∧ i < L.length) := fun q => e2 q.1
        rw [if_neg ne2] at hj ⊢
        refine List.mem_cons_of_mem _ (List.mem_filter.mpr ⟨hm j hj, ?_⟩)
        simp [e, e2]
theorem ab_LH.set1 {G : ab_Gt} {n : Nat} {ls' : Array Slot} {L : List AV} {i : Nat} {v : AV} {lv : List (Nat × Value)} (hL : L.length = n) (hm : ∀ i, ab_nth vU L i ≠ vU → (i, ab_val G (ab_nth vU L i)) ∈ lv) (hi : i < n) (hx : ∃ x, ab_nth vU L i = vI x) (hpre : ∀ k x, k + 1 = i → ab_nth vU L k ≠ vL x)
    (h' : lv_has ls' n ((i, ab_val G v) :: lv.filter (fun q => !(q.1 == i) && !(q.1 + 1 == i && q.2.category == 2)))) : ab_LH G n ls' (ab_set L i v) := by
  refine ab_LH.of h' (by rw [ab_set_len, hL]) fun j hj => ?_
  rw [ab_set_at] at hj ⊢
  by_cases e : j = i
  · subst e
    rw [if_pos ⟨rfl, by omega⟩]
    exact List.mem_cons_self
  · have ne : ¬ (j = i ∧ i < L.length) := fun q => e q.1
    rw [if_neg ne] at hj ⊢
    refine List.mem_cons_of_mem _ (List.mem_filter.mpr ⟨hm j hj, ?_⟩)
    have hc : (j + 1 == i && (ab_val G (ab_nth vU L j)).category == 2) = false := by
      by_cases e2 : j + 1 = i
      · have : ab_isL (ab_nth vU L j) = false := by
          cases hv : ab_isL (ab_nth vU L j) with
          | false => rfl
          | true =>
            match hw : ab_nth vU L j with
            | .inl x => rw [hw] at hv; cases hv
            | .inr (.inl x) => exact absurd hw (hpre j x e2)
            | .inr (.inr (.inl q)) => rw [hw] at hv; cases hv
            | .inr (.inr (.inr _)) => rw [hw] at hv; cases hv
        simp [ab_val_cat1 this]
      · simp [e2]
    simp [e, hc]
theorem ab_LH.long {G : ab_Gt} {n : Nat} {ls' : Array Slot} {L : List AV} {i : Nat} {x : Int64} {lv : List (Nat × Value)} (hL : L.length = n) (hm : ∀ i, ab_nth vU L i ≠ vU → (i, ab_val G (ab_nth vU L i)) ∈ lv) (hi : i + 1 < n)
    (h' : lv_has ls' n ((i, Value.long x) :: lv.filter (fun q => !(q.1 == i) && (!(q.1 == i + 1) && !(q.1 + 1 == i && q.2.category == 2))))) : ab_LH G n ls' (ab_set (ab_sto L i (vL x)) (i + 1) vU) := by
  refine ab_LH.of h' (by rw [ab_set_len, ab_sto_len, hL]) fun j hj => ?_
  rw [ab_set_at] at hj ⊢
  rw [ab_sto_len] at hj ⊢
  by_cases e1 : j = i + 1
  · rw [if_pos ⟨e1, by omega⟩] at hj
    exact absurd rfl hj
  · have ne : ¬ (j = i + 1 ∧ i + 1 < L.length) := fun q => e1 q.1
    rw [if_neg ne] at hj ⊢
    cases i with
    | zero =>
      unfold ab_sto at hj ⊢
      rw [ab_set_at] at hj ⊢
      by_cases e : j = 0
      · subst e
        rw [if_pos ⟨rfl, by omega⟩]
        exact List.mem_cons_self
      · have ne : ¬ (j = 0 ∧ 0 < L.length) := fun q => e q.1
        rw [if_neg ne] at hj ⊢
        refine List.mem_cons_of_mem _ (List.mem_filter.mpr ⟨hm j hj, ?_⟩)
        have e1' : ¬ j = 1 := e1
        simp [e, e1']
    | succ i =>
      unfold ab_sto at hj ⊢
      simp only [ab_set_at, ab_set_len] at hj ⊢
      by_cases e : j = i + 1
      · subst e
        rw [if_pos ⟨rfl, by omega⟩]
        exact List.mem_cons_self
      · have ne : ¬ (j = i + 1 ∧ i + 1 < L.length) := fun q => e q.1
        rw [if_neg ne] at hj ⊢
        by_cases e2 : j = i
        · subst e2
          have pe : j = j ∧ j < L.length := ⟨rfl, by omega⟩
          rw [if_pos pe] at hj ⊢
          obtain ⟨u1, u2⟩ := ab_un_eq hj
          rw [u1] at hj ⊢
          refine List.mem_cons_of_mem _ (List.mem_filter.mpr ⟨hm j hj, ?_⟩)
          simp [ab_val_cat1 u2]
          omega
        · have ne2 : ¬ (j = i ∧ i < L.length) := fun q => e2 q.1
          rw [if_neg ne2] at hj ⊢
          refine List.mem_cons_of_mem _ (List.mem_filter.mpr ⟨hm j hj, ?_⟩)
          simp [e, e2, e1]
end
section
def ab_d9 (a : Nat) (x y : Int32) : Int32 := match a with
  | 0 => x / y
  | _ => x - x / y * y
def ab_d10 (a : Nat) (x : Int32) : Int32 := match a with
  | 0 => -x
  | 1 => x.toInt8.toInt32
  | _ => x.toInt16.toInt32
def ab_d14 (a : Nat) (x y : Int64) : Int64 := match a with
  | 0 => x / y
  | _ => x - x / y * y
theorem okc {G : ab_Gt} {v : AV} {st : List AV} (hv : ab_ok G v) (h : ∀ x ∈ st, ab_ok G x) : ∀ x ∈ v :: st, ab_ok G x := fun x hx => (List.mem_cons.mp hx).elim (fun e => by rw [e]; exact hv) (h x)
theorem okt {G : ab_Gt} {v : AV} {st : List AV} (h : ∀ x ∈ v :: st, ab_ok G x) : ∀ x ∈ st, ab_ok G x := fun x hx => h x (List.mem_cons_of_mem _ hx)
theorem ab_gw {id : Nat} {w : Cond} {s : State} {args : Array Value} (hts : ∀ w ∈ ab_W id, w.before args s = true) (h : w ∈ lw_good) : w.before args s = true := hts w (List.mem_cons_of_mem _ h)
theorem ab_olt {o k : Nat} {α : Type} {f : Nat → List α} {x : α} (h : x ∈ f o) (h11 : ∀ o, 11 ≤ o → f o = []) : o < 11 := by
  cases Nat.lt_or_ge o 11 with
  | inl h => exact h
  | inr h' => rw [h11 o h'] at h; cases h
theorem ab_ks_11 : ∀ o, 11 ≤ o → ab_ks o = [] := fun o h => by
  match o, h with
  | n + 11, _ => rfl
theorem ab_fl_11 : ∀ o, 11 ≤ o → ab_fl o = [] := fun o h => by
  match o, h with
  | n + 11, _ => rfl
theorem ab_cs_11 : ∀ o, 11 ≤ o → ab_cs o = [] := fun o h => by
  match o, h with
  | n + 11, _ => rfl
theorem ab_js_11 : ∀ o, 11 ≤ o → ab_js o = [] := fun o h => by
  match o, h with
  | n + 11, _ => rfl
theorem ab_ks_at {o ix : Nat} {v : AV} (h : (ab_ks o).any (fun q => q.1 == ix && decide (q.2.1 = v)) = true) : ∃ k, ab_ksb o (ix, v, k) = true := by
  obtain ⟨q, hq, he⟩ := List.any_eq_true.mp h
  obtain ⟨x, w, k⟩ := q
  simp only [Bool.and_eq_true, beq_iff_eq, decide_eq_true_eq] at he
  obtain ⟨rfl, rfl⟩ := he
  exact ⟨k, List.all_eq_true.mp (ab_ks_ok o (ab_olt (k := 0) hq ab_ks_11)) _ hq⟩
theorem ab_fl_at {o ix a b : Nat} (h : (ab_fl o).any (fun q => q.1 == ix && q.2.1 == a && q.2.2.1 == b) = true) : ∃ k, ab_flb o (ix, a, b, k) = true := by
  obtain ⟨q, hq, he⟩ := List.any_eq_true.mp h
  obtain ⟨x, y, z, k⟩ := q
  simp only [Bool.and_eq_true, beq_iff_eq] at he
  obtain ⟨⟨rfl, rfl⟩, rfl⟩ := he
  exact ⟨k, List.all_eq_true.mp (ab_fl_ok o (ab_olt (k := 0) hq ab_fl_11)) _ hq⟩
theorem ab_js_at {o ix j : Nat} (h : (ab_js o).any (fun q => q.1 == ix && q.2.1 == j) = true) : Cond.methodLink (ab_on o) ix (ab_jn j) ∈ lw_good := by
  obtain ⟨q, hq, he⟩ := List.any_eq_true.mp h
  obtain ⟨x, y, k⟩ := q
  simp only [Bool.and_eq_true, beq_iff_eq] at he
  obtain ⟨rfl, rfl⟩ := he
  exact ab_at_in (List.all_eq_true.mp (ab_js_ok o (ab_olt (k := 0) hq ab_js_11)) _ hq)
theorem r_0 {l : Launch} {G : ab_Gt} {id d pc a b : Nat} {v : AV} {ts : List (Int × Nat)} {L st : List AV} {σ σ2 : Sg} {r : AV} (hc : ab_chk (ab_mo id) (ab_mb id) (ab_ml id) pc (0, a, b, v, ts) = true) (k : ab_Ret l G id d (pc + ab_ln (ab_mb id) pc) L (v :: st) σ r σ2) : ab_Ret l G id d pc L st σ r σ2 := by
  obtain ⟨i, n, hd, hn, hc⟩ := ab_chk_inv hc
  rw [hn] at k
  intro p e R s m args below meth c cells slots H locs ls C hL oL oS hP hS
  have go := fun (H : Heap) (locs : List Loc) (ls : Array Slot) => k p e R s m args below meth c cells slots H locs ls C
  obtain ⟨hx, hb, hml, hown, hts, hr, hlk, hf, hlo, hKK, hcs⟩ := C
  change ab_c0 (ab_mo id) i n v = true at hc
  unfold ab_c0 at hc
  split at hc
  · simp only [Bool.and_eq_true, beq_iff_eq, decide_eq_true_eq] at hc
    obtain ⟨rfl, rfl⟩ := hc
    exact lv_iconst hx hb hd rfl (go H locs ls hL oL (okc trivial oS) hP hS)
  · simp only [Bool.and_eq_true, beq_iff_eq, decide_eq_true_eq] at hc
    obtain ⟨rfl, rfl⟩ := hc
    exact lv_bipush hx hb hd rfl (go H locs ls hL oL (okc trivial oS) hP hS)
  · simp only [Bool.and_eq_true, beq_iff_eq, decide_eq_true_eq] at hc
    obtain ⟨rfl, rfl⟩ := hc
    exact lv_sipush hx hb hd rfl (go H locs ls hL oL (okc trivial oS) hP hS)
  · simp only [Bool.and_eq_true, beq_iff_eq, decide_eq_true_eq] at hc
    obtain ⟨rfl, rfl⟩ := hc
    exact lv_lconst hx hb hd rfl (go H locs ls hL oL (okc trivial oS) hP hS)
  · rename_i ix
    rw [Bool.and_eq_true, Bool.and_eq_true] at hc
    obtain ⟨⟨h2, h3⟩, h4⟩ := hc
    have h2 : n = 2 := by simpa using h2
    subst h2
    obtain ⟨q, hq⟩ := ab_ks_at h3
    match v with
    | .inl x => exact lv_ldc hx hb hown (ab_gw hts (ab_at_in hq)) hd (go H locs ls hL oL (okc trivial oS) hP hS)
    | .inr (.inl x) => cases h4
    | .inr (.inr (.inl w)) =>
      obtain ⟨g, w⟩ := w
      simp only [ab_ksb, Bool.and_eq_true, beq_iff_eq, decide_eq_true_eq] at hq
      obtain ⟨⟨⟨q1, rfl⟩, q3⟩, rfl⟩ := hq
      refine va_ldcS hx hb (by rw [q1] at hown; exact hown) (hKK.2.2.2.1 w q3) hd (go H locs ls hL oL (okc (Or.inr (Or.inl ⟨rfl, q3⟩)) oS) hP hS)
    | .inr (.inr (.inr u)) => cases hq
  · rename_i ix
    rw [Bool.and_eq_true, Bool.and_eq_true, Bool.and_eq_true] at hc
    obtain ⟨⟨⟨h2, h3⟩, h4⟩, h5⟩ := hc
    have h2 : n = 3 := by simpa using h2
    subst h2
    obtain ⟨q, hq⟩ := ab_ks_at h3
    match v with
    | .inl x => exact lv_ldcw hx hb hown (ab_gw hts (ab_at_in hq)) hd (go H locs ls hL oL (okc trivial oS) hP hS)
    | .inr (.inl x) => cases h4
    | .inr (.inr (.inl w)) => cases h5
    | .inr (.inr (.inr u)) => cases hq
  · rename_i ix
    rw [Bool.and_eq_true, Bool.and_eq_true] at hc
    obtain ⟨⟨h2, h3⟩, h4⟩ := hc
    have h2 : n = 3 := by simpa using h2
    subst h2
    obtain ⟨q, hq⟩ := ab_ks_at h3
    match v with
    | .inl x => cases h4
    | .inr (.inl x) => exact lv_ldc2 hx hb hown (ab_gw hts (ab_at_in hq)) hd (go H locs ls hL oL (okc trivial oS) hP hS)
    | .inr (.inr (.inl w)) => cases h4
    | .inr (.inr (.inr u)) => cases h4
  · simp only [Bool.and_eq_true, beq_iff_eq, decide_eq_true_eq] at hc
    obtain ⟨⟨⟨rfl, h1⟩, rfl⟩, rfl⟩ := hc
    rw [h1] at hown
    exact va_getsN hx hb (va_Z.kept hKK.2.2.1.1 (fun _ _ _ => rfl)) hS hown (va_Nw.use rfl hKK.2.1.2.2.2) (fun _ h => h) hd (go H locs ls hL oL (okc (Or.inr (Or.inr rfl)) oS) hP hS)
  · cases hc
theorem r_1 {l : Launch} {G : ab_Gt} {id d pc a b : Nat} {v : AV} {ts : List (Int × Nat)} {L st : List AV} {σ σ2 : Sg} {r : AV} {x : Int32} (hc : ab_chk (ab_mo id) (ab_mb id) (ab_ml id) pc (1, a, b, v, ts) = true) (hv : ab_nth vU L a = vI x) (k : ab_Ret l G id d (pc + ab_ln (ab_mb id) pc) L (vI x :: st) σ r σ2) : ab_Ret l G id d pc L st σ r σ2 := by
  obtain ⟨i, n, hd, hn, hc⟩ := ab_chk_inv hc
  rw [hn] at k
  intro p e R s m args below meth c cells slots H locs ls C hL oL oS hP hS
  have go := fun (H : Heap) (locs : List Loc) (ls : Array Slot) => k p e R s m args below meth c cells slots H locs ls C
  obtain ⟨hx, hb, hml, hown, hts, hr, hlk, hf, hlo, hKK, hcs⟩ := C
  change ab_c1 i n a (ab_ml id) = true at hc
  unfold ab_c1 at hc
  have hw : ls[a]? = some (.val (ab_val G (ab_nth vU L a))) := hL.2.2.2 a (by rw [hv]; exact fun h => by cases h)
  rw [hv] at hw
  have hok : ab_ok G (vI x) := by rw [← hv]; exact ab_nth_ok oL a
  split at hc
  · simp only [Bool.and_eq_true, beq_iff_eq, decide_eq_true_eq] at hc
    obtain ⟨⟨rfl, rfl⟩, h3⟩ := hc
    exact lv_iload hx hb hd hw (go H locs ls hL oL (okc hok oS) hP hS)
  · simp only [Bool.and_eq_true, beq_iff_eq, decide_eq_true_eq] at hc
    obtain ⟨⟨rfl, h2⟩, h3⟩ := hc
    exact lv_iload_n hx hb hd h2 hw (go H locs ls hL oL (okc hok oS) hP hS)
  · cases hc
theorem r_2 {l : Launch} {G : ab_Gt} {id d pc a b : Nat} {v : AV} {ts : List (Int × Nat)} {L st : List AV} {σ σ2 : Sg} {r : AV} {x : Int64} (hc : ab_chk (ab_mo id) (ab_mb id) (ab_ml id) pc (2, a, b, v, ts) = true) (hv : ab_nth vU L a = vL x) (k : ab_Ret l G id d (pc + ab_ln (ab_mb id) pc) L (vL x :: st) σ r σ2) : ab_Ret l G id d pc L st σ r σ2 := by
  obtain ⟨i, n, hd, hn, hc⟩ := ab_chk_inv hc
  rw [hn] at k
  intro p e R s m args below meth c cells slots H locs ls C hL oL oS hP hS
  have go := fun (H : Heap) (locs : List Loc) (ls : Array Slot) => k p e R s m args below meth c cells slots H locs ls C
  obtain ⟨hx, hb, hml, hown, hts, hr, hlk, hf, hlo, hKK, hcs⟩ := C
  change ab_c2 i n a (ab_ml id) = true at hc
  unfold ab_c2 at hc
  have hw : ls[a]? = some (.val (ab_val G (ab_nth vU L a))) := hL.2.2.2 a (by rw [hv]; exact fun h => by cases h)
  rw [hv] at hw
  have hok : ab_ok G (vL x) := by rw [← hv]; exact ab_nth_ok oL a
  split at hc
  · simp only [Bool.and_eq_true, beq_iff_eq, decide_eq_true_eq] at hc
    obtain ⟨⟨rfl, rfl⟩, h3⟩ := hc
    exact lv_lload hx hb hd hw (go H locs ls hL oL (okc hok oS) hP hS)
  · simp only [Bool.and_eq_true, beq_iff_eq, decide_eq_true_eq] at hc
    obtain ⟨⟨rfl, h2⟩, h3⟩ := hc
    exact lv_lload_n hx hb hd h2 hw (go H locs ls hL oL (okc hok oS) hP hS)
  · cases hc
theorem r_3 {l : Launch} {G : ab_Gt} {id d pc a b : Nat} {v : AV} {ts : List (Int × Nat)} {L st : List AV} {σ σ2 : Sg} {r : AV} {q : Nat × Nat} (hc : ab_chk (ab_mo id) (ab_mb id) (ab_ml id) pc (3, a, b, v, ts) = true) (hv : ab_nth vU L a = (.inr (.inr (.inl q)))) (k : ab_Ret l G id d (pc + ab_ln (ab_mb id) pc) L ((.inr (.inr (.inl q))) :: st) σ r σ2) : ab_Ret l G id d pc L st σ r σ2 := by
  obtain ⟨i, n, hd, hn, hc⟩ := ab_chk_inv hc
  rw [hn] at k
  intro p e R s m args below meth c cells slots H locs ls C hL oL oS hP hS
  have go := fun (H : Heap) (locs : List Loc) (ls : Array Slot) => k p e R s m args below meth c cells slots H locs ls C
  obtain ⟨hx, hb, hml, hown, hts, hr, hlk, hf, hlo, hKK, hcs⟩ := C
  change ab_c3 i n a (ab_ml id) = true at hc
  unfold ab_c3 at hc
  have hw : ls[a]? = some (.val (ab_val G (ab_nth vU L a))) := hL.2.2.2 a (by rw [hv]; exact fun h => by cases h)
  rw [hv] at hw
  have hok : ab_ok G ((.inr (.inr (.inl q)))) := by rw [← hv]; exact ab_nth_ok oL a
  split at hc
  · simp only [Bool.and_eq_true, beq_iff_eq, decide_eq_true_eq] at hc
    obtain ⟨⟨rfl, rfl⟩, h3⟩ := hc
    exact lv_aload hx hb hd hw (go H locs ls hL oL (okc hok oS) hP hS)
  · simp only [Bool.and_eq_true, beq_iff_eq, decide_eq_true_eq] at hc
    obtain ⟨⟨rfl, h2⟩, h3⟩ := hc
    exact lv_aload_n hx hb hd h2 hw (go H locs ls hL oL (okc hok oS) hP hS)
  · cases hc
theorem r_4 {l : Launch} {G : ab_Gt} {id d pc a b : Nat} {v : AV} {ts : List (Int × Nat)} {L st : List AV} {σ σ2 : Sg} {r : AV} {x : Int32} (hc : ab_chk (ab_mo id) (ab_mb id) (ab_ml id) pc (4, a, b, v, ts) = true) (k : ab_Ret l G id d (pc + ab_ln (ab_mb id) pc) (ab_sto L a (vI x)) st σ r σ2) : ab_Ret l G id d pc L (vI x :: st) σ r σ2 := by
  obtain ⟨i, n, hd, hn, hc⟩ := ab_chk_inv hc
  rw [hn] at k
  intro p e R s m args below meth c cells slots H locs ls C hL oL oS hP hS
  have go := fun (H : Heap) (locs : List Loc) (ls : Array Slot) => k p e R s m args below meth c cells slots H locs ls C
  obtain ⟨hx, hb, hml, hown, hts, hr, hlk, hf, hlo, hKK, hcs⟩ := C
  change ab_c4 i n a (ab_ml id) = true at hc
  unfold ab_c4 at hc
  obtain ⟨lv, hlv, hm⟩ := hL.lv
  have hok : ab_ok G (vI x) := oS _ List.mem_cons_self
  split at hc
  · simp only [Bool.and_eq_true, beq_iff_eq, decide_eq_true_eq] at hc
    obtain ⟨⟨rfl, rfl⟩, h3⟩ := hc
    exact lv_istore hx hb hd hlv h3 rfl (fun ls' h' => go H locs ls' (ab_LH.sto (v := vI x) hL.2.1 hm h3 h') (ab_sto_ok oL hok) (okt oS) hP hS)
  · simp only [Bool.and_eq_true, beq_iff_eq, decide_eq_true_eq] at hc
    obtain ⟨⟨rfl, h2⟩, h3⟩ := hc
    exact lv_istore_n hx hb hd h2 hlv h3 rfl (fun ls' h' => go H locs ls' (ab_LH.sto (v := vI x) hL.2.1 hm h3 h') (ab_sto_ok oL hok) (okt oS) hP hS)
  · cases hc
theorem r_5 {l : Launch} {G : ab_Gt} {id d pc a b : Nat} {v : AV} {ts : List (Int × Nat)} {L st : List AV} {σ σ2 : Sg} {r : AV} {x : Int64} (hc : ab_chk (ab_mo id) (ab_mb id) (ab_ml id) pc (5, a, b, v, ts) = true) (k : ab_Ret l G id d (pc + ab_ln (ab_mb id) pc) (ab_set (ab_sto L a (vL x)) (a + 1) vU) st σ r σ2) : ab_Ret l G id d pc L (vL x :: st) σ r σ2 := by
  obtain ⟨i, n, hd, hn, hc⟩ := ab_chk_inv hc
  rw [hn] at k
  intro p e R s m args below meth c cells slots H locs ls C hL oL oS hP hS
  have go := fun (H : Heap) (locs : List Loc) (ls : Array Slot) => k p e R s m args below meth c cells slots H locs ls C
  obtain ⟨hx, hb, hml, hown, hts, hr, hlk, hf, hlo, hKK, hcs⟩ := C
  change ab_c5 i n a (ab_ml id) = true at hc
  unfold ab_c5 at hc
  obtain ⟨lv, hlv, hm⟩ := hL.lv
  have hok : ab_ok G (vL x) := oS _ List.mem_cons_self
  split at hc
  · simp only [Bool.and_eq_true, beq_iff_eq, decide_eq_true_eq] at hc
    obtain ⟨⟨rfl, rfl⟩, h3⟩ := hc
    exact lv_lstore hx hb hd hlv h3 rfl (fun ls' h' => go H locs ls' (ab_LH.long hL.2.1 hm h3 h') (ab_set_ok (ab_sto_ok oL hok) trivial) (okt oS) hP hS)
  · simp only [Bool.and_eq_true, beq_iff_eq, decide_eq_true_eq] at hc
    obtain ⟨⟨rfl, h2⟩, h3⟩ := hc
    exact lv_lstore_n hx hb hd h2 hlv h3 rfl (fun ls' h' => go H locs ls' (ab_LH.long hL.2.1 hm h3 h') (ab_set_ok (ab_sto_ok oL hok) trivial) (okt oS) hP hS)
  · cases hc
theorem r_6 {l : Launch} {G : ab_Gt} {id d pc a b : Nat} {v : AV} {ts : List (Int × Nat)} {L st : List AV} {σ σ2 : Sg} {r : AV} {q : Nat × Nat} (hc : ab_chk (ab_mo id) (ab_mb id) (ab_ml id) pc (6, a, b, v, ts) = true) (k : ab_Ret l G id d (pc + ab_ln (ab_mb id) pc) (ab_sto L a (.inr (.inr (.inl q)))) st σ r σ2) : ab_Ret l G id d pc L ((.inr (.inr (.inl q))) :: st) σ r σ2 := by
  obtain ⟨i, n, hd, hn, hc⟩ := ab_chk_inv hc
  rw [hn] at k
  intro p e R s m args below meth c cells slots H locs ls C hL oL oS hP hS
  have go := fun (H : Heap) (locs : List Loc) (ls : Array Slot) => k p e R s m args below meth c cells slots H locs ls C
  obtain ⟨hx, hb, hml, hown, hts, hr, hlk, hf, hlo, hKK, hcs⟩ := C
  change ab_c6 i n a (ab_ml id) = true at hc
  unfold ab_c6 at hc
  obtain ⟨lv, hlv, hm⟩ := hL.lv
  have hok : ab_ok G ((.inr (.inr (.inl q)))) := oS _ List.mem_cons_self
  split at hc
  · simp only [Bool.and_eq_true, beq_iff_eq, decide_eq_true_eq] at hc
    obtain ⟨⟨rfl, rfl⟩, h3⟩ := hc
    exact lv_astore hx hb hd hlv h3 rfl (fun ls' h' => go H locs ls' (ab_LH.sto (v := .inr (.inr (.inl q))) hL.2.1 hm h3 h') (ab_sto_ok oL hok) (okt oS) hP hS)
  · simp only [Bool.and_eq_true, beq_iff_eq, decide_eq_true_eq] at hc
    obtain ⟨⟨rfl, h2⟩, h3⟩ := hc
    exact lv_astore_n hx hb hd h2 hlv h3 rfl (fun ls' h' => go H locs ls' (ab_LH.sto (v := .inr (.inr (.inl q))) hL.2.1 hm h3 h') (ab_sto_ok oL hok) (okt oS) hP hS)
  · cases hc
theorem r_7 {l : Launch} {G : ab_Gt} {id d pc a b : Nat} {v : AV} {ts : List (Int × Nat)} {L st : List AV} {σ σ2 : Sg} {r : AV} {x y : Int32} (hc : ab_chk (ab_mo id) (ab_mb id) (ab_ml id) pc (7, a, b, vI y, ts) = true) (hv : ab_nth vU L a = vI x) (k : ab_Ret l G id d (pc + ab_ln (ab_mb id) pc) (ab_set L a (vI (x + y))) st σ r σ2) : ab_Ret l G id d pc L st σ r σ2 := by
  obtain ⟨i, n, hd, hn, hc⟩ := ab_chk_inv hc
  rw [hn] at k
  intro p e R s m args below meth c cells slots H locs ls C hL oL oS hP hS
  have go := fun (H : Heap) (locs : List Loc) (ls : Array Slot) => k p e R s m args below meth c cells slots H locs ls C
  obtain ⟨hx, hb, hml, hown, hts, hr, hlk, hf, hlo, hKK, hcs⟩ := C
  change ab_c7 i n a (ab_ml id) (vI y) = true at hc
  unfold ab_c7 at hc
  have hw : ls[a]? = some (.val (ab_val G (ab_nth vU L a))) := hL.2.2.2 a (by rw [hv]; exact fun h => by cases h)
  rw [hv] at hw
  obtain ⟨lv, hlv, hm⟩ := hL.lv
  split at hc
  · rename_i kq zq
    simp only [Bool.and_eq_true, beq_iff_eq, decide_eq_true_eq] at hc
    obtain ⟨⟨⟨rfl, rfl⟩, h3⟩, h4⟩ := hc
    have h4 := Sum.inl.inj h4
    have hmem : (kq, Value.int x) ∈ lv := by
      have := hm kq (by rw [hv]; exact fun h => by cases h)
      rw [hv] at this
      exact this
    obtain ⟨k0, hk0⟩ := List.getElem?_of_mem hmem
    refine lv_iinc hx hb hd hlv hk0 (by rw [h4]) h3 rfl (fun ls' h' => go H locs ls' (ab_LH.set1 (v := vI (x + y)) hL.2.1 hm h3 ⟨x, hv⟩ (fun k z e1 e2 => ?_) h') (ab_set_ok oL trivial) oS hP hS)
    have h5 := hL.2.2.2 k (by rw [e2]; exact fun h => by cases h)
    rw [e2] at h5
    have h6 := hL.2.2.1.1 k _ h5 rfl
    rw [e1, hw] at h6
    cases h6
  · cases hc
theorem r_8 {l : Launch} {G : ab_Gt} {id d pc a b : Nat} {v : AV} {ts : List (Int × Nat)} {L st : List AV} {σ σ2 : Sg} {r : AV} {x y : Int32} (hc : ab_chk (ab_mo id) (ab_mb id) (ab_ml id) pc (8, a, b, v, ts) = true) (k : ab_Ret l G id d (pc + ab_ln (ab_mb id) pc) L (vI (ab_i2 a x y) :: st) σ r σ2) : ab_Ret l G id d pc L (vI y :: vI x :: st) σ r σ2 := by
  obtain ⟨i, n, hd, hn, hc⟩ := ab_chk_inv hc
  rw [hn] at k
  intro p e R s m args below meth c cells slots H locs ls C hL oL oS hP hS
  have go := fun (H : Heap) (locs : List Loc) (ls : Array Slot) => k p e R s m args below meth c cells slots H locs ls C
  obtain ⟨hx, hb, hml, hown, hts, hr, hlk, hf, hlo, hKK, hcs⟩ := C
  change ab_c8 i n a = true at hc
  unfold ab_c8 at hc
  rw [Bool.and_eq_true] at hc
  obtain ⟨hn1, hc⟩ := hc
  have hn1 : n = 1 := by simpa using hn1
  subst hn1
  split at hc
  · have hc : a = 0 := by simpa using hc
    subst hc
    exact lv_iadd hx hb hd (go H locs ls hL oL (okc trivial (okt (okt oS))) hP hS)
  · have hc : a = 1 := by simpa using hc
    subst hc
    exact lv_isub hx hb hd (go H locs ls hL oL (okc trivial (okt (okt oS))) hP hS)
  · have hc : a = 2 := by simpa using hc
    subst hc
    exact lv_imul hx hb hd (go H locs ls hL oL (okc trivial (okt (okt oS))) hP hS)
  · have hc : a = 3 := by simpa using hc
    subst hc
    exact lv_iand hx hb hd (go H locs ls hL oL (okc trivial (okt (okt oS))) hP hS)
  · have hc : a = 4 := by simpa using hc
    subst hc
    exact lv_ior hx hb hd (go H locs ls hL oL (okc trivial (okt (okt oS))) hP hS)
  · have hc : a = 5 := by simpa using hc
    subst hc
    exact lv_ishl hx hb hd (go H locs ls hL oL (okc trivial (okt (okt oS))) hP hS)
  · have hc : a = 6 := by simpa using hc
    subst hc
    exact lv_ishr hx hb hd (go H locs ls hL oL (okc trivial (okt (okt oS))) hP hS)
  · have hc : a = 7 := by simpa using hc
    subst hc
    exact lv_iushr hx hb hd rfl (go H locs ls hL oL (okc trivial (okt (okt oS))) hP hS)
  · cases hc
theorem r_9 {l : Launch} {G : ab_Gt} {id d pc a b : Nat} {v : AV} {ts : List (Int × Nat)} {L st : List AV} {σ σ2 : Sg} {r : AV} {x y : Int32} (hc : ab_chk (ab_mo id) (ab_mb id) (ab_ml id) pc (9, a, b, v, ts) = true) (hy : ¬ y = 0) (k : ab_Ret l G id d (pc + ab_ln (ab_mb id) pc) L (vI (ab_d9 a x y) :: st) σ r σ2) : ab_Ret l G id d pc L (vI y :: vI x :: st) σ r σ2 := by
  obtain ⟨i, n, hd, hn, hc⟩ := ab_chk_inv hc
  rw [hn] at k
  intro p e R s m args below meth c cells slots H locs ls C hL oL oS hP hS
  have go := fun (H : Heap) (locs : List Loc) (ls : Array Slot) => k p e R s m args below meth c cells slots H locs ls C
  obtain ⟨hx, hb, hml, hown, hts, hr, hlk, hf, hlo, hKK, hcs⟩ := C
  change ab_c9 i n a = true at hc
  unfold ab_c9 at hc
  rw [Bool.and_eq_true] at hc
  obtain ⟨hn1, hc⟩ := hc
  have hn1 : n = 1 := by simpa using hn1
  subst hn1
  split at hc
  · have hc : a = 0 := by simpa using hc
    subst hc
    exact lv_idiv hx hb hd hy (go H locs ls hL oL (okc trivial (okt (okt oS))) hP hS)
  · have hc : a = 1 := by simpa using hc
    subst hc
    exact lv_irem hx hb hd hy (go H locs ls hL oL (okc trivial (okt (okt oS))) hP hS)
  · cases hc
theorem r_10 {l : Launch} {G : ab_Gt} {id d pc a b : Nat} {v : AV} {ts : List (Int × Nat)} {L st : List AV} {σ σ2 : Sg} {r : AV} {x : Int32} (hc : ab_chk (ab_mo id) (ab_mb id) (ab_ml id) pc (10, a, b, v, ts) = true) (k : ab_Ret l G id d (pc + ab_ln (ab_mb id) pc) L (vI (ab_d10 a x) :: st) σ r σ2) : ab_Ret l G id d pc L (vI x :: st) σ r σ2 := by
  obtain ⟨i, n, hd, hn, hc⟩ := ab_chk_inv hc
  rw [hn] at k
  intro p e R s m args below meth c cells slots H locs ls C hL oL oS hP hS
  have go := fun (H : Heap) (locs : List Loc) (ls : Array Slot) => k p e R s m args below meth c cells slots H locs ls C
  obtain ⟨hx, hb, hml, hown, hts, hr, hlk, hf, hlo, hKK, hcs⟩ := C
  change ab_c10 i n a = true at hc
  unfold ab_c10 at hc
  rw [Bool.and_eq_true] at hc
  obtain ⟨hn1, hc⟩ := hc
  have hn1 : n = 1 := by simpa using hn1
  subst hn1
  split at hc
  · have hc : a = 0 := by simpa using hc
    subst hc
    exact lv_ineg hx hb hd (go H locs ls hL oL (okc trivial (okt oS)) hP hS)
  · have hc : a = 1 := by simpa using hc
    subst hc
    exact lv_i2b hx hb hd rfl (go H locs ls hL oL (okc trivial (okt oS)) hP hS)
  · have hc : a = 2 := by simpa using hc
    subst hc
    exact lv_i2s hx hb hd rfl (go H locs ls hL oL (okc trivial (okt oS)) hP hS)
  · cases hc
theorem r_13 {l : Launch} {G : ab_Gt} {id d pc a b : Nat} {v : AV} {ts : List (Int × Nat)} {L st : List AV} {σ σ2 : Sg} {r : AV} {x y : Int64} (hc : ab_chk (ab_mo id) (ab_mb id) (ab_ml id) pc (13, a, b, v, ts) = true) (k : ab_Ret l G id d (pc + ab_ln (ab_mb id) pc) L (vL (ab_l2 a x y) :: st) σ r σ2) : ab_Ret l G id d pc L (vL y :: vL x :: st) σ r σ2 := by
  obtain ⟨i, n, hd, hn, hc⟩ := ab_chk_inv hc
  rw [hn] at k
  intro p e R s m args below meth c cells slots H locs ls C hL oL oS hP hS
  have go := fun (H : Heap) (locs : List Loc) (ls : Array Slot) => k p e R s m args below meth c cells slots H locs ls C
  obtain ⟨hx, hb, hml, hown, hts, hr, hlk, hf, hlo, hKK, hcs⟩ := C
  change ab_c13 i n a = true at hc
  unfold ab_c13 at hc
  rw [Bool.and_eq_true] at hc
  obtain ⟨hn1, hc⟩ := hc
  have hn1 : n = 1 := by simpa using hn1
  subst hn1
  split at hc
  · have hc : a = 0 := by simpa using hc
    subst hc
    exact lv_ladd hx hb hd (go H locs ls hL oL (okc trivial (okt (okt oS))) hP hS)
  · have hc : a = 1 := by simpa using hc
    subst hc
    exact lv_lsub hx hb hd (go H locs ls hL oL (okc trivial (okt (okt oS))) hP hS)
  · have hc : a = 2 := by simpa using hc
    subst hc
    exact lv_lmul hx hb hd (go H locs ls hL oL (okc trivial (okt (okt oS))) hP hS)
  · cases hc
theorem r_14 {l : Launch} {G : ab_Gt} {id d pc a b : Nat} {v : AV} {ts : List (Int × Nat)} {L st : List AV} {σ σ2 : Sg} {r : AV} {x y : Int64} (hc : ab_chk (ab_mo id) (ab_mb id) (ab_ml id) pc (14, a, b, v, ts) = true) (hy : ¬ y = 0) (k : ab_Ret l G id d (pc + ab_ln (ab_mb id) pc) L (vL (ab_d14 a x y) :: st) σ r σ2) : ab_Ret l G id d pc L (vL y :: vL x :: st) σ r σ2 := by
  obtain ⟨i, n, hd, hn, hc⟩ := ab_chk_inv hc
  rw [hn] at k
  intro p e R s m args below meth c cells slots H locs ls C hL oL oS hP hS
  have go := fun (H : Heap) (locs : List Loc) (ls : Array Slot) => k p e R s m args below meth c cells slots H locs ls C
  obtain ⟨hx, hb, hml, hown, hts, hr, hlk, hf, hlo, hKK, hcs⟩ := C
  change ab_c14 i n a = true at hc
  unfold ab_c14 at hc
  rw [Bool.and_eq_true] at hc
  obtain ⟨hn1, hc⟩ := hc
  have hn1 : n = 1 := by simpa using hn1
  subst hn1
  split at hc
  · have hc : a = 0 := by simpa using hc
    subst hc
    exact lv_ldiv hx hb hd hy (go H locs ls hL oL (okc trivial (okt (okt oS))) hP hS)
  · have hc : a = 1 := by simpa using hc
    subst hc
    exact lv_lrem hx hb hd hy (go H locs ls hL oL (okc trivial (okt (okt oS))) hP hS)
  · cases hc
theorem r_11 {l : Launch} {G : ab_Gt} {id d pc a b : Nat} {v : AV} {ts : List (Int × Nat)} {L st : List AV} {σ σ2 : Sg} {r : AV} {x : Int32} (hc : ab_chk (ab_mo id) (ab_mb id) (ab_ml id) pc (11, a, b, v, ts) = true) (k : ab_Ret l G id d (pc + ab_ln (ab_mb id) pc) L (vL x.toInt64 :: st) σ r σ2) : ab_Ret l G id d pc L (vI x :: st) σ r σ2 := by
  obtain ⟨i, n, hd, hn, hc⟩ := ab_chk_inv hc
  rw [hn] at k
  intro p e R s m args below meth c cells slots H locs ls C hL oL oS hP hS
  have go := fun (H : Heap) (locs : List Loc) (ls : Array Slot) => k p e R s m args below meth c cells slots H locs ls C
  obtain ⟨hx, hb, hml, hown, hts, hr, hlk, hf, hlo, hKK, hcs⟩ := C
  change ab_cp i n 11 = true at hc
  unfold ab_cp at hc
  rw [Bool.and_eq_true] at hc
  obtain ⟨hn1, hc⟩ := hc
  have hn1 : n = 1 := by simpa using hn1
  subst hn1
  split at hc <;> first | (exact absurd hc (by decide)) | skip
  exact lv_i2l hx hb hd rfl (go H locs ls hL oL (okc trivial (okt oS)) hP hS)
theorem r_12 {l : Launch} {G : ab_Gt} {id d pc a b : Nat} {v : AV} {ts : List (Int × Nat)} {L st : List AV} {σ σ2 : Sg} {r : AV} {x : Int64} (hc : ab_chk (ab_mo id) (ab_mb id) (ab_ml id) pc (12, a, b, v, ts) = true) (k : ab_Ret l G id d (pc + ab_ln (ab_mb id) pc) L (vI x.toInt32 :: st) σ r σ2) : ab_Ret l G id d pc L (vL x :: st) σ r σ2 := by
  obtain ⟨i, n, hd, hn, hc⟩ := ab_chk_inv hc
  rw [hn] at k
  intro p e R s m args below meth c cells slots H locs ls C hL oL oS hP hS
  have go := fun (H : Heap) (locs : List Loc) (ls : Array Slot) => k p e R s m args below meth c cells slots H locs ls C
  obtain ⟨hx, hb, hml, hown, hts, hr, hlk, hf, hlo, hKK, hcs⟩ := C
  change ab_cp i n 12 = true at hc
  unfold ab_cp at hc
  rw [Bool.and_eq_true] at hc
  obtain ⟨hn1, hc⟩ := hc
  have hn1 : n = 1 := by simpa using hn1
  subst hn1
  split at hc <;> first | (exact absurd hc (by decide)) | skip
  exact lv_l2i hx hb hd rfl (go H locs ls hL oL (okc trivial (okt oS)) hP hS)
theorem r_15 {l : Launch} {G : ab_Gt} {id d pc a b : Nat} {v : AV} {ts : List (Int × Nat)} {L st : List AV} {σ σ2 : Sg} {r : AV} {x y : Int64} (hc : ab_chk (ab_mo id) (ab_mb id) (ab_ml id) pc (15, a, b, v, ts) = true) (k : ab_Ret l G id d (pc + ab_ln (ab_mb id) pc) L (vI (lg_cmp x y) :: st) σ r σ2) : ab_Ret l G id d pc L (vL y :: vL x :: st) σ r σ2 := by
  obtain ⟨i, n, hd, hn, hc⟩ := ab_chk_inv hc
  rw [hn] at k
  intro p e R s m args below meth c cells slots H locs ls C hL oL oS hP hS
  have go := fun (H : Heap) (locs : List Loc) (ls : Array Slot) => k p e R s m args below meth c cells slots H locs ls C
  obtain ⟨hx, hb, hml, hown, hts, hr, hlk, hf, hlo, hKK, hcs⟩ := C
  change ab_cp i n 15 = true at hc
  unfold ab_cp at hc
  rw [Bool.and_eq_true] at hc
  obtain ⟨hn1, hc⟩ := hc
  have hn1 : n = 1 := by simpa using hn1
  subst hn1
  split at hc <;> first | (exact absurd hc (by decide)) | skip
  exact W.lcmp hx hb hd (go H locs ls hL oL (okc trivial (okt (okt oS))) hP hS)
theorem r_16 {l : Launch} {G : ab_Gt} {id d pc a b : Nat} {v : AV} {ts : List (Int × Nat)} {L st : List AV} {σ σ2 : Sg} {r : AV} {x : Int32} (hc : ab_chk (ab_mo id) (ab_mb id) (ab_ml id) pc (16, a, b, v, ts) = true) (k : ab_Ret l G id d (pc + ab_ln (ab_mb id) pc) L (vI x :: vI x :: st) σ r σ2) : ab_Ret l G id d pc L (vI x :: st) σ r σ2 := by
  obtain ⟨i, n, hd, hn, hc⟩ := ab_chk_inv hc
  rw [hn] at k
  intro p e R s m args below meth c cells slots H locs ls C hL oL oS hP hS
  have go := fun (H : Heap) (locs : List Loc) (ls : Array Slot) => k p e R s m args below meth c cells slots H locs ls C
  obtain ⟨hx, hb, hml, hown, hts, hr, hlk, hf, hlo, hKK, hcs⟩ := C
  change ab_cp i n 16 = true at hc
  unfold ab_cp at hc
  rw [Bool.and_eq_true] at hc
  obtain ⟨hn1, hc⟩ := hc
  have hn1 : n = 1 := by simpa using hn1
  subst hn1
  split at hc <;> first | (exact absurd hc (by decide)) | skip
  exact lv_dup hx hb hd rfl (go H locs ls hL oL (okc trivial oS) hP hS)
theorem r_16r {l : Launch} {G : ab_Gt} {id d pc a b : Nat} {v : AV} {ts : List (Int × Nat)} {L st : List AV} {σ σ2 : Sg} {r : AV} {q : Nat × Nat} (hc : ab_chk (ab_mo id) (ab_mb id) (ab_ml id) pc (16, a, b, v, ts) = true) (k : ab_Ret l G id d (pc + ab_ln (ab_mb id) pc) L (.inr (.inr (.inl q)) :: .inr (.inr (.inl q)) :: st) σ r σ2) : ab_Ret l G id d pc L (.inr (.inr (.inl q)) :: st) σ r σ2 := by
  obtain ⟨i, n, hd, hn, hc⟩ := ab_chk_inv hc
  rw [hn] at k
  intro p e R s m args below meth c cells slots H locs ls C hL oL oS hP hS
  have go := fun (H : Heap) (locs : List Loc) (ls : Array Slot) => k p e R s m args below meth c cells slots H locs ls C
  obtain ⟨hx, hb, hml, hown, hts, hr, hlk, hf, hlo, hKK, hcs⟩ := C
  change ab_cp i n 16 = true at hc
  unfold ab_cp at hc
  rw [Bool.and_eq_true] at hc
  obtain ⟨hn1, hc⟩ := hc
  have hn1 : n = 1 := by simpa using hn1
  subst hn1
  split at hc <;> first | (exact absurd hc (by decide)) | skip
  exact lv_dup hx hb hd rfl (go H locs ls hL oL (okc (oS _ List.mem_cons_self) oS) hP hS)
theorem r_17 {l : Launch} {G : ab_Gt} {id d pc a b : Nat} {v : AV} {ts : List (Int × Nat)} {L st : List AV} {σ σ2 : Sg} {r : AV} {x : Int32} (hc : ab_chk (ab_mo id) (ab_mb id) (ab_ml id) pc (17, a, b, v, ts) = true) (k : ab_Ret l G id d (pc + ab_ln (ab_mb id) pc) L st σ r σ2) : ab_Ret l G id d pc L (vI x :: st) σ r σ2 := by
  obtain ⟨i, n, hd, hn, hc⟩ := ab_chk_inv hc
  rw [hn] at k
  intro p e R s m args below meth c cells slots H locs ls C hL oL oS hP hS
  have go := fun (H : Heap) (locs : List Loc) (ls : Array Slot) => k p e R s m args below meth c cells slots H locs ls C
  obtain ⟨hx, hb, hml, hown, hts, hr, hlk, hf, hlo, hKK, hcs⟩ := C
  change ab_cp i n 17 = true at hc
  unfold ab_cp at hc
  rw [Bool.and_eq_true] at hc
  obtain ⟨hn1, hc⟩ := hc
  have hn1 : n = 1 := by simpa using hn1
  subst hn1
  split at hc <;> first | (exact absurd hc (by decide)) | skip
  exact lv_pop hx hb hd rfl (go H locs ls hL oL (okt oS) hP hS)
end
section
theorem ab_fl_facts {o ix a b k : Nat} (h : ab_flb o (ix, a, b, k) = true) : ∃ (C : String) (T : u_T) (N : Nat) (f : Nat × Nat × Nat), ab_cl[ab_ci a]? = some (C, T, N) ∧ b < N ∧ ab_kd a = 0 ∧ (ab_fds a).length = N ∧ Cond.fieldLink (ab_on o) ix (T b).1 (T b).2.1 (T b).2.2.1 ∈ lw_good ∧ (ab_fds a)[b]? = some f ∧ f.1 = ab_fkind (ab_ty (ab_ci a) b) := by
  unfold ab_flb at h
  dsimp only at h
  cases hcl : ab_cl[ab_ci a]? with
  | none => rw [hcl] at h; cases h
  | some q =>
    obtain ⟨C, T, N⟩ := q
    rw [hcl] at h
    dsimp only at h
    rw [Bool.and_eq_true, Bool.and_eq_true, Bool.and_eq_true, Bool.and_eq_true] at h
    obtain ⟨⟨⟨⟨h1, h2⟩, h3⟩, h4⟩, h5⟩ := h
    cases hf : (ab_fds a)[b]? with
    | none => rw [hf] at h5; cases h5
    | some f =>
      rw [hf] at h5
      exact ⟨C, T, N, f, rfl, of_decide_eq_true h1, by simpa using h2, by simpa using h3, ab_at_in h4, rfl, by simpa using h5⟩
theorem ab_nth_get {α : Type} (d : α) : ∀ (l : List α) (i : Nat) (x : α), l[i]? = some x → ab_nth d l i = x := by
  intro l
  induction l with
  | nil => intro i x h; simp at h
  | cons a r ih =>
    intro i x h
    cases i with
    | zero => simpa [ab_nth] using h
    | succ i => exact ih i x (by simpa using h)
theorem ab_in {G : ab_Gt} {g i : Nat} (h : ab_okr G (g, i)) (hk : ab_kd g ≠ 9) : (g, i) ∈ gP G := by
  rcases h with h | ⟨h, -⟩ | h
  · exact h
  · exact absurd (by rw [show g = 60 from h]; rfl) hk
  · exact absurd (by rw [(Prod.mk.inj h).1]; rfl) hk
theorem ab_ent_0 {G : ab_Gt} {ρ : Nat → Int32} {g i : Nat} (h : ab_kd g = 0) : ab_ent G ρ g i = .inr (ab_ci g, ab_fvs G ρ i 0 (ab_fds g)) := by unfold ab_ent; rw [h]; rfl
theorem ab_ent_1 {G : ab_Gt} {ρ : Nat → Int32} {g i : Nat} (h : ab_kd g = 1) : ab_ent G ρ g i = .inl (gC G 0, (ab_len g, .inl ρ)) := by unfold ab_ent; rw [h]; rfl
theorem ab_ent_2 {G : ab_Gt} {ρ : Nat → Int32} {g i : Nat} (h : ab_kd g = 2) : ab_ent G ρ g i = .inl (gC G 1, (ab_len g, .inl ρ)) := by unfold ab_ent; rw [h]; rfl
theorem ab_ent_3 {G : ab_Gt} {ρ : Nat → Int32} {g i : Nat} (h : ab_kd g = 3) : ab_ent G ρ g i = .inl (gC G (ab_rt g), (ab_len g, .inr (.inr (.inr (.inr (fun j => some (gad G (ab_refs g).1 (j + (ab_refs g).2)))))))) := by unfold ab_ent; rw [h]; rfl
theorem ab_cats_eq (G : ab_Gt) (st : List AV) : ((st.map (ab_val G)).map (fun v => v.category)).sum = ab_cats st := by
  induction st with
  | nil => rfl
  | cons v r ih =>
    simp only [List.map_cons, List.sum_cons, ab_cats, ih]
    congr 1
    match v with
    | .inl x => rfl
    | .inr (.inl x) => rfl
    | .inr (.inr (.inl q)) => rfl
    | .inr (.inr (.inr _)) => rfl
theorem r_18 {l : Launch} {G : ab_Gt} {id d pc a b : Nat} {v : AV} {ts : List (Int × Nat)} {L st : List AV} {σ σ2 : Sg} {r : AV} {i0 : Nat} (hG : ab_GG G) (hc : ab_chk (ab_mo id) (ab_mb id) (ab_ml id) pc (18, a, b, v, ts) = true) (k : ab_Ret l G id d (pc + ab_ln (ab_mb id) pc) L (vI (σ a i0 b) :: st) σ r σ2) : ab_Ret l G id d pc L (vR a i0 :: st) σ r σ2 := by
  obtain ⟨i, n, hd, hn, hc⟩ := ab_chk_inv hc
  rw [hn] at k
  intro p e R s m args below meth c cells slots H locs ls C hL oL oS hP hS
  have go := fun (H : Heap) (locs : List Loc) (ls : Array Slot) => k p e R s m args below meth c cells slots H locs ls C
  obtain ⟨hx, hb, hml, hown, hts, hr, hlk, hf, hlo, hKK, hcs⟩ := C
  change ab_c18 (ab_mo id) i n a b 0 = true at hc
  unfold ab_c18 at hc
  split at hc
  · rename_i ix
    rw [Bool.and_eq_true, Bool.and_eq_true] at hc
    obtain ⟨⟨h3, hfl⟩, hk⟩ := hc
    have h3 : n = 3 := by simpa using h3
    subst h3
    obtain ⟨kw, hq⟩ := ab_fl_at hfl
    obtain ⟨C, T, N, f, hcl, hbN, hkd, hlen, hlk2, hf, hfk⟩ := ab_fl_facts hq
    have hk : (ab_fk a b).1 = 0 := by simpa using hk
    have hfe : ab_fk a b = f := ab_nth_get _ _ _ _ hf
    rw [hfe] at hk
    have hin : (a, i0) ∈ gP G := ab_in (oS _ List.mem_cons_self) (by rw [hkd]; decide)
    obtain ⟨q0, hq0, he⟩ := ab_ws_at σ hin
    rw [ab_ent_0 hkd] at he
    have hv : (ab_fvs G (σ a i0) i0 0 (ab_fds a))[b]? = some (Value.int (σ a i0 b)) := by
      rw [ab_fvs_at, hf]
      simp [ab_fval, hk]
    exact va_get hx hb (Ts := ab_W id) (C := C) (T := T) (N := N) hts (fun w hw => List.mem_cons_of_mem _ (ab_cl_in hcl w hw)) hown hKK.1 hP q0 he hcl b hbN (ab_gw hts hlk2) (fun _ h => h) hv hd (go H locs ls hL oL (okc trivial (okt oS)) hP hS)
  · cases hc
theorem r_19 {l : Launch} {G : ab_Gt} {id d pc a b : Nat} {v : AV} {ts : List (Int × Nat)} {L st : List AV} {σ σ2 : Sg} {r : AV} {i0 : Nat} (hG : ab_GG G) (hc : ab_chk (ab_mo id) (ab_mb id) (ab_ml id) pc (19, a, b, v, ts) = true) (k : ab_Ret l G id d (pc + ab_ln (ab_mb id) pc) L (vL (σ a i0 b).toInt64 :: st) σ r σ2) : ab_Ret l G id d pc L (vR a i0 :: st) σ r σ2 := by
  obtain ⟨i, n, hd, hn, hc⟩ := ab_chk_inv hc
  rw [hn] at k
  intro p e R s m args below meth c cells slots H locs ls C hL oL oS hP hS
  have go := fun (H : Heap) (locs : List Loc) (ls : Array Slot) => k p e R s m args below meth c cells slots H locs ls C
  obtain ⟨hx, hb, hml, hown, hts, hr, hlk, hf, hlo, hKK, hcs⟩ := C
  change ab_c18 (ab_mo id) i n a b 1 = true at hc
  unfold ab_c18 at hc
  split at hc
  · rename_i ix
    rw [Bool.and_eq_true, Bool.and_eq_true] at hc
    obtain ⟨⟨h3, hfl⟩, hk⟩ := hc
    have h3 : n = 3 := by simpa using h3
    subst h3
    obtain ⟨kw, hq⟩ := ab_fl_at hfl
    obtain ⟨C, T, N, f, hcl, hbN, hkd, hlen, hlk2, hf, hfk⟩ := ab_fl_facts hq
    have hk : (ab_fk a b).1 = 1 := by simpa using hk
    have hfe : ab_fk a b = f := ab_nth_get _ _ _ _ hf
    rw [hfe] at hk
    have hin : (a, i0) ∈ gP G := ab_in (oS _ List.mem_cons_self) (by rw [hkd]; decide)
    obtain ⟨q0, hq0, he⟩ := ab_ws_at σ hin
    rw [ab_ent_0 hkd] at he
    have hv : (ab_fvs G (σ a i0) i0 0 (ab_fds a))[b]? = some (Value.long (σ a i0 b).toInt64) := by
      rw [ab_fvs_at, hf]
      simp [ab_fval, hk]
    exact va_get hx hb (Ts := ab_W id) (C := C) (T := T) (N := N) hts (fun w hw => List.mem_cons_of_mem _ (ab_cl_in hcl w hw)) hown hKK.1 hP q0 he hcl b hbN (ab_gw hts hlk2) (fun _ h => h) hv hd (go H locs ls hL oL (okc trivial (okt oS)) hP hS)
  · cases hc
theorem r_20 {l : Launch} {G : ab_Gt} {id d pc a b : Nat} {v : AV} {ts : List (Int × Nat)} {L st : List AV} {σ σ2 : Sg} {r : AV} {i0 g2 o2 : Nat} (hG : ab_GG G) (hc : ab_chk (ab_mo id) (ab_mb id) (ab_ml id) pc (20, a, b, vR g2 o2, ts) = true) (k : ab_Ret l G id d (pc + ab_ln (ab_mb id) pc) L (vR g2 (i0 + o2) :: st) σ r σ2) : ab_Ret l G id d pc L (vR a i0 :: st) σ r σ2 := by
  obtain ⟨i, n, hd, hn, hc⟩ := ab_chk_inv hc
  rw [hn] at k
  intro p e R s m args below meth c cells slots H locs ls C hL oL oS hP hS
  have go := fun (H : Heap) (locs : List Loc) (ls : Array Slot) => k p e R s m args below meth c cells slots H locs ls C
  obtain ⟨hx, hb, hml, hown, hts, hr, hlk, hf, hlo, hKK, hcs⟩ := C
  change (ab_c18 (ab_mo id) i n a b 2 && decide (vR g2 o2 = vR (ab_fk a b).2.1 (ab_fk a b).2.2)) = true at hc
  rw [Bool.and_eq_true, decide_eq_true_eq] at hc
  obtain ⟨hc, hg⟩ := hc
  unfold ab_c18 at hc
  split at hc
  · rename_i ix
    rw [Bool.and_eq_true, Bool.and_eq_true] at hc
    obtain ⟨⟨h3, hfl⟩, hk⟩ := hc
    have h3 : n = 3 := by simpa using h3
    subst h3
    obtain ⟨kw, hq⟩ := ab_fl_at hfl
    obtain ⟨C, T, N, f, hcl, hbN, hkd, hlen, hlk2, hf, hfk⟩ := ab_fl_facts hq
    have hk : (ab_fk a b).1 = 2 := by simpa using hk
    have hfe : ab_fk a b = f := ab_nth_get _ _ _ _ hf
    rw [hfe] at hk
    rw [hfe] at hg
    have hg := Prod.mk.inj (Sum.inl.inj (Sum.inr.inj (Sum.inr.inj hg)))
    obtain ⟨rfl, rfl⟩ := hg
    have hin : (a, i0) ∈ gP G := ab_in (oS _ List.mem_cons_self) (by rw [hkd]; decide)
    obtain ⟨q0, hq0, he⟩ := ab_ws_at σ hin
    rw [ab_ent_0 hkd] at he
    have hv : (ab_fvs G (σ a i0) i0 0 (ab_fds a))[b]? = some (Value.ref (gad G f.2.1 (i0 + f.2.2))) := by
      rw [ab_fvs_at, hf]
      simp [ab_fval, hk]
    exact va_get hx hb (Ts := ab_W id) (C := C) (T := T) (N := N) hts (fun w hw => List.mem_cons_of_mem _ (ab_cl_in hcl w hw)) hown hKK.1 hP q0 he hcl b hbN (ab_gw hts hlk2) (fun _ h => h) hv hd (go H locs ls hL oL (okc (Or.inl (hG.2.2.1 a i0 hin b f hf hk)) (okt oS)) hP hS)
  · cases hc
theorem r_21 {l : Launch} {G : ab_Gt} {id d pc a b : Nat} {v : AV} {ts : List (Int × Nat)} {L st : List AV} {σ σ2 : Sg} {r : AV} {i0 : Nat} (hG : ab_GG G) {x : Int32} (hc : ab_chk (ab_mo id) (ab_mb id) (ab_ml id) pc (21, a, b, v, ts) = true) (k : ab_Ret l G id d (pc + ab_ln (ab_mb id) pc) L st (upd3 σ a i0 b x) r σ2) : ab_Ret l G id d pc L (vI x :: vR a i0 :: st) σ r σ2 := by
  obtain ⟨i, n, hd, hn, hc⟩ := ab_chk_inv hc
  rw [hn] at k
  intro p e R s m args below meth c cells slots H locs ls C hL oL oS hP hS
  have go := fun (H : Heap) (locs : List Loc) (ls : Array Slot) => k p e R s m args below meth c cells slots H locs ls C
  obtain ⟨hx, hb, hml, hown, hts, hr, hlk, hf, hlo, hKK, hcs⟩ := C
  change ab_c21 (ab_mo id) i n a b .int = true at hc
  unfold ab_c21 at hc
  split at hc
  · rename_i ix
    rw [Bool.and_eq_true, Bool.and_eq_true, Bool.and_eq_true, decide_eq_true_eq] at hc
    obtain ⟨⟨⟨h3, hfl⟩, hty⟩, hfin⟩ := hc
    have h3 : n = 3 := by simpa using h3
    subst h3
    obtain ⟨kw, hq⟩ := ab_fl_at hfl
    obtain ⟨C, T, N, f, hcl, hbN, hkd, hlen, hlk2, hf, hfk⟩ := ab_fl_facts hq
    rw [hcl] at hfin
    have hfin : (T b).2.2.2 = false := by simpa using hfin
    rw [hty] at hfk
    have hin : (a, i0) ∈ gP G := ab_in (oS _ (List.mem_cons_of_mem _ List.mem_cons_self)) (by rw [hkd]; decide)
    obtain ⟨q0, hq0, he⟩ := ab_ws_at σ hin
    rw [ab_ent_0 hkd] at he
    have hpd : parseFieldDescriptor (T b).2.2.1 = some .int := by rw [← hty]; exact ab_cl_tt hcl b hbN
    have hfk : f.1 = 0 := hfk
    refine va_put hx hb (Ts := ab_W id) (C := C) (T := T) (N := N) hts (fun w hw => List.mem_cons_of_mem _ (ab_cl_in hcl w hw)) (ab_ty (ab_ci a)) (ab_cl_tt hcl) (ab_cl_nn hcl) hown hKK.1 hP (hG.1 σ) hS q0 he hcl b hbN (ab_gw hts hlk2) (fun _ h => h) hfin hpd rfl rfl (by rw [ab_fvs_len, hlen]; exact hbN) hd (fun H1 locs1 hP1 hD1 hS1 => go H1 locs1 ls hL oL (okt (okt oS)) ?_ hS1)
    have hset := ab_ws_set (G := G) hG.2.1 σ (upd3 σ a i0 b x) hq0 (upd3_off σ a i0 b _) (a := gad G a i0) (en := .inr (ab_ci a, (ab_fvs G (σ a i0) i0 0 (ab_fds a)).set b (Value.int x))) rfl (by
      rw [upd3_row, ab_ent_0 hkd, ab_fvs_set G (σ a i0) i0 (ab_fds a) hf x (Value.int x) (by simp [ab_fval, hfk, upd])])
    rw [← hset]
    exact hP1
  · cases hc
theorem r_22 {l : Launch} {G : ab_Gt} {id d pc a b : Nat} {v : AV} {ts : List (Int × Nat)} {L st : List AV} {σ σ2 : Sg} {r : AV} {i0 : Nat} (hG : ab_GG G) {x : Int32} (hc : ab_chk (ab_mo id) (ab_mb id) (ab_ml id) pc (22, a, b, v, ts) = true) (h01 : x = 0 ∨ x = 1) (k : ab_Ret l G id d (pc + ab_ln (ab_mb id) pc) L st (upd3 σ a i0 b x) r σ2) : ab_Ret l G id d pc L (vI x :: vR a i0 :: st) σ r σ2 := by
  obtain ⟨i, n, hd, hn, hc⟩ := ab_chk_inv hc
  rw [hn] at k
  intro p e R s m args below meth c cells slots H locs ls C hL oL oS hP hS
  have go := fun (H : Heap) (locs : List Loc) (ls : Array Slot) => k p e R s m args below meth c cells slots H locs ls C
  obtain ⟨hx, hb, hml, hown, hts, hr, hlk, hf, hlo, hKK, hcs⟩ := C
  change ab_c21 (ab_mo id) i n a b .boolean = true at hc
  unfold ab_c21 at hc
  split at hc
  · rename_i ix
    rw [Bool.and_eq_true, Bool.and_eq_true, Bool.and_eq_true, decide_eq_true_eq] at hc
    obtain ⟨⟨⟨h3, hfl⟩, hty⟩, hfin⟩ := hc
    have h3 : n = 3 := by simpa using h3
    subst h3
    obtain ⟨kw, hq⟩ := ab_fl_at hfl
    obtain ⟨C, T, N, f, hcl, hbN, hkd, hlen, hlk2, hf, hfk⟩ := ab_fl_facts hq
    rw [hcl] at hfin
    have hfin : (T b).2.2.2 = false := by simpa using hfin
    rw [hty] at hfk
    have hin : (a, i0) ∈ gP G := ab_in (oS _ (List.mem_cons_of_mem _ List.mem_cons_self)) (by rw [hkd]; decide)
    obtain ⟨q0, hq0, he⟩ := ab_ws_at σ hin
    rw [ab_ent_0 hkd] at he
    have hpd : parseFieldDescriptor (T b).2.2.1 = some .boolean := by rw [← hty]; exact ab_cl_tt hcl b hbN
    have hfk : f.1 = 0 := hfk
    refine va_put hx hb (Ts := ab_W id) (C := C) (T := T) (N := N) hts (fun w hw => List.mem_cons_of_mem _ (ab_cl_in hcl w hw)) (ab_ty (ab_ci a)) (ab_cl_tt hcl) (ab_cl_nn hcl) hown hKK.1 hP (hG.1 σ) hS q0 he hcl b hbN (ab_gw hts hlk2) (fun _ h => h) hfin hpd (by rcases h01 with rfl | rfl <;> rfl) (by rcases h01 with rfl | rfl <;> rfl) (by rw [ab_fvs_len, hlen]; exact hbN) hd (fun H1 locs1 hP1 hD1 hS1 => go H1 locs1 ls hL oL (okt (okt oS)) ?_ hS1)
    have hset := ab_ws_set (G := G) hG.2.1 σ (upd3 σ a i0 b x) hq0 (upd3_off σ a i0 b _) (a := gad G a i0) (en := .inr (ab_ci a, (ab_fvs G (σ a i0) i0 0 (ab_fds a)).set b (Value.int x))) rfl (by
      rw [upd3_row, ab_ent_0 hkd, ab_fvs_set G (σ a i0) i0 (ab_fds a) hf x (Value.int x) (by simp [ab_fval, hfk, upd])])
    rw [← hset]
    exact hP1
  · cases hc
theorem r_23 {l : Launch} {G : ab_Gt} {id d pc a b : Nat} {v : AV} {ts : List (Int × Nat)} {L st : List AV} {σ σ2 : Sg} {r : AV} {i0 : Nat} (hG : ab_GG G) {x : Int64} (hc : ab_chk (ab_mo id) (ab_mb id) (ab_ml id) pc (23, a, b, v, ts) = true) (h64 : x.toInt32.toInt64 = x) (k : ab_Ret l G id d (pc + ab_ln (ab_mb id) pc) L st (upd3 σ a i0 b x.toInt32) r σ2) : ab_Ret l G id d pc L (vL x :: vR a i0 :: st) σ r σ2 := by
  obtain ⟨i, n, hd, hn, hc⟩ := ab_chk_inv hc
  rw [hn] at k
  intro p e R s m args below meth c cells slots H locs ls C hL oL oS hP hS
  have go := fun (H : Heap) (locs : List Loc) (ls : Array Slot) => k p e R s m args below meth c cells slots H locs ls C
  obtain ⟨hx, hb, hml, hown, hts, hr, hlk, hf, hlo, hKK, hcs⟩ := C
  change ab_c21 (ab_mo id) i n a b .long = true at hc
  unfold ab_c21 at hc
  split at hc
  · rename_i ix
    rw [Bool.and_eq_true, Bool.and_eq_true, Bool.and_eq_true, decide_eq_true_eq] at hc
    obtain ⟨⟨⟨h3, hfl⟩, hty⟩, hfin⟩ := hc
    have h3 : n = 3 := by simpa using h3
    subst h3
    obtain ⟨kw, hq⟩ := ab_fl_at hfl
    obtain ⟨C, T, N, f, hcl, hbN, hkd, hlen, hlk2, hf, hfk⟩ := ab_fl_facts hq
    rw [hcl] at hfin
    have hfin : (T b).2.2.2 = false := by simpa using hfin
    rw [hty] at hfk
    have hin : (a, i0) ∈ gP G := ab_in (oS _ (List.mem_cons_of_mem _ List.mem_cons_self)) (by rw [hkd]; decide)
    obtain ⟨q0, hq0, he⟩ := ab_ws_at σ hin
    rw [ab_ent_0 hkd] at he
    have hpd : parseFieldDescriptor (T b).2.2.1 = some .long := by rw [← hty]; exact ab_cl_tt hcl b hbN
    have hfk : f.1 = 1 := hfk
    refine va_put hx hb (Ts := ab_W id) (C := C) (T := T) (N := N) hts (fun w hw => List.mem_cons_of_mem _ (ab_cl_in hcl w hw)) (ab_ty (ab_ci a)) (ab_cl_tt hcl) (ab_cl_nn hcl) hown hKK.1 hP (hG.1 σ) hS q0 he hcl b hbN (ab_gw hts hlk2) (fun _ h => h) hfin hpd rfl rfl (by rw [ab_fvs_len, hlen]; exact hbN) hd (fun H1 locs1 hP1 hD1 hS1 => go H1 locs1 ls hL oL (okt (okt oS)) ?_ hS1)
    have hset := ab_ws_set (G := G) hG.2.1 σ (upd3 σ a i0 b x.toInt32) hq0 (upd3_off σ a i0 b _) (a := gad G a i0) (en := .inr (ab_ci a, (ab_fvs G (σ a i0) i0 0 (ab_fds a)).set b (Value.long x))) rfl (by
      rw [upd3_row, ab_ent_0 hkd, ab_fvs_set G (σ a i0) i0 (ab_fds a) hf x.toInt32 (Value.long x) (by simp [ab_fval, hfk, upd, h64])])
    rw [← hset]
    exact hP1
  · cases hc
theorem r_24 {l : Launch} {G : ab_Gt} {id d pc a b : Nat} {v : AV} {ts : List (Int × Nat)} {L st : List AV} {σ σ2 : Sg} {r : AV} {i0 : Nat} {j : Int32} (hG : ab_GG G) (hc : ab_chk (ab_mo id) (ab_mb id) (ab_ml id) pc (24, a, b, v, ts) = true) (hj0 : ¬ j < 0) (hj1 : ¬ ab_len a ≤ j.toNatClampNeg) (k : ab_Ret l G id d (pc + ab_ln (ab_mb id) pc) L (vI (σ a i0 j.toNatClampNeg) :: st) σ r σ2) : ab_Ret l G id d pc L (vI j :: vR a i0 :: st) σ r σ2 := by
  obtain ⟨i, n, hd, hn, hc⟩ := ab_chk_inv hc
  rw [hn] at k
  intro p e R s m args below meth c cells slots H locs ls C hL oL oS hP hS
  have go := fun (H : Heap) (locs : List Loc) (ls : Array Slot) => k p e R s m args below meth c cells slots H locs ls C
  obtain ⟨hx, hb, hml, hown, hts, hr, hlk, hf, hlo, hKK, hcs⟩ := C
  change ab_ca i n 24 a = true at hc
  unfold ab_ca at hc
  rw [Bool.and_eq_true] at hc
  obtain ⟨hn1, hc⟩ := hc
  have hn1 : n = 1 := by simpa using hn1
  subst hn1
  have hin' : vp_in j (ab_len a) := fun h => h.elim hj0 hj1
  split at hc <;> first | (simp at hc; done) | skip
  have hkd : ab_kd a = 1 := by simpa using hc
  have hin : (a, i0) ∈ gP G := ab_in (oS _ (List.mem_cons_of_mem _ List.mem_cons_self)) (by rw [hkd]; decide)
  obtain ⟨q0, hq0, he⟩ := ab_ws_at σ hin
  rw [ab_ent_1 hkd] at he
  exact va_iald hx hb hKK.1 hP q0 0 he rfl hin' hd (go H locs ls hL oL (okc trivial (okt (okt oS))) hP hS)
theorem r_26 {l : Launch} {G : ab_Gt} {id d pc a b : Nat} {v : AV} {ts : List (Int × Nat)} {L st : List AV} {σ σ2 : Sg} {r : AV} {i0 : Nat} {j : Int32} (hG : ab_GG G) (hc : ab_chk (ab_mo id) (ab_mb id) (ab_ml id) pc (26, a, b, v, ts) = true) (hj0 : ¬ j < 0) (hj1 : ¬ ab_len a ≤ j.toNatClampNeg) (k : ab_Ret l G id d (pc + ab_ln (ab_mb id) pc) L (vI (σ a i0 j.toNatClampNeg) :: st) σ r σ2) : ab_Ret l G id d pc L (vI j :: vR a i0 :: st) σ r σ2 := by
  obtain ⟨i, n, hd, hn, hc⟩ := ab_chk_inv hc
  rw [hn] at k
  intro p e R s m args below meth c cells slots H locs ls C hL oL oS hP hS
  have go := fun (H : Heap) (locs : List Loc) (ls : Array Slot) => k p e R s m args below meth c cells slots H locs ls C
  obtain ⟨hx, hb, hml, hown, hts, hr, hlk, hf, hlo, hKK, hcs⟩ := C
  change ab_ca i n 26 a = true at hc
  unfold ab_ca at hc
  rw [Bool.and_eq_true] at hc
  obtain ⟨hn1, hc⟩ := hc
  have hn1 : n = 1 := by simpa using hn1
  subst hn1
  have hin' : vp_in j (ab_len a) := fun h => h.elim hj0 hj1
  split at hc <;> first | (simp at hc; done) | skip
  have hkd : ab_kd a = 2 := by simpa using hc
  have hin : (a, i0) ∈ gP G := ab_in (oS _ (List.mem_cons_of_mem _ List.mem_cons_self)) (by rw [hkd]; decide)
  obtain ⟨q0, hq0, he⟩ := ab_ws_at σ hin
  rw [ab_ent_2 hkd] at he
  exact va_zald hx hb hKK.1 hP q0 1 he rfl hin' hd (go H locs ls hL oL (okc trivial (okt (okt oS))) hP hS)
theorem r_25 {l : Launch} {G : ab_Gt} {id d pc a b : Nat} {v : AV} {ts : List (Int × Nat)} {L st : List AV} {σ σ2 : Sg} {r : AV} {i0 : Nat} {j : Int32} (hG : ab_GG G) {x : Int32} (hc : ab_chk (ab_mo id) (ab_mb id) (ab_ml id) pc (25, a, b, v, ts) = true) (hj0 : ¬ j < 0) (hj1 : ¬ ab_len a ≤ j.toNatClampNeg) (k : ab_Ret l G id d (pc + ab_ln (ab_mb id) pc) L st (upd3 σ a i0 j.toNatClampNeg x) r σ2) : ab_Ret l G id d pc L (vI x :: vI j :: vR a i0 :: st) σ r σ2 := by
  obtain ⟨i, n, hd, hn, hc⟩ := ab_chk_inv hc
  rw [hn] at k
  intro p e R s m args below meth c cells slots H locs ls C hL oL oS hP hS
  have go := fun (H : Heap) (locs : List Loc) (ls : Array Slot) => k p e R s m args below meth c cells slots H locs ls C
  obtain ⟨hx, hb, hml, hown, hts, hr, hlk, hf, hlo, hKK, hcs⟩ := C
  change ab_ca i n 25 a = true at hc
  unfold ab_ca at hc
  rw [Bool.and_eq_true] at hc
  obtain ⟨hn1, hc⟩ := hc
  have hn1 : n = 1 := by simpa using hn1
  subst hn1
  have hin' : vp_in j (ab_len a) := fun h => h.elim hj0 hj1
  split at hc <;> first | (simp at hc; done) | skip
  have hkd : ab_kd a = 1 := by simpa using hc
  have hin : (a, i0) ∈ gP G := ab_in (oS _ (List.mem_cons_of_mem _ (List.mem_cons_of_mem _ List.mem_cons_self))) (by rw [hkd]; decide)
  obtain ⟨q0, hq0, he⟩ := ab_ws_at σ hin
  rw [ab_ent_1 hkd] at he
  refine va_iast hx hb hKK.1 hP (hG.1 σ) hS q0 0 he rfl hin' hd (fun H1 locs1 hP1 hD1 hS1 => go H1 locs1 ls hL oL (okt (okt (okt oS))) ?_ hS1)
  have hset := ab_ws_set (G := G) hG.2.1 σ (upd3 σ a i0 j.toNatClampNeg x) hq0 (upd3_off σ a i0 _ _) (a := gad G a i0) (en := .inl (gC G 0, (ab_len a, .inl (upd (σ a i0) j.toNatClampNeg x)))) rfl (by
    rw [upd3_row, ab_ent_1 hkd])
  rw [← hset]
  exact hP1
theorem r_27 {l : Launch} {G : ab_Gt} {id d pc a b : Nat} {v : AV} {ts : List (Int × Nat)} {L st : List AV} {σ σ2 : Sg} {r : AV} {i0 : Nat} {j : Int32} (hG : ab_GG G) {x : Int32} (hc : ab_chk (ab_mo id) (ab_mb id) (ab_ml id) pc (27, a, b, v, ts) = true) (hj0 : ¬ j < 0) (hj1 : ¬ ab_len a ≤ j.toNatClampNeg) (k : ab_Ret l G id d (pc + ab_ln (ab_mb id) pc) L st (upd3 σ a i0 j.toNatClampNeg (x &&& 1)) r σ2) : ab_Ret l G id d pc L (vI x :: vI j :: vR a i0 :: st) σ r σ2 := by
  obtain ⟨i, n, hd, hn, hc⟩ := ab_chk_inv hc
  rw [hn] at k
  intro p e R s m args below meth c cells slots H locs ls C hL oL oS hP hS
  have go := fun (H : Heap) (locs : List Loc) (ls : Array Slot) => k p e R s m args below meth c cells slots H locs ls C
  obtain ⟨hx, hb, hml, hown, hts, hr, hlk, hf, hlo, hKK, hcs⟩ := C
  change ab_ca i n 27 a = true at hc
  unfold ab_ca at hc
  rw [Bool.and_eq_true] at hc
  obtain ⟨hn1, hc⟩ := hc
  have hn1 : n = 1 := by simpa using hn1
  subst hn1
  have hin' : vp_in j (ab_len a) := fun h => h.elim hj0 hj1
  split at hc <;> first | (simp at hc; done) | skip
  have hkd : ab_kd a = 2 := by simpa using hc
  have hin : (a, i0) ∈ gP G := ab_in (oS _ (List.mem_cons_of_mem _ (List.mem_cons_of_mem _ List.mem_cons_self))) (by rw [hkd]; decide)
  obtain ⟨q0, hq0, he⟩ := ab_ws_at σ hin
  rw [ab_ent_2 hkd] at he
  refine va_zast hx hb hKK.1 hP (hG.1 σ) hS q0 1 he rfl hin' hd (fun H1 locs1 hP1 hD1 hS1 => go H1 locs1 ls hL oL (okt (okt (okt oS))) ?_ hS1)
  have hset := ab_ws_set (G := G) hG.2.1 σ (upd3 σ a i0 j.toNatClampNeg (x &&& 1)) hq0 (upd3_off σ a i0 _ _) (a := gad G a i0) (en := .inl (gC G 1, (ab_len a, .inl (upd (σ a i0) j.toNatClampNeg (x &&& 1))))) rfl (by
    rw [upd3_row, ab_ent_2 hkd])
  rw [← hset]
  exact hP1
theorem r_28 {l : Launch} {G : ab_Gt} {id d pc a b : Nat} {v : AV} {ts : List (Int × Nat)} {L st : List AV} {σ σ2 : Sg} {r : AV} {i0 : Nat} {j : Int32} (hG : ab_GG G) (hc : ab_chk (ab_mo id) (ab_mb id) (ab_ml id) pc (28, a, b, v, ts) = true) (hj0 : ¬ j < 0) (hj1 : ¬ ab_len a ≤ j.toNatClampNeg) (k : ab_Ret l G id d (pc + ab_ln (ab_mb id) pc) L (vR (ab_refs a).1 (j.toNatClampNeg + (ab_refs a).2) :: st) σ r σ2) : ab_Ret l G id d pc L (vI j :: vR a i0 :: st) σ r σ2 := by
  obtain ⟨i, n, hd, hn, hc⟩ := ab_chk_inv hc
  rw [hn] at k
  intro p e R s m args below meth c cells slots H locs ls C hL oL oS hP hS
  have go := fun (H : Heap) (locs : List Loc) (ls : Array Slot) => k p e R s m args below meth c cells slots H locs ls C
  obtain ⟨hx, hb, hml, hown, hts, hr, hlk, hf, hlo, hKK, hcs⟩ := C
  change ab_ca i n 28 a = true at hc
  unfold ab_ca at hc
  rw [Bool.and_eq_true] at hc
  obtain ⟨hn1, hc⟩ := hc
  have hn1 : n = 1 := by simpa using hn1
  subst hn1
  have hin' : vp_in j (ab_len a) := fun h => h.elim hj0 hj1
  split at hc <;> first | (simp at hc; done) | skip
  have hkd : ab_kd a = 3 := by simpa using hc
  have hin : (a, i0) ∈ gP G := ab_in (oS _ (List.mem_cons_of_mem _ List.mem_cons_self)) (by rw [hkd]; decide)
  obtain ⟨q0, hq0, he⟩ := ab_ws_at σ hin
  rw [ab_ent_3 hkd] at he
  have ht : ∃ C : String, (ab_tys G)[ab_rt a]? = some (gC G (ab_rt a), .object C) := by
    unfold ab_rt
    split <;> exact ⟨_, rfl⟩
  obtain ⟨C, ht⟩ := ht
  exact va_aldq hx hb hKK.1 hP q0 (ab_rt a) he ht hin' hd (go H locs ls hL oL (okc (Or.inl (hG.2.2.2.1 a i0 hin hkd _ (Nat.not_le.mp hj1))) (okt (okt oS))) hP hS)
theorem r_34 {l : Launch} {G : ab_Gt} {id d pc a b : Nat} {v : AV} {ts : List (Int × Nat)} {L st : List AV} {σ σ2 : Sg} {r : AV} {i0 : Nat} {j : Int32} (hG : ab_GG G) (hc : ab_chk (ab_mo id) (ab_mb id) (ab_ml id) pc (34, a, b, v, ts) = true) (hj0 : ¬ j < 0) (hj1 : ¬ 6 ≤ j.toNatClampNeg) (k : ab_Ret l G id d (pc + ab_ln (ab_mb id) pc) L (vI (ab_ka j.toNatClampNeg) :: st) σ r σ2) : ab_Ret l G id d pc L (vI j :: vR 61 i0 :: st) σ r σ2 := by
  obtain ⟨i, n, hd, hn, hc⟩ := ab_chk_inv hc
  rw [hn] at k
  intro p e R s m args below meth c cells slots H locs ls C hL oL oS hP hS
  have go := fun (H : Heap) (locs : List Loc) (ls : Array Slot) => k p e R s m args below meth c cells slots H locs ls C
  obtain ⟨hx, hb, hml, hown, hts, hr, hlk, hf, hlo, hKK, hcs⟩ := C
  change ab_ca i n 34 61 = true at hc
  unfold ab_ca at hc
  rw [Bool.and_eq_true] at hc
  obtain ⟨hn1, hc⟩ := hc
  have hn1 : n = 1 := by simpa using hn1
  subst hn1
  have hi0 : i0 = 0 := by
    rcases oS _ (List.mem_cons_of_mem _ List.mem_cons_self) with h | ⟨h, -⟩ | h
    · exact absurd rfl (hG.2.2.2.2 _ h)
    · cases h
    · exact (Prod.mk.inj h).2
  subst hi0
  split at hc <;> first | (simp at hc; done) | skip
  exact va_ti hx hb hKK.2.2.1.2 hS (fun h => h.elim hj0 hj1) rfl hd (go H locs ls hL oL (okc trivial (okt (okt oS))) hP hS)
theorem r_29a {l : Launch} {G : ab_Gt} {id d pc a b : Nat} {v : AV} {ts : List (Int × Nat)} {L st : List AV} {σ σ2 : Sg} {r : AV} {x y : Int32} (hd1 : 1 ≤ d) (hct : ab_cats st ≤ 8) (hc : ab_chk (ab_mo id) (ab_mb id) (ab_ml id) pc (29, 0, b, v, ts) = true) (k : ab_Ret l G id d (pc + ab_ln (ab_mb id) pc) L (vI (if x < y then y else x) :: st) σ r σ2) : ab_Ret l G id d pc L (vI y :: vI x :: st) σ r σ2 := by
  obtain ⟨i, n, hd, hn, hc⟩ := ab_chk_inv hc
  rw [hn] at k
  intro p e R s m args below meth c cells slots H locs ls C hL oL oS hP hS
  have go := fun (H : Heap) (locs : List Loc) (ls : Array Slot) => k p e R s m args below meth c cells slots H locs ls C
  obtain ⟨hx, hb, hml, hown, hts, hr, hlk, hf, hlo, hKK, hcs⟩ := C
  change (ab_cj (ab_mo id) i n 0 && decide (0 < 2)) = true at hc
  rw [Bool.and_eq_true] at hc
  obtain ⟨hc, -⟩ := hc
  unfold ab_cj at hc
  split at hc
  · rw [Bool.and_eq_true] at hc
    obtain ⟨h3, hj⟩ := hc
    have h3 : n = 3 := by simpa using h3
    subst h3
    exact va_mmax hx hb (by rw [hml]; exact hL.1.symm) hown (ab_gw hts (ab_js_at hj)) (ab_gw hts ab_jm0.1) (ab_gw hts ab_jm0.2.2) (ab_gw hts ab_jm0.2.1) (by omega) (by rw [ab_cats_eq]; omega) hcs.1 hcs.2 hd (go H locs ls hL oL (okc trivial (okt (okt oS))) hP hS)
  · cases hc
theorem r_29b {l : Launch} {G : ab_Gt} {id d pc a b : Nat} {v : AV} {ts : List (Int × Nat)} {L st : List AV} {σ σ2 : Sg} {r : AV} {x y : Int32} (hd1 : 1 ≤ d) (hct : ab_cats st ≤ 8) (hc : ab_chk (ab_mo id) (ab_mb id) (ab_ml id) pc (29, 1, b, v, ts) = true) (k : ab_Ret l G id d (pc + ab_ln (ab_mb id) pc) L (vI (if y < x then y else x) :: st) σ r σ2) : ab_Ret l G id d pc L (vI y :: vI x :: st) σ r σ2 := by
  obtain ⟨i, n, hd, hn, hc⟩ := ab_chk_inv hc
  rw [hn] at k
  intro p e R s m args below meth c cells slots H locs ls C hL oL oS hP hS
  have go := fun (H : Heap) (locs : List Loc) (ls : Array Slot) => k p e R s m args below meth c cells slots H locs ls C
  obtain ⟨hx, hb, hml, hown, hts, hr, hlk, hf, hlo, hKK, hcs⟩ := C
  change (ab_cj (ab_mo id) i n 1 && decide (1 < 2)) = true at hc
  rw [Bool.and_eq_true] at hc
  obtain ⟨hc, -⟩ := hc
  unfold ab_cj at hc
  split at hc
  · rw [Bool.and_eq_true] at hc
    obtain ⟨h3, hj⟩ := hc
    have h3 : n = 3 := by simpa using h3
    subst h3
    exact va_mmin hx hb (by rw [hml]; exact hL.1.symm) hown (ab_gw hts (ab_js_at hj)) (ab_gw hts ab_jm1.1) (ab_gw hts ab_jm0.2.2) (ab_gw hts ab_jm1.2) (by omega) (by rw [ab_cats_eq]; omega) hcs.1 hcs.2 hd (go H locs ls hL oL (okc trivial (okt (okt oS))) hP hS)
  · cases hc
theorem r_30 {l : Launch} {G : ab_Gt} {id d pc a b : Nat} {v : AV} {ts : List (Int × Nat)} {L st : List AV} {σ σ2 : Sg} {r : AV} {x : Int32} (hd1 : 1 ≤ d) (hct : ab_cats st ≤ 8) (hc : ab_chk (ab_mo id) (ab_mb id) (ab_ml id) pc (30, a, b, v, ts) = true) (k : ab_Ret l G id d (pc + ab_ln (ab_mb id) pc) L (vI (if 0 ≤ x then x else 0 - x) :: st) σ r σ2) : ab_Ret l G id d pc L (vI x :: st) σ r σ2 := by
  obtain ⟨i, n, hd, hn, hc⟩ := ab_chk_inv hc
  rw [hn] at k
  intro p e R s m args below meth c cells slots H locs ls C hL oL oS hP hS
  have go := fun (H : Heap) (locs : List Loc) (ls : Array Slot) => k p e R s m args below meth c cells slots H locs ls C
  obtain ⟨hx, hb, hml, hown, hts, hr, hlk, hf, hlo, hKK, hcs⟩ := C
  change ab_cj (ab_mo id) i n 2 = true at hc
  unfold ab_cj at hc
  split at hc
  · rw [Bool.and_eq_true] at hc
    obtain ⟨h3, hj⟩ := hc
    have h3 : n = 3 := by simpa using h3
    subst h3
    exact va_mabs hx hb (by rw [hml]; exact hL.1.symm) hown (ab_gw hts (ab_js_at hj)) (ab_gw hts ab_jm2.1) (ab_gw hts ab_jm0.2.2) (ab_gw hts ab_jm2.2) (by omega) (by rw [ab_cats_eq]; omega) hcs.1 hcs.2 hd (go H locs ls hL oL (okc trivial (okt oS)) hP hS)
  · cases hc
theorem r_31 {l : Launch} {G : ab_Gt} {id d pc a b : Nat} {v : AV} {ts : List (Int × Nat)} {L st : List AV} {σ σ2 : Sg} {r : AV} {i0 i1 : Nat} {sp dp nn : Int32} (hG : ab_GG G) (hd1 : 1 ≤ d) (hct : ab_cats st ≤ 8) (c1 : ¬ sp < 0) (c2 : ¬ dp < 0) (c3 : ¬ nn < 0) (c4 : ¬ ab_len a < sp.toNatClampNeg + nn.toNatClampNeg) (c5 : ¬ ab_len b < dp.toNatClampNeg + nn.toNatClampNeg) (hc : ab_chk (ab_mo id) (ab_mb id) (ab_ml id) pc (31, a, b, v, ts) = true) (k : ab_Ret l G id d (pc + ab_ln (ab_mb id) pc) L st (cpy3 σ a i0 sp.toNatClampNeg b i1 dp.toNatClampNeg nn.toNatClampNeg) r σ2) : ab_Ret l G id d pc L (vI nn :: vI dp :: vR b i1 :: vI sp :: vR a i0 :: st) σ r σ2 := by
  obtain ⟨i, n, hd, hn, hc⟩ := ab_chk_inv hc
  rw [hn] at k
  intro p e R s m args below meth c cells slots H locs ls C hL oL oS hP hS
  have go := fun (H : Heap) (locs : List Loc) (ls : Array Slot) => k p e R s m args below meth c cells slots H locs ls C
  obtain ⟨hx, hb, hml, hown, hts, hr, hlk, hf, hlo, hKK, hcs⟩ := C
  change (ab_cj (ab_mo id) i n 3 && ab_kd a == 1 && ab_kd b == 1) = true at hc
  rw [Bool.and_eq_true, Bool.and_eq_true] at hc
  obtain ⟨⟨hc, hka⟩, hkb⟩ := hc
  have hka : ab_kd a = 1 := by simpa using hka
  have hkb : ab_kd b = 1 := by simpa using hkb
  unfold ab_cj at hc
  split at hc
  · rw [Bool.and_eq_true] at hc
    obtain ⟨h3, hj⟩ := hc
    have h3 : n = 3 := by simpa using h3
    subst h3
    have hin0 : (a, i0) ∈ gP G := ab_in (oS (vR a i0) (by simp)) (by rw [hka]; decide)
    have hin1 : (b, i1) ∈ gP G := ab_in (oS (vR b i1) (by simp)) (by rw [hkb]; decide)
    obtain ⟨q0, hq0, he0⟩ := ab_ws_at σ hin0
    obtain ⟨q1, hq1, he1⟩ := ab_ws_at σ hin1
    rw [ab_ent_1 hka] at he0
    rw [ab_ent_1 hkb] at he1
    have hnw : nativeFrameWords "java/lang/System" "arraycopy" 5 = 7 := by decide
    refine va_copyi hx hb (by rw [hml]; exact hL.1.symm) hown (ab_gw hts (ab_js_at hj)) (ab_gw hts ab_jm3.2.1) (ab_gw hts ab_jm3.1) (ab_gw hts ab_jm3.2.2) hKK.1 hP (hG.1 σ) hS q0 q1 0 0 he0 he1 rfl rfl rfl c1 c2 c3 (Nat.not_lt.mp c4) (Nat.not_lt.mp c5) (fun _ _ => rfl) (by omega) (by rw [ab_cats_eq, hnw]; omega) hd (fun H1 locs1 hP1 hD1 hS1 => go H1 locs1 ls hL oL (okt (okt (okt (okt (okt oS))))) ?_ hS1)
    have hset := ab_ws_set (G := G) hG.2.1 σ (cpy3 σ a i0 sp.toNatClampNeg b i1 dp.toNatClampNeg nn.toNatClampNeg) hq1 (fun g' i' hne => by
        funext k
        have : ¬ (g' = b ∧ i' = i1 ∧ dp.toNatClampNeg ≤ k ∧ k < dp.toNatClampNeg + nn.toNatClampNeg) := fun e => hne (by rw [e.1, e.2.1])
        simp [cpy3, this]) (a := gad G b i1) (en := .inl (gC G 0, (ab_len b, .inl (va_cpy (σ a i0) (σ b i1) sp.toNatClampNeg dp.toNatClampNeg nn.toNatClampNeg)))) rfl (by
      rw [ab_ent_1 hkb]
      congr 4
      funext k
      simp [cpy3, va_cpy])
    rw [← hset]
    exact hP1
  · cases hc
end
section
def ab_cd (c : Nat) (x y : Int32) : Prop := match c with
  | 0 => x = y
  | 1 => ¬ x = y
  | 2 => x < y
  | 3 => y ≤ x
  | 4 => y < x
  | _ => x ≤ y
theorem ab_cnd_or {R : Type} {x y : Int32} {A B : Option R} {res : R} : ∀ {c : Nat}, ab_cnd c x y A B = some res → (ab_cd c x y ∧ A = some res) ∨ (¬ ab_cd c x y ∧ B = some res)
  | 0, h => by
    change (if x = y then A else B) = some res at h
    split at h
    · exact Or.inl ⟨‹_›, h⟩
    · exact Or.inr ⟨‹_›, h⟩
  | 1, h => by
    change (if x = y then B else A) = some res at h
    split at h
    · exact Or.inr ⟨fun q => q ‹_›, h⟩
    · exact Or.inl ⟨‹_›, h⟩
  | 2, h => by
    change (if x < y then A else B) = some res at h
    split at h
    · exact Or.inl ⟨‹_›, h⟩
    · exact Or.inr ⟨‹_›, h⟩
  | 3, h => by
    change (if x < y then B else A) = some res at h
    split at h
    · rename_i q
      exact Or.inr ⟨fun q2 => Int32.not_lt.mpr q2 q, h⟩
    · rename_i q
      exact Or.inl ⟨Int32.not_lt.mp q, h⟩
  | 4, h => by
    change (if y < x then A else B) = some res at h
    split at h
    · exact Or.inl ⟨‹_›, h⟩
    · exact Or.inr ⟨‹_›, h⟩
  | n + 5, h => by
    change (if y < x then B else A) = some res at h
    split at h
    · rename_i q
      exact Or.inr ⟨fun q2 => Int32.not_lt.mpr q2 q, h⟩
    · rename_i q
      exact Or.inl ⟨Int32.not_lt.mp q, h⟩
def ab_c40 (i : Instr) (n pc t : Nat) : Bool := match i with
  | .goto f => n == 3 && ((pc : Int) + f == (t : Int))
  | _ => false
def ab_c41 (i : Instr) (n pc c t : Nat) : Bool := match i with
  | .ifCond z f => n == 3 && ab_cc z == c && ((pc : Int) + f == (t : Int))
  | _ => false
def ab_c42 (i : Instr) (n pc c t : Nat) : Bool := match i with
  | .if_icmp z f => n == 3 && ab_cc z == c && ((pc : Int) + f == (t : Int))
  | _ => false
def ab_c43 (i : Instr) (pc d : Nat) (ts : List (Int × Nat)) : Bool := match i with
  | .tableswitch f lo hi fs => ((pc : Int) + f == (d : Int)) && decide (-1000 < lo) && decide (hi < 1000) && hi + 1 == lo + (fs.toList.length : Int) && ab_swT pc fs.toList lo ts
  | .lookupswitch f ps => ((pc : Int) + f == (d : Int)) && (ps.toList.zip (ps.toList.drop 1)).all (fun (a, next) => decide (a.1 < next.1)) && ab_swL pc ps.toList ts
  | _ => false
def ab_c45 (i : Instr) (t : Nat) : Bool := match i with
  | .ireturn => t == 1 || t == 3
  | .lreturn => t == 2
  | .return_ => t == 0
  | _ => false
theorem r_40 {l : Launch} {G : ab_Gt} {id d pc a b : Nat} {v : AV} {ts : List (Int × Nat)} {L st : List AV} {σ σ2 : Sg} {r : AV} (hc : ab_chk (ab_mo id) (ab_mb id) (ab_ml id) pc (40, a, b, v, ts) = true) (k : ab_Ret l G id d a L st σ r σ2) : ab_Ret l G id d pc L st σ r σ2 := by
  obtain ⟨i, n, hd, hn, hc⟩ := ab_chk_inv hc
  change ab_c40 i n pc a = true at hc
  unfold ab_c40 at hc
  split at hc
  · rw [Bool.and_eq_true] at hc
    obtain ⟨h3, ht⟩ := hc
    have h3 : n = 3 := by simpa using h3
    subst h3
    intro p e R s m args below meth c cells slots H locs ls C hL oL oS hP hS
    exact lv_goto C.1 C.2.1 hd (by simpa using ht) (k p e R s m args below meth c cells slots H locs ls C hL oL oS hP hS)
  · cases hc
theorem r_41 {l : Launch} {G : ab_Gt} {id d pc a b : Nat} {v : AV} {ts : List (Int × Nat)} {L st : List AV} {σ σ2 : Sg} {r : AV} {x : Int32} (hc : ab_chk (ab_mo id) (ab_mb id) (ab_ml id) pc (41, a, b, v, ts) = true) (k : (ab_cd a x 0 ∧ ab_Ret l G id d b L st σ r σ2) ∨ (¬ ab_cd a x 0 ∧ ab_Ret l G id d (pc + ab_ln (ab_mb id) pc) L st σ r σ2)) : ab_Ret l G id d pc L (vI x :: st) σ r σ2 := by
  obtain ⟨i, n, hd, hn, hc⟩ := ab_chk_inv hc
  rw [hn] at k
  change ab_c41 i n pc a b = true at hc
  unfold ab_c41 at hc
  split at hc
  · rename_i z f
    rw [Bool.and_eq_true, Bool.and_eq_true] at hc
    obtain ⟨⟨h3, hz⟩, ht⟩ := hc
    have h3 : n = 3 := by simpa using h3
    subst h3
    have hz : ab_cc z = a := by simpa using hz
    subst hz
    have ht : (pc : Int) + f = (b : Int) := by simpa using ht
    intro p e R s m args below meth c cells slots H locs ls C hL oL oS hP hS
    have oS' := okt oS
    cases z with
    | eq =>
      rcases k with ⟨q, k⟩ | ⟨q, k⟩
      · exact lv_if_eq C.1 C.2.1 hd ht (fun _ => k p e R s m args below meth c cells slots H locs ls C hL oL oS' hP hS) (fun h => absurd q h)
      · exact lv_if_eq C.1 C.2.1 hd ht (fun h => absurd h q) (fun _ => k p e R s m args below meth c cells slots H locs ls C hL oL oS' hP hS)
    | ne =>
      rcases k with ⟨q, k⟩ | ⟨q, k⟩
      · exact lv_if_ne C.1 C.2.1 hd ht (fun _ => k p e R s m args below meth c cells slots H locs ls C hL oL oS' hP hS) (fun h => absurd h q)
      · exact lv_if_ne C.1 C.2.1 hd ht (fun h => absurd h q) (fun _ => k p e R s m args below meth c cells slots H locs ls C hL oL oS' hP hS)
    | lt =>
      rcases k with ⟨q, k⟩ | ⟨q, k⟩
      · exact lv_if_lt C.1 C.2.1 hd ht (fun _ => k p e R s m args below meth c cells slots H locs ls C hL oL oS' hP hS) (fun h => absurd q h)
      · exact lv_if_lt C.1 C.2.1 hd ht (fun h => absurd h q) (fun _ => k p e R s m args below meth c cells slots H locs ls C hL oL oS' hP hS)
    | ge =>
      rcases k with ⟨q, k⟩ | ⟨q, k⟩
      · exact lv_if_ge C.1 C.2.1 hd ht (fun _ => k p e R s m args below meth c cells slots H locs ls C hL oL oS' hP hS) (fun h => absurd q h)
      · exact lv_if_ge C.1 C.2.1 hd ht (fun h => absurd h q) (fun _ => k p e R s m args below meth c cells slots H locs ls C hL oL oS' hP hS)
    | gt =>
      rcases k with ⟨q, k⟩ | ⟨q, k⟩
      · exact lv_if_gt C.1 C.2.1 hd ht (fun _ => k p e R s m args below meth c cells slots H locs ls C hL oL oS' hP hS) (fun h => absurd q h)
      · exact lv_if_gt C.1 C.2.1 hd ht (fun h => absurd h q) (fun _ => k p e R s m args below meth c cells slots H locs ls C hL oL oS' hP hS)
    | le =>
      rcases k with ⟨q, k⟩ | ⟨q, k⟩
      · exact lv_if_le C.1 C.2.1 hd ht (fun _ => k p e R s m args below meth c cells slots H locs ls C hL oL oS' hP hS) (fun h => absurd q h)
      · exact lv_if_le C.1 C.2.1 hd ht (fun h => absurd h q) (fun _ => k p e R s m args below meth c cells slots H locs ls C hL oL oS' hP hS)
  · cases hc
theorem r_42 {l : Launch} {G : ab_Gt} {id d pc a b : Nat} {v : AV} {ts : List (Int × Nat)} {L st : List AV} {σ σ2 : Sg} {r : AV} {x y : Int32} (hc : ab_chk (ab_mo id) (ab_mb id) (ab_ml id) pc (42, a, b, v, ts) = true) (k : (ab_cd a x y ∧ ab_Ret l G id d b L st σ r σ2) ∨ (¬ ab_cd a x y ∧ ab_Ret l G id d (pc + ab_ln (ab_mb id) pc) L st σ r σ2)) : ab_Ret l G id d pc L (vI y :: vI x :: st) σ r σ2 := by
  obtain ⟨i, n, hd, hn, hc⟩ := ab_chk_inv hc
  rw [hn] at k
  change ab_c42 i n pc a b = true at hc
  unfold ab_c42 at hc
  split at hc
  · rename_i z f
    rw [Bool.and_eq_true, Bool.and_eq_true] at hc
    obtain ⟨⟨h3, hz⟩, ht⟩ := hc
    have h3 : n = 3 := by simpa using h3
    subst h3
    have hz : ab_cc z = a := by simpa using hz
    subst hz
    have ht : (pc : Int) + f = (b : Int) := by simpa using ht
    intro p e R s m args below meth c cells slots H locs ls C hL oL oS hP hS
    have oS' := okt (okt oS)
    cases z with
    | eq =>
      rcases k with ⟨q, k⟩ | ⟨q, k⟩
      · exact lv_icmp_eq C.1 C.2.1 hd ht (fun _ => k p e R s m args below meth c cells slots H locs ls C hL oL oS' hP hS) (fun h => absurd q h)
      · exact lv_icmp_eq C.1 C.2.1 hd ht (fun h => absurd h q) (fun _ => k p e R s m args below meth c cells slots H locs ls C hL oL oS' hP hS)
    | ne =>
      rcases k with ⟨q, k⟩ | ⟨q, k⟩
      · exact lv_icmp_ne C.1 C.2.1 hd ht (fun _ => k p e R s m args below meth c cells slots H locs ls C hL oL oS' hP hS) (fun h => absurd h q)
      · exact lv_icmp_ne C.1 C.2.1 hd ht (fun h => absurd h q) (fun _ => k p e R s m args below meth c cells slots H locs ls C hL oL oS' hP hS)
    | lt =>
      rcases k with ⟨q, k⟩ | ⟨q, k⟩
      · exact lv_icmp_lt C.1 C.2.1 hd ht (fun _ => k p e R s m args below meth c cells slots H locs ls C hL oL oS' hP hS) (fun h => absurd q h)
      · exact lv_icmp_lt C.1 C.2.1 hd ht (fun h => absurd h q) (fun _ => k p e R s m args below meth c cells slots H locs ls C hL oL oS' hP hS)
    | ge =>
      rcases k with ⟨q, k⟩ | ⟨q, k⟩
      · exact lv_icmp_ge C.1 C.2.1 hd ht (fun _ => k p e R s m args below meth c cells slots H locs ls C hL oL oS' hP hS) (fun h => absurd q h)
      · exact lv_icmp_ge C.1 C.2.1 hd ht (fun h => absurd h q) (fun _ => k p e R s m args below meth c cells slots H locs ls C hL oL oS' hP hS)
    | gt =>
      rcases k with ⟨q, k⟩ | ⟨q, k⟩
      · exact lv_icmp_gt C.1 C.2.1 hd ht (fun _ => k p e R s m args below meth c cells slots H locs ls C hL oL oS' hP hS) (fun h => absurd q h)
      · exact lv_icmp_gt C.1 C.2.1 hd ht (fun h => absurd h q) (fun _ => k p e R s m args below meth c cells slots H locs ls C hL oL oS' hP hS)
    | le =>
      rcases k with ⟨q, k⟩ | ⟨q, k⟩
      · exact lv_icmp_le C.1 C.2.1 hd ht (fun _ => k p e R s m args below meth c cells slots H locs ls C hL oL oS' hP hS) (fun h => absurd q h)
      · exact lv_icmp_le C.1 C.2.1 hd ht (fun h => absurd h q) (fun _ => k p e R s m args below meth c cells slots H locs ls C hL oL oS' hP hS)
  · cases hc
def ab_swt (x : Int32) (d : Nat) : List (Int × Nat) → Nat
  | [] => d
  | (c, t) :: r => if x = Int32.ofInt c then t else ab_swt x d r
theorem ab_sw_eq {R : Type} (x : Int32) (j : Nat → Option R) (d : Nat) (ts : List (Int × Nat)) : ab_sw x j d ts = j (ab_swt x d ts) := by
  induction ts with
  | nil => rfl
  | cons q r ih =>
    obtain ⟨c, t⟩ := q
    unfold ab_sw ab_swt
    split
    · rfl
    · exact ih
theorem ab_ofI {x : Int32} {c : Int} (h1 : -1000 < c) (h2 : c < 1000) : x = Int32.ofInt c ↔ x.toInt = c := by
  have h3 : (Int32.ofInt c).toInt = c := Int32.toInt_ofInt_of_le (by omega) (by omega)
  constructor
  · intro h
    rw [h, h3]
  · intro h
    rw [← Int32.ofInt_toInt x, h]
theorem ab_swT_in {pc d : Nat} {x : Int32} : ∀ (fs : List Int) (lo : Int) (ts : List (Int × Nat)), ab_swT pc fs lo ts = true → -1000 < lo → lo + (fs.length : Int) ≤ 1000 → (¬ x.toInt < lo → x.toInt < lo + (fs.length : Int) → ∃ f, fs[(x.toInt - lo).toNat]? = some f ∧ (pc : Int) + f = (ab_swt x d ts : Int)) ∧ ((x.toInt < lo ∨ lo + (fs.length : Int) ≤ x.toInt) → ab_swt x d ts = d) := by
  intro fs
  induction fs with
  | nil =>
    intro lo ts h h1 h2
    cases ts with
    | nil =>
      refine ⟨fun a b => ?_, fun _ => rfl⟩
      simp only [List.length_nil] at b
      omega
    | cons q r => cases h
  | cons f fs ih =>
    intro lo ts h h1 h2
    cases ts with
    | nil => cases h
    | cons q r =>
      obtain ⟨c, t⟩ := q
      unfold ab_swT at h
      rw [Bool.and_eq_true, Bool.and_eq_true] at h
      obtain ⟨⟨e1, e2⟩, e3⟩ := h
      have e1 : c = lo := by simpa using e1
      have e2 : (pc : Int) + f = (t : Int) := by simpa using e2
      subst e1
      simp only [List.length_cons] at h2 ⊢
      obtain ⟨i1, i2⟩ := ih (c + 1) r e3 (by omega) (by omega)
      have hx : x = Int32.ofInt c ↔ x.toInt = c := ab_ofI h1 (by omega)
      refine ⟨fun a b => ?_, fun a => ?_⟩
      · by_cases hxc : x.toInt = c
        · refine ⟨f, ?_, ?_⟩
          · rw [hxc, Int.sub_self]; rfl
          · unfold ab_swt
            rw [if_pos (hx.mpr hxc)]
            exact e2
        · obtain ⟨g, g1, g2⟩ := i1 (by omega) (by omega)
          refine ⟨g, ?_, ?_⟩
          · have : (x.toInt - c).toNat = (x.toInt - (c + 1)).toNat + 1 := by omega
            rw [this]
            exact g1
          · unfold ab_swt
            rw [if_neg (fun q => hxc (hx.mp q))]
            exact g2
      · unfold ab_swt
        rw [if_neg (fun q => by have := hx.mp q; omega)]
        exact i2 (by omega)
theorem ab_swL_at {pc d : Nat} {x : Int32} {f0 : Int} (h0 : (pc : Int) + f0 = (d : Int)) : ∀ (ps : List (Int × Int)) (ts : List (Int × Nat)), ab_swL pc ps ts = true → (pc : Int) + Op.lookupswitch.offset ps f0 x.toInt = (ab_swt x d ts : Int) := by
  intro ps
  induction ps with
  | nil =>
    intro ts h
    cases ts with
    | nil => exact h0
    | cons q r => cases h
  | cons p ps ih =>
    intro ts h
    obtain ⟨z, f⟩ := p
    cases ts with
    | nil => cases h
    | cons q r =>
      obtain ⟨c, t⟩ := q
      unfold ab_swL at h
      simp only [Bool.and_eq_true, beq_iff_eq, decide_eq_true_eq] at h
      obtain ⟨⟨⟨⟨rfl, h1⟩, h2⟩, h3⟩, h4⟩ := h
      have hx : x = Int32.ofInt c ↔ x.toInt = c := ab_ofI h1 h2
      rw [Op.lookupswitch.offset_cons]
      unfold ab_swt
      by_cases hxc : x.toInt = c
      · rw [if_pos hxc.symm, if_pos (hx.mpr hxc)]
        exact h3
      · rw [if_neg (fun q => hxc q.symm), if_neg (fun q => hxc (hx.mp q))]
        exact ih r h4
theorem r_43 {l : Launch} {G : ab_Gt} {id d pc a b : Nat} {v : AV} {ts : List (Int × Nat)} {L st : List AV} {σ σ2 : Sg} {r : AV} {x : Int32} (hc : ab_chk (ab_mo id) (ab_mb id) (ab_ml id) pc (43, a, b, v, ts) = true) (k : ab_Ret l G id d (ab_swt x a ts) L st σ r σ2) : ab_Ret l G id d pc L (vI x :: st) σ r σ2 := by
  obtain ⟨i, n, hd, hn, hc⟩ := ab_chk_inv hc
  change ab_c43 i pc a ts = true at hc
  unfold ab_c43 at hc
  split at hc
  · rename_i f lo hi fs
    simp only [Bool.and_eq_true, beq_iff_eq, decide_eq_true_eq] at hc
    obtain ⟨⟨⟨⟨h1, h2⟩, h3⟩, h4⟩, h5⟩ := hc
    obtain ⟨i1, i2⟩ := ab_swT_in (x := x) (d := a) fs.toList lo ts h5 h2 (by omega)
    intro p e R s m args below meth c cells slots H locs ls C hL oL oS hP hS
    have kk := k p e R s m args below meth c cells slots H locs ls C hL oL (okt oS) hP hS
    by_cases hx : x.toInt < lo ∨ hi < x.toInt
    · refine lv_tableOut C.1 C.2.1 hd hx (tgt := ab_swt x a ts) ?_ kk
      rw [i2 (by omega)]
      exact h1
    · obtain ⟨g, g1, g2⟩ := i1 (by omega) (by omega)
      exact lv_tableIn C.1 C.2.1 hd (fun q => hx (Or.inl q)) (fun q => hx (Or.inr q)) (by simpa using g1) g2 kk
  · rename_i f ps
    simp only [Bool.and_eq_true, beq_iff_eq] at hc
    obtain ⟨⟨h1, h2⟩, h3⟩ := hc
    intro p e R s m args below meth c cells slots H locs ls C hL oL oS hP hS
    exact lv_lookup C.1 C.2.1 hd h2 rfl (ab_swL_at h1 ps.toList ts h3) (k p e R s m args below meth c cells slots H locs ls C hL oL (okt oS) hP hS)
  · cases hc
/-- the code of what a method answers -/
def ab_rty (t : Nat) : Option FieldType := match t with
  | 0 => none
  | 1 => some .int
  | 2 => some .long
  | _ => some .boolean
theorem ab_q_end {G : ab_Gt} {s : State} {args : Array Value} {H : Heap} {locs : List Loc} {σ : Sg} {r : AV} {t : State} (hP : va_P (gD G) ab_cl (ab_ws G σ) H) (hS : va_S (gA G) s.heap H locs) (ht : t.heap = H) : ab_Qc G r σ args s (.returned (ab_rv G r)) t := ⟨rfl, by rw [ht]; exact hP, hS.F ht⟩
theorem ab_zret {p : Program} {l : Launch} {e : Env} {R : Room} {s : State} {m : MethodId} {args : Array Value} {below : List Frame} {meth : Method} {c : Code} {H : Heap} {locs : List Loc} {cells slots : Nat} {cc : ByteArray} {Qc : Array Value → State → Outcome → State → Prop} {free : Addr → Prop} {v : Int32} (hexec : p.tables.exec = Jvm.exec) (hb : c.code = cc) (hr : meth.sig.returnType = some .boolean)
    (hq : ∀ t : State, t.heap = H → s.WarmedH t.vm → Qc args s (.returned (some (.int (v &&& 1)))) t) (hf : ∀ q ∈ locs, free q.base) {pc : Nat} {ls : Array Slot} (hdg : decode cc pc = .ok (.ireturn, 1)) (hlocks : meth.locks = false) : W p l e R s m args below meth c H locs cells slots (MQ below Qc args s cells slots free) (F0 m pc ls [.int v]) := by
  intro T hT X
  obtain ⟨fs, hret, hrun, hended, hW, hframe⟩ := X.leave (v := some (.int (v &&& 1))) (fun h => by rw [hr] at h; cases h)
  have hm : T.vm.method? m = some meth := X.method'
  refine ⟨T.setFrames fs, ?_, .returned (some (.int (v &&& 1))), hrun, hended, hq _ hT hW, locs, ⟨⟨_, rfl⟩, hW, hframe⟩, hf⟩
  jvm_step X.here [X.here.top, hexec, hb, hdg, hm, hr, narrow]
  (try refine ⟨rfl, ?_⟩); (try refine ⟨rfl, ?_⟩)
  first | (intro acts; rw [hret _ acts rfl rfl rfl]) | rw [hret _ _ rfl rfl rfl]
  exact Steps.refl _
theorem r_45_0 {l : Launch} {G : ab_Gt} {id d pc b : Nat} {v : AV} {ts : List (Int × Nat)} {L : List AV} {σ : Sg} (hty : ab_mr id = ab_rty 0) (hc : ab_chk (ab_mo id) (ab_mb id) (ab_ml id) pc (45, 0, b, v, ts) = true) : ab_Ret l G id d pc L [] σ vU σ := by
  obtain ⟨i, n, hd, hn, hc⟩ := ab_chk_inv hc
  change (n == 1 && ab_c45 i 0) = true at hc
  rw [Bool.and_eq_true] at hc
  obtain ⟨h1, hc⟩ := hc
  unfold ab_c45 at hc
  have h1 : n = 1 := by simpa using h1
  subst h1
  intro p e R s m args below meth c cells slots H locs ls C hL oL oS hP hS
  have hr : meth.sig.returnType = ab_rty 0 := by rw [← hty]; exact C.2.2.2.2.2.1
  have hlk : meth.locks = false := C.2.2.2.2.2.2.1
  split at hc <;> first | (exact absurd hc (by decide)) | skip
  exact W.vret C.1 C.2.1 hr (fun t ht hW => ab_q_end (args := args) hP hS ht) hS.2.2 hd hlk
theorem r_45_1 {l : Launch} {G : ab_Gt} {id d pc b : Nat} {v : AV} {ts : List (Int × Nat)} {L : List AV} {σ : Sg} {x : Int32} (hty : ab_mr id = ab_rty 1) (hc : ab_chk (ab_mo id) (ab_mb id) (ab_ml id) pc (45, 1, b, v, ts) = true) : ab_Ret l G id d pc L [vI x] σ (vI x) σ := by
  obtain ⟨i, n, hd, hn, hc⟩ := ab_chk_inv hc
  change (n == 1 && ab_c45 i 1) = true at hc
  rw [Bool.and_eq_true] at hc
  obtain ⟨h1, hc⟩ := hc
  unfold ab_c45 at hc
  have h1 : n = 1 := by simpa using h1
  subst h1
  intro p e R s m args below meth c cells slots H locs ls C hL oL oS hP hS
  have hr : meth.sig.returnType = ab_rty 1 := by rw [← hty]; exact C.2.2.2.2.2.1
  have hlk : meth.locks = false := C.2.2.2.2.2.2.1
  split at hc <;> first | (exact absurd hc (by decide)) | skip
  exact W.iret C.1 C.2.1 hr (fun t ht hW => ab_q_end (args := args) hP hS ht) hS.2.2 hd hlk
theorem r_45_2 {l : Launch} {G : ab_Gt} {id d pc b : Nat} {v : AV} {ts : List (Int × Nat)} {L : List AV} {σ : Sg} {x : Int64} (hty : ab_mr id = ab_rty 2) (hc : ab_chk (ab_mo id) (ab_mb id) (ab_ml id) pc (45, 2, b, v, ts) = true) : ab_Ret l G id d pc L [vL x] σ (vL x) σ := by
  obtain ⟨i, n, hd, hn, hc⟩ := ab_chk_inv hc
  change (n == 1 && ab_c45 i 2) = true at hc
  rw [Bool.and_eq_true] at hc
  obtain ⟨h1, hc⟩ := hc
  unfold ab_c45 at hc
  have h1 : n = 1 := by simpa using h1
  subst h1
  intro p e R s m args below meth c cells slots H locs ls C hL oL oS hP hS
  have hr : meth.sig.returnType = ab_rty 2 := by rw [← hty]; exact C.2.2.2.2.2.1
  have hlk : meth.locks = false := C.2.2.2.2.2.2.1
  split at hc <;> first | (exact absurd hc (by decide)) | skip
  exact W.lret C.1 C.2.1 hr (fun t ht hW => ab_q_end (args := args) hP hS ht) hS.2.2 hd hlk
theorem r_45_3 {l : Launch} {G : ab_Gt} {id d pc b : Nat} {v : AV} {ts : List (Int × Nat)} {L : List AV} {σ : Sg} {x : Int32} (hty : ab_mr id = ab_rty 3) (hc : ab_chk (ab_mo id) (ab_mb id) (ab_ml id) pc (45, 3, b, v, ts) = true) : ab_Ret l G id d pc L [vI x] σ (vI (x &&& 1)) σ := by
  obtain ⟨i, n, hd, hn, hc⟩ := ab_chk_inv hc
  change (n == 1 && ab_c45 i 3) = true at hc
  rw [Bool.and_eq_true] at hc
  obtain ⟨h1, hc⟩ := hc
  unfold ab_c45 at hc
  have h1 : n = 1 := by simpa using h1
  subst h1
  intro p e R s m args below meth c cells slots H locs ls C hL oL oS hP hS
  have hr : meth.sig.returnType = ab_rty 3 := by rw [← hty]; exact C.2.2.2.2.2.1
  have hlk : meth.locks = false := C.2.2.2.2.2.2.1
  split at hc <;> first | (exact absurd hc (by decide)) | skip
  exact ab_zret C.1 C.2.1 hr (fun t ht hW => ab_q_end (args := args) hP hS ht) hS.2.2 hd hlk
end
section
/-! calls; and a whole text of steps: what the abstract machine answers, the machine answers -/
theorem ab_goes {p : Program} {l : Launch} {e : Env} {R : Room} {s : State} {m : MethodId} {args : Array Value} {below : List Frame} {meth : Method} {c : Code} {H : Heap} {locs : List Loc} {Q : State → Prop} {G : ab_Gt} {pc cells slots : Nat} {ls : Array Slot} {st0 rest : List Value} {r0 : AV} {σ1 : Sg} {a0 : Array Value}
    (hr : va_Run p l e R s m args below meth c H locs cells slots 0 0 (F0 m pc ls st0) rest (ab_Qc G r0 σ1 a0) (gA G)) (hS : va_S (gA G) s.heap H locs)
    (kk : ∀ (H1 : Heap) (locs1 : List Loc), va_P (gD G) ab_cl (ab_ws G σ1) H1 → va_S (gA G) s.heap H1 locs1 → W p l e R s m args below meth c H1 locs1 cells slots Q (F0 m (pc + 3) ls ((ab_rv G r0).toList ++ rest))) : W p l e R s m args below meth c H locs cells slots Q (F0 m pc ls st0) := by
  intro T hT X
  obtain ⟨v, st₀, t, T', L, h0, X', hL, e1, e2, ⟨hv, hPw, hz, hk⟩, st⟩ := hr T hT X
  have hv := Outcome.returned.inj hv
  subst hv
  rw [h0] at hz hk
  obtain ⟨t2, a1, b1⟩ := kk T'.heap (locs ++ L) (by rw [e1]; exact hPw)
    ⟨Nat.le_trans hS.1 (by rw [e1]; exact hz), fun q h1 h2 => by rw [e1, hk q (Nat.lt_of_lt_of_le h1 hS.1) h2]; exact hS.2.1 q h1 h2, fun q hq => by
      rcases List.mem_append.mp hq with h | h
      · exact hS.2.2 q h
      · exact hL q h⟩ T' rfl X'
  exact ⟨t2, st t2 a1, b1⟩
/-- the receiver is of the method's class -/
def ab_rc2 (id : Nat) (as : List AV) : Prop := match as with
  | .inr (.inr (.inl q)) :: _ => (ab_kd q.1 = 0 ∧ (ab_cl[ab_ci q.1]?).map (fun x => x.1) = some (ab_my id).cls) ∨ (q.1 = 60 ∧ (ab_my id).cls = "java/lang/String")
  | _ => False
def ab_push (r : AV) (st : List AV) : List AV := match r with
  | .inr (.inr (.inr _)) => st
  | r => r :: st
theorem ab_push_val (G : ab_Gt) (r : AV) (st : List AV) : (ab_push r st).map (ab_val G) = (ab_rv G r).toList ++ st.map (ab_val G) := by
  match r with
  | .inl x => rfl
  | .inr (.inl x) => rfl
  | .inr (.inr (.inl q)) => rfl
  | .inr (.inr (.inr u)) => rfl
theorem ab_push_ok {G : ab_Gt} {r : AV} {st : List AV} (hr : ab_isR r = false) (h : ∀ v ∈ st, ab_ok G v) : ∀ v ∈ ab_push r st, ab_ok G v := by
  match r with
  | .inl x => exact okc trivial h
  | .inr (.inl x) => exact okc trivial h
  | .inr (.inr (.inl q)) => cases hr
  | .inr (.inr (.inr u)) => exact h
theorem ab_W_good (id a : Nat) (h : a < 230) : GoodIn (ab_W id) (ab_W a) := by
  intro w hw
  rcases List.mem_cons.mp hw with e | hw
  · rw [e]
    exact ⟨List.mem_cons_of_mem _ (ab_code_in h), good_of_word rfl⟩
  · exact ⟨List.mem_cons_of_mem _ hw, good_of_word (List.mem_filter.mp hw).2⟩
theorem ab_mk_facts {a : Nat} (h : a < 230) : ab_ml a ≤ 40 ∧ Cond.initialized (ab_my a).cls ∈ lw_good ∧ ((ab_my a).cls ≠ "java/lang/invoke/MethodHandle" ∧ (ab_my a).cls ≠ "java/lang/invoke/VarHandle") ∧ plainName (ab_my a).cls = true ∧ (ab_mt a = 0 → Cond.instanceMethod (ab_my a) ∈ lw_good ∧ Cond.selects (ab_my a).cls (ab_my a) (ab_my a) ∈ lw_good) ∧ (ab_mt a ≠ 0 → Cond.static (ab_my a) ∈ lw_good) := by
  have h1 := List.all_eq_true.mp ab_mk_ok a (List.mem_range.mpr h)
  unfold ab_mkb at h1
  rw [Bool.and_eq_true, Bool.and_eq_true, Bool.and_eq_true, Bool.and_eq_true, Bool.and_eq_true, Bool.and_eq_true] at h1
  obtain ⟨⟨⟨⟨⟨⟨-, h2⟩, h3⟩, h4⟩, h5⟩, h6⟩, h7⟩ := h1
  refine ⟨of_decide_eq_true h2, ab_at_in h3, ⟨by simpa using h4, by simpa using h5⟩, h6, fun e => ?_, fun e => ?_⟩
  · rw [e] at h7
    have h7 : (ab_at (ab_mk a).2.1 (.instanceMethod (ab_my a)) && ab_at (ab_mk a).2.2.1 (.selects (ab_my a).cls (ab_my a) (ab_my a))) = true := h7
    rw [Bool.and_eq_true] at h7
    exact ⟨ab_at_in h7.1, ab_at_in h7.2⟩
  · split at h7
    · exact absurd ‹_› e
    · exact ab_at_in h7
def ab_c44v (o : Nat) (n id b ix : Nat) : Bool := n == 3 && (ab_cs o).any (fun q => q.1 == ix && q.2.1 == id && q.2.2.1 + 1 == b && q.2.2.2.1 == 0)
def ab_c44s (o : Nat) (n id b ix : Nat) : Bool := n == 3 && (ab_cs o).any (fun q => q.1 == ix && q.2.1 == id && q.2.2.1 == b && !(q.2.2.2.1 == 0))
def ab_c44 (o : Nat) (i : Instr) (n id b : Nat) : Bool := match i with
  | .invokevirtual ix => ab_c44v o n id b ix
  | .invokestatic ix => ab_c44s o n id b ix
  | _ => false
theorem ab_recv {G : ab_Gt} {σ : Sg} {s : State} {H : Heap} {locs : List Loc} {a : Nat} {q : Nat × Nat} {as : List AV} (hG9 : ∀ q ∈ gP G, ab_kd q.1 ≠ 9) (hP : va_P (gD G) ab_cl (ab_ws G σ) H) (hS : va_S (gA G) s.heap H locs) (hKK : ab_KK G s) (hq : ab_okr G q) (hr : ab_rc2 a (.inr (.inr (.inl q)) :: as)) : ∃ cellB : Cell, H[gad G q.1 q.2]? = some cellB ∧ cellB.vm.isStatics = false ∧ s.vm.findClass (ab_my a).cls = some cellB.cls := by
  obtain ⟨g, i⟩ := q
  rcases hr with ⟨hk, hn⟩ | ⟨hk, hn⟩
  · have hin : (g, i) ∈ gP G := ab_in hq (by rw [show ab_kd g = 0 from hk]; decide)
    obtain ⟨q0, hq0, he⟩ := ab_ws_at σ hin
    rw [ab_ent_0 hk] at he
    obtain ⟨r, h1, cell, h2, h3, h4, h5⟩ := hP q0 _ he
    have h1 : ab_cl[ab_ci g]? = some r := h1
    obtain ⟨-, hfc, -⟩ := hKK.1.1 (ab_ci g) r h1
    refine ⟨cell, h2, by rw [h4]; rfl, ?_⟩
    have hn : (ab_cl[ab_ci g]?).map (fun x => x.1) = some (ab_my a).cls := hn
    rw [h1] at hn
    rw [← Option.some.inj hn, h3]
    exact hfc
  · have hk : g = 60 := hk
    subst hk
    rcases hq with h | ⟨-, h⟩ | h
    · exact absurd rfl (hG9 _ h)
    · obtain ⟨cell, h1, h2, h3⟩ := vk_recv (hKK.2.2.2.2.1) h hS
      exact ⟨cell, h1, h2, by rw [hn]; exact h3⟩
    · cases h
theorem ab_cs_any {o : Nat} {f : Nat × Nat × Nat × Nat × Nat → Bool} (h : (ab_cs o).any f = true) : ∃ q, ab_csb o q = true ∧ f q = true := by
  obtain ⟨q, hq, he⟩ := List.any_eq_true.mp h
  exact ⟨q, List.all_eq_true.mp (ab_cs_ok o (ab_olt (k := 0) hq ab_cs_11)) _ hq, he⟩
theorem ab_rest_ok {G : ab_Gt} {as st : List AV} (h : ∀ v ∈ as.reverse ++ st, ab_ok G v) : (∀ v ∈ as, ab_ok G v) ∧ ∀ v ∈ st, ab_ok G v := ⟨fun v hv => h v (List.mem_append_left _ (List.mem_reverse.mpr hv)), fun v hv => h v (List.mem_append_right _ hv)⟩
theorem ab_Pc_of {G : ab_Gt} {s : State} {H : Heap} {locs : List Loc} {as : List AV} {σ : Sg} (hP : va_P (gD G) ab_cl (ab_ws G σ) H) (hS : va_S (gA G) s.heap H locs) (hKK : ab_KK G s) : ∀ U : State, U.heap = H → s.WarmedH U.vm → ab_Pc G as σ (as.map (ab_val G)).toArray U := fun U hU hW =>
  ⟨rfl, by rw [hU]; exact hP, hKK.moved hW (fun q h1 h2 => by rw [hU]; exact hS.2.1 q h1 h2)⟩
theorem r_44 {l : Launch} {G : ab_Gt} {id d pc a b : Nat} {v : AV} {ts : List (Int × Nat)} {L as st : List AV} {σ σ1 σ2 : Sg} {r r0 : AV} {d' : Nat} (hG : ab_GG G) (hd' : d' + 1 ≤ d) (hlen : as.length = b) (hct : ab_cats st ≤ 8) (hCO : ab_CO l G a d' as σ r0 σ1) (hrc : ab_mt a = 0 → ab_rc2 a as) (hr0 : ab_isR r0 = false)
    (hc : ab_chk (ab_mo id) (ab_mb id) (ab_ml id) pc (44, a, b, v, ts) = true) (k : ab_Ret l G id d (pc + ab_ln (ab_mb id) pc) L (ab_push r0 st) σ1 r σ2) : ab_Ret l G id d pc L (as.reverse ++ st) σ r σ2 := by
  obtain ⟨i, n, hd, hn, hc⟩ := ab_chk_inv hc
  rw [hn] at k
  change ab_c44 (ab_mo id) i n a b = true at hc
  intro p e R s m args below meth c cells slots H locs ls C hL oL oS hP hS
  have go := fun (H : Heap) (locs : List Loc) (ls : Array Slot) => k p e R s m args below meth c cells slots H locs ls C
  obtain ⟨oA, oT⟩ := ab_rest_ok oS
  obtain ⟨hx, hb, hml, hown, hts, hr, hlk, hf, hlo, hKK, hcs⟩ := C
  have hM : ab_Met l G a d' as σ r0 σ1 := hCO oA
  have hsz : ls.size = ab_ml id := hL.1
  have hst : (as.reverse ++ st).map (ab_val G) = (as.map (ab_val G)).reverse ++ st.map (ab_val G) := by rw [List.map_append, List.map_reverse]
  rw [hst]
  have hwd : 2 * 0 + ((st.map (ab_val G)).map fun v => v.category).sum ≤ 8 := by rw [ab_cats_eq]; omega
  unfold ab_c44 at hc
  split at hc
  · rename_i ix
    unfold ab_c44v at hc
    rw [Bool.and_eq_true] at hc
    obtain ⟨h3, hc⟩ := hc
    have h3 : n = 3 := by simpa using h3
    subst h3
    obtain ⟨q, hq, he⟩ := ab_cs_any hc
    obtain ⟨x, y, z, kd, kl⟩ := q
    simp only [Bool.and_eq_true, beq_iff_eq] at he
    obtain ⟨⟨⟨rfl, rfl⟩, hz⟩, rfl⟩ := he
    have hq : (decide (y < 230) && decide ((parseMethodDescriptor (ab_my y).desc).map (fun d => d.parameters.length) = some z) && (ab_at kl (.methodLink (ab_on (ab_mo id)) x (ab_my y)) && ab_mt y == 0)) = true := hq
    simp only [Bool.and_eq_true, beq_iff_eq, decide_eq_true_eq] at hq
    obtain ⟨⟨hy, hpar⟩, hlink, hmt⟩ := hq
    obtain ⟨m1, m2, m3, m4, m5, m6⟩ := ab_mk_facts hy
    obtain ⟨m7, m8⟩ := m5 hmt
    have hrc := hrc hmt
    match as, hrc, hlen, oA, hM with
    | .inr (.inr (.inl q)) :: as, hrc, hlen, oA, hM =>
      have hal : (as.map (ab_val G)).length = z := by
        rw [List.length_map]
        simp only [List.length_cons] at hlen
        omega
      have hcb : CallB R s args (ab_on (ab_mo id)) x (ab_my y) (ab_mb y) (ab_ml y) (ab_mr y) (ab_W y) (ab_R d') 0 0 z := callB_of z hts (ab_W_good id y hy) rfl rfl rfl (ab_gw hts m2) (ab_gw hts (ab_at_in hlink)) ⟨m3.1, m3.2, hpar⟩ ⟨by show d' + 1 ≤ R.frames; omega, by show 8 + (ab_ml y + 11) + 64 * d' ≤ R.locals; omega⟩
      refine ab_goes (r0 := r0) (σ1 := σ1) (a0 := (Value.ref (gad G q.1 q.2) :: as.map (ab_val G)).toArray) (rest := st.map (ab_val G)) (va_runV (As := as.map (ab_val G)) (C := (ab_my y).cls) (b := gad G q.1 q.2) ⟨hx, hb, hml, hown, hts⟩ hM ⟨hcb, ab_gw hts m7, ab_gw hts m8⟩ ⟨ab_Pc.blind G _ σ, ab_recv hG.2.2.2.2 hP hS hKK (oA _ List.mem_cons_self) hrc, ab_Pc_of hP hS hKK⟩ rfl hal hsz ?_ hwd hd hcs) hS (fun H1 locs1 hP1 hS1 => ?_)
      · simp [ab_val]
      · rw [← ab_push_val]
        exact go H1 locs1 ls hL oL (ab_push_ok hr0 oT) hP1 hS1
  · rename_i ix
    unfold ab_c44s at hc
    rw [Bool.and_eq_true] at hc
    obtain ⟨h3, hc⟩ := hc
    have h3 : n = 3 := by simpa using h3
    subst h3
    obtain ⟨q, hq, he⟩ := ab_cs_any hc
    obtain ⟨x, y, z, kd, kl⟩ := q
    simp only [Bool.and_eq_true, beq_iff_eq, Bool.not_eq_true', beq_eq_false_iff_ne] at he
    obtain ⟨⟨⟨rfl, rfl⟩, hz⟩, hkd⟩ := he
    have hal : (as.map (ab_val G)).length = z := by rw [List.length_map]; omega
    match kd, hkd, hq with
    | 1, _, hq =>
      have hq : (decide (y < 230) && decide ((parseMethodDescriptor (ab_my y).desc).map (fun d => d.parameters.length) = some z) && (ab_at kl (.methodLink (ab_on (ab_mo id)) x (ab_my y)) && ab_mt y == 1)) = true := hq
      simp only [Bool.and_eq_true, beq_iff_eq, decide_eq_true_eq] at hq
      obtain ⟨⟨hy, hpar⟩, hlink, hmt⟩ := hq
      obtain ⟨m1, m2, m3, m4, m5, m6⟩ := ab_mk_facts hy
      have m7 := m6 (by rw [hmt]; decide)
      have hcb : CallB R s args (ab_on (ab_mo id)) x (ab_my y) (ab_mb y) (ab_ml y) (ab_mr y) (ab_W y) (ab_R d') 0 0 z := callB_of z hts (ab_W_good id y hy) rfl rfl rfl (ab_gw hts m2) (ab_gw hts (ab_at_in hlink)) ⟨m3.1, m3.2, hpar⟩ ⟨by show d' + 1 ≤ R.frames; omega, by show 8 + (ab_ml y + 11) + 64 * d' ≤ R.locals; omega⟩
      refine ab_goes (r0 := r0) (σ1 := σ1) (a0 := (as.map (ab_val G)).toArray) (rest := st.map (ab_val G)) (va_runS (As := as.map (ab_val G)) ⟨hx, hb, hml, hown, hts⟩ hM ⟨hcb, ab_gw hts m7⟩ ⟨ab_Pc.blind G _ σ, ab_Pc_of hP hS hKK⟩ rfl hal hsz rfl hwd hd hcs) hS (fun H1 locs1 hP1 hS1 => ?_)
      rw [← ab_push_val]
      exact go H1 locs1 ls hL oL (ab_push_ok hr0 oT) hP1 hS1
    | kd + 2, _, hq =>
      have hq : (decide (y < 230) && decide ((parseMethodDescriptor (ab_my y).desc).map (fun d => d.parameters.length) = some z) && (ab_nest (ab_mo id) x (ab_my y) && ab_mt y == 1)) = true := hq
      simp only [Bool.and_eq_true, beq_iff_eq, decide_eq_true_eq] at hq
      obtain ⟨⟨hy, hpar⟩, hlink, hmt⟩ := hq
      obtain ⟨m1, m2, m3, m4, m5, m6⟩ := ab_mk_facts hy
      have m7 := m6 (by rw [hmt]; decide)
      have hnest : va_Nw (.methodLinkNest (ab_on (ab_mo id)) x (ab_my y) "CoatsFitTheMood") s := by
        unfold ab_nest at hlink
        simp only [Bool.or_eq_true, Bool.and_eq_true, beq_iff_eq, decide_eq_true_eq] at hlink
        rcases hlink with (⟨⟨e1, e2⟩, e3⟩ | ⟨⟨e1, e2⟩, e3⟩) | ⟨⟨e1, e2⟩, e3⟩
        · rw [e1, e2, e3]; exact hKK.2.1.1
        · rw [e1, e2, e3]; exact hKK.2.1.2.1
        · rw [e1, e2, e3]; exact hKK.2.1.2.2.1
      have hcn : va_CN R s args (ab_on (ab_mo id)) x (ab_my y) "CoatsFitTheMood" (ab_mb y) (ab_ml y) (ab_mr y) (ab_W y) (ab_R d') 0 0 z := va_cnB z hts (ab_W_good id y hy) rfl rfl rfl hnest (ab_gw hts m2) ⟨m3.1, m3.2, hpar⟩ ⟨by show d' + 1 ≤ R.frames; omega, by show 8 + (ab_ml y + 11) + 64 * d' ≤ R.locals; omega⟩
      refine ab_goes (r0 := r0) (σ1 := σ1) (a0 := (as.map (ab_val G)).toArray) (rest := st.map (ab_val G)) (va_runSN (As := as.map (ab_val G)) ⟨hx, hb, hml, hown, hts⟩ hM ⟨hcn, ab_gw hts m7, trivial⟩ ⟨ab_Pc.blind G _ σ, ab_Pc_of hP hS hKK⟩ rfl hal hsz rfl hwd hd hcs) hS (fun H1 locs1 hP1 hS1 => ?_)
      rw [← ab_push_val]
      exact go H1 locs1 ls hL oL (ab_push_ok hr0 oT) hP1 hS1
  · cases hc
end
section
/-! a whole text of steps -/
def ab_d29 (a : Nat) (x y : Int32) : Int32 := match a with
  | 0 => if x < y then y else x
  | _ => if y < x then y else x
theorem r_29 {l : Launch} {G : ab_Gt} {id d pc a b : Nat} {v : AV} {ts : List (Int × Nat)} {L st : List AV} {σ σ2 : Sg} {r : AV} {x y : Int32} (hd1 : 1 ≤ d) (hct : ab_cats st ≤ 8) (hc : ab_chk (ab_mo id) (ab_mb id) (ab_ml id) pc (29, a, b, v, ts) = true) (k : ab_Ret l G id d (pc + ab_ln (ab_mb id) pc) L (vI (ab_d29 a x y) :: st) σ r σ2) : ab_Ret l G id d pc L (vI y :: vI x :: st) σ r σ2 := by
  match a, hc, k with
  | 0, hc, k => exact r_29a (a := 0) hd1 hct hc k
  | 1, hc, k => exact r_29b (a := 0) hd1 hct hc k
  | a + 2, hc, k =>
    obtain ⟨i, n, hd, hn, hc⟩ := ab_chk_inv hc
    have hc : (ab_cj (ab_mo id) i n (a + 2) && decide (a + 2 < 2)) = true := hc
    rw [Bool.and_eq_true] at hc
    exact absurd (of_decide_eq_true hc.2) (by omega)
theorem ab_st_sound {R : Type} {l : Launch} {G : ab_Gt} {id d pc : Nat} (hG : ab_GG G) (hd1 : 1 ≤ d) {op : AOp} {L st : List AV} {σ : Sg} {k : List AV → List AV → Sg → Option R} {res : R} (hc : ab_chk (ab_mo id) (ab_mb id) (ab_ml id) pc op = true) (h : ab_st op L st σ k = some res) :
    ∃ (L' st' : List AV) (σ' : Sg), k L' st' σ' = some res ∧ ∀ (r : AV) (σ2 : Sg), ab_Ret l G id d (pc + ab_ln (ab_mb id) pc) L' st' σ' r σ2 → ab_Ret l G id d pc L st σ r σ2 := by
  unfold ab_st at h
  split at h
  · exact ⟨_, _, _, h, fun r σ2 k => r_0 hc k⟩
  · split at h
    · rename_i hx
      exact ⟨_, _, _, h, fun r σ2 k => r_1 hc hx k⟩
    · cases h
  · split at h
    · rename_i hx
      exact ⟨_, _, _, h, fun r σ2 k => r_2 hc hx k⟩
    · cases h
  · split at h
    · rename_i hx
      exact ⟨_, _, _, h, fun r σ2 k => r_3 hc hx k⟩
    · cases h
  · split at h
    · exact ⟨_, _, _, h, fun r σ2 k => r_4 hc k⟩
    · cases h
  · split at h
    · exact ⟨_, _, _, h, fun r σ2 k => r_5 hc k⟩
    · cases h
  · split at h
    · exact ⟨_, _, _, h, fun r σ2 k => r_6 hc k⟩
    · cases h
  · split at h
    · rename_i hx
      exact ⟨_, _, _, h, fun r σ2 k => r_7 (v := vU) hc hx k⟩
    · cases h
  · split at h
    · exact ⟨_, _, _, h, fun r σ2 k => r_8 hc k⟩
    · cases h
  · split at h
    · split at h
      · cases h
      · rename_i hy
        exact ⟨_, _, _, h, fun r σ2 k => r_9 hc hy k⟩
    · cases h
  · split at h
    · exact ⟨_, _, _, h, fun r σ2 k => r_10 hc k⟩
    · cases h
  · split at h
    · exact ⟨_, _, _, h, fun r σ2 k => r_11 hc k⟩
    · cases h
  · split at h
    · exact ⟨_, _, _, h, fun r σ2 k => r_12 hc k⟩
    · cases h
  · split at h
    · exact ⟨_, _, _, h, fun r σ2 k => r_13 hc k⟩
    · cases h
  · split at h
    · split at h
      · cases h
      · rename_i hy
        exact ⟨_, _, _, h, fun r σ2 k => r_14 hc hy k⟩
    · cases h
  · split at h
    · exact ⟨_, _, _, h, fun r σ2 k => r_15 hc k⟩
    · cases h
  · split at h
    · exact ⟨_, _, _, h, fun r σ2 k => r_16 hc k⟩
    · exact ⟨_, _, _, h, fun r σ2 k => r_16r hc k⟩
    · cases h
  · split at h
    · exact ⟨_, _, _, h, fun r σ2 k => r_17 hc k⟩
    · cases h
  · split at h
    · split at h
      · rename_i hb
        have hb := Nat.eq_of_beq_eq_true hb
        subst hb
        exact ⟨_, _, _, h, fun r σ2 k => r_18 hG hc k⟩
      · cases h
    · cases h
  · split at h
    · split at h
      · rename_i hb
        have hb := Nat.eq_of_beq_eq_true hb
        subst hb
        exact ⟨_, _, _, h, fun r σ2 k => r_19 hG hc k⟩
      · cases h
    · cases h
  · split at h
    · split at h
      · rename_i hb
        have hb := Nat.eq_of_beq_eq_true hb
        subst hb
        exact ⟨_, _, _, h, fun r σ2 k => r_20 (v := vU) hG hc k⟩
      · cases h
    · cases h
  · split at h
    · split at h
      · rename_i hb
        have hb := Nat.eq_of_beq_eq_true hb
        subst hb
        exact ⟨_, _, _, h, fun r σ2 k => r_21 hG hc k⟩
      · cases h
    · cases h
  · split at h
    · split at h
      · rename_i hb
        have hb := Nat.eq_of_beq_eq_true hb
        subst hb
        split at h
        · rename_i e
          subst e
          exact ⟨_, _, _, h, fun r σ2 k => r_22 hG hc (Or.inl rfl) k⟩
        · split at h
          · rename_i e
            subst e
            exact ⟨_, _, _, h, fun r σ2 k => r_22 hG hc (Or.inr rfl) k⟩
          · cases h
      · cases h
    · cases h
  · split at h
    · split at h
      · rename_i hb
        have hb := Nat.eq_of_beq_eq_true hb
        subst hb
        split at h
        · rename_i e
          exact ⟨_, _, _, h, fun r σ2 k => r_23 hG hc e k⟩
        · cases h
      · cases h
    · cases h
  · split at h
    · split at h
      · rename_i hb
        have hb := Nat.eq_of_beq_eq_true hb
        subst hb
        split at h
        · cases h
        · split at h
          · cases h
          · rename_i e1 e2
            exact ⟨_, _, _, h, fun r σ2 k => r_24 hG hc e1 e2 k⟩
      · cases h
    · cases h
  · split at h
    · split at h
      · rename_i hb
        have hb := Nat.eq_of_beq_eq_true hb
        subst hb
        split at h
        · cases h
        · split at h
          · cases h
          · rename_i e1 e2
            exact ⟨_, _, _, h, fun r σ2 k => r_25 hG hc e1 e2 k⟩
      · cases h
    · cases h
  · split at h
    · split at h
      · rename_i hb
        have hb := Nat.eq_of_beq_eq_true hb
        subst hb
        split at h
        · cases h
        · split at h
          · cases h
          · rename_i e1 e2
            exact ⟨_, _, _, h, fun r σ2 k => r_26 hG hc e1 e2 k⟩
      · cases h
    · cases h
  · split at h
    · split at h
      · rename_i hb
        have hb := Nat.eq_of_beq_eq_true hb
        subst hb
        split at h
        · cases h
        · split at h
          · cases h
          · rename_i e1 e2
            exact ⟨_, _, _, h, fun r σ2 k => r_27 hG hc e1 e2 k⟩
      · cases h
    · cases h
  · split at h
    · split at h
      · rename_i hb
        have hb := Nat.eq_of_beq_eq_true hb
        subst hb
        split at h
        · cases h
        · split at h
          · cases h
          · rename_i e1 e2
            exact ⟨_, _, _, h, fun r σ2 k => r_28 hG hc e1 e2 k⟩
      · cases h
    · cases h
  · split at h
    · split at h
      · rename_i hb
        exact ⟨_, _, _, h, fun r σ2 k => r_29 hd1 (Nat.le_of_ble_eq_true hb) hc k⟩
      · cases h
    · cases h
  · split at h
    · split at h
      · rename_i hb
        exact ⟨_, _, _, h, fun r σ2 k => r_30 hd1 (Nat.le_of_ble_eq_true hb) hc k⟩
      · cases h
    · cases h
  · split at h
    · split at h
      · rename_i hb
        rw [Bool.and_eq_true, Bool.and_eq_true] at hb
        obtain ⟨⟨b1, b2⟩, b3⟩ := hb
        have b1 := Nat.eq_of_beq_eq_true b1
        have b2 := Nat.eq_of_beq_eq_true b2
        subst b1
        subst b2
        split at h
        · cases h
        · split at h
          · cases h
          · split at h
            · cases h
            · split at h
              · cases h
              · split at h
                · cases h
                · rename_i c1 c2 c3 c4 c5
                  exact ⟨_, _, _, h, fun r σ2 k => r_31 hG hd1 (Nat.le_of_ble_eq_true b3) c1 c2 c3 c4 c5 hc k⟩
      · cases h
    · cases h
  · split at h
    · split at h
      · cases h
      · split at h
        · cases h
        · rename_i e1 e2
          exact ⟨_, _, _, h, fun r σ2 k => r_34 hG hc e1 e2 k⟩
    · cases h
  · cases h
theorem ab_lk_mem {α : Type} : ∀ {l : List (Nat × α)} {n : Nat} {x : α}, ab_lk l n = some x → (n, x) ∈ l := by
  intro l
  induction l with
  | nil => intro n x h; cases h
  | cons q r ih =>
    intro n x h
    obtain ⟨i, y⟩ := q
    unfold ab_lk at h
    split at h
    · rename_i hb
      have hb := Nat.eq_of_beq_eq_true hb
      cases h
      subst hb
      exact List.mem_cons_self
    · exact List.mem_cons_of_mem _ (ih h)
theorem ab_pop_eq : ∀ (n : Nat) (st acc : List AV) (as st' : List AV), ab_pop n st acc = some (as, st') → ∃ bs, as = bs ++ acc ∧ bs.length = n ∧ st = bs.reverse ++ st' := by
  intro n
  induction n with
  | zero =>
    intro st acc as st' h
    cases st with
    | nil =>
      unfold ab_pop at h
      have h := Prod.mk.inj (Option.some.inj h)
      exact ⟨[], h.1.symm, rfl, h.2⟩
    | cons v st =>
      unfold ab_pop at h
      have h := Prod.mk.inj (Option.some.inj h)
      exact ⟨[], h.1.symm, rfl, h.2⟩
  | succ n ih =>
    intro st acc as st' h
    cases st with
    | nil => cases h
    | cons v st =>
      unfold ab_pop at h
      obtain ⟨bs, h1, h2, h3⟩ := ih _ _ _ _ h
      refine ⟨bs ++ [v], by simp [h1], by simp [h2], ?_⟩
      rw [h3]
      simp
/-- a call that a text takes for granted is the machine's -/
def ab_CS {R : Type} (l : Launch) (G : ab_Gt) (id d : Nat) (f : ACall R) : Prop := ∀ (as : List AV) (σ : Sg) (k : AV → Sg → Option R) (res : R), f as σ k = some res → ∃ (r : AV) (σ1 : Sg), ab_CO l G id d as σ r σ1 ∧ ab_isR r = false ∧ (ab_mt id = 0 → ab_rc2 id as) ∧ k r σ1 = some res
/-- from a place on -/
def ab_KS {R : Type} (l : Launch) (G : ab_Gt) (id d : Nat) (fin : AV → Sg → Option R) (pc : Nat) (f : ACut R) : Prop := ∀ (L st : List AV) (σ : Sg) (res : R), f L st σ = some res → ∃ (r : AV) (σ' : Sg), ab_Ret l G id d pc L st σ r σ' ∧ fin r σ' = some res
theorem ab_ev_sound {R : Type} {l : Launch} {G : ab_Gt} {id d ty : Nat} (hG : ab_GG G) (hd1 : 1 ≤ d) {tab : List (Nat × List AOp)} {Os : List (Nat × ACall R)} {Ks : List (Nat × ACut R)} {fin : AV → Sg → Option R}
    (hty : ab_mr id = ab_rty ty) (hO : ∀ q ∈ Os, ∃ d', d' + 1 ≤ d ∧ ab_CS l G q.1 d' q.2) (hK : ∀ q ∈ Ks, ab_KS l G id d fin q.1 q.2) (hT : ∀ q ∈ tab, ab_bk (ab_mo id) (ab_mb id) (ab_ml id) ty q.1 q.2 = true) :
    ∀ (n : Nat) (ops : List AOp) (pc : Nat) (L st : List AV) (σ : Sg) (res : R), ab_bk (ab_mo id) (ab_mb id) (ab_ml id) ty pc ops = true → ab_ev tab Os Ks fin n ops L st σ = some res → ∃ (r : AV) (σ' : Sg), ab_Ret l G id d pc L st σ r σ' ∧ fin r σ' = some res := by
  intro n
  induction n with
  | zero => intro ops pc L st σ res hb h; cases h
  | succ n ih =>
    intro ops pc L st σ res hb h
    have jmp : ∀ (t : Nat) (L st : List AV) (σ : Sg) (res : R), (match ab_lk Ks t with
        | some c => c L st σ
        | none => match ab_lk tab t with
          | some o => ab_ev tab Os Ks fin n o L st σ
          | none => none) = some res → ∃ (r : AV) (σ' : Sg), ab_Ret l G id d t L st σ r σ' ∧ fin r σ' = some res := by
      intro t L st σ res h
      split at h
      · rename_i hk
        exact hK _ (ab_lk_mem hk) L st σ res h
      · split at h
        · rename_i ho
          exact ih _ t L st σ res (hT _ (ab_lk_mem ho)) h
        · cases h
    cases ops with
    | nil => cases h
    | cons op ops =>
      obtain ⟨k, a, b, v, ts⟩ := op
      by_cases hps : k = 40 ∧ b = 1
      · obtain ⟨rfl, rfl⟩ := hps
        have hb : (a == pc) = true := hb
        have hb : a = pc := by simpa using hb
        subst hb
        exact jmp a L st σ res h
      · by_cases h45 : k = 45
        · subst h45
          have hb : (a == ty && ab_chk (ab_mo id) (ab_mb id) (ab_ml id) pc (45, a, b, v, ts)) = true := hb
          rw [Bool.and_eq_true] at hb
          obtain ⟨e, hc⟩ := hb
          have e : a = ty := by simpa using e
          subst e
          unfold ab_ev at h
          match a, hty, hc, h with
          | 0, hty, hc, h =>
            match st, h with
            | [], h => exact ⟨_, _, r_45_0 hty hc, h⟩
          | 1, hty, hc, h =>
            match st, h with
            | [.inl x], h => exact ⟨_, _, r_45_1 hty hc, h⟩
          | 2, hty, hc, h =>
            match st, h with
            | [.inr (.inl x)], h => exact ⟨_, _, r_45_2 hty hc, h⟩
          | 3, hty, hc, h =>
            match st, h with
            | [.inl x], h => exact ⟨_, _, r_45_3 hty hc, h⟩
          | a + 4, hty, hc, h =>
            obtain ⟨i, n, -, -, hc⟩ := ab_chk_inv hc
            have hc : (n == 1 && ab_c45 i (a + 4)) = true := hc
            unfold ab_c45 at hc
            rw [Bool.and_eq_true] at hc
            obtain ⟨-, hc⟩ := hc
            split at hc <;> simp at hc
        · have hb2 : (ab_chk (ab_mo id) (ab_mb id) (ab_ml id) pc (k, a, b, v, ts) && ab_bk (ab_mo id) (ab_mb id) (ab_ml id) ty (pc + ab_ln (ab_mb id) pc) ops) = true := by
            unfold ab_bk at hb
            split at hb
            · rename_i e
              have e := Prod.mk.inj e
              exact absurd ⟨e.1, (Prod.mk.inj (Prod.mk.inj e.2).2).1⟩ hps
            · rename_i e
              exact absurd (Prod.mk.inj e).1 h45
            · exact hb
          rw [Bool.and_eq_true] at hb2
          obtain ⟨hc, hb3⟩ := hb2
          unfold ab_ev at h
          split at h
          · obtain ⟨r, σ', h1, h2⟩ := jmp a L st σ res h
            exact ⟨r, σ', r_40 hc h1, h2⟩
          · split at h
            · rcases ab_cnd_or h with ⟨q, h⟩ | ⟨q, h⟩
              · obtain ⟨r, σ', h1, h2⟩ := jmp _ _ _ _ _ h
                exact ⟨r, σ', r_41 hc (Or.inl ⟨q, h1⟩), h2⟩
              · obtain ⟨r, σ', h1, h2⟩ := ih _ _ _ _ _ _ hb3 h
                exact ⟨r, σ', r_41 hc (Or.inr ⟨q, h1⟩), h2⟩
            · cases h
          · split at h
            · rcases ab_cnd_or h with ⟨q, h⟩ | ⟨q, h⟩
              · obtain ⟨r, σ', h1, h2⟩ := jmp _ _ _ _ _ h
                exact ⟨r, σ', r_42 hc (Or.inl ⟨q, h1⟩), h2⟩
              · obtain ⟨r, σ', h1, h2⟩ := ih _ _ _ _ _ _ hb3 h
                exact ⟨r, σ', r_42 hc (Or.inr ⟨q, h1⟩), h2⟩
            · cases h
          · split at h
            · rw [ab_sw_eq] at h
              obtain ⟨r, σ', h1, h2⟩ := jmp _ _ _ _ _ h
              exact ⟨r, σ', r_43 hc h1, h2⟩
            · cases h
          · split at h
            · rename_i as st' hpop
              split at h
              · rename_i hct
                split at h
                · rename_i f hf
                  obtain ⟨d', hd', hCS⟩ := hO _ (ab_lk_mem hf)
                  obtain ⟨r0, σ1, hCO, hr0, hrc, h⟩ := hCS _ _ _ _ h
                  obtain ⟨bs, e1, e2, e3⟩ := ab_pop_eq _ _ _ _ _ hpop
                  rw [List.append_nil] at e1
                  subst e1
                  subst e3
                  have hkey : ∃ (r : AV) (σ' : Sg), ab_Ret l G id d (pc + ab_ln (ab_mb id) pc) L (ab_push r0 st') σ1 r σ' ∧ fin r σ' = some res := by
                    match r0, hr0, h with
                    | .inl x, _, h => exact ih _ _ _ _ _ _ hb3 h
                    | .inr (.inl x), _, h => exact ih _ _ _ _ _ _ hb3 h
                    | .inr (.inr (.inr u)), _, h => exact ih _ _ _ _ _ _ hb3 h
                  obtain ⟨r, σ', h1, h2⟩ := hkey
                  exact ⟨r, σ', r_44 hG hd' e2 (Nat.le_of_ble_eq_true hct) hCO hrc hr0 hc h1, h2⟩
                · cases h
              · cases h
            · cases h
          · exact absurd rfl h45
          · obtain ⟨L', st', σ', h1, h2⟩ := ab_st_sound (l := l) hG hd1 hc h
            obtain ⟨r, σ2, h3, h4⟩ := ih _ _ _ _ _ _ hb3 h1
            exact ⟨r, σ2, h2 _ _ h3, h4⟩
/-- the locals with which a method begins -/
def ab_lay : List AV → List AV
  | [] => []
  | .inr (.inl x) :: r => vL x :: vU :: ab_lay r
  | v :: r => v :: ab_lay r
def ab_ini (n : Nat) (as : List AV) : List AV := ab_lay as ++ List.replicate (n - (ab_lay as).length) vU
theorem ab_sl_cons (w : Value) (ws : List Value) : lg_sl (w :: ws) = (if w.category = 2 then [.val w, .second] else [.val w]) ++ lg_sl ws := by
  simp only [lg_sl, List.flatMap_cons]
theorem ab_lay_len (G : ab_Gt) (as : List AV) : (lg_sl (as.map (ab_val G))).length = (ab_lay as).length := by
  induction as with
  | nil => rfl
  | cons v r ih =>
    rw [List.map_cons, ab_sl_cons, List.length_append, ih]
    match v with
    | .inl x =>
      rw [if_neg (show ¬ (ab_val G (.inl x)).category = 2 from fun h => by cases h)]
      simp only [ab_lay, List.length_cons, List.length_nil]; omega
    | .inr (.inl x) =>
      rw [if_pos (show (ab_val G (.inr (.inl x))).category = 2 from rfl)]
      simp only [ab_lay, List.length_cons, List.length_nil]; omega
    | .inr (.inr (.inl q)) =>
      rw [if_neg (show ¬ (ab_val G (.inr (.inr (.inl q)))).category = 2 from fun h => by cases h)]
      simp only [ab_lay, List.length_cons, List.length_nil]; omega
    | .inr (.inr (.inr u)) =>
      rw [if_neg (show ¬ (ab_val G (.inr (.inr (.inr u)))).category = 2 from fun h => by cases h)]
      simp only [ab_lay, List.length_cons, List.length_nil]; omega
theorem ab_nth_app {a b : List AV} {i : Nat} : ab_nth vU (a ++ b) i = if i < a.length then ab_nth vU a i else ab_nth vU b (i - a.length) := by
  induction a generalizing i with
  | nil => simp
  | cons x r ih =>
    cases i with
    | zero => simp [ab_nth]
    | succ i => simp [ab_nth, ih, Nat.add_lt_add_iff_right]
theorem ab_nth_rep {n i : Nat} : ab_nth vU (List.replicate n vU) i = vU := by
  induction n generalizing i with
  | zero => cases i <;> rfl
  | succ n ih =>
    rw [List.replicate_succ]
    cases i with
    | zero => rfl
    | succ i => exact ih
theorem ab_lay_mem (G : ab_Gt) (as : List AV) : ∀ (j i : Nat), ab_nth vU (ab_lay as) i ≠ vU → (j + i, ab_val G (ab_nth vU (ab_lay as) i)) ∈ lv_args j (as.map (ab_val G)) := by
  induction as with
  | nil => intro j i h; exact absurd (by cases i <;> rfl) h
  | cons v r ih =>
    intro j i h
    have one : ∀ w : AV, ab_lay (w :: r) = w :: ab_lay r → (ab_val G w).category = 1 → ab_nth vU (ab_lay (w :: r)) i ≠ vU → (j + i, ab_val G (ab_nth vU (ab_lay (w :: r)) i)) ∈ lv_args j ((w :: r).map (ab_val G)) := by
      intro w e ec h
      rw [e] at h ⊢
      simp only [List.map_cons, lv_args]
      cases i with
      | zero => exact List.mem_cons_self
      | succ i =>
        refine List.mem_cons_of_mem _ ?_
        have hn : ¬ (ab_val G w).category = 2 := by rw [ec]; decide
        rw [if_neg hn]
        have := ih (j + 1) i h
        have e2 : j + 1 + i = j + (i + 1) := by omega
        rw [e2] at this
        exact this
    match v, h with
    | .inl x, h => exact one _ rfl rfl h
    | .inr (.inr (.inl q)), h => exact one _ rfl rfl h
    | .inr (.inr (.inr u)), h => exact one _ rfl rfl h
    | .inr (.inl x), h =>
      simp only [List.map_cons, lv_args]
      match i, h with
      | 0, h => exact List.mem_cons_self
      | 1, h => exact absurd rfl h
      | i + 2, h =>
        refine List.mem_cons_of_mem _ ?_
        have hn : (ab_val G (vL x)).category = 2 := rfl
        rw [if_pos hn]
        have := ih (j + 2) i h
        have e2 : j + 2 + i = j + (i + 2) := by omega
        rw [e2] at this
        exact this
theorem ab_ini_ok {G : ab_Gt} {n : Nat} {as : List AV} (h : ∀ v ∈ as, ab_ok G v) : ∀ v ∈ ab_ini n as, ab_ok G v := by
  have h1 : ∀ v ∈ ab_lay as, ab_ok G v := by
    induction as with
    | nil => intro v hv; cases hv
    | cons w r ih =>
      have hr := ih (okt h)
      match w, h with
      | .inl x, h => exact okc trivial hr
      | .inr (.inl x), h => exact okc trivial (okc trivial hr)
      | .inr (.inr (.inl q)), h => exact okc (h _ List.mem_cons_self) hr
      | .inr (.inr (.inr u)), h => exact okc trivial hr
  intro v hv
  rcases List.mem_append.mp hv with hv | hv
  · exact h1 v hv
  · rw [List.eq_of_mem_replicate hv]; trivial
/-- a method's contract out of what its text answers from its entry -/
theorem ab_met {l : Launch} {G : ab_Gt} {id d : Nat} {as : List AV} {σ σ' : Sg} {r : AV} (hid : id < 230) (hown : ab_on (ab_mo id) = (ab_my id).cls) (hfit : (ab_lay as).length ≤ ab_ml id) (h : ab_Ret l G id d 0 (ab_ini (ab_ml id) as) [] σ r σ') : ab_CO l G id d as σ r σ' := by
  intro oA
  obtain ⟨m1, m2, m3, m4, m5, m6⟩ := ab_mk_facts hid
  refine Met.ofW (cc := ab_mb id) (maxL := ab_ml id) (ret := ab_mr id) m4 rfl ?_
  intro p e s m args below meth c s₁ B hml hv
  obtain ⟨ha, hP, hKK⟩ := hv
  subst ha
  have hfit' : (lg_sl (as.map (ab_val G))).length ≤ ab_ml id := by rw [ab_lay_len]; exact hfit
  rw [lg_entry_eq]
  have hl := lv_entry (as.map (ab_val G)) hfit'
  refine h p e _ s m _ below meth c 0 0 s.heap [] _ ⟨B.exec, B.bytes, hml, by rw [hown]; exact findClass_of_methodNamed B.named, atoms_spec (ws := ab_W id) B.pre, B.returns, B.notSynchronized, Nat.le_refl _, Nat.le_refl _, hKK, Nat.zero_le _, Nat.zero_le _⟩ (ab_LH.of hl ?_ (fun i hi => ?_)) (ab_ini_ok oA) (fun v hv => by cases hv) hP va_S.rf
  · simp only [ab_ini, List.length_append, List.length_replicate]; omega
  · unfold ab_ini at hi ⊢
    rw [ab_nth_app] at hi ⊢
    by_cases hlt : i < (ab_lay as).length
    · rw [if_pos hlt] at hi ⊢
      have := ab_lay_mem G as 0 i hi
      rw [Nat.zero_add] at this
      exact this
    · rw [if_neg hlt, ab_nth_rep] at hi
      exact absurd rfl hi
end
