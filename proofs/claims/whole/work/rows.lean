section
-- ===== PART A: goes FIRST, ahead of the names: the tables' words, and 'selects' of the private methods out of them =====
/-- a private method of a class that the tables say can be made, by its rows of tables_1 -/
def lw_okq (q : MethodName × Nat) : Prop := (q.1.cls ≠ "java/lang/invoke/MethodHandle" ∧ q.1.cls ≠ "java/lang/invoke/VarHandle") ∧ Cond.instantiable q.1.cls q.2 ∈ tables_1 ∧ Cond.privateMethod q.1 ∈ tables_1 ∧ Cond.instanceMethod q.1 ∈ tables_1
theorem lw_p0 : lw_okq (⟨"NamedToWed", "isName", "(I)Z"⟩, 18) := ⟨⟨by decide +kernel, by decide +kernel⟩, List.mem_of_getElem? (i := 19) (by decide +kernel), List.mem_of_getElem? (i := 447) (by decide +kernel), List.mem_of_getElem? (i := 448) (by decide +kernel)⟩
theorem lw_p1 : lw_okq (⟨"NamedToWed$Rule", "readWives", "(LNamedToWed$Tape;)I"⟩, 5) := ⟨⟨by decide +kernel, by decide +kernel⟩, List.mem_of_getElem? (i := 59) (by decide +kernel), List.mem_of_getElem? (i := 554) (by decide +kernel), List.mem_of_getElem? (i := 555) (by decide +kernel)⟩
theorem lw_p2 : lw_okq (⟨"NamedToWed$Rule", "readChildren", "(LNamedToWed$Tape;)I"⟩, 5) := ⟨⟨by decide +kernel, by decide +kernel⟩, List.mem_of_getElem? (i := 59) (by decide +kernel), List.mem_of_getElem? (i := 566) (by decide +kernel), List.mem_of_getElem? (i := 567) (by decide +kernel)⟩
theorem lw_p3 : lw_okq (⟨"NamedToWed$Houses", "findHeads", "(LNamedToWed$Roll;)V"⟩, 7) := ⟨⟨by decide +kernel, by decide +kernel⟩, List.mem_of_getElem? (i := 298) (by decide +kernel), List.mem_of_getElem? (i := 590) (by decide +kernel), List.mem_of_getElem? (i := 591) (by decide +kernel)⟩
theorem lw_p4 : lw_okq (⟨"NamedToWed$Houses", "joinTo", "(LNamedToWed$Roll;II)V"⟩, 7) := ⟨⟨by decide +kernel, by decide +kernel⟩, List.mem_of_getElem? (i := 298) (by decide +kernel), List.mem_of_getElem? (i := 594) (by decide +kernel), List.mem_of_getElem? (i := 595) (by decide +kernel)⟩
theorem lw_p5 : lw_okq (⟨"NamedToWed$Houses", "nameAll", "(LNamedToWed$Rule;LNamedToWed$Roll;I)V"⟩, 7) := ⟨⟨by decide +kernel, by decide +kernel⟩, List.mem_of_getElem? (i := 298) (by decide +kernel), List.mem_of_getElem? (i := 612) (by decide +kernel), List.mem_of_getElem? (i := 613) (by decide +kernel)⟩
theorem lw_p6 : lw_okq (⟨"NamedToWed$Houses", "nameNext", "(LNamedToWed$Rule;LNamedToWed$Roll;III)Z"⟩, 7) := ⟨⟨by decide +kernel, by decide +kernel⟩, List.mem_of_getElem? (i := 298) (by decide +kernel), List.mem_of_getElem? (i := 616) (by decide +kernel), List.mem_of_getElem? (i := 617) (by decide +kernel)⟩
theorem lw_p7 : lw_okq (⟨"NamedToWed$Houses", "findBroken", "(LNamedToWed$Rule;LNamedToWed$Roll;)V"⟩, 7) := ⟨⟨by decide +kernel, by decide +kernel⟩, List.mem_of_getElem? (i := 298) (by decide +kernel), List.mem_of_getElem? (i := 628) (by decide +kernel), List.mem_of_getElem? (i := 629) (by decide +kernel)⟩
theorem lw_p8 : lw_okq (⟨"NamedToWed$Houses", "fits", "(LNamedToWed$Rule;LNamedToWed$Roll;III)Z"⟩, 7) := ⟨⟨by decide +kernel, by decide +kernel⟩, List.mem_of_getElem? (i := 298) (by decide +kernel), List.mem_of_getElem? (i := 632) (by decide +kernel), List.mem_of_getElem? (i := 633) (by decide +kernel)⟩
theorem lw_p9 : lw_okq (⟨"NamedToWed$Houses", "takeIn", "(LNamedToWed$Roll;)V"⟩, 7) := ⟨⟨by decide +kernel, by decide +kernel⟩, List.mem_of_getElem? (i := 298) (by decide +kernel), List.mem_of_getElem? (i := 636) (by decide +kernel), List.mem_of_getElem? (i := 637) (by decide +kernel)⟩
theorem lw_p10 : lw_okq (⟨"NamedToWed$Roll", "readPerson", "(LNamedToWed$Tape;I)I"⟩, 11) := ⟨⟨by decide +kernel, by decide +kernel⟩, List.mem_of_getElem? (i := 96) (by decide +kernel), List.mem_of_getElem? (i := 654) (by decide +kernel), List.mem_of_getElem? (i := 655) (by decide +kernel)⟩
theorem lw_p11 : lw_okq (⟨"NamedToWed$Roll", "readParents", "(LNamedToWed$Tape;)I"⟩, 11) := ⟨⟨by decide +kernel, by decide +kernel⟩, List.mem_of_getElem? (i := 96) (by decide +kernel), List.mem_of_getElem? (i := 661) (by decide +kernel), List.mem_of_getElem? (i := 662) (by decide +kernel)⟩
theorem lw_p12 : lw_okq (⟨"NamedToWed$Roll", "readParent", "(LNamedToWed$Tape;I)I"⟩, 11) := ⟨⟨by decide +kernel, by decide +kernel⟩, List.mem_of_getElem? (i := 96) (by decide +kernel), List.mem_of_getElem? (i := 665) (by decide +kernel), List.mem_of_getElem? (i := 666) (by decide +kernel)⟩
theorem lw_p13 : lw_okq (⟨"NamedToWed$Roll", "readNumber", "(LNamedToWed$Tape;)I"⟩, 11) := ⟨⟨by decide +kernel, by decide +kernel⟩, List.mem_of_getElem? (i := 96) (by decide +kernel), List.mem_of_getElem? (i := 669) (by decide +kernel), List.mem_of_getElem? (i := 670) (by decide +kernel)⟩
theorem lw_p14 : lw_okq (⟨"NamedToWed$Roll", "readSpouse", "(LNamedToWed$Tape;)I"⟩, 11) := ⟨⟨by decide +kernel, by decide +kernel⟩, List.mem_of_getElem? (i := 96) (by decide +kernel), List.mem_of_getElem? (i := 676) (by decide +kernel), List.mem_of_getElem? (i := 677) (by decide +kernel)⟩
theorem lw_p15 : lw_okq (⟨"NamedToWed$Roll", "relateAll", "()V"⟩, 11) := ⟨⟨by decide +kernel, by decide +kernel⟩, List.mem_of_getElem? (i := 96) (by decide +kernel), List.mem_of_getElem? (i := 680) (by decide +kernel), List.mem_of_getElem? (i := 681) (by decide +kernel)⟩
def lw_privs_1 : List (MethodName × Nat) := [(⟨"NamedToWed", "isName", "(I)Z"⟩, 18), (⟨"NamedToWed$Rule", "readWives", "(LNamedToWed$Tape;)I"⟩, 5), (⟨"NamedToWed$Rule", "readChildren", "(LNamedToWed$Tape;)I"⟩, 5), (⟨"NamedToWed$Houses", "findHeads", "(LNamedToWed$Roll;)V"⟩, 7), (⟨"NamedToWed$Houses", "joinTo", "(LNamedToWed$Roll;II)V"⟩, 7), (⟨"NamedToWed$Houses", "nameAll", "(LNamedToWed$Rule;LNamedToWed$Roll;I)V"⟩, 7), (⟨"NamedToWed$Houses", "nameNext", "(LNamedToWed$Rule;LNamedToWed$Roll;III)Z"⟩, 7), (⟨"NamedToWed$Houses", "findBroken", "(LNamedToWed$Rule;LNamedToWed$Roll;)V"⟩, 7), (⟨"NamedToWed$Houses", "fits", "(LNamedToWed$Rule;LNamedToWed$Roll;III)Z"⟩, 7), (⟨"NamedToWed$Houses", "takeIn", "(LNamedToWed$Roll;)V"⟩, 7), (⟨"NamedToWed$Roll", "readPerson", "(LNamedToWed$Tape;I)I"⟩, 11), (⟨"NamedToWed$Roll", "readParents", "(LNamedToWed$Tape;)I"⟩, 11), (⟨"NamedToWed$Roll", "readParent", "(LNamedToWed$Tape;I)I"⟩, 11), (⟨"NamedToWed$Roll", "readNumber", "(LNamedToWed$Tape;)I"⟩, 11), (⟨"NamedToWed$Roll", "readSpouse", "(LNamedToWed$Tape;)I"⟩, 11), (⟨"NamedToWed$Roll", "relateAll", "()V"⟩, 11)]
theorem lw_r1 : ∀ q ∈ lw_privs_1, lw_okq q := List.forall_mem_cons.mpr ⟨lw_p0, List.forall_mem_cons.mpr ⟨lw_p1, List.forall_mem_cons.mpr ⟨lw_p2, List.forall_mem_cons.mpr ⟨lw_p3, List.forall_mem_cons.mpr ⟨lw_p4, List.forall_mem_cons.mpr ⟨lw_p5, List.forall_mem_cons.mpr ⟨lw_p6, List.forall_mem_cons.mpr ⟨lw_p7, List.forall_mem_cons.mpr ⟨lw_p8, List.forall_mem_cons.mpr ⟨lw_p9, List.forall_mem_cons.mpr ⟨lw_p10, List.forall_mem_cons.mpr ⟨lw_p11, List.forall_mem_cons.mpr ⟨lw_p12, List.forall_mem_cons.mpr ⟨lw_p13, List.forall_mem_cons.mpr ⟨lw_p14, List.forall_mem_cons.mpr ⟨lw_p15, fun _ h => absurd h List.not_mem_nil⟩⟩⟩⟩⟩⟩⟩⟩⟩⟩⟩⟩⟩⟩⟩⟩
theorem lw_p16 : lw_okq (⟨"NamedToWed$Word", "readByte", "(LNamedToWed$Tape;)I"⟩, 9) := ⟨⟨by decide +kernel, by decide +kernel⟩, List.mem_of_getElem? (i := 203) (by decide +kernel), List.mem_of_getElem? (i := 702) (by decide +kernel), List.mem_of_getElem? (i := 703) (by decide +kernel)⟩
theorem lw_p17 : lw_okq (⟨"NamedToWed$Word", "openRound", "(LNamedToWed$Tape;)I"⟩, 9) := ⟨⟨by decide +kernel, by decide +kernel⟩, List.mem_of_getElem? (i := 203) (by decide +kernel), List.mem_of_getElem? (i := 707) (by decide +kernel), List.mem_of_getElem? (i := 708) (by decide +kernel)⟩
theorem lw_p18 : lw_okq (⟨"NamedToWed$Word", "startHere", "(LNamedToWed$Tape;)I"⟩, 9) := ⟨⟨by decide +kernel, by decide +kernel⟩, List.mem_of_getElem? (i := 203) (by decide +kernel), List.mem_of_getElem? (i := 712) (by decide +kernel), List.mem_of_getElem? (i := 713) (by decide +kernel)⟩
theorem lw_p19 : lw_okq (⟨"NamedToWed$Word", "timesHere", "()I"⟩, 9) := ⟨⟨by decide +kernel, by decide +kernel⟩, List.mem_of_getElem? (i := 203) (by decide +kernel), List.mem_of_getElem? (i := 716) (by decide +kernel), List.mem_of_getElem? (i := 717) (by decide +kernel)⟩
theorem lw_p20 : lw_okq (⟨"NamedToWed$Word", "closeRound", "(LNamedToWed$Tape;)I"⟩, 9) := ⟨⟨by decide +kernel, by decide +kernel⟩, List.mem_of_getElem? (i := 203) (by decide +kernel), List.mem_of_getElem? (i := 721) (by decide +kernel), List.mem_of_getElem? (i := 722) (by decide +kernel)⟩
theorem lw_p21 : lw_okq (⟨"NamedToWed$Word", "addStep", "(ILNamedToWed$Tape;)I"⟩, 9) := ⟨⟨by decide +kernel, by decide +kernel⟩, List.mem_of_getElem? (i := 203) (by decide +kernel), List.mem_of_getElem? (i := 731) (by decide +kernel), List.mem_of_getElem? (i := 732) (by decide +kernel)⟩
theorem lw_p22 : lw_okq (⟨"NamedToWed$Word", "firstNoSpouse", "(I)I"⟩, 9) := ⟨⟨by decide +kernel, by decide +kernel⟩, List.mem_of_getElem? (i := 203) (by decide +kernel), List.mem_of_getElem? (i := 735) (by decide +kernel), List.mem_of_getElem? (i := 736) (by decide +kernel)⟩
theorem lw_p23 : lw_okq (⟨"NamedToWed$Word", "circle", "(LNamedToWed$Rule;II)I"⟩, 9) := ⟨⟨by decide +kernel, by decide +kernel⟩, List.mem_of_getElem? (i := 203) (by decide +kernel), List.mem_of_getElem? (i := 762) (by decide +kernel), List.mem_of_getElem? (i := 763) (by decide +kernel)⟩
theorem lw_p24 : lw_okq (⟨"NamedToWed$Word", "isLawful", "(LNamedToWed$Rule;II)Z"⟩, 9) := ⟨⟨by decide +kernel, by decide +kernel⟩, List.mem_of_getElem? (i := 203) (by decide +kernel), List.mem_of_getElem? (i := 770) (by decide +kernel), List.mem_of_getElem? (i := 771) (by decide +kernel)⟩
theorem lw_p25 : lw_okq (⟨"NamedToWed$Changes", "reach", "([II)V"⟩, 6) := ⟨⟨by decide +kernel, by decide +kernel⟩, List.mem_of_getElem? (i := 273) (by decide +kernel), List.mem_of_getElem? (i := 809) (by decide +kernel), List.mem_of_getElem? (i := 810) (by decide +kernel)⟩
theorem lw_p26 : lw_okq (⟨"NamedToWed$Row", "comeTo", "(III)V"⟩, 9) := ⟨⟨by decide +kernel, by decide +kernel⟩, List.mem_of_getElem? (i := 238) (by decide +kernel), List.mem_of_getElem? (i := 834) (by decide +kernel), List.mem_of_getElem? (i := 835) (by decide +kernel)⟩
theorem lw_p27 : lw_okq (⟨"NamedToWed$Row", "writeBack", "(II)V"⟩, 9) := ⟨⟨by decide +kernel, by decide +kernel⟩, List.mem_of_getElem? (i := 238) (by decide +kernel), List.mem_of_getElem? (i := 838) (by decide +kernel), List.mem_of_getElem? (i := 839) (by decide +kernel)⟩
theorem lw_p28 : lw_okq (⟨"NamedToWed$Row", "addOneStep", "(LNamedToWed$Rule;)V"⟩, 9) := ⟨⟨by decide +kernel, by decide +kernel⟩, List.mem_of_getElem? (i := 238) (by decide +kernel), List.mem_of_getElem? (i := 873) (by decide +kernel), List.mem_of_getElem? (i := 874) (by decide +kernel)⟩
theorem lw_p29 : lw_okq (⟨"NamedToWed", "rulesForWord", "(II)I"⟩, 18) := ⟨⟨by decide +kernel, by decide +kernel⟩, List.mem_of_getElem? (i := 19) (by decide +kernel), List.mem_of_getElem? (i := 881) (by decide +kernel), List.mem_of_getElem? (i := 882) (by decide +kernel)⟩
theorem lw_p30 : lw_okq (⟨"NamedToWed", "isEvenAndOneSide", "(LNamedToWed$Rule;)Z"⟩, 18) := ⟨⟨by decide +kernel, by decide +kernel⟩, List.mem_of_getElem? (i := 19) (by decide +kernel), List.mem_of_getElem? (i := 896) (by decide +kernel), List.mem_of_getElem? (i := 897) (by decide +kernel)⟩
theorem lw_p31 : lw_okq (⟨"NamedToWed$Row", "layersFrom", "(LNamedToWed$Roll;II)I"⟩, 9) := ⟨⟨by decide +kernel, by decide +kernel⟩, List.mem_of_getElem? (i := 238) (by decide +kernel), List.mem_of_getElem? (i := 962) (by decide +kernel), List.mem_of_getElem? (i := 963) (by decide +kernel)⟩
def lw_privs_2 : List (MethodName × Nat) := [(⟨"NamedToWed$Word", "readByte", "(LNamedToWed$Tape;)I"⟩, 9), (⟨"NamedToWed$Word", "openRound", "(LNamedToWed$Tape;)I"⟩, 9), (⟨"NamedToWed$Word", "startHere", "(LNamedToWed$Tape;)I"⟩, 9), (⟨"NamedToWed$Word", "timesHere", "()I"⟩, 9), (⟨"NamedToWed$Word", "closeRound", "(LNamedToWed$Tape;)I"⟩, 9), (⟨"NamedToWed$Word", "addStep", "(ILNamedToWed$Tape;)I"⟩, 9), (⟨"NamedToWed$Word", "firstNoSpouse", "(I)I"⟩, 9), (⟨"NamedToWed$Word", "circle", "(LNamedToWed$Rule;II)I"⟩, 9), (⟨"NamedToWed$Word", "isLawful", "(LNamedToWed$Rule;II)Z"⟩, 9), (⟨"NamedToWed$Changes", "reach", "([II)V"⟩, 6), (⟨"NamedToWed$Row", "comeTo", "(III)V"⟩, 9), (⟨"NamedToWed$Row", "writeBack", "(II)V"⟩, 9), (⟨"NamedToWed$Row", "addOneStep", "(LNamedToWed$Rule;)V"⟩, 9), (⟨"NamedToWed", "rulesForWord", "(II)I"⟩, 18), (⟨"NamedToWed", "isEvenAndOneSide", "(LNamedToWed$Rule;)Z"⟩, 18), (⟨"NamedToWed$Row", "layersFrom", "(LNamedToWed$Roll;II)I"⟩, 9)]
theorem lw_r2 : ∀ q ∈ lw_privs_2, lw_okq q := List.forall_mem_cons.mpr ⟨lw_p16, List.forall_mem_cons.mpr ⟨lw_p17, List.forall_mem_cons.mpr ⟨lw_p18, List.forall_mem_cons.mpr ⟨lw_p19, List.forall_mem_cons.mpr ⟨lw_p20, List.forall_mem_cons.mpr ⟨lw_p21, List.forall_mem_cons.mpr ⟨lw_p22, List.forall_mem_cons.mpr ⟨lw_p23, List.forall_mem_cons.mpr ⟨lw_p24, List.forall_mem_cons.mpr ⟨lw_p25, List.forall_mem_cons.mpr ⟨lw_p26, List.forall_mem_cons.mpr ⟨lw_p27, List.forall_mem_cons.mpr ⟨lw_p28, List.forall_mem_cons.mpr ⟨lw_p29, List.forall_mem_cons.mpr ⟨lw_p30, List.forall_mem_cons.mpr ⟨lw_p31, fun _ h => absurd h List.not_mem_nil⟩⟩⟩⟩⟩⟩⟩⟩⟩⟩⟩⟩⟩⟩⟩⟩
theorem lw_p32 : lw_okq (⟨"NamedToWed$Roll", "related", "(II)I"⟩, 11) := ⟨⟨by decide +kernel, by decide +kernel⟩, List.mem_of_getElem? (i := 96) (by decide +kernel), List.mem_of_getElem? (i := 970) (by decide +kernel), List.mem_of_getElem? (i := 971) (by decide +kernel)⟩
theorem lw_p33 : lw_okq (⟨"NamedToWed$Row", "leastStep", "(LNamedToWed$Roll;II)I"⟩, 9) := ⟨⟨by decide +kernel, by decide +kernel⟩, List.mem_of_getElem? (i := 238) (by decide +kernel), List.mem_of_getElem? (i := 974) (by decide +kernel), List.mem_of_getElem? (i := 975) (by decide +kernel)⟩
theorem lw_p34 : lw_okq (⟨"NamedToWed$Matches", "findFor", "(II)Z"⟩, 4) := ⟨⟨by decide +kernel, by decide +kernel⟩, List.mem_of_getElem? (i := 327) (by decide +kernel), List.mem_of_getElem? (i := 1011) (by decide +kernel), List.mem_of_getElem? (i := 1012) (by decide +kernel)⟩
theorem lw_p35 : lw_okq (⟨"NamedToWed$Matches", "giveWay", "(I)V"⟩, 4) := ⟨⟨by decide +kernel, by decide +kernel⟩, List.mem_of_getElem? (i := 327) (by decide +kernel), List.mem_of_getElem? (i := 1015) (by decide +kernel), List.mem_of_getElem? (i := 1016) (by decide +kernel)⟩
theorem lw_p36 : lw_okq (⟨"NamedToWed$Village", "draw", "(LNamedToWed$Rule;I)V"⟩, 9) := ⟨⟨by decide +kernel, by decide +kernel⟩, List.mem_of_getElem? (i := 346) (by decide +kernel), List.mem_of_getElem? (i := 1047) (by decide +kernel), List.mem_of_getElem? (i := 1048) (by decide +kernel)⟩
theorem lw_p37 : lw_okq (⟨"NamedToWed$Village", "wedSome", "(LNamedToWed$Rule;LNamedToWed$Law;I)V"⟩, 9) := ⟨⟨by decide +kernel, by decide +kernel⟩, List.mem_of_getElem? (i := 346) (by decide +kernel), List.mem_of_getElem? (i := 1060) (by decide +kernel), List.mem_of_getElem? (i := 1061) (by decide +kernel)⟩
theorem lw_p38 : lw_okq (⟨"NamedToWed$Law", "run", "(II[I)I"⟩, 11) := ⟨⟨by decide +kernel, by decide +kernel⟩, List.mem_of_getElem? (i := 154) (by decide +kernel), List.mem_of_getElem? (i := 1068) (by decide +kernel), List.mem_of_getElem? (i := 1069) (by decide +kernel)⟩
theorem lw_p39 : lw_okq (⟨"NamedToWed$Law", "push", "(I)V"⟩, 11) := ⟨⟨by decide +kernel, by decide +kernel⟩, List.mem_of_getElem? (i := 154) (by decide +kernel), List.mem_of_getElem? (i := 1072) (by decide +kernel), List.mem_of_getElem? (i := 1073) (by decide +kernel)⟩
theorem lw_p40 : lw_okq (⟨"NamedToWed$Law", "pop", "()I"⟩, 11) := ⟨⟨by decide +kernel, by decide +kernel⟩, List.mem_of_getElem? (i := 154) (by decide +kernel), List.mem_of_getElem? (i := 1076) (by decide +kernel), List.mem_of_getElem? (i := 1077) (by decide +kernel)⟩
theorem lw_p41 : lw_okq (⟨"NamedToWed$Law", "top", "()I"⟩, 11) := ⟨⟨by decide +kernel, by decide +kernel⟩, List.mem_of_getElem? (i := 154) (by decide +kernel), List.mem_of_getElem? (i := 1080) (by decide +kernel), List.mem_of_getElem? (i := 1081) (by decide +kernel)⟩
theorem lw_p42 : lw_okq (⟨"NamedToWed$Law", "reckon", "(CII)I"⟩, 11) := ⟨⟨by decide +kernel, by decide +kernel⟩, List.mem_of_getElem? (i := 154) (by decide +kernel), List.mem_of_getElem? (i := 1085) (by decide +kernel), List.mem_of_getElem? (i := 1086) (by decide +kernel)⟩
theorem lw_p43 : lw_okq (⟨"NamedToWed$Village", "bearSome", "(LNamedToWed$Rule;LNamedToWed$Law;I)V"⟩, 9) := ⟨⟨by decide +kernel, by decide +kernel⟩, List.mem_of_getElem? (i := 346) (by decide +kernel), List.mem_of_getElem? (i := 1095) (by decide +kernel), List.mem_of_getElem? (i := 1096) (by decide +kernel)⟩
theorem lw_p44 : lw_okq (⟨"NamedToWed$Village", "dieSome", "(LNamedToWed$Law;I)V"⟩, 9) := ⟨⟨by decide +kernel, by decide +kernel⟩, List.mem_of_getElem? (i := 346) (by decide +kernel), List.mem_of_getElem? (i := 1099) (by decide +kernel), List.mem_of_getElem? (i := 1100) (by decide +kernel)⟩
theorem lw_p45 : lw_okq (⟨"NamedToWed", "isTriedWhat", "(I)Z"⟩, 18) := ⟨⟨by decide +kernel, by decide +kernel⟩, List.mem_of_getElem? (i := 19) (by decide +kernel), List.mem_of_getElem? (i := 1107) (by decide +kernel), List.mem_of_getElem? (i := 1108) (by decide +kernel)⟩
theorem lw_p46 : lw_okq (⟨"NamedToWedModel", "isName", "(I)Z"⟩, 85) := ⟨⟨by decide +kernel, by decide +kernel⟩, List.mem_of_getElem? (i := 1162) (by decide +kernel), List.mem_of_getElem? (i := 1429) (by decide +kernel), List.mem_of_getElem? (i := 1430) (by decide +kernel)⟩
theorem lw_p47 : lw_okq (⟨"NamedToWedModel", "types", "(I)V"⟩, 85) := ⟨⟨by decide +kernel, by decide +kernel⟩, List.mem_of_getElem? (i := 1162) (by decide +kernel), List.mem_of_getElem? (i := 1440) (by decide +kernel), List.mem_of_getElem? (i := 1441) (by decide +kernel)⟩
def lw_privs_3 : List (MethodName × Nat) := [(⟨"NamedToWed$Roll", "related", "(II)I"⟩, 11), (⟨"NamedToWed$Row", "leastStep", "(LNamedToWed$Roll;II)I"⟩, 9), (⟨"NamedToWed$Matches", "findFor", "(II)Z"⟩, 4), (⟨"NamedToWed$Matches", "giveWay", "(I)V"⟩, 4), (⟨"NamedToWed$Village", "draw", "(LNamedToWed$Rule;I)V"⟩, 9), (⟨"NamedToWed$Village", "wedSome", "(LNamedToWed$Rule;LNamedToWed$Law;I)V"⟩, 9), (⟨"NamedToWed$Law", "run", "(II[I)I"⟩, 11), (⟨"NamedToWed$Law", "push", "(I)V"⟩, 11), (⟨"NamedToWed$Law", "pop", "()I"⟩, 11), (⟨"NamedToWed$Law", "top", "()I"⟩, 11), (⟨"NamedToWed$Law", "reckon", "(CII)I"⟩, 11), (⟨"NamedToWed$Village", "bearSome", "(LNamedToWed$Rule;LNamedToWed$Law;I)V"⟩, 9), (⟨"NamedToWed$Village", "dieSome", "(LNamedToWed$Law;I)V"⟩, 9), (⟨"NamedToWed", "isTriedWhat", "(I)Z"⟩, 18), (⟨"NamedToWedModel", "isName", "(I)Z"⟩, 85), (⟨"NamedToWedModel", "types", "(I)V"⟩, 85)]
theorem lw_r3 : ∀ q ∈ lw_privs_3, lw_okq q := List.forall_mem_cons.mpr ⟨lw_p32, List.forall_mem_cons.mpr ⟨lw_p33, List.forall_mem_cons.mpr ⟨lw_p34, List.forall_mem_cons.mpr ⟨lw_p35, List.forall_mem_cons.mpr ⟨lw_p36, List.forall_mem_cons.mpr ⟨lw_p37, List.forall_mem_cons.mpr ⟨lw_p38, List.forall_mem_cons.mpr ⟨lw_p39, List.forall_mem_cons.mpr ⟨lw_p40, List.forall_mem_cons.mpr ⟨lw_p41, List.forall_mem_cons.mpr ⟨lw_p42, List.forall_mem_cons.mpr ⟨lw_p43, List.forall_mem_cons.mpr ⟨lw_p44, List.forall_mem_cons.mpr ⟨lw_p45, List.forall_mem_cons.mpr ⟨lw_p46, List.forall_mem_cons.mpr ⟨lw_p47, fun _ h => absurd h List.not_mem_nil⟩⟩⟩⟩⟩⟩⟩⟩⟩⟩⟩⟩⟩⟩⟩⟩
theorem lw_p48 : lw_okq (⟨"NamedToWedModel", "beginsText", "(II)V"⟩, 85) := ⟨⟨by decide +kernel, by decide +kernel⟩, List.mem_of_getElem? (i := 1162) (by decide +kernel), List.mem_of_getElem? (i := 1448) (by decide +kernel), List.mem_of_getElem? (i := 1449) (by decide +kernel)⟩
theorem lw_p49 : lw_okq (⟨"NamedToWedModel", "readsClause", "()Z"⟩, 85) := ⟨⟨by decide +kernel, by decide +kernel⟩, List.mem_of_getElem? (i := 1162) (by decide +kernel), List.mem_of_getElem? (i := 1452) (by decide +kernel), List.mem_of_getElem? (i := 1453) (by decide +kernel)⟩
theorem lw_p50 : lw_okq (⟨"NamedToWedModel", "here", "()I"⟩, 85) := ⟨⟨by decide +kernel, by decide +kernel⟩, List.mem_of_getElem? (i := 1162) (by decide +kernel), List.mem_of_getElem? (i := 1456) (by decide +kernel), List.mem_of_getElem? (i := 1457) (by decide +kernel)⟩
theorem lw_p51 : lw_okq (⟨"NamedToWedModel", "wrongAt", "(II)Z"⟩, 85) := ⟨⟨by decide +kernel, by decide +kernel⟩, List.mem_of_getElem? (i := 1162) (by decide +kernel), List.mem_of_getElem? (i := 1460) (by decide +kernel), List.mem_of_getElem? (i := 1461) (by decide +kernel)⟩
theorem lw_p52 : lw_okq (⟨"NamedToWedModel", "readsSum", "()Z"⟩, 85) := ⟨⟨by decide +kernel, by decide +kernel⟩, List.mem_of_getElem? (i := 1162) (by decide +kernel), List.mem_of_getElem? (i := 1464) (by decide +kernel), List.mem_of_getElem? (i := 1465) (by decide +kernel)⟩
theorem lw_p53 : lw_okq (⟨"NamedToWedModel", "readsFactor", "()Z"⟩, 85) := ⟨⟨by decide +kernel, by decide +kernel⟩, List.mem_of_getElem? (i := 1162) (by decide +kernel), List.mem_of_getElem? (i := 1468) (by decide +kernel), List.mem_of_getElem? (i := 1469) (by decide +kernel)⟩
theorem lw_p54 : lw_okq (⟨"NamedToWedModel", "opens", "(I)Z"⟩, 85) := ⟨⟨by decide +kernel, by decide +kernel⟩, List.mem_of_getElem? (i := 1162) (by decide +kernel), List.mem_of_getElem? (i := 1472) (by decide +kernel), List.mem_of_getElem? (i := 1473) (by decide +kernel)⟩
theorem lw_p55 : lw_okq (⟨"NamedToWedModel", "isDigit", "()Z"⟩, 85) := ⟨⟨by decide +kernel, by decide +kernel⟩, List.mem_of_getElem? (i := 1162) (by decide +kernel), List.mem_of_getElem? (i := 1477) (by decide +kernel), List.mem_of_getElem? (i := 1478) (by decide +kernel)⟩
theorem lw_p56 : lw_okq (⟨"NamedToWedModel", "readsNumber", "()Z"⟩, 85) := ⟨⟨by decide +kernel, by decide +kernel⟩, List.mem_of_getElem? (i := 1162) (by decide +kernel), List.mem_of_getElem? (i := 1481) (by decide +kernel), List.mem_of_getElem? (i := 1482) (by decide +kernel)⟩
theorem lw_p57 : lw_okq (⟨"NamedToWedModel", "notes", "(II)V"⟩, 85) := ⟨⟨by decide +kernel, by decide +kernel⟩, List.mem_of_getElem? (i := 1162) (by decide +kernel), List.mem_of_getElem? (i := 1485) (by decide +kernel), List.mem_of_getElem? (i := 1486) (by decide +kernel)⟩
theorem lw_p58 : lw_okq (⟨"NamedToWedModel", "closesSums", "(Z)V"⟩, 85) := ⟨⟨by decide +kernel, by decide +kernel⟩, List.mem_of_getElem? (i := 1162) (by decide +kernel), List.mem_of_getElem? (i := 1495) (by decide +kernel), List.mem_of_getElem? (i := 1496) (by decide +kernel)⟩
theorem lw_p59 : lw_okq (⟨"NamedToWedModel", "waitTop", "()I"⟩, 85) := ⟨⟨by decide +kernel, by decide +kernel⟩, List.mem_of_getElem? (i := 1162) (by decide +kernel), List.mem_of_getElem? (i := 1499) (by decide +kernel), List.mem_of_getElem? (i := 1500) (by decide +kernel)⟩
theorem lw_p60 : lw_okq (⟨"NamedToWedModel", "hasOpenSum", "(I)Z"⟩, 85) := ⟨⟨by decide +kernel, by decide +kernel⟩, List.mem_of_getElem? (i := 1162) (by decide +kernel), List.mem_of_getElem? (i := 1503) (by decide +kernel), List.mem_of_getElem? (i := 1504) (by decide +kernel)⟩
theorem lw_p61 : lw_okq (⟨"NamedToWedModel", "readsCondition", "()Z"⟩, 85) := ⟨⟨by decide +kernel, by decide +kernel⟩, List.mem_of_getElem? (i := 1162) (by decide +kernel), List.mem_of_getElem? (i := 1507) (by decide +kernel), List.mem_of_getElem? (i := 1508) (by decide +kernel)⟩
theorem lw_p62 : lw_okq (⟨"NamedToWedModel", "readsCompared", "()Z"⟩, 85) := ⟨⟨by decide +kernel, by decide +kernel⟩, List.mem_of_getElem? (i := 1162) (by decide +kernel), List.mem_of_getElem? (i := 1511) (by decide +kernel), List.mem_of_getElem? (i := 1512) (by decide +kernel)⟩
theorem lw_p63 : lw_okq (⟨"NamedToWedModel", "endsPiece", "()V"⟩, 85) := ⟨⟨by decide +kernel, by decide +kernel⟩, List.mem_of_getElem? (i := 1162) (by decide +kernel), List.mem_of_getElem? (i := 1515) (by decide +kernel), List.mem_of_getElem? (i := 1516) (by decide +kernel)⟩
def lw_privs_4 : List (MethodName × Nat) := [(⟨"NamedToWedModel", "beginsText", "(II)V"⟩, 85), (⟨"NamedToWedModel", "readsClause", "()Z"⟩, 85), (⟨"NamedToWedModel", "here", "()I"⟩, 85), (⟨"NamedToWedModel", "wrongAt", "(II)Z"⟩, 85), (⟨"NamedToWedModel", "readsSum", "()Z"⟩, 85), (⟨"NamedToWedModel", "readsFactor", "()Z"⟩, 85), (⟨"NamedToWedModel", "opens", "(I)Z"⟩, 85), (⟨"NamedToWedModel", "isDigit", "()Z"⟩, 85), (⟨"NamedToWedModel", "readsNumber", "()Z"⟩, 85), (⟨"NamedToWedModel", "notes", "(II)V"⟩, 85), (⟨"NamedToWedModel", "closesSums", "(Z)V"⟩, 85), (⟨"NamedToWedModel", "waitTop", "()I"⟩, 85), (⟨"NamedToWedModel", "hasOpenSum", "(I)Z"⟩, 85), (⟨"NamedToWedModel", "readsCondition", "()Z"⟩, 85), (⟨"NamedToWedModel", "readsCompared", "()Z"⟩, 85), (⟨"NamedToWedModel", "endsPiece", "()V"⟩, 85)]
theorem lw_r4 : ∀ q ∈ lw_privs_4, lw_okq q := List.forall_mem_cons.mpr ⟨lw_p48, List.forall_mem_cons.mpr ⟨lw_p49, List.forall_mem_cons.mpr ⟨lw_p50, List.forall_mem_cons.mpr ⟨lw_p51, List.forall_mem_cons.mpr ⟨lw_p52, List.forall_mem_cons.mpr ⟨lw_p53, List.forall_mem_cons.mpr ⟨lw_p54, List.forall_mem_cons.mpr ⟨lw_p55, List.forall_mem_cons.mpr ⟨lw_p56, List.forall_mem_cons.mpr ⟨lw_p57, List.forall_mem_cons.mpr ⟨lw_p58, List.forall_mem_cons.mpr ⟨lw_p59, List.forall_mem_cons.mpr ⟨lw_p60, List.forall_mem_cons.mpr ⟨lw_p61, List.forall_mem_cons.mpr ⟨lw_p62, List.forall_mem_cons.mpr ⟨lw_p63, fun _ h => absurd h List.not_mem_nil⟩⟩⟩⟩⟩⟩⟩⟩⟩⟩⟩⟩⟩⟩⟩⟩
theorem lw_p64 : lw_okq (⟨"NamedToWedModel", "lands", "(Z)V"⟩, 85) := ⟨⟨by decide +kernel, by decide +kernel⟩, List.mem_of_getElem? (i := 1162) (by decide +kernel), List.mem_of_getElem? (i := 1519) (by decide +kernel), List.mem_of_getElem? (i := 1520) (by decide +kernel)⟩
theorem lw_p65 : lw_okq (⟨"NamedToWedModel", "jumps", "(I)V"⟩, 85) := ⟨⟨by decide +kernel, by decide +kernel⟩, List.mem_of_getElem? (i := 1162) (by decide +kernel), List.mem_of_getElem? (i := 1523) (by decide +kernel), List.mem_of_getElem? (i := 1524) (by decide +kernel)⟩
theorem lw_p66 : lw_okq (⟨"NamedToWedModel", "takes", "(I)Z"⟩, 85) := ⟨⟨by decide +kernel, by decide +kernel⟩, List.mem_of_getElem? (i := 1162) (by decide +kernel), List.mem_of_getElem? (i := 1527) (by decide +kernel), List.mem_of_getElem? (i := 1528) (by decide +kernel)⟩
theorem lw_p67 : lw_okq (⟨"NamedToWedModel", "readsWives", "()Z"⟩, 85) := ⟨⟨by decide +kernel, by decide +kernel⟩, List.mem_of_getElem? (i := 1162) (by decide +kernel), List.mem_of_getElem? (i := 1535) (by decide +kernel), List.mem_of_getElem? (i := 1536) (by decide +kernel)⟩
theorem lw_p68 : lw_okq (⟨"NamedToWedModel", "readsName", "([II)Z"⟩, 85) := ⟨⟨by decide +kernel, by decide +kernel⟩, List.mem_of_getElem? (i := 1162) (by decide +kernel), List.mem_of_getElem? (i := 1539) (by decide +kernel), List.mem_of_getElem? (i := 1540) (by decide +kernel)⟩
theorem lw_p69 : lw_okq (⟨"NamedToWedModel", "readsChildren", "()Z"⟩, 85) := ⟨⟨by decide +kernel, by decide +kernel⟩, List.mem_of_getElem? (i := 1162) (by decide +kernel), List.mem_of_getElem? (i := 1543) (by decide +kernel), List.mem_of_getElem? (i := 1544) (by decide +kernel)⟩
theorem lw_p70 : lw_okq (⟨"NamedToWedModel", "readsWord", "(III)I"⟩, 85) := ⟨⟨by decide +kernel, by decide +kernel⟩, List.mem_of_getElem? (i := 1162) (by decide +kernel), List.mem_of_getElem? (i := 1551) (by decide +kernel), List.mem_of_getElem? (i := 1552) (by decide +kernel)⟩
theorem lw_p71 : lw_okq (⟨"NamedToWedModel", "readsStep", "()Z"⟩, 85) := ⟨⟨by decide +kernel, by decide +kernel⟩, List.mem_of_getElem? (i := 1162) (by decide +kernel), List.mem_of_getElem? (i := 1555) (by decide +kernel), List.mem_of_getElem? (i := 1556) (by decide +kernel)⟩
theorem lw_p72 : lw_okq (⟨"NamedToWedModel", "readsTimes", "()V"⟩, 85) := ⟨⟨by decide +kernel, by decide +kernel⟩, List.mem_of_getElem? (i := 1162) (by decide +kernel), List.mem_of_getElem? (i := 1559) (by decide +kernel), List.mem_of_getElem? (i := 1560) (by decide +kernel)⟩
theorem lw_p73 : lw_okq (⟨"NamedToWedModel", "repeats", "(III)Z"⟩, 85) := ⟨⟨by decide +kernel, by decide +kernel⟩, List.mem_of_getElem? (i := 1162) (by decide +kernel), List.mem_of_getElem? (i := 1569) (by decide +kernel), List.mem_of_getElem? (i := 1570) (by decide +kernel)⟩
theorem lw_p74 : lw_okq (⟨"NamedToWedModel", "sortBehind", "(I)I"⟩, 85) := ⟨⟨by decide +kernel, by decide +kernel⟩, List.mem_of_getElem? (i := 1162) (by decide +kernel), List.mem_of_getElem? (i := 1579) (by decide +kernel), List.mem_of_getElem? (i := 1580) (by decide +kernel)⟩
theorem lw_p75 : lw_okq (⟨"NamedToWedModel", "fixedBy", "(I)I"⟩, 85) := ⟨⟨by decide +kernel, by decide +kernel⟩, List.mem_of_getElem? (i := 1162) (by decide +kernel), List.mem_of_getElem? (i := 1583) (by decide +kernel), List.mem_of_getElem? (i := 1584) (by decide +kernel)⟩
theorem lw_p76 : lw_okq (⟨"NamedToWedModel", "leadsTo", "(II)I"⟩, 85) := ⟨⟨by decide +kernel, by decide +kernel⟩, List.mem_of_getElem? (i := 1162) (by decide +kernel), List.mem_of_getElem? (i := 1587) (by decide +kernel), List.mem_of_getElem? (i := 1588) (by decide +kernel)⟩
theorem lw_p77 : lw_okq (⟨"NamedToWedModel", "nameBy", "(III)I"⟩, 85) := ⟨⟨by decide +kernel, by decide +kernel⟩, List.mem_of_getElem? (i := 1162) (by decide +kernel), List.mem_of_getElem? (i := 1591) (by decide +kernel), List.mem_of_getElem? (i := 1592) (by decide +kernel)⟩
theorem lw_p78 : lw_okq (⟨"NamedToWedModel", "oftenTill", "(I)I"⟩, 85) := ⟨⟨by decide +kernel, by decide +kernel⟩, List.mem_of_getElem? (i := 1162) (by decide +kernel), List.mem_of_getElem? (i := 1598) (by decide +kernel), List.mem_of_getElem? (i := 1599) (by decide +kernel)⟩
theorem lw_p79 : lw_okq (⟨"NamedToWedModel", "isPlain", "([I)Z"⟩, 85) := ⟨⟨by decide +kernel, by decide +kernel⟩, List.mem_of_getElem? (i := 1162) (by decide +kernel), List.mem_of_getElem? (i := 1602) (by decide +kernel), List.mem_of_getElem? (i := 1603) (by decide +kernel)⟩
def lw_privs_5 : List (MethodName × Nat) := [(⟨"NamedToWedModel", "lands", "(Z)V"⟩, 85), (⟨"NamedToWedModel", "jumps", "(I)V"⟩, 85), (⟨"NamedToWedModel", "takes", "(I)Z"⟩, 85), (⟨"NamedToWedModel", "readsWives", "()Z"⟩, 85), (⟨"NamedToWedModel", "readsName", "([II)Z"⟩, 85), (⟨"NamedToWedModel", "readsChildren", "()Z"⟩, 85), (⟨"NamedToWedModel", "readsWord", "(III)I"⟩, 85), (⟨"NamedToWedModel", "readsStep", "()Z"⟩, 85), (⟨"NamedToWedModel", "readsTimes", "()V"⟩, 85), (⟨"NamedToWedModel", "repeats", "(III)Z"⟩, 85), (⟨"NamedToWedModel", "sortBehind", "(I)I"⟩, 85), (⟨"NamedToWedModel", "fixedBy", "(I)I"⟩, 85), (⟨"NamedToWedModel", "leadsTo", "(II)I"⟩, 85), (⟨"NamedToWedModel", "nameBy", "(III)I"⟩, 85), (⟨"NamedToWedModel", "oftenTill", "(I)I"⟩, 85), (⟨"NamedToWedModel", "isPlain", "([I)Z"⟩, 85)]
theorem lw_r5 : ∀ q ∈ lw_privs_5, lw_okq q := List.forall_mem_cons.mpr ⟨lw_p64, List.forall_mem_cons.mpr ⟨lw_p65, List.forall_mem_cons.mpr ⟨lw_p66, List.forall_mem_cons.mpr ⟨lw_p67, List.forall_mem_cons.mpr ⟨lw_p68, List.forall_mem_cons.mpr ⟨lw_p69, List.forall_mem_cons.mpr ⟨lw_p70, List.forall_mem_cons.mpr ⟨lw_p71, List.forall_mem_cons.mpr ⟨lw_p72, List.forall_mem_cons.mpr ⟨lw_p73, List.forall_mem_cons.mpr ⟨lw_p74, List.forall_mem_cons.mpr ⟨lw_p75, List.forall_mem_cons.mpr ⟨lw_p76, List.forall_mem_cons.mpr ⟨lw_p77, List.forall_mem_cons.mpr ⟨lw_p78, List.forall_mem_cons.mpr ⟨lw_p79, fun _ h => absurd h List.not_mem_nil⟩⟩⟩⟩⟩⟩⟩⟩⟩⟩⟩⟩⟩⟩⟩⟩
theorem lw_p80 : lw_okq (⟨"NamedToWedModel", "lawful", "(I)I"⟩, 85) := ⟨⟨by decide +kernel, by decide +kernel⟩, List.mem_of_getElem? (i := 1162) (by decide +kernel), List.mem_of_getElem? (i := 1606) (by decide +kernel), List.mem_of_getElem? (i := 1607) (by decide +kernel)⟩
theorem lw_p81 : lw_okq (⟨"NamedToWedModel", "spouseOf", "(II)I"⟩, 85) := ⟨⟨by decide +kernel, by decide +kernel⟩, List.mem_of_getElem? (i := 1162) (by decide +kernel), List.mem_of_getElem? (i := 1610) (by decide +kernel), List.mem_of_getElem? (i := 1611) (by decide +kernel)⟩
theorem lw_p82 : lw_okq (⟨"NamedToWedModel", "laysWays", "()V"⟩, 85) := ⟨⟨by decide +kernel, by decide +kernel⟩, List.mem_of_getElem? (i := 1162) (by decide +kernel), List.mem_of_getElem? (i := 1623) (by decide +kernel), List.mem_of_getElem? (i := 1624) (by decide +kernel)⟩
theorem lw_p83 : lw_okq (⟨"NamedToWedModel", "plainWay", "()I"⟩, 85) := ⟨⟨by decide +kernel, by decide +kernel⟩, List.mem_of_getElem? (i := 1162) (by decide +kernel), List.mem_of_getElem? (i := 1627) (by decide +kernel), List.mem_of_getElem? (i := 1628) (by decide +kernel)⟩
theorem lw_p84 : lw_okq (⟨"NamedToWedModel", "addsWay", "(I)V"⟩, 85) := ⟨⟨by decide +kernel, by decide +kernel⟩, List.mem_of_getElem? (i := 1162) (by decide +kernel), List.mem_of_getElem? (i := 1631) (by decide +kernel), List.mem_of_getElem? (i := 1632) (by decide +kernel)⟩
theorem lw_p85 : lw_okq (⟨"NamedToWedModel", "changedBy", "(I[I)I"⟩, 85) := ⟨⟨by decide +kernel, by decide +kernel⟩, List.mem_of_getElem? (i := 1162) (by decide +kernel), List.mem_of_getElem? (i := 1635) (by decide +kernel), List.mem_of_getElem? (i := 1636) (by decide +kernel)⟩
theorem lw_p86 : lw_okq (⟨"NamedToWedModel", "sides", "()I"⟩, 85) := ⟨⟨by decide +kernel, by decide +kernel⟩, List.mem_of_getElem? (i := 1162) (by decide +kernel), List.mem_of_getElem? (i := 1642) (by decide +kernel), List.mem_of_getElem? (i := 1643) (by decide +kernel)⟩
theorem lw_p87 : lw_okq (⟨"NamedToWedModel", "sideOf", "(I)I"⟩, 85) := ⟨⟨by decide +kernel, by decide +kernel⟩, List.mem_of_getElem? (i := 1162) (by decide +kernel), List.mem_of_getElem? (i := 1646) (by decide +kernel), List.mem_of_getElem? (i := 1647) (by decide +kernel)⟩
theorem lw_p88 : lw_okq (⟨"NamedToWedModel", "isEven", "()Z"⟩, 85) := ⟨⟨by decide +kernel, by decide +kernel⟩, List.mem_of_getElem? (i := 1162) (by decide +kernel), List.mem_of_getElem? (i := 1656) (by decide +kernel), List.mem_of_getElem? (i := 1657) (by decide +kernel)⟩
theorem lw_p89 : lw_okq (⟨"NamedToWedModel", "laysFar", "(I)V"⟩, 85) := ⟨⟨by decide +kernel, by decide +kernel⟩, List.mem_of_getElem? (i := 1162) (by decide +kernel), List.mem_of_getElem? (i := 1670) (by decide +kernel), List.mem_of_getElem? (i := 1671) (by decide +kernel)⟩
theorem lw_p90 : lw_okq (⟨"NamedToWedModel", "stateBy", "(II)I"⟩, 85) := ⟨⟨by decide +kernel, by decide +kernel⟩, List.mem_of_getElem? (i := 1162) (by decide +kernel), List.mem_of_getElem? (i := 1675) (by decide +kernel), List.mem_of_getElem? (i := 1676) (by decide +kernel)⟩
theorem lw_p91 : lw_okq (⟨"NamedToWedModel", "kindFrom", "(I)I"⟩, 85) := ⟨⟨by decide +kernel, by decide +kernel⟩, List.mem_of_getElem? (i := 1162) (by decide +kernel), List.mem_of_getElem? (i := 1682) (by decide +kernel), List.mem_of_getElem? (i := 1683) (by decide +kernel)⟩
theorem lw_p92 : lw_okq (⟨"NamedToWedModel", "laysCousins", "()I"⟩, 85) := ⟨⟨by decide +kernel, by decide +kernel⟩, List.mem_of_getElem? (i := 1162) (by decide +kernel), List.mem_of_getElem? (i := 1690) (by decide +kernel), List.mem_of_getElem? (i := 1691) (by decide +kernel)⟩
theorem lw_p93 : lw_okq (⟨"NamedToWedModel", "addsCousin", "(IIII)V"⟩, 85) := ⟨⟨by decide +kernel, by decide +kernel⟩, List.mem_of_getElem? (i := 1162) (by decide +kernel), List.mem_of_getElem? (i := 1694) (by decide +kernel), List.mem_of_getElem? (i := 1695) (by decide +kernel)⟩
theorem lw_p94 : lw_okq (⟨"NamedToWedModel", "wayBy", "(III)I"⟩, 85) := ⟨⟨by decide +kernel, by decide +kernel⟩, List.mem_of_getElem? (i := 1162) (by decide +kernel), List.mem_of_getElem? (i := 1698) (by decide +kernel), List.mem_of_getElem? (i := 1699) (by decide +kernel)⟩
theorem lw_p95 : lw_okq (⟨"NamedToWedModel", "keepsRule", "()V"⟩, 85) := ⟨⟨by decide +kernel, by decide +kernel⟩, List.mem_of_getElem? (i := 1162) (by decide +kernel), List.mem_of_getElem? (i := 1711) (by decide +kernel), List.mem_of_getElem? (i := 1712) (by decide +kernel)⟩
def lw_privs_6 : List (MethodName × Nat) := [(⟨"NamedToWedModel", "lawful", "(I)I"⟩, 85), (⟨"NamedToWedModel", "spouseOf", "(II)I"⟩, 85), (⟨"NamedToWedModel", "laysWays", "()V"⟩, 85), (⟨"NamedToWedModel", "plainWay", "()I"⟩, 85), (⟨"NamedToWedModel", "addsWay", "(I)V"⟩, 85), (⟨"NamedToWedModel", "changedBy", "(I[I)I"⟩, 85), (⟨"NamedToWedModel", "sides", "()I"⟩, 85), (⟨"NamedToWedModel", "sideOf", "(I)I"⟩, 85), (⟨"NamedToWedModel", "isEven", "()Z"⟩, 85), (⟨"NamedToWedModel", "laysFar", "(I)V"⟩, 85), (⟨"NamedToWedModel", "stateBy", "(II)I"⟩, 85), (⟨"NamedToWedModel", "kindFrom", "(I)I"⟩, 85), (⟨"NamedToWedModel", "laysCousins", "()I"⟩, 85), (⟨"NamedToWedModel", "addsCousin", "(IIII)V"⟩, 85), (⟨"NamedToWedModel", "wayBy", "(III)I"⟩, 85), (⟨"NamedToWedModel", "keepsRule", "()V"⟩, 85)]
theorem lw_r6 : ∀ q ∈ lw_privs_6, lw_okq q := List.forall_mem_cons.mpr ⟨lw_p80, List.forall_mem_cons.mpr ⟨lw_p81, List.forall_mem_cons.mpr ⟨lw_p82, List.forall_mem_cons.mpr ⟨lw_p83, List.forall_mem_cons.mpr ⟨lw_p84, List.forall_mem_cons.mpr ⟨lw_p85, List.forall_mem_cons.mpr ⟨lw_p86, List.forall_mem_cons.mpr ⟨lw_p87, List.forall_mem_cons.mpr ⟨lw_p88, List.forall_mem_cons.mpr ⟨lw_p89, List.forall_mem_cons.mpr ⟨lw_p90, List.forall_mem_cons.mpr ⟨lw_p91, List.forall_mem_cons.mpr ⟨lw_p92, List.forall_mem_cons.mpr ⟨lw_p93, List.forall_mem_cons.mpr ⟨lw_p94, List.forall_mem_cons.mpr ⟨lw_p95, fun _ h => absurd h List.not_mem_nil⟩⟩⟩⟩⟩⟩⟩⟩⟩⟩⟩⟩⟩⟩⟩⟩
theorem lw_p96 : lw_okq (⟨"NamedToWedModel", "countsRules", "(Z)I"⟩, 85) := ⟨⟨by decide +kernel, by decide +kernel⟩, List.mem_of_getElem? (i := 1162) (by decide +kernel), List.mem_of_getElem? (i := 1715) (by decide +kernel), List.mem_of_getElem? (i := 1716) (by decide +kernel)⟩
theorem lw_p97 : lw_okq (⟨"NamedToWedModel", "weddsOut", "()Z"⟩, 85) := ⟨⟨by decide +kernel, by decide +kernel⟩, List.mem_of_getElem? (i := 1162) (by decide +kernel), List.mem_of_getElem? (i := 1719) (by decide +kernel), List.mem_of_getElem? (i := 1720) (by decide +kernel)⟩
theorem lw_p98 : lw_okq (⟨"NamedToWedModel", "isEvenAndOne", "()Z"⟩, 85) := ⟨⟨by decide +kernel, by decide +kernel⟩, List.mem_of_getElem? (i := 1162) (by decide +kernel), List.mem_of_getElem? (i := 1723) (by decide +kernel), List.mem_of_getElem? (i := 1724) (by decide +kernel)⟩
theorem lw_p99 : lw_okq (⟨"NamedToWedModel", "nextRow", "([I)Z"⟩, 85) := ⟨⟨by decide +kernel, by decide +kernel⟩, List.mem_of_getElem? (i := 1162) (by decide +kernel), List.mem_of_getElem? (i := 1727) (by decide +kernel), List.mem_of_getElem? (i := 1728) (by decide +kernel)⟩
theorem lw_p100 : lw_okq (⟨"NamedToWedModel", "changesRow", "([III)V"⟩, 85) := ⟨⟨by decide +kernel, by decide +kernel⟩, List.mem_of_getElem? (i := 1162) (by decide +kernel), List.mem_of_getElem? (i := 1731) (by decide +kernel), List.mem_of_getElem? (i := 1732) (by decide +kernel)⟩
theorem lw_p101 : lw_okq (⟨"NamedToWedModel", "putsRuleBack", "()V"⟩, 85) := ⟨⟨by decide +kernel, by decide +kernel⟩, List.mem_of_getElem? (i := 1162) (by decide +kernel), List.mem_of_getElem? (i := 1735) (by decide +kernel), List.mem_of_getElem? (i := 1736) (by decide +kernel)⟩
theorem lw_p102 : lw_okq (⟨"NamedToWedModel", "readsPerson", "()Z"⟩, 85) := ⟨⟨by decide +kernel, by decide +kernel⟩, List.mem_of_getElem? (i := 1162) (by decide +kernel), List.mem_of_getElem? (i := 1743) (by decide +kernel), List.mem_of_getElem? (i := 1744) (by decide +kernel)⟩
theorem lw_p103 : lw_okq (⟨"NamedToWedModel", "readsParents", "()Z"⟩, 85) := ⟨⟨by decide +kernel, by decide +kernel⟩, List.mem_of_getElem? (i := 1162) (by decide +kernel), List.mem_of_getElem? (i := 1747) (by decide +kernel), List.mem_of_getElem? (i := 1748) (by decide +kernel)⟩
theorem lw_p104 : lw_okq (⟨"NamedToWedModel", "readsParent", "(I)Z"⟩, 85) := ⟨⟨by decide +kernel, by decide +kernel⟩, List.mem_of_getElem? (i := 1162) (by decide +kernel), List.mem_of_getElem? (i := 1751) (by decide +kernel), List.mem_of_getElem? (i := 1752) (by decide +kernel)⟩
theorem lw_p105 : lw_okq (⟨"NamedToWedModel", "readsLower", "()Z"⟩, 85) := ⟨⟨by decide +kernel, by decide +kernel⟩, List.mem_of_getElem? (i := 1162) (by decide +kernel), List.mem_of_getElem? (i := 1755) (by decide +kernel), List.mem_of_getElem? (i := 1756) (by decide +kernel)⟩
theorem lw_p106 : lw_okq (⟨"NamedToWedModel", "readsWedding", "()Z"⟩, 85) := ⟨⟨by decide +kernel, by decide +kernel⟩, List.mem_of_getElem? (i := 1162) (by decide +kernel), List.mem_of_getElem? (i := 1759) (by decide +kernel), List.mem_of_getElem? (i := 1760) (by decide +kernel)⟩
theorem lw_p107 : lw_okq (⟨"NamedToWedModel", "isPerson", "(I)Z"⟩, 85) := ⟨⟨by decide +kernel, by decide +kernel⟩, List.mem_of_getElem? (i := 1162) (by decide +kernel), List.mem_of_getElem? (i := 1767) (by decide +kernel), List.mem_of_getElem? (i := 1768) (by decide +kernel)⟩
theorem lw_p108 : lw_okq (⟨"NamedToWedModel", "childrenOf", "(I)I"⟩, 85) := ⟨⟨by decide +kernel, by decide +kernel⟩, List.mem_of_getElem? (i := 1162) (by decide +kernel), List.mem_of_getElem? (i := 1774) (by decide +kernel), List.mem_of_getElem? (i := 1775) (by decide +kernel)⟩
theorem lw_p109 : lw_okq (⟨"NamedToWedModel", "siblingsOf", "(I)I"⟩, 85) := ⟨⟨by decide +kernel, by decide +kernel⟩, List.mem_of_getElem? (i := 1162) (by decide +kernel), List.mem_of_getElem? (i := 1778) (by decide +kernel), List.mem_of_getElem? (i := 1779) (by decide +kernel)⟩
theorem lw_p110 : lw_okq (⟨"NamedToWedModel", "mayBe", "(I)I"⟩, 85) := ⟨⟨by decide +kernel, by decide +kernel⟩, List.mem_of_getElem? (i := 1162) (by decide +kernel), List.mem_of_getElem? (i := 1782) (by decide +kernel), List.mem_of_getElem? (i := 1783) (by decide +kernel)⟩
theorem lw_p111 : lw_okq (⟨"NamedToWedModel", "houseOf", "(I)I"⟩, 85) := ⟨⟨by decide +kernel, by decide +kernel⟩, List.mem_of_getElem? (i := 1162) (by decide +kernel), List.mem_of_getElem? (i := 1786) (by decide +kernel), List.mem_of_getElem? (i := 1787) (by decide +kernel)⟩
def lw_privs_7 : List (MethodName × Nat) := [(⟨"NamedToWedModel", "countsRules", "(Z)I"⟩, 85), (⟨"NamedToWedModel", "weddsOut", "()Z"⟩, 85), (⟨"NamedToWedModel", "isEvenAndOne", "()Z"⟩, 85), (⟨"NamedToWedModel", "nextRow", "([I)Z"⟩, 85), (⟨"NamedToWedModel", "changesRow", "([III)V"⟩, 85), (⟨"NamedToWedModel", "putsRuleBack", "()V"⟩, 85), (⟨"NamedToWedModel", "readsPerson", "()Z"⟩, 85), (⟨"NamedToWedModel", "readsParents", "()Z"⟩, 85), (⟨"NamedToWedModel", "readsParent", "(I)Z"⟩, 85), (⟨"NamedToWedModel", "readsLower", "()Z"⟩, 85), (⟨"NamedToWedModel", "readsWedding", "()Z"⟩, 85), (⟨"NamedToWedModel", "isPerson", "(I)Z"⟩, 85), (⟨"NamedToWedModel", "childrenOf", "(I)I"⟩, 85), (⟨"NamedToWedModel", "siblingsOf", "(I)I"⟩, 85), (⟨"NamedToWedModel", "mayBe", "(I)I"⟩, 85), (⟨"NamedToWedModel", "houseOf", "(I)I"⟩, 85)]
theorem lw_r7 : ∀ q ∈ lw_privs_7, lw_okq q := List.forall_mem_cons.mpr ⟨lw_p96, List.forall_mem_cons.mpr ⟨lw_p97, List.forall_mem_cons.mpr ⟨lw_p98, List.forall_mem_cons.mpr ⟨lw_p99, List.forall_mem_cons.mpr ⟨lw_p100, List.forall_mem_cons.mpr ⟨lw_p101, List.forall_mem_cons.mpr ⟨lw_p102, List.forall_mem_cons.mpr ⟨lw_p103, List.forall_mem_cons.mpr ⟨lw_p104, List.forall_mem_cons.mpr ⟨lw_p105, List.forall_mem_cons.mpr ⟨lw_p106, List.forall_mem_cons.mpr ⟨lw_p107, List.forall_mem_cons.mpr ⟨lw_p108, List.forall_mem_cons.mpr ⟨lw_p109, List.forall_mem_cons.mpr ⟨lw_p110, List.forall_mem_cons.mpr ⟨lw_p111, fun _ h => absurd h List.not_mem_nil⟩⟩⟩⟩⟩⟩⟩⟩⟩⟩⟩⟩⟩⟩⟩⟩
theorem lw_p112 : lw_okq (⟨"NamedToWedModel", "canBeBy", "(II)Z"⟩, 85) := ⟨⟨by decide +kernel, by decide +kernel⟩, List.mem_of_getElem? (i := 1162) (by decide +kernel), List.mem_of_getElem? (i := 1793) (by decide +kernel), List.mem_of_getElem? (i := 1794) (by decide +kernel)⟩
theorem lw_p113 : lw_okq (⟨"NamedToWedModel", "isNamed", "(II)V"⟩, 85) := ⟨⟨by decide +kernel, by decide +kernel⟩, List.mem_of_getElem? (i := 1162) (by decide +kernel), List.mem_of_getElem? (i := 1797) (by decide +kernel), List.mem_of_getElem? (i := 1798) (by decide +kernel)⟩
theorem lw_p114 : lw_okq (⟨"NamedToWedModel", "namesKin", "(I)V"⟩, 85) := ⟨⟨by decide +kernel, by decide +kernel⟩, List.mem_of_getElem? (i := 1162) (by decide +kernel), List.mem_of_getElem? (i := 1801) (by decide +kernel), List.mem_of_getElem? (i := 1802) (by decide +kernel)⟩
theorem lw_p115 : lw_okq (⟨"NamedToWedModel", "mismatched", "(I)I"⟩, 85) := ⟨⟨by decide +kernel, by decide +kernel⟩, List.mem_of_getElem? (i := 1162) (by decide +kernel), List.mem_of_getElem? (i := 1805) (by decide +kernel), List.mem_of_getElem? (i := 1806) (by decide +kernel)⟩
theorem lw_p116 : lw_okq (⟨"NamedToWedModel", "sureOf", "(I)I"⟩, 85) := ⟨⟨by decide +kernel, by decide +kernel⟩, List.mem_of_getElem? (i := 1162) (by decide +kernel), List.mem_of_getElem? (i := 1809) (by decide +kernel), List.mem_of_getElem? (i := 1810) (by decide +kernel)⟩
theorem lw_p117 : lw_okq (⟨"NamedToWedModel", "isFirst", "(I)Z"⟩, 85) := ⟨⟨by decide +kernel, by decide +kernel⟩, List.mem_of_getElem? (i := 1162) (by decide +kernel), List.mem_of_getElem? (i := 1817) (by decide +kernel), List.mem_of_getElem? (i := 1818) (by decide +kernel)⟩
theorem lw_p118 : lw_okq (⟨"NamedToWedModel", "mendedAt", "(I)I"⟩, 85) := ⟨⟨by decide +kernel, by decide +kernel⟩, List.mem_of_getElem? (i := 1162) (by decide +kernel), List.mem_of_getElem? (i := 1825) (by decide +kernel), List.mem_of_getElem? (i := 1826) (by decide +kernel)⟩
theorem lw_p119 : lw_okq (⟨"NamedToWedModel", "isWrongWedding", "(I)Z"⟩, 85) := ⟨⟨by decide +kernel, by decide +kernel⟩, List.mem_of_getElem? (i := 1162) (by decide +kernel), List.mem_of_getElem? (i := 1833) (by decide +kernel), List.mem_of_getElem? (i := 1834) (by decide +kernel)⟩
theorem lw_p120 : lw_okq (⟨"NamedToWedModel", "isWrongChild", "(I)Z"⟩, 85) := ⟨⟨by decide +kernel, by decide +kernel⟩, List.mem_of_getElem? (i := 1162) (by decide +kernel), List.mem_of_getElem? (i := 1837) (by decide +kernel), List.mem_of_getElem? (i := 1838) (by decide +kernel)⟩
theorem lw_p121 : lw_okq (⟨"NamedToWedModel", "laysLevels", "(I)V"⟩, 85) := ⟨⟨by decide +kernel, by decide +kernel⟩, List.mem_of_getElem? (i := 1162) (by decide +kernel), List.mem_of_getElem? (i := 1845) (by decide +kernel), List.mem_of_getElem? (i := 1846) (by decide +kernel)⟩
theorem lw_p122 : lw_okq (⟨"NamedToWedModel", "thoseOf", "(II)I"⟩, 85) := ⟨⟨by decide +kernel, by decide +kernel⟩, List.mem_of_getElem? (i := 1162) (by decide +kernel), List.mem_of_getElem? (i := 1849) (by decide +kernel), List.mem_of_getElem? (i := 1850) (by decide +kernel)⟩
theorem lw_p123 : lw_okq (⟨"NamedToWedModel", "ofSort", "(I)I"⟩, 85) := ⟨⟨by decide +kernel, by decide +kernel⟩, List.mem_of_getElem? (i := 1162) (by decide +kernel), List.mem_of_getElem? (i := 1853) (by decide +kernel), List.mem_of_getElem? (i := 1854) (by decide +kernel)⟩
theorem lw_p124 : lw_okq (⟨"NamedToWedModel", "atLevel", "(I)I"⟩, 85) := ⟨⟨by decide +kernel, by decide +kernel⟩, List.mem_of_getElem? (i := 1162) (by decide +kernel), List.mem_of_getElem? (i := 1857) (by decide +kernel), List.mem_of_getElem? (i := 1858) (by decide +kernel)⟩
theorem lw_p125 : lw_okq (⟨"NamedToWedModel", "allOf", "(II)I"⟩, 85) := ⟨⟨by decide +kernel, by decide +kernel⟩, List.mem_of_getElem? (i := 1162) (by decide +kernel), List.mem_of_getElem? (i := 1861) (by decide +kernel), List.mem_of_getElem? (i := 1862) (by decide +kernel)⟩
theorem lw_p126 : lw_okq (⟨"NamedToWedModel", "laysMayBe", "()V"⟩, 85) := ⟨⟨by decide +kernel, by decide +kernel⟩, List.mem_of_getElem? (i := 1162) (by decide +kernel), List.mem_of_getElem? (i := 1873) (by decide +kernel), List.mem_of_getElem? (i := 1874) (by decide +kernel)⟩
theorem lw_p127 : lw_okq (⟨"NamedToWedModel", "whoMayWed", "(I)I"⟩, 85) := ⟨⟨by decide +kernel, by decide +kernel⟩, List.mem_of_getElem? (i := 1162) (by decide +kernel), List.mem_of_getElem? (i := 1877) (by decide +kernel), List.mem_of_getElem? (i := 1878) (by decide +kernel)⟩
def lw_privs_8 : List (MethodName × Nat) := [(⟨"NamedToWedModel", "canBeBy", "(II)Z"⟩, 85), (⟨"NamedToWedModel", "isNamed", "(II)V"⟩, 85), (⟨"NamedToWedModel", "namesKin", "(I)V"⟩, 85), (⟨"NamedToWedModel", "mismatched", "(I)I"⟩, 85), (⟨"NamedToWedModel", "sureOf", "(I)I"⟩, 85), (⟨"NamedToWedModel", "isFirst", "(I)Z"⟩, 85), (⟨"NamedToWedModel", "mendedAt", "(I)I"⟩, 85), (⟨"NamedToWedModel", "isWrongWedding", "(I)Z"⟩, 85), (⟨"NamedToWedModel", "isWrongChild", "(I)Z"⟩, 85), (⟨"NamedToWedModel", "laysLevels", "(I)V"⟩, 85), (⟨"NamedToWedModel", "thoseOf", "(II)I"⟩, 85), (⟨"NamedToWedModel", "ofSort", "(I)I"⟩, 85), (⟨"NamedToWedModel", "atLevel", "(I)I"⟩, 85), (⟨"NamedToWedModel", "allOf", "(II)I"⟩, 85), (⟨"NamedToWedModel", "laysMayBe", "()V"⟩, 85), (⟨"NamedToWedModel", "whoMayWed", "(I)I"⟩, 85)]
theorem lw_r8 : ∀ q ∈ lw_privs_8, lw_okq q := List.forall_mem_cons.mpr ⟨lw_p112, List.forall_mem_cons.mpr ⟨lw_p113, List.forall_mem_cons.mpr ⟨lw_p114, List.forall_mem_cons.mpr ⟨lw_p115, List.forall_mem_cons.mpr ⟨lw_p116, List.forall_mem_cons.mpr ⟨lw_p117, List.forall_mem_cons.mpr ⟨lw_p118, List.forall_mem_cons.mpr ⟨lw_p119, List.forall_mem_cons.mpr ⟨lw_p120, List.forall_mem_cons.mpr ⟨lw_p121, List.forall_mem_cons.mpr ⟨lw_p122, List.forall_mem_cons.mpr ⟨lw_p123, List.forall_mem_cons.mpr ⟨lw_p124, List.forall_mem_cons.mpr ⟨lw_p125, List.forall_mem_cons.mpr ⟨lw_p126, List.forall_mem_cons.mpr ⟨lw_p127, fun _ h => absurd h List.not_mem_nil⟩⟩⟩⟩⟩⟩⟩⟩⟩⟩⟩⟩⟩⟩⟩⟩
theorem lw_p128 : lw_okq (⟨"NamedToWedModel", "goTogether", "(II)Z"⟩, 85) := ⟨⟨by decide +kernel, by decide +kernel⟩, List.mem_of_getElem? (i := 1162) (by decide +kernel), List.mem_of_getElem? (i := 1881) (by decide +kernel), List.mem_of_getElem? (i := 1882) (by decide +kernel)⟩
theorem lw_p129 : lw_okq (⟨"NamedToWedModel", "wedsOneMore", "(I)Z"⟩, 85) := ⟨⟨by decide +kernel, by decide +kernel⟩, List.mem_of_getElem? (i := 1162) (by decide +kernel), List.mem_of_getElem? (i := 1889) (by decide +kernel), List.mem_of_getElem? (i := 1890) (by decide +kernel)⟩
theorem lw_p130 : lw_okq (⟨"NamedToWedModel", "wedsBack", "(II)V"⟩, 85) := ⟨⟨by decide +kernel, by decide +kernel⟩, List.mem_of_getElem? (i := 1162) (by decide +kernel), List.mem_of_getElem? (i := 1893) (by decide +kernel), List.mem_of_getElem? (i := 1894) (by decide +kernel)⟩
theorem lw_p131 : lw_okq (⟨"NamedToWedModel", "comeFrom", "(IZ)I"⟩, 85) := ⟨⟨by decide +kernel, by decide +kernel⟩, List.mem_of_getElem? (i := 1162) (by decide +kernel), List.mem_of_getElem? (i := 1901) (by decide +kernel), List.mem_of_getElem? (i := 1902) (by decide +kernel)⟩
theorem lw_p132 : lw_okq (⟨"NamedToWedModel", "generationOf", "(I)I"⟩, 85) := ⟨⟨by decide +kernel, by decide +kernel⟩, List.mem_of_getElem? (i := 1162) (by decide +kernel), List.mem_of_getElem? (i := 1905) (by decide +kernel), List.mem_of_getElem? (i := 1906) (by decide +kernel)⟩
theorem lw_p133 : lw_okq (⟨"NamedToWedModel", "yearsGo", "(I)V"⟩, 85) := ⟨⟨by decide +kernel, by decide +kernel⟩, List.mem_of_getElem? (i := 1162) (by decide +kernel), List.mem_of_getElem? (i := 1916) (by decide +kernel), List.mem_of_getElem? (i := 1917) (by decide +kernel)⟩
theorem lw_p134 : lw_okq (⟨"NamedToWedModel", "yearGoes", "()V"⟩, 85) := ⟨⟨by decide +kernel, by decide +kernel⟩, List.mem_of_getElem? (i := 1162) (by decide +kernel), List.mem_of_getElem? (i := 1920) (by decide +kernel), List.mem_of_getElem? (i := 1921) (by decide +kernel)⟩
theorem lw_p135 : lw_okq (⟨"NamedToWedModel", "weds", "(I)V"⟩, 85) := ⟨⟨by decide +kernel, by decide +kernel⟩, List.mem_of_getElem? (i := 1162) (by decide +kernel), List.mem_of_getElem? (i := 1924) (by decide +kernel), List.mem_of_getElem? (i := 1925) (by decide +kernel)⟩
theorem lw_p136 : lw_okq (⟨"NamedToWedModel", "feels", "(I)V"⟩, 85) := ⟨⟨by decide +kernel, by decide +kernel⟩, List.mem_of_getElem? (i := 1162) (by decide +kernel), List.mem_of_getElem? (i := 1928) (by decide +kernel), List.mem_of_getElem? (i := 1929) (by decide +kernel)⟩
theorem lw_p137 : lw_okq (⟨"NamedToWedModel", "draws", "()I"⟩, 85) := ⟨⟨by decide +kernel, by decide +kernel⟩, List.mem_of_getElem? (i := 1162) (by decide +kernel), List.mem_of_getElem? (i := 1932) (by decide +kernel), List.mem_of_getElem? (i := 1933) (by decide +kernel)⟩
theorem lw_p138 : lw_okq (⟨"NamedToWedModel", "allOfName", "(I)I"⟩, 85) := ⟨⟨by decide +kernel, by decide +kernel⟩, List.mem_of_getElem? (i := 1162) (by decide +kernel), List.mem_of_getElem? (i := 1937) (by decide +kernel), List.mem_of_getElem? (i := 1938) (by decide +kernel)⟩
theorem lw_p139 : lw_okq (⟨"NamedToWedModel", "allOfVillage", "()I"⟩, 85) := ⟨⟨by decide +kernel, by decide +kernel⟩, List.mem_of_getElem? (i := 1162) (by decide +kernel), List.mem_of_getElem? (i := 1941) (by decide +kernel), List.mem_of_getElem? (i := 1942) (by decide +kernel)⟩
theorem lw_p140 : lw_okq (⟨"NamedToWedModel", "holdsAny", "(I)Z"⟩, 85) := ⟨⟨by decide +kernel, by decide +kernel⟩, List.mem_of_getElem? (i := 1162) (by decide +kernel), List.mem_of_getElem? (i := 1945) (by decide +kernel), List.mem_of_getElem? (i := 1946) (by decide +kernel)⟩
theorem lw_p141 : lw_okq (⟨"NamedToWedModel", "reckonsTo", "(II)I"⟩, 85) := ⟨⟨by decide +kernel, by decide +kernel⟩, List.mem_of_getElem? (i := 1162) (by decide +kernel), List.mem_of_getElem? (i := 1949) (by decide +kernel), List.mem_of_getElem? (i := 1950) (by decide +kernel)⟩
theorem lw_p142 : lw_okq (⟨"NamedToWedModel", "byLaw", "(III)I"⟩, 85) := ⟨⟨by decide +kernel, by decide +kernel⟩, List.mem_of_getElem? (i := 1162) (by decide +kernel), List.mem_of_getElem? (i := 1956) (by decide +kernel), List.mem_of_getElem? (i := 1957) (by decide +kernel)⟩
theorem lw_p143 : lw_okq (⟨"NamedToWedModel", "bears", "(I)V"⟩, 85) := ⟨⟨by decide +kernel, by decide +kernel⟩, List.mem_of_getElem? (i := 1162) (by decide +kernel), List.mem_of_getElem? (i := 1960) (by decide +kernel), List.mem_of_getElem? (i := 1961) (by decide +kernel)⟩
def lw_privs_9 : List (MethodName × Nat) := [(⟨"NamedToWedModel", "goTogether", "(II)Z"⟩, 85), (⟨"NamedToWedModel", "wedsOneMore", "(I)Z"⟩, 85), (⟨"NamedToWedModel", "wedsBack", "(II)V"⟩, 85), (⟨"NamedToWedModel", "comeFrom", "(IZ)I"⟩, 85), (⟨"NamedToWedModel", "generationOf", "(I)I"⟩, 85), (⟨"NamedToWedModel", "yearsGo", "(I)V"⟩, 85), (⟨"NamedToWedModel", "yearGoes", "()V"⟩, 85), (⟨"NamedToWedModel", "weds", "(I)V"⟩, 85), (⟨"NamedToWedModel", "feels", "(I)V"⟩, 85), (⟨"NamedToWedModel", "draws", "()I"⟩, 85), (⟨"NamedToWedModel", "allOfName", "(I)I"⟩, 85), (⟨"NamedToWedModel", "allOfVillage", "()I"⟩, 85), (⟨"NamedToWedModel", "holdsAny", "(I)Z"⟩, 85), (⟨"NamedToWedModel", "reckonsTo", "(II)I"⟩, 85), (⟨"NamedToWedModel", "byLaw", "(III)I"⟩, 85), (⟨"NamedToWedModel", "bears", "(I)V"⟩, 85)]
theorem lw_r9 : ∀ q ∈ lw_privs_9, lw_okq q := List.forall_mem_cons.mpr ⟨lw_p128, List.forall_mem_cons.mpr ⟨lw_p129, List.forall_mem_cons.mpr ⟨lw_p130, List.forall_mem_cons.mpr ⟨lw_p131, List.forall_mem_cons.mpr ⟨lw_p132, List.forall_mem_cons.mpr ⟨lw_p133, List.forall_mem_cons.mpr ⟨lw_p134, List.forall_mem_cons.mpr ⟨lw_p135, List.forall_mem_cons.mpr ⟨lw_p136, List.forall_mem_cons.mpr ⟨lw_p137, List.forall_mem_cons.mpr ⟨lw_p138, List.forall_mem_cons.mpr ⟨lw_p139, List.forall_mem_cons.mpr ⟨lw_p140, List.forall_mem_cons.mpr ⟨lw_p141, List.forall_mem_cons.mpr ⟨lw_p142, List.forall_mem_cons.mpr ⟨lw_p143, fun _ h => absurd h List.not_mem_nil⟩⟩⟩⟩⟩⟩⟩⟩⟩⟩⟩⟩⟩⟩⟩⟩
theorem lw_p144 : lw_okq (⟨"NamedToWedModel", "dies", "(I)V"⟩, 85) := ⟨⟨by decide +kernel, by decide +kernel⟩, List.mem_of_getElem? (i := 1162) (by decide +kernel), List.mem_of_getElem? (i := 1964) (by decide +kernel), List.mem_of_getElem? (i := 1965) (by decide +kernel)⟩
theorem lw_p145 : lw_okq (⟨"NamedToWedModel", "leftOf", "(I)I"⟩, 85) := ⟨⟨by decide +kernel, by decide +kernel⟩, List.mem_of_getElem? (i := 1162) (by decide +kernel), List.mem_of_getElem? (i := 1988) (by decide +kernel), List.mem_of_getElem? (i := 1989) (by decide +kernel)⟩
theorem lw_p146 : lw_okq (⟨"NamedToWedModel", "octet", "(I)I"⟩, 85) := ⟨⟨by decide +kernel, by decide +kernel⟩, List.mem_of_getElem? (i := 1162) (by decide +kernel), List.mem_of_getElem? (i := 2009) (by decide +kernel), List.mem_of_getElem? (i := 2010) (by decide +kernel)⟩
theorem lw_p147 : lw_okq (⟨"NamedToWedModel", "wedSet", "()I"⟩, 85) := ⟨⟨by decide +kernel, by decide +kernel⟩, List.mem_of_getElem? (i := 1162) (by decide +kernel), List.mem_of_getElem? (i := 2017) (by decide +kernel), List.mem_of_getElem? (i := 2018) (by decide +kernel)⟩
def lw_privs_10 : List (MethodName × Nat) := [(⟨"NamedToWedModel", "dies", "(I)V"⟩, 85), (⟨"NamedToWedModel", "leftOf", "(I)I"⟩, 85), (⟨"NamedToWedModel", "octet", "(I)I"⟩, 85), (⟨"NamedToWedModel", "wedSet", "()I"⟩, 85)]
theorem lw_r10 : ∀ q ∈ lw_privs_10, lw_okq q := List.forall_mem_cons.mpr ⟨lw_p144, List.forall_mem_cons.mpr ⟨lw_p145, List.forall_mem_cons.mpr ⟨lw_p146, List.forall_mem_cons.mpr ⟨lw_p147, fun _ h => absurd h List.not_mem_nil⟩⟩⟩⟩
def lw_privs : List (MethodName × Nat) := lw_privs_1 ++ (lw_privs_2 ++ (lw_privs_3 ++ (lw_privs_4 ++ (lw_privs_5 ++ (lw_privs_6 ++ (lw_privs_7 ++ (lw_privs_8 ++ (lw_privs_9 ++ (lw_privs_10)))))))))
def lw_tbl : List Cond := k2_sels lw_privs ++ tables_1
theorem lw_privs_ok : ∀ q ∈ lw_privs, lw_okq q := by
  show ∀ q ∈ lw_privs_1 ++ (lw_privs_2 ++ (lw_privs_3 ++ (lw_privs_4 ++ (lw_privs_5 ++ (lw_privs_6 ++ (lw_privs_7 ++ (lw_privs_8 ++ (lw_privs_9 ++ (lw_privs_10))))))))), lw_okq q
  exact List.forall_mem_append.mpr ⟨lw_r1, List.forall_mem_append.mpr ⟨lw_r2, List.forall_mem_append.mpr ⟨lw_r3, List.forall_mem_append.mpr ⟨lw_r4, List.forall_mem_append.mpr ⟨lw_r5, List.forall_mem_append.mpr ⟨lw_r6, List.forall_mem_append.mpr ⟨lw_r7, List.forall_mem_append.mpr ⟨lw_r8, List.forall_mem_append.mpr ⟨lw_r9, lw_r10⟩⟩⟩⟩⟩⟩⟩⟩⟩
end
section
def RX0 : String := "NamedToWed$Changes"
def TX0 : u_T := fun k => match k with
  | 0 => ("NamedToWed$Changes", "seen", "[I", true)
  | 1 => ("NamedToWed$Changes", "queue", "[I", true)
  | 2 => ("NamedToWed$Changes", "now", "[I", true)
  | 3 => ("NamedToWed$Changes", "then", "[I", true)
  | 4 => ("NamedToWed$Changes", "side", "[I", true)
  | _ => ("NamedToWed$Changes", "found", "I", false)
def tyX0 : Nat → FieldType := fun k => match k with
  | 0 => .array .int
  | 1 => .array .int
  | 2 => .array .int
  | 3 => .array .int
  | 4 => .array .int
  | _ => .int
theorem nmX0 : ∀ a, a < 6 → ∀ b, b < 6 → a ≠ b → (TX0 a).2.1 ≠ (TX0 b).2.1 := by decide +kernel
theorem tyX0_ok : ∀ k, k < 6 → parseFieldDescriptor (TX0 k).2.2.1 = some (tyX0 k) := by decide +kernel
def RX1 : String := "NamedToWed$Houses"
def TX1 : u_T := fun k => match k with
  | 0 => ("NamedToWed$Houses", "mayBe", "[I", true)
  | 1 => ("NamedToWed$Houses", "head", "[I", true)
  | 2 => ("NamedToWed$Houses", "name", "[I", true)
  | 3 => ("NamedToWed$Houses", "off", "[I", true)
  | 4 => ("NamedToWed$Houses", "fewest", "[I", true)
  | 5 => ("NamedToWed$Houses", "gone", "[I", true)
  | _ => ("NamedToWed$Houses", "broken", "I", false)
def tyX1 : Nat → FieldType := fun k => match k with
  | 0 => .array .int
  | 1 => .array .int
  | 2 => .array .int
  | 3 => .array .int
  | 4 => .array .int
  | 5 => .array .int
  | _ => .int
theorem nmX1 : ∀ a, a < 7 → ∀ b, b < 7 → a ≠ b → (TX1 a).2.1 ≠ (TX1 b).2.1 := by decide +kernel
theorem tyX1_ok : ∀ k, k < 7 → parseFieldDescriptor (TX1 k).2.2.1 = some (tyX1 k) := by decide +kernel
def RX2 : String := "NamedToWed$Law"
def TX2 : u_T := fun k => match k with
  | 0 => ("NamedToWed$Law", "clauses", "I", false)
  | 1 => ("NamedToWed$Law", "kinds", "[I", true)
  | 2 => ("NamedToWed$Law", "worthFrom", "[I", true)
  | 3 => ("NamedToWed$Law", "holdsFrom", "[I", true)
  | 4 => ("NamedToWed$Law", "holdsTo", "[I", true)
  | 5 => ("NamedToWed$Law", "size", "I", false)
  | 6 => ("NamedToWed$Law", "codes", "[C", true)
  | 7 => ("NamedToWed$Law", "with", "[I", true)
  | 8 => ("NamedToWed$Law", "stack", "[I", true)
  | 9 => ("NamedToWed$Law", "depth", "I", false)
  | _ => ("NamedToWed$Law", "refused", "Z", false)
def tyX2 : Nat → FieldType := fun k => match k with
  | 0 => .int
  | 1 => .array .int
  | 2 => .array .int
  | 3 => .array .int
  | 4 => .array .int
  | 5 => .int
  | 6 => .array .char
  | 7 => .array .int
  | 8 => .array .int
  | 9 => .int
  | _ => .boolean
theorem nmX2 : ∀ a, a < 11 → ∀ b, b < 11 → a ≠ b → (TX2 a).2.1 ≠ (TX2 b).2.1 := by decide +kernel
theorem tyX2_ok : ∀ k, k < 11 → parseFieldDescriptor (TX2 k).2.2.1 = some (tyX2 k) := by decide +kernel
def RX3 : String := "NamedToWed$LawReader"
def RX4 : String := "NamedToWed$Matches"
def TX4 : u_T := fun k => match k with
  | 0 => ("NamedToWed$Matches", "may", "[I", true)
  | 1 => ("NamedToWed$Matches", "partner", "[I", true)
  | 2 => ("NamedToWed$Matches", "askedBy", "[I", true)
  | _ => ("NamedToWed$Matches", "queue", "[I", true)
def tyX4 : Nat → FieldType := fun k => match k with
  | 0 => .array .int
  | 1 => .array .int
  | 2 => .array .int
  | _ => .array .int
theorem nmX4 : ∀ a, a < 4 → ∀ b, b < 4 → a ≠ b → (TX4 a).2.1 ≠ (TX4 b).2.1 := by decide +kernel
theorem tyX4_ok : ∀ k, k < 4 → parseFieldDescriptor (TX4 k).2.2.1 = some (tyX4 k) := by decide +kernel
def RX5 : String := "NamedToWed$Roll"
def TX5 : u_T := fun k => match k with
  | 0 => ("NamedToWed$Roll", "size", "I", false)
  | 1 => ("NamedToWed$Roll", "sort", "[I", true)
  | 2 => ("NamedToWed$Roll", "told", "[I", true)
  | 3 => ("NamedToWed$Roll", "father", "[I", true)
  | 4 => ("NamedToWed$Roll", "mother", "[I", true)
  | 5 => ("NamedToWed$Roll", "wed", "[I", true)
  | 6 => ("NamedToWed$Roll", "children", "[I", true)
  | 7 => ("NamedToWed$Roll", "siblings", "[I", true)
  | 8 => ("NamedToWed$Roll", "men", "I", false)
  | 9 => ("NamedToWed$Roll", "wedOnes", "I", false)
  | _ => ("NamedToWed$Roll", "number", "I", false)
def tyX5 : Nat → FieldType := fun k => match k with
  | 0 => .int
  | 1 => .array .int
  | 2 => .array .int
  | 3 => .array .int
  | 4 => .array .int
  | 5 => .array .int
  | 6 => .array .int
  | 7 => .array .int
  | 8 => .int
  | 9 => .int
  | _ => .int
theorem nmX5 : ∀ a, a < 11 → ∀ b, b < 11 → a ≠ b → (TX5 a).2.1 ≠ (TX5 b).2.1 := by decide +kernel
theorem tyX5_ok : ∀ k, k < 11 → parseFieldDescriptor (TX5 k).2.2.1 = some (tyX5 k) := by decide +kernel
def RX6 : String := "NamedToWed$Row"
def TX6 : u_T := fun k => match k with
  | 0 => ("NamedToWed$Row", "size", "I", false)
  | 1 => ("NamedToWed$Row", "steps", "[I", true)
  | 2 => ("NamedToWed$Row", "cameFrom", "[I", true)
  | 3 => ("NamedToWed$Row", "cameBy", "[I", true)
  | 4 => ("NamedToWed$Row", "queue", "[I", true)
  | 5 => ("NamedToWed$Row", "queued", "I", false)
  | 6 => ("NamedToWed$Row", "far", "[I", true)
  | 7 => ("NamedToWed$Row", "waysTo", "[J", false)
  | _ => ("NamedToWed$Row", "waysNext", "[J", false)
def tyX6 : Nat → FieldType := fun k => match k with
  | 0 => .int
  | 1 => .array .int
  | 2 => .array .int
  | 3 => .array .int
  | 4 => .array .int
  | 5 => .int
  | 6 => .array .int
  | 7 => .array .long
  | _ => .array .long
theorem nmX6 : ∀ a, a < 9 → ∀ b, b < 9 → a ≠ b → (TX6 a).2.1 ≠ (TX6 b).2.1 := by decide +kernel
theorem tyX6_ok : ∀ k, k < 9 → parseFieldDescriptor (TX6 k).2.2.1 = some (tyX6 k) := by decide +kernel
def RX7 : String := "NamedToWed$Rule"
def TX7 : u_T := fun k => match k with
  | 0 => ("NamedToWed$Rule", "names", "I", false)
  | 1 => ("NamedToWed$Rule", "wife", "[I", true)
  | 2 => ("NamedToWed$Rule", "husband", "[I", true)
  | 3 => ("NamedToWed$Rule", "child", "[I", true)
  | _ => ("NamedToWed$Rule", "mother", "[I", true)
def tyX7 : Nat → FieldType := fun k => match k with
  | 0 => .int
  | 1 => .array .int
  | 2 => .array .int
  | 3 => .array .int
  | _ => .array .int
theorem nmX7 : ∀ a, a < 5 → ∀ b, b < 5 → a ≠ b → (TX7 a).2.1 ≠ (TX7 b).2.1 := by decide +kernel
theorem tyX7_ok : ∀ k, k < 5 → parseFieldDescriptor (TX7 k).2.2.1 = some (tyX7 k) := by decide +kernel
def RX8 : String := "NamedToWed$Tape"
def TX8 : u_T := fun k => match k with
  | 0 => ("NamedToWed$Tape", "bytes", "[I", true)
  | 1 => ("NamedToWed$Tape", "held", "I", false)
  | 2 => ("NamedToWed$Tape", "from", "I", false)
  | 3 => ("NamedToWed$Tape", "size", "I", false)
  | _ => ("NamedToWed$Tape", "place", "I", false)
def tyX8 : Nat → FieldType := fun k => match k with
  | 0 => .array .int
  | 1 => .int
  | 2 => .int
  | 3 => .int
  | _ => .int
theorem nmX8 : ∀ a, a < 5 → ∀ b, b < 5 → a ≠ b → (TX8 a).2.1 ≠ (TX8 b).2.1 := by decide +kernel
theorem tyX8_ok : ∀ k, k < 5 → parseFieldDescriptor (TX8 k).2.2.1 = some (tyX8 k) := by decide +kernel
def RX9 : String := "NamedToWed$Village"
def TX9 : u_T := fun k => match k with
  | 0 => ("NamedToWed$Village", "men", "[I", true)
  | 1 => ("NamedToWed$Village", "women", "[I", true)
  | 2 => ("NamedToWed$Village", "couples", "[I", true)
  | 3 => ("NamedToWed$Village", "year", "I", false)
  | 4 => ("NamedToWed$Village", "x", "I", false)
  | 5 => ("NamedToWed$Village", "wed", "I", false)
  | 6 => ("NamedToWed$Village", "born", "I", false)
  | 7 => ("NamedToWed$Village", "died", "I", false)
  | _ => ("NamedToWed$Village", "letters", "[I", true)
def tyX9 : Nat → FieldType := fun k => match k with
  | 0 => .array .int
  | 1 => .array .int
  | 2 => .array .int
  | 3 => .int
  | 4 => .int
  | 5 => .int
  | 6 => .int
  | 7 => .int
  | _ => .array .int
theorem nmX9 : ∀ a, a < 9 → ∀ b, b < 9 → a ≠ b → (TX9 a).2.1 ≠ (TX9 b).2.1 := by decide +kernel
theorem tyX9_ok : ∀ k, k < 9 → parseFieldDescriptor (TX9 k).2.2.1 = some (tyX9 k) := by decide +kernel
def RX10 : String := "NamedToWed$Word"
def TX10 : u_T := fun k => match k with
  | 0 => ("NamedToWed$Word", "size", "I", false)
  | 1 => ("NamedToWed$Word", "steps", "[I", true)
  | 2 => ("NamedToWed$Word", "places", "[I", true)
  | 3 => ("NamedToWed$Word", "open", "I", false)
  | 4 => ("NamedToWed$Word", "openedAt", "[I", true)
  | 5 => ("NamedToWed$Word", "openedTimes", "[I", true)
  | 6 => ("NamedToWed$Word", "openedSize", "[I", true)
  | 7 => ("NamedToWed$Word", "digit", "I", false)
  | _ => ("NamedToWed$Word", "stepDue", "Z", false)
def tyX10 : Nat → FieldType := fun k => match k with
  | 0 => .int
  | 1 => .array .int
  | 2 => .array .int
  | 3 => .int
  | 4 => .array .int
  | 5 => .array .int
  | 6 => .array .int
  | 7 => .int
  | _ => .boolean
theorem nmX10 : ∀ a, a < 9 → ∀ b, b < 9 → a ≠ b → (TX10 a).2.1 ≠ (TX10 b).2.1 := by decide +kernel
theorem tyX10_ok : ∀ k, k < 9 → parseFieldDescriptor (TX10 k).2.2.1 = some (tyX10 k) := by decide +kernel
def RX11 : String := "NamedToWed"
def TX11 : u_T := fun k => match k with
  | 0 => ("NamedToWed", "tape", "LNamedToWed$Tape;", true)
  | 1 => ("NamedToWed", "rule", "LNamedToWed$Rule;", false)
  | 2 => ("NamedToWed", "spareRule", "LNamedToWed$Rule;", false)
  | 3 => ("NamedToWed", "roll", "LNamedToWed$Roll;", false)
  | 4 => ("NamedToWed", "spareRoll", "LNamedToWed$Roll;", false)
  | 5 => ("NamedToWed", "law", "LNamedToWed$Law;", false)
  | 6 => ("NamedToWed", "spareLaw", "LNamedToWed$Law;", false)
  | 7 => ("NamedToWed", "word", "LNamedToWed$Word;", true)
  | 8 => ("NamedToWed", "otherWord", "LNamedToWed$Word;", true)
  | 9 => ("NamedToWed", "row", "LNamedToWed$Row;", true)
  | 10 => ("NamedToWed", "changes", "LNamedToWed$Changes;", true)
  | 11 => ("NamedToWed", "houses", "LNamedToWed$Houses;", true)
  | 12 => ("NamedToWed", "matches", "LNamedToWed$Matches;", true)
  | 13 => ("NamedToWed", "village", "LNamedToWed$Village;", true)
  | 14 => ("NamedToWed", "trial", "LNamedToWed$Village;", true)
  | 15 => ("NamedToWed", "kept", "LNamedToWed$Village;", true)
  | 16 => ("NamedToWed", "keptNames", "I", false)
  | _ => ("NamedToWed", "isKept", "Z", false)
def tyX11 : Nat → FieldType := fun k => match k with
  | 0 => .object "NamedToWed$Tape"
  | 1 => .object "NamedToWed$Rule"
  | 2 => .object "NamedToWed$Rule"
  | 3 => .object "NamedToWed$Roll"
  | 4 => .object "NamedToWed$Roll"
  | 5 => .object "NamedToWed$Law"
  | 6 => .object "NamedToWed$Law"
  | 7 => .object "NamedToWed$Word"
  | 8 => .object "NamedToWed$Word"
  | 9 => .object "NamedToWed$Row"
  | 10 => .object "NamedToWed$Changes"
  | 11 => .object "NamedToWed$Houses"
  | 12 => .object "NamedToWed$Matches"
  | 13 => .object "NamedToWed$Village"
  | 14 => .object "NamedToWed$Village"
  | 15 => .object "NamedToWed$Village"
  | 16 => .int
  | _ => .boolean
theorem nmX11 : ∀ a, a < 18 → ∀ b, b < 18 → a ≠ b → (TX11 a).2.1 ≠ (TX11 b).2.1 := by decide +kernel
theorem tyX11_ok : ∀ k, k < 18 → parseFieldDescriptor (TX11 k).2.2.1 = some (tyX11 k) := by decide +kernel
def RX12 : String := "NamedToWedModel"
def TX12 : u_T := fun k => match k with
  | 0 => ("NamedToWedModel", "now", "[I", true)
  | 1 => ("NamedToWedModel", "aside", "[I", true)
  | 2 => ("NamedToWedModel", "kept", "[I", true)
  | 3 => ("NamedToWedModel", "wifeOf", "[I", true)
  | 4 => ("NamedToWedModel", "childOf", "[I", true)
  | 5 => ("NamedToWedModel", "names", "I", false)
  | 6 => ("NamedToWedModel", "tape", "[B", true)
  | 7 => ("NamedToWedModel", "taped", "I", false)
  | 8 => ("NamedToWedModel", "place0", "I", false)
  | 9 => ("NamedToWedModel", "length0", "I", false)
  | 10 => ("NamedToWedModel", "fault", "I", false)
  | 11 => ("NamedToWedModel", "number0", "I", false)
  | 12 => ("NamedToWedModel", "open", "I", false)
  | 13 => ("NamedToWedModel", "codeMany", "I", false)
  | 14 => ("NamedToWedModel", "waiting", "I", false)
  | 15 => ("NamedToWedModel", "saidMany", "I", false)
  | 16 => ("NamedToWedModel", "clauses", "I", false)
  | 17 => ("NamedToWedModel", "said", "[I", true)
  | 18 => ("NamedToWedModel", "waitsAt", "[I", true)
  | 19 => ("NamedToWedModel", "saidLetter", "[I", true)
  | 20 => ("NamedToWedModel", "saidFrom", "[I", true)
  | 21 => ("NamedToWedModel", "saidHalf", "[I", true)
  | 22 => ("NamedToWedModel", "saidTo", "[I", true)
  | 23 => ("NamedToWedModel", "codes", "[I", true)
  | 24 => ("NamedToWedModel", "clauseOf", "[I", true)
  | 25 => ("NamedToWedModel", "codeFrom", "[I", true)
  | 26 => ("NamedToWedModel", "codeHalf", "[I", true)
  | 27 => ("NamedToWedModel", "codeTo", "[I", true)
  | 28 => ("NamedToWedModel", "stack", "[I", true)
  | 29 => ("NamedToWedModel", "facts", "[I", true)
  | 30 => ("NamedToWedModel", "newWife", "[I", true)
  | 31 => ("NamedToWedModel", "newChild", "[I", true)
  | 32 => ("NamedToWedModel", "newNames", "I", false)
  | 33 => ("NamedToWedModel", "stepOf", "[I", true)
  | 34 => ("NamedToWedModel", "stepPlace", "[I", true)
  | 35 => ("NamedToWedModel", "roundFrom", "[I", true)
  | 36 => ("NamedToWedModel", "roundAt", "[I", true)
  | 37 => ("NamedToWedModel", "roundTimes", "[I", true)
  | 38 => ("NamedToWedModel", "stepMany", "I", false)
  | 39 => ("NamedToWedModel", "rounds", "I", false)
  | 40 => ("NamedToWedModel", "itFrom", "I", false)
  | 41 => ("NamedToWedModel", "itTimes", "I", false)
  | 42 => ("NamedToWedModel", "textFrom", "I", false)
  | 43 => ("NamedToWedModel", "rowNow", "[I", true)
  | 44 => ("NamedToWedModel", "rowBy", "[I", true)
  | 45 => ("NamedToWedModel", "wayAt", "[I", true)
  | 46 => ("NamedToWedModel", "wayMany", "I", false)
  | 47 => ("NamedToWedModel", "farTo", "[I", true)
  | 48 => ("NamedToWedModel", "cousinWay", "[I", true)
  | 49 => ("NamedToWedModel", "cousinSort", "[I", true)
  | 50 => ("NamedToWedModel", "cousinFrom", "[I", true)
  | 51 => ("NamedToWedModel", "cousinKind", "[I", true)
  | 52 => ("NamedToWedModel", "cousinFar", "[I", true)
  | 53 => ("NamedToWedModel", "cousinMany", "I", false)
  | 54 => ("NamedToWedModel", "wordsTo", "[J", true)
  | 55 => ("NamedToWedModel", "wordsThen", "[J", true)
  | 56 => ("NamedToWedModel", "keptWife", "[I", true)
  | 57 => ("NamedToWedModel", "keptChild", "[I", true)
  | 58 => ("NamedToWedModel", "namesThen", "I", false)
  | 59 => ("NamedToWedModel", "sortOf", "[I", true)
  | 60 => ("NamedToWedModel", "nameOf", "[I", true)
  | 61 => ("NamedToWedModel", "fatherOf", "[I", true)
  | 62 => ("NamedToWedModel", "motherOf", "[I", true)
  | 63 => ("NamedToWedModel", "wedTo", "[I", true)
  | 64 => ("NamedToWedModel", "newSort", "[I", true)
  | 65 => ("NamedToWedModel", "newName", "[I", true)
  | 66 => ("NamedToWedModel", "newFather", "[I", true)
  | 67 => ("NamedToWedModel", "newMother", "[I", true)
  | 68 => ("NamedToWedModel", "newWed", "[I", true)
  | 69 => ("NamedToWedModel", "persons", "I", false)
  | 70 => ("NamedToWedModel", "newPeople", "I", false)
  | 71 => ("NamedToWedModel", "guessOf", "[I", true)
  | 72 => ("NamedToWedModel", "isBad", "Z", false)
  | 73 => ("NamedToWedModel", "changes", "Z", false)
  | 74 => ("NamedToWedModel", "levelOf", "[I", true)
  | 75 => ("NamedToWedModel", "mayBeOf", "[I", true)
  | 76 => ("NamedToWedModel", "mateOf", "[I", true)
  | 77 => ("NamedToWedModel", "comesFrom", "[I", true)
  | 78 => ("NamedToWedModel", "waitOf", "[I", true)
  | 79 => ("NamedToWedModel", "weddingsNow", "I", false)
  | 80 => ("NamedToWedModel", "birthsNow", "I", false)
  | 81 => ("NamedToWedModel", "deathsNow", "I", false)
  | 82 => ("NamedToWedModel", "drawnNow", "I", false)
  | 83 => ("NamedToWedModel", "isKept", "Z", false)
  | _ => ("NamedToWedModel", "keptNames", "I", false)
def tyX12 : Nat → FieldType := fun k => match k with
  | 0 => .array .int
  | 1 => .array .int
  | 2 => .array .int
  | 3 => .array .int
  | 4 => .array .int
  | 5 => .int
  | 6 => .array .byte
  | 7 => .int
  | 8 => .int
  | 9 => .int
  | 10 => .int
  | 11 => .int
  | 12 => .int
  | 13 => .int
  | 14 => .int
  | 15 => .int
  | 16 => .int
  | 17 => .array .int
  | 18 => .array .int
  | 19 => .array .int
  | 20 => .array .int
  | 21 => .array .int
  | 22 => .array .int
  | 23 => .array .int
  | 24 => .array .int
  | 25 => .array .int
  | 26 => .array .int
  | 27 => .array .int
  | 28 => .array .int
  | 29 => .array .int
  | 30 => .array .int
  | 31 => .array .int
  | 32 => .int
  | 33 => .array .int
  | 34 => .array .int
  | 35 => .array .int
  | 36 => .array .int
  | 37 => .array .int
  | 38 => .int
  | 39 => .int
  | 40 => .int
  | 41 => .int
  | 42 => .int
  | 43 => .array .int
  | 44 => .array .int
  | 45 => .array .int
  | 46 => .int
  | 47 => .array .int
  | 48 => .array .int
  | 49 => .array .int
  | 50 => .array .int
  | 51 => .array .int
  | 52 => .array .int
  | 53 => .int
  | 54 => .array .long
  | 55 => .array .long
  | 56 => .array .int
  | 57 => .array .int
  | 58 => .int
  | 59 => .array .int
  | 60 => .array .int
  | 61 => .array .int
  | 62 => .array .int
  | 63 => .array .int
  | 64 => .array .int
  | 65 => .array .int
  | 66 => .array .int
  | 67 => .array .int
  | 68 => .array .int
  | 69 => .int
  | 70 => .int
  | 71 => .array .int
  | 72 => .boolean
  | 73 => .boolean
  | 74 => .array .int
  | 75 => .array .int
  | 76 => .array .int
  | 77 => .array .int
  | 78 => .array .int
  | 79 => .int
  | 80 => .int
  | 81 => .int
  | 82 => .int
  | 83 => .boolean
  | _ => .int
theorem nmX12 : ∀ a, a < 85 → ∀ b, b < 85 → a ≠ b → (TX12 a).2.1 ≠ (TX12 b).2.1 := by decide +kernel
theorem tyX12_ok : ∀ k, k < 85 → parseFieldDescriptor (TX12 k).2.2.1 = some (tyX12 k) := by decide +kernel
abbrev vwCl : List vw_C := [(RX0, TX0, 6), (RX1, TX1, 7), (RX2, TX2, 11), (RX4, TX4, 4), (RX5, TX5, 11), (RX6, TX6, 9), (RX7, TX7, 5), (RX8, TX8, 5), (RX9, TX9, 9), (RX10, TX10, 9), (RX11, TX11, 18), (RX12, TX12, 85)]
end
section
abbrev Itm : Type := Nat × Instr × Nat × Nat × Nat × Int32 × List (Int32 × Nat)
abbrev Cod : Type := List Itm
/-- NamedToWed.<init>()V -/
def cd_0 : Cod := [(0, .aload_n 0, 1, 0, 0, 0, []),
  (1, .invokespecial 1, 3, 1, 1, 0, [(0, 171)]),
  (4, .aload_n 0, 1, 0, 0, 0, []),
  (5, .new 7, 3, 7, 0, 0, [(0, 174)]),
  (8, .dup, 1, 0, 0, 0, []),
  (9, .invokespecial 9, 3, 2, 1, 1, [(0, 176)]),
  (12, .putfield 10, 3, 10, 0, 0, [(0, 373)]),
  (15, .aload_n 0, 1, 0, 0, 0, []),
  (16, .new 16, 3, 6, 0, 0, [(0, 195)]),
  (19, .dup, 1, 0, 0, 0, []),
  (20, .invokespecial 18, 3, 3, 1, 1, [(0, 197)]),
  (23, .putfield 19, 3, 10, 1, 0, [(0, 374)]),
  (26, .aload_n 0, 1, 0, 0, 0, []),
  (27, .new 16, 3, 6, 0, 0, [(0, 195)]),
  (30, .dup, 1, 0, 0, 0, []),
  (31, .invokespecial 18, 3, 3, 1, 1, [(0, 197)]),
  (34, .putfield 23, 3, 10, 2, 0, [(0, 375)]),
  (37, .aload_n 0, 1, 0, 0, 0, []),
  (38, .new 26, 3, 4, 0, 0, [(0, 221)]),
  (41, .dup, 1, 0, 0, 0, []),
  (42, .invokespecial 28, 3, 4, 1, 1, [(0, 223)]),
  (45, .putfield 29, 3, 10, 3, 0, [(0, 376)]),
  (48, .aload_n 0, 1, 0, 0, 0, []),
  (49, .new 26, 3, 4, 0, 0, [(0, 221)]),
  (52, .dup, 1, 0, 0, 0, []),
  (53, .invokespecial 28, 3, 4, 1, 1, [(0, 223)]),
  (56, .putfield 33, 3, 10, 4, 0, [(0, 377)]),
  (59, .aload_n 0, 1, 0, 0, 0, []),
  (60, .new 36, 3, 2, 0, 0, [(0, 256)]),
  (63, .dup, 1, 0, 0, 0, []),
  (64, .invokespecial 38, 3, 5, 1, 1, [(0, 258)]),
  (67, .putfield 39, 3, 10, 5, 0, [(0, 378)]),
  (70, .aload_n 0, 1, 0, 0, 0, []),
  (71, .new 36, 3, 2, 0, 0, [(0, 256)]),
  (74, .dup, 1, 0, 0, 0, []),
  (75, .invokespecial 38, 3, 5, 1, 1, [(0, 258)]),
  (78, .putfield 43, 3, 10, 6, 0, [(0, 379)]),
  (81, .aload_n 0, 1, 0, 0, 0, []),
  (82, .new 46, 3, 9, 0, 0, [(0, 282)]),
  (85, .dup, 1, 0, 0, 0, []),
  (86, .invokespecial 48, 3, 6, 1, 1, [(0, 284)]),
  (89, .putfield 49, 3, 10, 7, 0, [(0, 380)]),
  (92, .aload_n 0, 1, 0, 0, 0, []),
  (93, .new 46, 3, 9, 0, 0, [(0, 282)]),
  (96, .dup, 1, 0, 0, 0, []),
  (97, .invokespecial 48, 3, 6, 1, 1, [(0, 284)]),
  (100, .putfield 53, 3, 10, 8, 0, [(0, 381)]),
  (103, .aload_n 0, 1, 0, 0, 0, []),
  (104, .new 56, 3, 5, 0, 0, [(0, 298)]),
  (107, .dup, 1, 0, 0, 0, []),
  (108, .invokespecial 58, 3, 7, 1, 1, [(0, 300)]),
  (111, .putfield 59, 3, 10, 9, 0, [(0, 382)]),
  (114, .aload_n 0, 1, 0, 0, 0, []),
  (115, .new 63, 3, 0, 0, 0, [(0, 314)]),
  (118, .dup, 1, 0, 0, 0, []),
  (119, .invokespecial 65, 3, 8, 1, 1, [(0, 316)]),
  (122, .putfield 66, 3, 10, 10, 0, [(0, 383)]),
  (125, .aload_n 0, 1, 0, 0, 0, []),
  (126, .new 70, 3, 1, 0, 0, [(0, 326)]),
  (129, .dup, 1, 0, 0, 0, []),
  (130, .invokespecial 72, 3, 9, 1, 1, [(0, 328)]),
  (133, .putfield 73, 3, 10, 11, 0, [(0, 384)]),
  (136, .aload_n 0, 1, 0, 0, 0, []),
  (137, .new 77, 3, 3, 0, 0, [(0, 340)]),
  (140, .dup, 1, 0, 0, 0, []),
  (141, .invokespecial 79, 3, 10, 1, 1, [(0, 342)]),
  (144, .putfield 80, 3, 10, 12, 0, [(0, 385)]),
  (147, .aload_n 0, 1, 0, 0, 0, []),
  (148, .new 84, 3, 8, 0, 0, [(0, 350)]),
  (151, .dup, 1, 0, 0, 0, []),
  (152, .invokespecial 86, 3, 11, 1, 1, [(0, 352)]),
  (155, .putfield 87, 3, 10, 13, 0, [(0, 386)]),
  (158, .aload_n 0, 1, 0, 0, 0, []),
  (159, .new 84, 3, 8, 0, 0, [(0, 350)]),
  (162, .dup, 1, 0, 0, 0, []),
  (163, .invokespecial 86, 3, 11, 1, 1, [(0, 352)]),
  (166, .putfield 91, 3, 10, 14, 0, [(0, 387)]),
  (169, .aload_n 0, 1, 0, 0, 0, []),
  (170, .new 84, 3, 8, 0, 0, [(0, 350)]),
  (173, .dup, 1, 0, 0, 0, []),
  (174, .invokespecial 86, 3, 11, 1, 1, [(0, 352)]),
  (177, .putfield 94, 3, 10, 15, 0, [(0, 388)]),
  (180, .aload_n 0, 1, 0, 0, 0, []),
  (181, .iconst 0, 1, 0, 0, 0, []),
  (182, .putfield 97, 3, 10, 16, 0, [(0, 389)]),
  (185, .aload_n 0, 1, 0, 0, 0, []),
  (186, .iconst 0, 1, 0, 0, 0, []),
  (187, .putfield 101, 3, 10, 17, 0, [(0, 390)]),
  (190, .return_, 1, 0, 0, 0, [])]
/-- java/lang/Object.<init>()V -/
def cd_1 : Cod := [(0, .return_, 1, 0, 0, 0, [])]
/-- NamedToWed$Tape.<init>()V -/
def cd_2 : Cod := [(0, .aload_n 0, 1, 0, 0, 0, []),
  (1, .invokespecial 3, 3, 1, 1, 0, [(0, 179)]),
  (4, .aload_n 0, 1, 0, 0, 0, []),
  (5, .sipush 260, 3, 0, 0, 260, []),
  (8, .newarray .int, 2, 14, 0, 0, []),
  (10, .putfield 9, 3, 7, 0, 0, [(0, 180)]),
  (13, .aload_n 0, 1, 0, 0, 0, []),
  (14, .iconst 0, 1, 0, 0, 0, []),
  (15, .putfield 15, 3, 7, 1, 0, [(0, 182)]),
  (18, .aload_n 0, 1, 0, 0, 0, []),
  (19, .iconst 0, 1, 0, 0, 0, []),
  (20, .putfield 19, 3, 7, 2, 0, [(0, 184)]),
  (23, .aload_n 0, 1, 0, 0, 0, []),
  (24, .iconst 0, 1, 0, 0, 0, []),
  (25, .putfield 22, 3, 7, 3, 0, [(0, 185)]),
  (28, .aload_n 0, 1, 0, 0, 0, []),
  (29, .iconst 0, 1, 0, 0, 0, []),
  (30, .putfield 25, 3, 7, 4, 0, [(0, 189)]),
  (33, .return_, 1, 0, 0, 0, [])]
/-- NamedToWed$Rule.<init>()V -/
def cd_3 : Cod := [(0, .aload_n 0, 1, 0, 0, 0, []),
  (1, .invokespecial 3, 3, 1, 1, 0, [(0, 200)]),
  (4, .aload_n 0, 1, 0, 0, 0, []),
  (5, .iconst 0, 1, 0, 0, 0, []),
  (6, .putfield 9, 3, 6, 0, 0, [(0, 201)]),
  (9, .aload_n 0, 1, 0, 0, 0, []),
  (10, .bipush 6, 2, 0, 0, 6, []),
  (12, .newarray .int, 2, 14, 0, 0, []),
  (14, .putfield 15, 3, 6, 1, 0, [(0, 208)]),
  (17, .aload_n 0, 1, 0, 0, 0, []),
  (18, .bipush 6, 2, 0, 0, 6, []),
  (20, .newarray .int, 2, 14, 0, 0, []),
  (22, .putfield 19, 3, 6, 2, 0, [(0, 213)]),
  (25, .aload_n 0, 1, 0, 0, 0, []),
  (26, .bipush 6, 2, 0, 0, 6, []),
  (28, .newarray .int, 2, 14, 0, 0, []),
  (30, .putfield 22, 3, 6, 3, 0, [(0, 215)]),
  (33, .aload_n 0, 1, 0, 0, 0, []),
  (34, .bipush 6, 2, 0, 0, 6, []),
  (36, .newarray .int, 2, 14, 0, 0, []),
  (38, .putfield 25, 3, 6, 4, 0, [(0, 220)]),
  (41, .return_, 1, 0, 0, 0, [])]
/-- NamedToWed$Roll.<init>()V -/
def cd_4 : Cod := [(0, .aload_n 0, 1, 0, 0, 0, []),
  (1, .invokespecial 3, 3, 1, 1, 0, [(0, 226)]),
  (4, .aload_n 0, 1, 0, 0, 0, []),
  (5, .iconst 0, 1, 0, 0, 0, []),
  (6, .putfield 9, 3, 4, 0, 0, [(0, 227)]),
  (9, .aload_n 0, 1, 0, 0, 0, []),
  (10, .bipush 24, 2, 0, 0, 24, []),
  (12, .newarray .int, 2, 14, 0, 0, []),
  (14, .putfield 15, 3, 4, 1, 0, [(0, 231)]),
  (17, .aload_n 0, 1, 0, 0, 0, []),
  (18, .bipush 24, 2, 0, 0, 24, []),
  (20, .newarray .int, 2, 14, 0, 0, []),
  (22, .putfield 19, 3, 4, 2, 0, [(0, 235)]),
  (25, .aload_n 0, 1, 0, 0, 0, []),
  (26, .bipush 24, 2, 0, 0, 24, []),
  (28, .newarray .int, 2, 14, 0, 0, []),
  (30, .putfield 22, 3, 4, 3, 0, [(0, 238)]),
  (33, .aload_n 0, 1, 0, 0, 0, []),
  (34, .bipush 24, 2, 0, 0, 24, []),
  (36, .newarray .int, 2, 14, 0, 0, []),
  (38, .putfield 25, 3, 4, 4, 0, [(0, 241)]),
  (41, .aload_n 0, 1, 0, 0, 0, []),
  (42, .bipush 24, 2, 0, 0, 24, []),
  (44, .newarray .int, 2, 14, 0, 0, []),
  (46, .putfield 28, 3, 4, 5, 0, [(0, 244)]),
  (49, .aload_n 0, 1, 0, 0, 0, []),
  (50, .bipush 24, 2, 0, 0, 24, []),
  (52, .newarray .int, 2, 14, 0, 0, []),
  (54, .putfield 31, 3, 4, 6, 0, [(0, 247)]),
  (57, .aload_n 0, 1, 0, 0, 0, []),
  (58, .bipush 24, 2, 0, 0, 24, []),
  (60, .newarray .int, 2, 14, 0, 0, []),
  (62, .putfield 34, 3, 4, 7, 0, [(0, 249)]),
  (65, .aload_n 0, 1, 0, 0, 0, []),
  (66, .iconst 0, 1, 0, 0, 0, []),
  (67, .putfield 37, 3, 4, 8, 0, [(0, 251)]),
  (70, .aload_n 0, 1, 0, 0, 0, []),
  (71, .iconst 0, 1, 0, 0, 0, []),
  (72, .putfield 40, 3, 4, 9, 0, [(0, 253)]),
  (75, .aload_n 0, 1, 0, 0, 0, []),
  (76, .iconst 0, 1, 0, 0, 0, []),
  (77, .putfield 43, 3, 4, 10, 0, [(0, 255)]),
  (80, .return_, 1, 0, 0, 0, [])]
/-- NamedToWed$Law.<init>()V -/
def cd_5 : Cod := [(0, .aload_n 0, 1, 0, 0, 0, []),
  (1, .invokespecial 3, 3, 1, 1, 0, [(0, 261)]),
  (4, .aload_n 0, 1, 0, 0, 0, []),
  (5, .iconst 0, 1, 0, 0, 0, []),
  (6, .putfield 9, 3, 2, 0, 0, [(0, 262)]),
  (9, .aload_n 0, 1, 0, 0, 0, []),
  (10, .bipush 16, 2, 0, 0, 16, []),
  (12, .newarray .int, 2, 14, 0, 0, []),
  (14, .putfield 15, 3, 2, 1, 0, [(0, 265)]),
  (17, .aload_n 0, 1, 0, 0, 0, []),
  (18, .bipush 16, 2, 0, 0, 16, []),
  (20, .newarray .int, 2, 14, 0, 0, []),
  (22, .putfield 19, 3, 2, 2, 0, [(0, 267)]),
  (25, .aload_n 0, 1, 0, 0, 0, []),
  (26, .bipush 16, 2, 0, 0, 16, []),
  (28, .newarray .int, 2, 14, 0, 0, []),
  (30, .putfield 22, 3, 2, 3, 0, [(0, 269)]),
  (33, .aload_n 0, 1, 0, 0, 0, []),
  (34, .bipush 16, 2, 0, 0, 16, []),
  (36, .newarray .int, 2, 14, 0, 0, []),
  (38, .putfield 25, 3, 2, 4, 0, [(0, 271)]),
  (41, .aload_n 0, 1, 0, 0, 0, []),
  (42, .iconst 0, 1, 0, 0, 0, []),
  (43, .putfield 28, 3, 2, 5, 0, [(0, 273)]),
  (46, .aload_n 0, 1, 0, 0, 0, []),
  (47, .sipush 240, 3, 0, 0, 240, []),
  (50, .newarray .char, 2, 13, 0, 0, []),
  (52, .putfield 31, 3, 2, 6, 0, [(0, 275)]),
  (55, .aload_n 0, 1, 0, 0, 0, []),
  (56, .sipush 240, 3, 0, 0, 240, []),
  (59, .newarray .int, 2, 14, 0, 0, []),
  (61, .putfield 35, 3, 2, 7, 0, [(0, 276)]),
  (64, .aload_n 0, 1, 0, 0, 0, []),
  (65, .bipush 64, 2, 0, 0, 64, []),
  (67, .newarray .int, 2, 14, 0, 0, []),
  (69, .putfield 38, 3, 2, 8, 0, [(0, 278)]),
  (72, .aload_n 0, 1, 0, 0, 0, []),
  (73, .iconst 0, 1, 0, 0, 0, []),
  (74, .putfield 41, 3, 2, 9, 0, [(0, 279)]),
  (77, .aload_n 0, 1, 0, 0, 0, []),
  (78, .iconst 0, 1, 0, 0, 0, []),
  (79, .putfield 44, 3, 2, 10, 0, [(0, 280)]),
  (82, .return_, 1, 0, 0, 0, [])]
/-- NamedToWed$Word.<init>()V -/
def cd_6 : Cod := [(0, .aload_n 0, 1, 0, 0, 0, []),
  (1, .invokespecial 3, 3, 1, 1, 0, [(0, 287)]),
  (4, .aload_n 0, 1, 0, 0, 0, []),
  (5, .iconst 0, 1, 0, 0, 0, []),
  (6, .putfield 9, 3, 9, 0, 0, [(0, 288)]),
  (9, .aload_n 0, 1, 0, 0, 0, []),
  (10, .bipush 24, 2, 0, 0, 24, []),
  (12, .newarray .int, 2, 14, 0, 0, []),
  (14, .putfield 15, 3, 9, 1, 0, [(0, 290)]),
  (17, .aload_n 0, 1, 0, 0, 0, []),
  (18, .bipush 24, 2, 0, 0, 24, []),
  (20, .newarray .int, 2, 14, 0, 0, []),
  (22, .putfield 19, 3, 9, 2, 0, [(0, 291)]),
  (25, .aload_n 0, 1, 0, 0, 0, []),
  (26, .iconst 0, 1, 0, 0, 0, []),
  (27, .putfield 22, 3, 9, 3, 0, [(0, 292)]),
  (30, .aload_n 0, 1, 0, 0, 0, []),
  (31, .iconst 2, 1, 0, 0, 2, []),
  (32, .newarray .int, 2, 14, 0, 0, []),
  (34, .putfield 25, 3, 9, 4, 0, [(0, 293)]),
  (37, .aload_n 0, 1, 0, 0, 0, []),
  (38, .iconst 2, 1, 0, 0, 2, []),
  (39, .newarray .int, 2, 14, 0, 0, []),
  (41, .putfield 28, 3, 9, 5, 0, [(0, 294)]),
  (44, .aload_n 0, 1, 0, 0, 0, []),
  (45, .iconst 2, 1, 0, 0, 2, []),
  (46, .newarray .int, 2, 14, 0, 0, []),
  (48, .putfield 31, 3, 9, 6, 0, [(0, 295)]),
  (51, .aload_n 0, 1, 0, 0, 0, []),
  (52, .iconst 0, 1, 0, 0, 0, []),
  (53, .putfield 34, 3, 9, 7, 0, [(0, 296)]),
  (56, .aload_n 0, 1, 0, 0, 0, []),
  (57, .iconst 1, 1, 0, 0, 1, []),
  (58, .putfield 37, 3, 9, 8, 0, [(0, 297)]),
  (61, .return_, 1, 0, 0, 0, [])]
/-- NamedToWed$Row.<init>()V -/
def cd_7 : Cod := [(0, .aload_n 0, 1, 0, 0, 0, []),
  (1, .invokespecial 3, 3, 1, 1, 0, [(0, 303)]),
  (4, .aload_n 0, 1, 0, 0, 0, []),
  (5, .iconst 0, 1, 0, 0, 0, []),
  (6, .putfield 9, 3, 5, 0, 0, [(0, 304)]),
  (9, .aload_n 0, 1, 0, 0, 0, []),
  (10, .bipush 24, 2, 0, 0, 24, []),
  (12, .newarray .int, 2, 14, 0, 0, []),
  (14, .putfield 15, 3, 5, 1, 0, [(0, 305)]),
  (17, .aload_n 0, 1, 0, 0, 0, []),
  (18, .bipush 12, 2, 0, 0, 12, []),
  (20, .newarray .int, 2, 14, 0, 0, []),
  (22, .putfield 19, 3, 5, 2, 0, [(0, 306)]),
  (25, .aload_n 0, 1, 0, 0, 0, []),
  (26, .bipush 12, 2, 0, 0, 12, []),
  (28, .newarray .int, 2, 14, 0, 0, []),
  (30, .putfield 22, 3, 5, 3, 0, [(0, 307)]),
  (33, .aload_n 0, 1, 0, 0, 0, []),
  (34, .bipush 12, 2, 0, 0, 12, []),
  (36, .newarray .int, 2, 14, 0, 0, []),
  (38, .putfield 25, 3, 5, 4, 0, [(0, 308)]),
  (41, .aload_n 0, 1, 0, 0, 0, []),
  (42, .iconst 0, 1, 0, 0, 0, []),
  (43, .putfield 28, 3, 5, 5, 0, [(0, 309)]),
  (46, .aload_n 0, 1, 0, 0, 0, []),
  (47, .bipush 25, 2, 0, 0, 25, []),
  (49, .newarray .int, 2, 14, 0, 0, []),
  (51, .putfield 31, 3, 5, 6, 0, [(0, 310)]),
  (54, .aload_n 0, 1, 0, 0, 0, []),
  (55, .bipush 12, 2, 0, 0, 12, []),
  (57, .newarray .long, 2, 15, 0, 0, []),
  (59, .putfield 34, 3, 5, 7, 0, [(0, 311)]),
  (62, .aload_n 0, 1, 0, 0, 0, []),
  (63, .bipush 12, 2, 0, 0, 12, []),
  (65, .newarray .long, 2, 15, 0, 0, []),
  (67, .putfield 38, 3, 5, 8, 0, [(0, 312)]),
  (70, .return_, 1, 0, 0, 0, [])]
/-- NamedToWed$Changes.<init>()V -/
def cd_8 : Cod := [(0, .aload_n 0, 1, 0, 0, 0, []),
  (1, .invokespecial 3, 3, 1, 1, 0, [(0, 319)]),
  (4, .aload_n 0, 1, 0, 0, 0, []),
  (5, .sipush 720, 3, 0, 0, 720, []),
  (8, .newarray .int, 2, 14, 0, 0, []),
  (10, .putfield 11, 3, 0, 0, 0, [(0, 320)]),
  (13, .aload_n 0, 1, 0, 0, 0, []),
  (14, .sipush 720, 3, 0, 0, 720, []),
  (17, .newarray .int, 2, 14, 0, 0, []),
  (19, .putfield 15, 3, 0, 1, 0, [(0, 321)]),
  (22, .aload_n 0, 1, 0, 0, 0, []),
  (23, .bipush 6, 2, 0, 0, 6, []),
  (25, .newarray .int, 2, 14, 0, 0, []),
  (27, .putfield 18, 3, 0, 2, 0, [(0, 322)]),
  (30, .aload_n 0, 1, 0, 0, 0, []),
  (31, .bipush 6, 2, 0, 0, 6, []),
  (33, .newarray .int, 2, 14, 0, 0, []),
  (35, .putfield 21, 3, 0, 3, 0, [(0, 323)]),
  (38, .aload_n 0, 1, 0, 0, 0, []),
  (39, .bipush 6, 2, 0, 0, 6, []),
  (41, .newarray .int, 2, 14, 0, 0, []),
  (43, .putfield 24, 3, 0, 4, 0, [(0, 324)]),
  (46, .aload_n 0, 1, 0, 0, 0, []),
  (47, .iconst 0, 1, 0, 0, 0, []),
  (48, .putfield 27, 3, 0, 5, 0, [(0, 325)]),
  (51, .return_, 1, 0, 0, 0, [])]
/-- NamedToWed$Houses.<init>()V -/
def cd_9 : Cod := [(0, .aload_n 0, 1, 0, 0, 0, []),
  (1, .invokespecial 3, 3, 1, 1, 0, [(0, 331)]),
  (4, .aload_n 0, 1, 0, 0, 0, []),
  (5, .bipush 24, 2, 0, 0, 24, []),
  (7, .newarray .int, 2, 14, 0, 0, []),
  (9, .putfield 9, 3, 1, 0, 0, [(0, 332)]),
  (12, .aload_n 0, 1, 0, 0, 0, []),
  (13, .bipush 24, 2, 0, 0, 24, []),
  (15, .newarray .int, 2, 14, 0, 0, []),
  (17, .putfield 15, 3, 1, 1, 0, [(0, 334)]),
  (20, .aload_n 0, 1, 0, 0, 0, []),
  (21, .bipush 24, 2, 0, 0, 24, []),
  (23, .newarray .int, 2, 14, 0, 0, []),
  (25, .putfield 18, 3, 1, 2, 0, [(0, 335)]),
  (28, .aload_n 0, 1, 0, 0, 0, []),
  (29, .bipush 24, 2, 0, 0, 24, []),
  (31, .newarray .int, 2, 14, 0, 0, []),
  (33, .putfield 21, 3, 1, 3, 0, [(0, 336)]),
  (36, .aload_n 0, 1, 0, 0, 0, []),
  (37, .bipush 24, 2, 0, 0, 24, []),
  (39, .newarray .int, 2, 14, 0, 0, []),
  (41, .putfield 24, 3, 1, 4, 0, [(0, 337)]),
  (44, .aload_n 0, 1, 0, 0, 0, []),
  (45, .bipush 24, 2, 0, 0, 24, []),
  (47, .newarray .int, 2, 14, 0, 0, []),
  (49, .putfield 27, 3, 1, 5, 0, [(0, 338)]),
  (52, .aload_n 0, 1, 0, 0, 0, []),
  (53, .iconst 0, 1, 0, 0, 0, []),
  (54, .putfield 30, 3, 1, 6, 0, [(0, 339)]),
  (57, .return_, 1, 0, 0, 0, [])]
/-- NamedToWed$Matches.<init>()V -/
def cd_10 : Cod := [(0, .aload_n 0, 1, 0, 0, 0, []),
  (1, .invokespecial 3, 3, 1, 1, 0, [(0, 345)]),
  (4, .aload_n 0, 1, 0, 0, 0, []),
  (5, .bipush 24, 2, 0, 0, 24, []),
  (7, .newarray .int, 2, 14, 0, 0, []),
  (9, .putfield 9, 3, 3, 0, 0, [(0, 346)]),
  (12, .aload_n 0, 1, 0, 0, 0, []),
  (13, .bipush 24, 2, 0, 0, 24, []),
  (15, .newarray .int, 2, 14, 0, 0, []),
  (17, .putfield 15, 3, 3, 1, 0, [(0, 347)]),
  (20, .aload_n 0, 1, 0, 0, 0, []),
  (21, .bipush 24, 2, 0, 0, 24, []),
  (23, .newarray .int, 2, 14, 0, 0, []),
  (25, .putfield 18, 3, 3, 2, 0, [(0, 348)]),
  (28, .aload_n 0, 1, 0, 0, 0, []),
  (29, .bipush 24, 2, 0, 0, 24, []),
  (31, .newarray .int, 2, 14, 0, 0, []),
  (33, .putfield 21, 3, 3, 3, 0, [(0, 349)]),
  (36, .return_, 1, 0, 0, 0, [])]
/-- NamedToWed$Village.<init>()V -/
def cd_11 : Cod := [(0, .aload_n 0, 1, 0, 0, 0, []),
  (1, .invokespecial 3, 3, 1, 1, 0, [(0, 355)]),
  (4, .aload_n 0, 1, 0, 0, 0, []),
  (5, .bipush 6, 2, 0, 0, 6, []),
  (7, .newarray .int, 2, 14, 0, 0, []),
  (9, .putfield 9, 3, 8, 0, 0, [(0, 356)]),
  (12, .aload_n 0, 1, 0, 0, 0, []),
  (13, .bipush 6, 2, 0, 0, 6, []),
  (15, .newarray .int, 2, 14, 0, 0, []),
  (17, .putfield 15, 3, 8, 1, 0, [(0, 358)]),
  (20, .aload_n 0, 1, 0, 0, 0, []),
  (21, .bipush 6, 2, 0, 0, 6, []),
  (23, .newarray .int, 2, 14, 0, 0, []),
  (25, .putfield 18, 3, 8, 2, 0, [(0, 360)]),
  (28, .aload_n 0, 1, 0, 0, 0, []),
  (29, .iconst 0, 1, 0, 0, 0, []),
  (30, .putfield 21, 3, 8, 3, 0, [(0, 362)]),
  (33, .aload_n 0, 1, 0, 0, 0, []),
  (34, .iconst 1, 1, 0, 0, 1, []),
  (35, .putfield 25, 3, 8, 4, 0, [(0, 364)]),
  (38, .aload_n 0, 1, 0, 0, 0, []),
  (39, .iconst 0, 1, 0, 0, 0, []),
  (40, .putfield 28, 3, 8, 5, 0, [(0, 366)]),
  (43, .aload_n 0, 1, 0, 0, 0, []),
  (44, .iconst 0, 1, 0, 0, 0, []),
  (45, .putfield 31, 3, 8, 6, 0, [(0, 368)]),
  (48, .aload_n 0, 1, 0, 0, 0, []),
  (49, .iconst 0, 1, 0, 0, 0, []),
  (50, .putfield 34, 3, 8, 7, 0, [(0, 370)]),
  (53, .aload_n 0, 1, 0, 0, 0, []),
  (54, .bipush 8, 2, 0, 0, 8, []),
  (56, .newarray .int, 2, 14, 0, 0, []),
  (58, .putfield 37, 3, 8, 8, 0, [(0, 372)]),
  (61, .return_, 1, 0, 0, 0, [])]
/-- NamedToWed.people(IIII)Z -/
def cd_12 : Cod := [(0, .aload_n 0, 1, 0, 0, 0, []),
  (1, .iload_n 1, 1, 1, 0, 0, []),
  (2, .invokevirtual 105, 3, 13, 2, 0, [(0, 395)]),
  (5, .ifCond .eq 25, 3, 30, 0, 0, []),
  (8, .iload_n 2, 1, 2, 0, 0, []),
  (9, .invokestatic 109, 3, 14, 1, 0, [(0, 398)]),
  (12, .ifCond .eq 18, 3, 30, 0, 0, []),
  (15, .iload_n 3, 1, 3, 0, 0, []),
  (16, .invokestatic 109, 3, 14, 1, 0, [(0, 398)]),
  (19, .ifCond .eq 11, 3, 30, 0, 0, []),
  (22, .iload 4, 2, 4, 0, 0, []),
  (24, .invokestatic 109, 3, 14, 1, 0, [(0, 398)]),
  (27, .ifCond .ne 5, 3, 32, 0, 0, []),
  (30, .iconst 0, 1, 0, 0, 0, []),
  (31, .ireturn, 1, 1, 0, 0, []),
  (32, .aload_n 0, 1, 0, 0, 0, []),
  (33, .getfield 87, 3, 10, 13, 0, [(0, 386)]),
  (36, .getfield 112, 3, 8, 0, 0, [(0, 357)]),
  (39, .iload_n 1, 1, 1, 0, 0, []),
  (40, .iload_n 2, 1, 2, 0, 0, []),
  (41, .iastore, 1, 0, 0, 0, []),
  (42, .aload_n 0, 1, 0, 0, 0, []),
  (43, .getfield 87, 3, 10, 13, 0, [(0, 386)]),
  (46, .getfield 116, 3, 8, 1, 0, [(0, 359)]),
  (49, .iload_n 1, 1, 1, 0, 0, []),
  (50, .iload_n 3, 1, 3, 0, 0, []),
  (51, .iastore, 1, 0, 0, 0, []),
  (52, .aload_n 0, 1, 0, 0, 0, []),
  (53, .getfield 87, 3, 10, 13, 0, [(0, 386)]),
  (56, .getfield 119, 3, 8, 2, 0, [(0, 361)]),
  (59, .iload_n 1, 1, 1, 0, 0, []),
  (60, .iload 4, 2, 4, 0, 0, []),
  (62, .iastore, 1, 0, 0, 0, []),
  (63, .iconst 1, 1, 0, 0, 1, []),
  (64, .ireturn, 1, 1, 0, 0, [])]
/-- NamedToWed.isName(I)Z -/
def cd_13 : Cod := [(0, .iload_n 1, 1, 1, 0, 0, []),
  (1, .ifCond .lt 18, 3, 19, 0, 0, []),
  (4, .iload_n 1, 1, 1, 0, 0, []),
  (5, .aload_n 0, 1, 0, 0, 0, []),
  (6, .getfield 19, 3, 10, 1, 0, [(0, 374)]),
  (9, .getfield 155, 3, 6, 0, 0, [(0, 204)]),
  (12, .if_icmp .ge 7, 3, 19, 0, 0, []),
  (15, .iconst 1, 1, 0, 0, 1, []),
  (16, .goto 4, 3, 20, 0, 0, []),
  (19, .iconst 0, 1, 0, 0, 0, []),
  (20, .ireturn, 1, 1, 0, 0, [])]
/-- NamedToWed.isNumberOf(I)Z -/
def cd_14 : Cod := [(0, .iload_n 0, 1, 0, 0, 0, []),
  (1, .ifCond .lt 14, 3, 15, 0, 0, []),
  (4, .iload_n 0, 1, 0, 0, 0, []),
  (5, .sipush 9999, 3, 0, 0, 9999, []),
  (8, .if_icmp .gt 7, 3, 15, 0, 0, []),
  (11, .iconst 1, 1, 0, 0, 1, []),
  (12, .goto 4, 3, 16, 0, 0, []),
  (15, .iconst 0, 1, 0, 0, 0, []),
  (16, .ireturn, 1, 1, 0, 0, [])]
/-- NamedToWed.feed(IIIII)I -/
def cd_15 : Cod := [(0, .aload_n 0, 1, 0, 0, 0, []),
  (1, .getfield 10, 3, 10, 0, 0, [(0, 373)]),
  (4, .bipush 20, 2, 0, 0, 20, []),
  (6, .invokevirtual 122, 3, 16, 2, 0, [(0, 405)]),
  (9, .ifCond .ne 5, 3, 14, 0, 0, []),
  (12, .iconst (-1), 1, 0, 0, (-1), []),
  (13, .ireturn, 1, 0, 0, 0, []),
  (14, .aload_n 0, 1, 0, 0, 0, []),
  (15, .getfield 10, 3, 10, 0, 0, [(0, 373)]),
  (18, .iload_n 1, 1, 1, 0, 0, []),
  (19, .invokevirtual 125, 3, 17, 2, 0, [(0, 409)]),
  (22, .aload_n 0, 1, 0, 0, 0, []),
  (23, .getfield 10, 3, 10, 0, 0, [(0, 373)]),
  (26, .iload_n 2, 1, 2, 0, 0, []),
  (27, .invokevirtual 125, 3, 17, 2, 0, [(0, 409)]),
  (30, .aload_n 0, 1, 0, 0, 0, []),
  (31, .getfield 10, 3, 10, 0, 0, [(0, 373)]),
  (34, .iload_n 3, 1, 3, 0, 0, []),
  (35, .invokevirtual 125, 3, 17, 2, 0, [(0, 409)]),
  (38, .aload_n 0, 1, 0, 0, 0, []),
  (39, .getfield 10, 3, 10, 0, 0, [(0, 373)]),
  (42, .iload 4, 2, 4, 0, 0, []),
  (44, .invokevirtual 125, 3, 17, 2, 0, [(0, 409)]),
  (47, .aload_n 0, 1, 0, 0, 0, []),
  (48, .getfield 10, 3, 10, 0, 0, [(0, 373)]),
  (51, .iload 5, 2, 5, 0, 0, []),
  (53, .invokevirtual 125, 3, 17, 2, 0, [(0, 409)]),
  (56, .aload_n 0, 1, 0, 0, 0, []),
  (57, .getfield 10, 3, 10, 0, 0, [(0, 373)]),
  (60, .getfield 129, 3, 7, 1, 0, [(0, 183)]),
  (63, .ireturn, 1, 0, 0, 0, [])]
/-- NamedToWed$Tape.hasRoomFor(I)Z -/
def cd_16 : Cod := [(0, .aload_n 0, 1, 0, 0, 0, []),
  (1, .getfield 15, 3, 7, 1, 0, [(0, 182)]),
  (4, .iload_n 1, 1, 1, 0, 0, []),
  (5, .iadd, 1, 0, 0, 0, []),
  (6, .aload_n 0, 1, 0, 0, 0, []),
  (7, .getfield 9, 3, 7, 0, 0, [(0, 180)]),
  (10, .arraylength, 1, 0, 0, 0, []),
  (11, .if_icmp .gt 7, 3, 18, 0, 0, []),
  (14, .iconst 1, 1, 0, 0, 1, []),
  (15, .goto 4, 3, 19, 0, 0, []),
  (18, .iconst 0, 1, 0, 0, 0, []),
  (19, .ireturn, 1, 1, 0, 0, [])]
/-- NamedToWed$Tape.add(I)V -/
def cd_17 : Cod := [(0, .bipush 24, 2, 0, 0, 24, []),
  (2, .istore_n 2, 1, 2, 0, 0, []),
  (3, .iload_n 2, 1, 2, 0, 0, []),
  (4, .ifCond .lt 40, 3, 44, 0, 0, []),
  (7, .aload_n 0, 1, 0, 0, 0, []),
  (8, .iconst 1, 1, 0, 0, 1, []),
  (9, .invokevirtual 28, 3, 16, 2, 0, [(0, 413)]),
  (12, .ifCond .eq 32, 3, 44, 0, 0, []),
  (15, .aload_n 0, 1, 0, 0, 0, []),
  (16, .getfield 9, 3, 7, 0, 0, [(0, 180)]),
  (19, .aload_n 0, 1, 0, 0, 0, []),
  (20, .dup, 1, 0, 0, 0, []),
  (21, .getfield 15, 3, 7, 1, 0, [(0, 182)]),
  (24, .dup_x1, 1, 0, 0, 0, []),
  (25, .iconst 1, 1, 0, 0, 1, []),
  (26, .iadd, 1, 0, 0, 0, []),
  (27, .putfield 15, 3, 7, 1, 0, [(0, 182)]),
  (30, .iload_n 1, 1, 1, 0, 0, []),
  (31, .iload_n 2, 1, 2, 0, 0, []),
  (32, .ishr, 1, 0, 0, 0, []),
  (33, .sipush 255, 3, 0, 0, 255, []),
  (36, .iand, 1, 0, 0, 0, []),
  (37, .iastore, 1, 0, 0, 0, []),
  (38, .iinc 2 (-8), 3, 2, 0, (-8), []),
  (41, .goto (-38), 3, 3, 0, 0, []),
  (44, .return_, 1, 0, 0, 0, [])]
/-- NamedToWed.law(I)I -/
def cd_18 : Cod := [(0, .aload_n 0, 1, 0, 0, 0, []),
  (1, .getfield 10, 3, 10, 0, 0, [(0, 373)]),
  (4, .iload_n 1, 1, 1, 0, 0, []),
  (5, .sipush 240, 3, 0, 0, 240, []),
  (8, .invokevirtual 132, 3, 19, 3, 0, [(0, 418)]),
  (11, .ifCond .ne 5, 3, 16, 0, 0, []),
  (14, .iconst (-1), 1, 0, 0, (-1), []),
  (15, .ireturn, 1, 0, 0, 0, []),
  (16, .aload_n 0, 1, 0, 0, 0, []),
  (17, .getfield 10, 3, 10, 0, 0, [(0, 373)]),
  (20, .iconst 0, 1, 0, 0, 0, []),
  (21, .iload_n 1, 1, 1, 0, 0, []),
  (22, .invokevirtual 136, 3, 20, 3, 0, [(0, 422)]),
  (25, .aload_n 0, 1, 0, 0, 0, []),
  (26, .getfield 10, 3, 10, 0, 0, [(0, 373)]),
  (29, .aload_n 0, 1, 0, 0, 0, []),
  (30, .getfield 43, 3, 10, 6, 0, [(0, 379)]),
  (33, .invokestatic 140, 3, 21, 2, 0, [(0, 426)]),
  (36, .istore_n 2, 1, 2, 0, 0, []),
  (37, .iload_n 2, 1, 2, 0, 0, []),
  (38, .ifCond .eq 5, 3, 43, 0, 0, []),
  (41, .iload_n 2, 1, 2, 0, 0, []),
  (42, .ireturn, 1, 0, 0, 0, []),
  (43, .aload_n 0, 1, 0, 0, 0, []),
  (44, .getfield 39, 3, 10, 5, 0, [(0, 378)]),
  (47, .astore_n 3, 1, 3, 0, 0, []),
  (48, .aload_n 0, 1, 0, 0, 0, []),
  (49, .aload_n 0, 1, 0, 0, 0, []),
  (50, .getfield 43, 3, 10, 6, 0, [(0, 379)]),
  (53, .putfield 39, 3, 10, 5, 0, [(0, 378)]),
  (56, .aload_n 0, 1, 0, 0, 0, []),
  (57, .aload_n 3, 1, 3, 0, 0, []),
  (58, .putfield 43, 3, 10, 6, 0, [(0, 379)]),
  (61, .aload_n 0, 1, 0, 0, 0, []),
  (62, .getfield 39, 3, 10, 5, 0, [(0, 378)]),
  (65, .getfield 146, 3, 2, 0, 0, [(0, 264)]),
  (68, .ireturn, 1, 0, 0, 0, [])]
/-- NamedToWed$Tape.has(II)Z -/
def cd_19 : Cod := [(0, .iload_n 1, 1, 1, 0, 0, []),
  (1, .iconst 1, 1, 0, 0, 1, []),
  (2, .if_icmp .lt 20, 3, 22, 0, 0, []),
  (5, .iload_n 1, 1, 1, 0, 0, []),
  (6, .iload_n 2, 1, 2, 0, 0, []),
  (7, .if_icmp .gt 15, 3, 22, 0, 0, []),
  (10, .iload_n 1, 1, 1, 0, 0, []),
  (11, .aload_n 0, 1, 0, 0, 0, []),
  (12, .getfield 15, 3, 7, 1, 0, [(0, 182)]),
  (15, .if_icmp .gt 7, 3, 22, 0, 0, []),
  (18, .iconst 1, 1, 0, 0, 1, []),
  (19, .goto 4, 3, 23, 0, 0, []),
  (22, .iconst 0, 1, 0, 0, 0, []),
  (23, .ireturn, 1, 1, 0, 0, [])]
/-- NamedToWed$Tape.take(II)V -/
def cd_20 : Cod := [(0, .aload_n 0, 1, 0, 0, 0, []),
  (1, .iload_n 1, 1, 1, 0, 0, []),
  (2, .putfield 19, 3, 7, 2, 0, [(0, 184)]),
  (5, .aload_n 0, 1, 0, 0, 0, []),
  (6, .iload_n 2, 1, 2, 0, 0, []),
  (7, .putfield 22, 3, 7, 3, 0, [(0, 185)]),
  (10, .aload_n 0, 1, 0, 0, 0, []),
  (11, .iconst 0, 1, 0, 0, 0, []),
  (12, .putfield 25, 3, 7, 4, 0, [(0, 189)]),
  (15, .aload_n 0, 1, 0, 0, 0, []),
  (16, .iconst 0, 1, 0, 0, 0, []),
  (17, .putfield 15, 3, 7, 1, 0, [(0, 182)]),
  (20, .return_, 1, 0, 0, 0, [])]
/-- NamedToWed$LawReader.read(LNamedToWed$Tape;LNamedToWed$Law;)I -/
def cd_21 : Cod := [(0, .aload_n 1, 1, 1, 0, 0, []),
  (1, .invokevirtual 7, 3, 22, 1, 0, [(0, 429)]),
  (4, .aload_n 0, 1, 0, 0, 0, []),
  (5, .aload_n 1, 1, 1, 0, 0, []),
  (6, .invokestatic 12, 3, 23, 2, 0, [(0, 433)]),
  (9, .istore_n 2, 1, 2, 0, 0, []),
  (10, .iconst 0, 1, 0, 0, 0, []),
  (11, .istore_n 3, 1, 3, 0, 0, []),
  (12, .iload_n 3, 1, 3, 0, 0, []),
  (13, .aload_n 0, 1, 0, 0, 0, []),
  (14, .getfield 18, 3, 7, 3, 0, [(0, 186)]),
  (17, .if_icmp .ge 38, 3, 55, 0, 0, []),
  (20, .iload_n 2, 1, 2, 0, 0, []),
  (21, .ifCond .ne 34, 3, 55, 0, 0, []),
  (24, .aload_n 0, 1, 0, 0, 0, []),
  (25, .invokevirtual 24, 3, 24, 1, 0, [(0, 436)]),
  (28, .bipush 59, 2, 0, 0, 59, []),
  (30, .if_icmp .ne 25, 3, 55, 0, 0, []),
  (33, .aload_n 0, 1, 0, 0, 0, []),
  (34, .dup, 1, 0, 0, 0, []),
  (35, .getfield 28, 3, 7, 4, 0, [(0, 191)]),
  (38, .iconst 1, 1, 0, 0, 1, []),
  (39, .iadd, 1, 0, 0, 0, []),
  (40, .putfield 28, 3, 7, 4, 0, [(0, 191)]),
  (43, .aload_n 0, 1, 0, 0, 0, []),
  (44, .aload_n 1, 1, 1, 0, 0, []),
  (45, .invokestatic 12, 3, 23, 2, 0, [(0, 433)]),
  (48, .istore_n 2, 1, 2, 0, 0, []),
  (49, .iinc 3 1, 3, 3, 0, 1, []),
  (52, .goto (-40), 3, 12, 0, 0, []),
  (55, .iload_n 2, 1, 2, 0, 0, []),
  (56, .ifCond .eq 7, 3, 63, 0, 0, []),
  (59, .iload_n 2, 1, 2, 0, 0, []),
  (60, .goto 7, 3, 67, 0, 0, []),
  (63, .aload_n 0, 1, 0, 0, 0, []),
  (64, .invokevirtual 31, 3, 39, 1, 0, [(0, 487)]),
  (67, .ireturn, 1, 0, 0, 0, [])]
/-- NamedToWed$Law.clear()V -/
def cd_22 : Cod := [(0, .aload_n 0, 1, 0, 0, 0, []),
  (1, .iconst 0, 1, 0, 0, 0, []),
  (2, .putfield 9, 3, 2, 0, 0, [(0, 262)]),
  (5, .aload_n 0, 1, 0, 0, 0, []),
  (6, .iconst 0, 1, 0, 0, 0, []),
  (7, .putfield 28, 3, 2, 5, 0, [(0, 273)]),
  (10, .return_, 1, 0, 0, 0, [])]
/-- NamedToWed$LawReader.readClause(LNamedToWed$Tape;LNamedToWed$Law;)I -/
def cd_23 : Cod := [(0, .aload_n 0, 1, 0, 0, 0, []),
  (1, .invokevirtual 24, 3, 24, 1, 0, [(0, 436)]),
  (4, .istore_n 2, 1, 2, 0, 0, []),
  (5, .iload_n 2, 1, 2, 0, 0, []),
  (6, .bipush 119, 2, 0, 0, 119, []),
  (8, .if_icmp .eq 27, 3, 35, 0, 0, []),
  (11, .iload_n 2, 1, 2, 0, 0, []),
  (12, .bipush 98, 2, 0, 0, 98, []),
  (14, .if_icmp .eq 21, 3, 35, 0, 0, []),
  (17, .iload_n 2, 1, 2, 0, 0, []),
  (18, .bipush 100, 2, 0, 0, 100, []),
  (20, .if_icmp .eq 15, 3, 35, 0, 0, []),
  (23, .iload_n 2, 1, 2, 0, 0, []),
  (24, .bipush 120, 2, 0, 0, 120, []),
  (26, .if_icmp .eq 9, 3, 35, 0, 0, []),
  (29, .aload_n 0, 1, 0, 0, 0, []),
  (30, .iconst 1, 1, 0, 0, 1, []),
  (31, .invokevirtual 34, 3, 25, 2, 0, [(0, 440)]),
  (34, .ireturn, 1, 0, 0, 0, []),
  (35, .aload_n 1, 1, 1, 0, 0, []),
  (36, .getfield 38, 3, 2, 0, 0, [(0, 263)]),
  (39, .istore_n 3, 1, 3, 0, 0, []),
  (40, .iload_n 3, 1, 3, 0, 0, []),
  (41, .bipush 16, 2, 0, 0, 16, []),
  (43, .if_icmp .lt 9, 3, 52, 0, 0, []),
  (46, .aload_n 0, 1, 0, 0, 0, []),
  (47, .iconst 4, 1, 0, 0, 4, []),
  (48, .invokevirtual 34, 3, 25, 2, 0, [(0, 440)]),
  (51, .ireturn, 1, 0, 0, 0, []),
  (52, .aload_n 0, 1, 0, 0, 0, []),
  (53, .dup, 1, 0, 0, 0, []),
  (54, .getfield 28, 3, 7, 4, 0, [(0, 191)]),
  (57, .iconst 1, 1, 0, 0, 1, []),
  (58, .iadd, 1, 0, 0, 0, []),
  (59, .putfield 28, 3, 7, 4, 0, [(0, 191)]),
  (62, .aload_n 1, 1, 1, 0, 0, []),
  (63, .getfield 41, 3, 2, 1, 0, [(0, 266)]),
  (66, .iload_n 3, 1, 3, 0, 0, []),
  (67, .iload_n 2, 1, 2, 0, 0, []),
  (68, .iastore, 1, 0, 0, 0, []),
  (69, .aload_n 1, 1, 1, 0, 0, []),
  (70, .getfield 45, 3, 2, 2, 0, [(0, 268)]),
  (73, .iload_n 3, 1, 3, 0, 0, []),
  (74, .aload_n 1, 1, 1, 0, 0, []),
  (75, .getfield 48, 3, 2, 5, 0, [(0, 274)]),
  (78, .iastore, 1, 0, 0, 0, []),
  (79, .iload_n 2, 1, 2, 0, 0, []),
  (80, .bipush 120, 2, 0, 0, 120, []),
  (82, .if_icmp .ne 7, 3, 89, 0, 0, []),
  (85, .iconst 0, 1, 0, 0, 0, []),
  (86, .goto 9, 3, 95, 0, 0, []),
  (89, .aload_n 0, 1, 0, 0, 0, []),
  (90, .aload_n 1, 1, 1, 0, 0, []),
  (91, .iconst 0, 1, 0, 0, 0, []),
  (92, .invokestatic 49, 3, 26, 3, 0, [(0, 444)]),
  (95, .istore 4, 2, 4, 0, 0, []),
  (97, .iload 4, 2, 4, 0, 0, []),
  (99, .ifCond .eq 6, 3, 105, 0, 0, []),
  (102, .iload 4, 2, 4, 0, 0, []),
  (104, .ireturn, 1, 0, 0, 0, []),
  (105, .aload_n 1, 1, 1, 0, 0, []),
  (106, .getfield 53, 3, 2, 3, 0, [(0, 270)]),
  (109, .iload_n 3, 1, 3, 0, 0, []),
  (110, .aload_n 1, 1, 1, 0, 0, []),
  (111, .getfield 48, 3, 2, 5, 0, [(0, 274)]),
  (114, .iastore, 1, 0, 0, 0, []),
  (115, .aload_n 0, 1, 0, 0, 0, []),
  (116, .invokevirtual 24, 3, 24, 1, 0, [(0, 436)]),
  (119, .bipush 40, 2, 0, 0, 40, []),
  (121, .if_icmp .ne 12, 3, 133, 0, 0, []),
  (124, .aload_n 0, 1, 0, 0, 0, []),
  (125, .aload_n 1, 1, 1, 0, 0, []),
  (126, .iconst 1, 1, 0, 0, 1, []),
  (127, .invokestatic 56, 3, 33, 3, 0, [(0, 469)]),
  (130, .goto 8, 3, 138, 0, 0, []),
  (133, .aload_n 0, 1, 0, 0, 0, []),
  (134, .iconst 1, 1, 0, 0, 1, []),
  (135, .invokevirtual 34, 3, 25, 2, 0, [(0, 440)]),
  (138, .istore 4, 2, 4, 0, 0, []),
  (140, .aload_n 1, 1, 1, 0, 0, []),
  (141, .getfield 59, 3, 2, 4, 0, [(0, 272)]),
  (144, .iload_n 3, 1, 3, 0, 0, []),
  (145, .aload_n 1, 1, 1, 0, 0, []),
  (146, .getfield 48, 3, 2, 5, 0, [(0, 274)]),
  (149, .iastore, 1, 0, 0, 0, []),
  (150, .aload_n 1, 1, 1, 0, 0, []),
  (151, .dup, 1, 0, 0, 0, []),
  (152, .getfield 38, 3, 2, 0, 0, [(0, 263)]),
  (155, .iconst 1, 1, 0, 0, 1, []),
  (156, .iadd, 1, 0, 0, 0, []),
  (157, .putfield 38, 3, 2, 0, 0, [(0, 263)]),
  (160, .iload 4, 2, 4, 0, 0, []),
  (162, .ireturn, 1, 0, 0, 0, [])]
/-- NamedToWed$Tape.now()I -/
def cd_24 : Cod := [(0, .aload_n 0, 1, 0, 0, 0, []),
  (1, .getfield 19, 3, 7, 2, 0, [(0, 184)]),
  (4, .aload_n 0, 1, 0, 0, 0, []),
  (5, .getfield 25, 3, 7, 4, 0, [(0, 189)]),
  (8, .iadd, 1, 0, 0, 0, []),
  (9, .istore_n 1, 1, 1, 0, 0, []),
  (10, .aload_n 0, 1, 0, 0, 0, []),
  (11, .getfield 25, 3, 7, 4, 0, [(0, 189)]),
  (14, .aload_n 0, 1, 0, 0, 0, []),
  (15, .getfield 22, 3, 7, 3, 0, [(0, 185)]),
  (18, .if_icmp .ge 25, 3, 43, 0, 0, []),
  (21, .iload_n 1, 1, 1, 0, 0, []),
  (22, .ifCond .lt 21, 3, 43, 0, 0, []),
  (25, .iload_n 1, 1, 1, 0, 0, []),
  (26, .aload_n 0, 1, 0, 0, 0, []),
  (27, .getfield 9, 3, 7, 0, 0, [(0, 180)]),
  (30, .arraylength, 1, 0, 0, 0, []),
  (31, .if_icmp .ge 12, 3, 43, 0, 0, []),
  (34, .aload_n 0, 1, 0, 0, 0, []),
  (35, .getfield 9, 3, 7, 0, 0, [(0, 180)]),
  (38, .iload_n 1, 1, 1, 0, 0, []),
  (39, .iaload, 1, 0, 0, 0, []),
  (40, .goto 4, 3, 44, 0, 0, []),
  (43, .iconst (-1), 1, 0, 0, (-1), []),
  (44, .ireturn, 1, 0, 0, 0, [])]
/-- NamedToWed$Tape.fault(I)I -/
def cd_25 : Cod := [(0, .sipush (-1000), 3, 0, 0, (-1000), []),
  (3, .iload_n 1, 1, 1, 0, 0, []),
  (4, .imul, 1, 0, 0, 0, []),
  (5, .aload_n 0, 1, 0, 0, 0, []),
  (6, .getfield 25, 3, 7, 4, 0, [(0, 189)]),
  (9, .isub, 1, 0, 0, 0, []),
  (10, .ireturn, 1, 0, 0, 0, [])]
/-- NamedToWed$LawReader.readSum(LNamedToWed$Tape;LNamedToWed$Law;I)I -/
def cd_26 : Cod := [(0, .aload_n 0, 1, 0, 0, 0, []),
  (1, .aload_n 1, 1, 1, 0, 0, []),
  (2, .iload_n 2, 1, 2, 0, 0, []),
  (3, .invokestatic 89, 3, 27, 3, 0, [(0, 447)]),
  (6, .istore_n 3, 1, 3, 0, 0, []),
  (7, .aload_n 0, 1, 0, 0, 0, []),
  (8, .invokevirtual 24, 3, 24, 1, 0, [(0, 436)]),
  (11, .istore 4, 2, 4, 0, 0, []),
  (13, .iconst 0, 1, 0, 0, 0, []),
  (14, .istore 5, 2, 5, 0, 0, []),
  (16, .iload 5, 2, 5, 0, 0, []),
  (18, .aload_n 0, 1, 0, 0, 0, []),
  (19, .getfield 18, 3, 7, 3, 0, [(0, 186)]),
  (22, .if_icmp .ge 58, 3, 80, 0, 0, []),
  (25, .iload_n 3, 1, 3, 0, 0, []),
  (26, .ifCond .ne 54, 3, 80, 0, 0, []),
  (29, .iload 4, 2, 4, 0, 0, []),
  (31, .bipush 43, 2, 0, 0, 43, []),
  (33, .if_icmp .eq 10, 3, 43, 0, 0, []),
  (36, .iload 4, 2, 4, 0, 0, []),
  (38, .bipush 45, 2, 0, 0, 45, []),
  (40, .if_icmp .ne 40, 3, 80, 0, 0, []),
  (43, .aload_n 0, 1, 0, 0, 0, []),
  (44, .dup, 1, 0, 0, 0, []),
  (45, .getfield 28, 3, 7, 4, 0, [(0, 191)]),
  (48, .iconst 1, 1, 0, 0, 1, []),
  (49, .iadd, 1, 0, 0, 0, []),
  (50, .putfield 28, 3, 7, 4, 0, [(0, 191)]),
  (53, .aload_n 0, 1, 0, 0, 0, []),
  (54, .aload_n 1, 1, 1, 0, 0, []),
  (55, .iload_n 2, 1, 2, 0, 0, []),
  (56, .invokestatic 89, 3, 27, 3, 0, [(0, 447)]),
  (59, .istore_n 3, 1, 3, 0, 0, []),
  (60, .aload_n 1, 1, 1, 0, 0, []),
  (61, .iload 4, 2, 4, 0, 0, []),
  (63, .i2c, 1, 0, 0, 0, []),
  (64, .iconst 0, 1, 0, 0, 0, []),
  (65, .invokevirtual 82, 3, 31, 3, 0, [(0, 459)]),
  (68, .aload_n 0, 1, 0, 0, 0, []),
  (69, .invokevirtual 24, 3, 24, 1, 0, [(0, 436)]),
  (72, .istore 4, 2, 4, 0, 0, []),
  (74, .iinc 5 1, 3, 5, 0, 1, []),
  (77, .goto (-61), 3, 16, 0, 0, []),
  (80, .iload_n 3, 1, 3, 0, 0, []),
  (81, .ireturn, 1, 0, 0, 0, [])]
/-- NamedToWed$LawReader.readTerm(LNamedToWed$Tape;LNamedToWed$Law;I)I -/
def cd_27 : Cod := [(0, .aload_n 0, 1, 0, 0, 0, []),
  (1, .aload_n 1, 1, 1, 0, 0, []),
  (2, .iload_n 2, 1, 2, 0, 0, []),
  (3, .invokestatic 92, 3, 28, 3, 0, [(0, 450)]),
  (6, .istore_n 3, 1, 3, 0, 0, []),
  (7, .aload_n 0, 1, 0, 0, 0, []),
  (8, .invokevirtual 24, 3, 24, 1, 0, [(0, 436)]),
  (11, .istore 4, 2, 4, 0, 0, []),
  (13, .iconst 0, 1, 0, 0, 0, []),
  (14, .istore 5, 2, 5, 0, 0, []),
  (16, .iload 5, 2, 5, 0, 0, []),
  (18, .aload_n 0, 1, 0, 0, 0, []),
  (19, .getfield 18, 3, 7, 3, 0, [(0, 186)]),
  (22, .if_icmp .ge 65, 3, 87, 0, 0, []),
  (25, .iload_n 3, 1, 3, 0, 0, []),
  (26, .ifCond .ne 61, 3, 87, 0, 0, []),
  (29, .iload 4, 2, 4, 0, 0, []),
  (31, .bipush 42, 2, 0, 0, 42, []),
  (33, .if_icmp .eq 17, 3, 50, 0, 0, []),
  (36, .iload 4, 2, 4, 0, 0, []),
  (38, .bipush 47, 2, 0, 0, 47, []),
  (40, .if_icmp .eq 10, 3, 50, 0, 0, []),
  (43, .iload 4, 2, 4, 0, 0, []),
  (45, .bipush 37, 2, 0, 0, 37, []),
  (47, .if_icmp .ne 40, 3, 87, 0, 0, []),
  (50, .aload_n 0, 1, 0, 0, 0, []),
  (51, .dup, 1, 0, 0, 0, []),
  (52, .getfield 28, 3, 7, 4, 0, [(0, 191)]),
  (55, .iconst 1, 1, 0, 0, 1, []),
  (56, .iadd, 1, 0, 0, 0, []),
  (57, .putfield 28, 3, 7, 4, 0, [(0, 191)]),
  (60, .aload_n 0, 1, 0, 0, 0, []),
  (61, .aload_n 1, 1, 1, 0, 0, []),
  (62, .iload_n 2, 1, 2, 0, 0, []),
  (63, .invokestatic 92, 3, 28, 3, 0, [(0, 450)]),
  (66, .istore_n 3, 1, 3, 0, 0, []),
  (67, .aload_n 1, 1, 1, 0, 0, []),
  (68, .iload 4, 2, 4, 0, 0, []),
  (70, .i2c, 1, 0, 0, 0, []),
  (71, .iconst 0, 1, 0, 0, 0, []),
  (72, .invokevirtual 82, 3, 31, 3, 0, [(0, 459)]),
  (75, .aload_n 0, 1, 0, 0, 0, []),
  (76, .invokevirtual 24, 3, 24, 1, 0, [(0, 436)]),
  (79, .istore 4, 2, 4, 0, 0, []),
  (81, .iinc 5 1, 3, 5, 0, 1, []),
  (84, .goto (-68), 3, 16, 0, 0, []),
  (87, .iload_n 3, 1, 3, 0, 0, []),
  (88, .ireturn, 1, 0, 0, 0, [])]
/-- NamedToWed$LawReader.readFactor(LNamedToWed$Tape;LNamedToWed$Law;I)I -/
def cd_28 : Cod := [(0, .aload_n 0, 1, 0, 0, 0, []),
  (1, .invokevirtual 24, 3, 24, 1, 0, [(0, 436)]),
  (4, .istore_n 3, 1, 3, 0, 0, []),
  (5, .iload_n 3, 1, 3, 0, 0, []),
  (6, .invokestatic 95, 3, 29, 1, 1, [(0, 453)]),
  (9, .ifCond .eq 9, 3, 18, 0, 0, []),
  (12, .aload_n 0, 1, 0, 0, 0, []),
  (13, .aload_n 1, 1, 1, 0, 0, []),
  (14, .invokestatic 101, 3, 30, 2, 0, [(0, 456)]),
  (17, .ireturn, 1, 0, 0, 0, []),
  (18, .iload_n 3, 1, 3, 0, 0, []),
  (19, .bipush 91, 2, 0, 0, 91, []),
  (21, .if_icmp .ne 52, 3, 73, 0, 0, []),
  (24, .iload_n 2, 1, 2, 0, 0, []),
  (25, .bipush 6, 2, 0, 0, 6, []),
  (27, .if_icmp .ne 9, 3, 36, 0, 0, []),
  (30, .aload_n 0, 1, 0, 0, 0, []),
  (31, .iconst 5, 1, 0, 0, 5, []),
  (32, .invokevirtual 34, 3, 25, 2, 0, [(0, 440)]),
  (35, .ireturn, 1, 0, 0, 0, []),
  (36, .aload_n 0, 1, 0, 0, 0, []),
  (37, .dup, 1, 0, 0, 0, []),
  (38, .getfield 28, 3, 7, 4, 0, [(0, 191)]),
  (41, .iconst 1, 1, 0, 0, 1, []),
  (42, .iadd, 1, 0, 0, 0, []),
  (43, .putfield 28, 3, 7, 4, 0, [(0, 191)]),
  (46, .aload_n 0, 1, 0, 0, 0, []),
  (47, .aload_n 1, 1, 1, 0, 0, []),
  (48, .iload_n 2, 1, 2, 0, 0, []),
  (49, .iconst 1, 1, 0, 0, 1, []),
  (50, .iadd, 1, 0, 0, 0, []),
  (51, .invokestatic 49, 3, 26, 3, 0, [(0, 444)]),
  (54, .istore 4, 2, 4, 0, 0, []),
  (56, .iload 4, 2, 4, 0, 0, []),
  (58, .ifCond .eq 8, 3, 66, 0, 0, []),
  (61, .iload 4, 2, 4, 0, 0, []),
  (63, .goto 9, 3, 72, 0, 0, []),
  (66, .aload_n 0, 1, 0, 0, 0, []),
  (67, .bipush 93, 2, 0, 0, 93, []),
  (69, .invokevirtual 65, 3, 32, 2, 0, [(0, 463)]),
  (72, .ireturn, 1, 0, 0, 0, []),
  (73, .iconst 0, 1, 0, 0, 0, []),
  (74, .istore 4, 2, 4, 0, 0, []),
  (76, .iload 4, 2, 4, 0, 0, []),
  (78, .getstatic 104, 3, 3, 1, 0, [(0, 0)]),
  (81, .arraylength, 1, 0, 0, 0, []),
  (82, .if_icmp .ge 39, 3, 121, 0, 0, []),
  (85, .getstatic 104, 3, 3, 1, 0, [(0, 0)]),
  (88, .iload 4, 2, 4, 0, 0, []),
  (90, .caload, 1, 0, 0, 0, []),
  (91, .iload_n 3, 1, 3, 0, 0, []),
  (92, .if_icmp .ne 23, 3, 115, 0, 0, []),
  (95, .aload_n 0, 1, 0, 0, 0, []),
  (96, .dup, 1, 0, 0, 0, []),
  (97, .getfield 28, 3, 7, 4, 0, [(0, 191)]),
  (100, .iconst 1, 1, 0, 0, 1, []),
  (101, .iadd, 1, 0, 0, 0, []),
  (102, .putfield 28, 3, 7, 4, 0, [(0, 191)]),
  (105, .aload_n 1, 1, 1, 0, 0, []),
  (106, .bipush 97, 2, 0, 0, 97, []),
  (108, .iload 4, 2, 4, 0, 0, []),
  (110, .invokevirtual 82, 3, 31, 3, 0, [(0, 459)]),
  (113, .iconst 0, 1, 0, 0, 0, []),
  (114, .ireturn, 1, 0, 0, 0, []),
  (115, .iinc 4 1, 3, 4, 0, 1, []),
  (118, .goto (-42), 3, 76, 0, 0, []),
  (121, .aload_n 0, 1, 0, 0, 0, []),
  (122, .iconst 1, 1, 0, 0, 1, []),
  (123, .invokevirtual 34, 3, 25, 2, 0, [(0, 440)]),
  (126, .ireturn, 1, 0, 0, 0, [])]
/-- NamedToWed.isDigit(I)Z -/
def cd_29 : Cod := [(0, .iload_n 0, 1, 0, 0, 0, []),
  (1, .bipush 48, 2, 0, 0, 48, []),
  (3, .if_icmp .lt 13, 3, 16, 0, 0, []),
  (6, .iload_n 0, 1, 0, 0, 0, []),
  (7, .bipush 57, 2, 0, 0, 57, []),
  (9, .if_icmp .gt 7, 3, 16, 0, 0, []),
  (12, .iconst 1, 1, 0, 0, 1, []),
  (13, .goto 4, 3, 17, 0, 0, []),
  (16, .iconst 0, 1, 0, 0, 0, []),
  (17, .ireturn, 1, 1, 0, 0, [])]
/-- NamedToWed$LawReader.readNumber(LNamedToWed$Tape;LNamedToWed$Law;)I -/
def cd_30 : Cod := [(0, .iconst 0, 1, 0, 0, 0, []),
  (1, .istore_n 2, 1, 2, 0, 0, []),
  (2, .iconst 0, 1, 0, 0, 0, []),
  (3, .istore_n 3, 1, 3, 0, 0, []),
  (4, .iload_n 3, 1, 3, 0, 0, []),
  (5, .iconst 5, 1, 0, 0, 5, []),
  (6, .if_icmp .gt 53, 3, 59, 0, 0, []),
  (9, .aload_n 0, 1, 0, 0, 0, []),
  (10, .invokevirtual 24, 3, 24, 1, 0, [(0, 436)]),
  (13, .invokestatic 95, 3, 29, 1, 1, [(0, 453)]),
  (16, .ifCond .eq 43, 3, 59, 0, 0, []),
  (19, .iload_n 3, 1, 3, 0, 0, []),
  (20, .iconst 5, 1, 0, 0, 5, []),
  (21, .if_icmp .ne 9, 3, 30, 0, 0, []),
  (24, .aload_n 0, 1, 0, 0, 0, []),
  (25, .iconst 2, 1, 0, 0, 2, []),
  (26, .invokevirtual 34, 3, 25, 2, 0, [(0, 440)]),
  (29, .ireturn, 1, 0, 0, 0, []),
  (30, .bipush 10, 2, 0, 0, 10, []),
  (32, .iload_n 2, 1, 2, 0, 0, []),
  (33, .imul, 1, 0, 0, 0, []),
  (34, .aload_n 0, 1, 0, 0, 0, []),
  (35, .invokevirtual 24, 3, 24, 1, 0, [(0, 436)]),
  (38, .iadd, 1, 0, 0, 0, []),
  (39, .bipush 48, 2, 0, 0, 48, []),
  (41, .isub, 1, 0, 0, 0, []),
  (42, .istore_n 2, 1, 2, 0, 0, []),
  (43, .aload_n 0, 1, 0, 0, 0, []),
  (44, .dup, 1, 0, 0, 0, []),
  (45, .getfield 28, 3, 7, 4, 0, [(0, 191)]),
  (48, .iconst 1, 1, 0, 0, 1, []),
  (49, .iadd, 1, 0, 0, 0, []),
  (50, .putfield 28, 3, 7, 4, 0, [(0, 191)]),
  (53, .iinc 3 1, 3, 3, 0, 1, []),
  (56, .goto (-52), 3, 4, 0, 0, []),
  (59, .aload_n 1, 1, 1, 0, 0, []),
  (60, .bipush 35, 2, 0, 0, 35, []),
  (62, .iload_n 2, 1, 2, 0, 0, []),
  (63, .invokevirtual 82, 3, 31, 3, 0, [(0, 459)]),
  (66, .iconst 0, 1, 0, 0, 0, []),
  (67, .ireturn, 1, 0, 0, 0, [])]
/-- NamedToWed$Law.emit(CI)V -/
def cd_31 : Cod := [(0, .aload_n 0, 1, 0, 0, 0, []),
  (1, .getfield 28, 3, 2, 5, 0, [(0, 273)]),
  (4, .sipush 240, 3, 0, 0, 240, []),
  (7, .if_icmp .ge 30, 3, 37, 0, 0, []),
  (10, .aload_n 0, 1, 0, 0, 0, []),
  (11, .getfield 31, 3, 2, 6, 0, [(0, 275)]),
  (14, .aload_n 0, 1, 0, 0, 0, []),
  (15, .getfield 28, 3, 2, 5, 0, [(0, 273)]),
  (18, .iload_n 1, 1, 1, 0, 0, []),
  (19, .castore, 1, 0, 0, 0, []),
  (20, .aload_n 0, 1, 0, 0, 0, []),
  (21, .getfield 35, 3, 2, 7, 0, [(0, 276)]),
  (24, .aload_n 0, 1, 0, 0, 0, []),
  (25, .dup, 1, 0, 0, 0, []),
  (26, .getfield 28, 3, 2, 5, 0, [(0, 273)]),
  (29, .dup_x1, 1, 0, 0, 0, []),
  (30, .iconst 1, 1, 0, 0, 1, []),
  (31, .iadd, 1, 0, 0, 0, []),
  (32, .putfield 28, 3, 2, 5, 0, [(0, 273)]),
  (35, .iload_n 2, 1, 2, 0, 0, []),
  (36, .iastore, 1, 0, 0, 0, []),
  (37, .return_, 1, 0, 0, 0, [])]
/-- NamedToWed$Tape.sign(C)I -/
def cd_32 : Cod := [(0, .aload_n 0, 1, 0, 0, 0, []),
  (1, .invokevirtual 36, 3, 24, 1, 0, [(0, 467)]),
  (4, .iload_n 1, 1, 1, 0, 0, []),
  (5, .if_icmp .eq 9, 3, 14, 0, 0, []),
  (8, .aload_n 0, 1, 0, 0, 0, []),
  (9, .iconst 1, 1, 0, 0, 1, []),
  (10, .invokevirtual 32, 3, 25, 2, 0, [(0, 468)]),
  (13, .ireturn, 1, 0, 0, 0, []),
  (14, .aload_n 0, 1, 0, 0, 0, []),
  (15, .dup, 1, 0, 0, 0, []),
  (16, .getfield 25, 3, 7, 4, 0, [(0, 189)]),
  (19, .iconst 1, 1, 0, 0, 1, []),
  (20, .iadd, 1, 0, 0, 0, []),
  (21, .putfield 25, 3, 7, 4, 0, [(0, 189)]),
  (24, .iconst 0, 1, 0, 0, 0, []),
  (25, .ireturn, 1, 0, 0, 0, [])]
/-- NamedToWed$LawReader.readBracket(LNamedToWed$Tape;LNamedToWed$Law;I)I -/
def cd_33 : Cod := [(0, .aload_n 0, 1, 0, 0, 0, []),
  (1, .dup, 1, 0, 0, 0, []),
  (2, .getfield 28, 3, 7, 4, 0, [(0, 191)]),
  (5, .iconst 1, 1, 0, 0, 1, []),
  (6, .iadd, 1, 0, 0, 0, []),
  (7, .putfield 28, 3, 7, 4, 0, [(0, 191)]),
  (10, .aload_n 0, 1, 0, 0, 0, []),
  (11, .aload_n 1, 1, 1, 0, 0, []),
  (12, .iload_n 2, 1, 2, 0, 0, []),
  (13, .invokestatic 62, 3, 34, 3, 0, [(0, 472)]),
  (16, .istore_n 3, 1, 3, 0, 0, []),
  (17, .iload_n 3, 1, 3, 0, 0, []),
  (18, .ifCond .eq 7, 3, 25, 0, 0, []),
  (21, .iload_n 3, 1, 3, 0, 0, []),
  (22, .goto 9, 3, 31, 0, 0, []),
  (25, .aload_n 0, 1, 0, 0, 0, []),
  (26, .bipush 41, 2, 0, 0, 41, []),
  (28, .invokevirtual 65, 3, 32, 2, 0, [(0, 463)]),
  (31, .ireturn, 1, 0, 0, 0, [])]
/-- NamedToWed$LawReader.readChoice(LNamedToWed$Tape;LNamedToWed$Law;I)I -/
def cd_34 : Cod := [(0, .iconst (-1), 1, 0, 0, (-1), []),
  (1, .istore_n 3, 1, 3, 0, 0, []),
  (2, .aload_n 0, 1, 0, 0, 0, []),
  (3, .aload_n 1, 1, 1, 0, 0, []),
  (4, .iload_n 2, 1, 2, 0, 0, []),
  (5, .invokestatic 69, 3, 35, 3, 0, [(0, 475)]),
  (8, .istore 4, 2, 4, 0, 0, []),
  (10, .iconst 0, 1, 0, 0, 0, []),
  (11, .istore 5, 2, 5, 0, 0, []),
  (13, .iload 5, 2, 5, 0, 0, []),
  (15, .aload_n 0, 1, 0, 0, 0, []),
  (16, .getfield 18, 3, 7, 3, 0, [(0, 186)]),
  (19, .if_icmp .ge 38, 3, 57, 0, 0, []),
  (22, .iload 4, 2, 4, 0, 0, []),
  (24, .ifCond .ne 33, 3, 57, 0, 0, []),
  (27, .aload_n 0, 1, 0, 0, 0, []),
  (28, .invokevirtual 24, 3, 24, 1, 0, [(0, 436)]),
  (31, .bipush 124, 2, 0, 0, 124, []),
  (33, .if_icmp .ne 24, 3, 57, 0, 0, []),
  (36, .aload_n 0, 1, 0, 0, 0, []),
  (37, .aload_n 1, 1, 1, 0, 0, []),
  (38, .iload_n 3, 1, 3, 0, 0, []),
  (39, .invokestatic 72, 3, 37, 3, 0, [(0, 481)]),
  (42, .istore_n 3, 1, 3, 0, 0, []),
  (43, .aload_n 0, 1, 0, 0, 0, []),
  (44, .aload_n 1, 1, 1, 0, 0, []),
  (45, .iload_n 2, 1, 2, 0, 0, []),
  (46, .invokestatic 69, 3, 35, 3, 0, [(0, 475)]),
  (49, .istore 4, 2, 4, 0, 0, []),
  (51, .iinc 5 1, 3, 5, 0, 1, []),
  (54, .goto (-41), 3, 13, 0, 0, []),
  (57, .aload_n 1, 1, 1, 0, 0, []),
  (58, .iload_n 3, 1, 3, 0, 0, []),
  (59, .invokestatic 75, 3, 38, 2, 0, [(0, 484)]),
  (62, .iload 4, 2, 4, 0, 0, []),
  (64, .ireturn, 1, 0, 0, 0, [])]
/-- NamedToWed$LawReader.readPart(LNamedToWed$Tape;LNamedToWed$Law;I)I -/
def cd_35 : Cod := [(0, .iconst (-1), 1, 0, 0, (-1), []),
  (1, .istore_n 3, 1, 3, 0, 0, []),
  (2, .aload_n 0, 1, 0, 0, 0, []),
  (3, .aload_n 1, 1, 1, 0, 0, []),
  (4, .iload_n 2, 1, 2, 0, 0, []),
  (5, .invokestatic 79, 3, 36, 3, 0, [(0, 478)]),
  (8, .istore 4, 2, 4, 0, 0, []),
  (10, .iconst 0, 1, 0, 0, 0, []),
  (11, .istore 5, 2, 5, 0, 0, []),
  (13, .iload 5, 2, 5, 0, 0, []),
  (15, .aload_n 0, 1, 0, 0, 0, []),
  (16, .getfield 18, 3, 7, 3, 0, [(0, 186)]),
  (19, .if_icmp .ge 38, 3, 57, 0, 0, []),
  (22, .iload 4, 2, 4, 0, 0, []),
  (24, .ifCond .ne 33, 3, 57, 0, 0, []),
  (27, .aload_n 0, 1, 0, 0, 0, []),
  (28, .invokevirtual 24, 3, 24, 1, 0, [(0, 436)]),
  (31, .bipush 38, 2, 0, 0, 38, []),
  (33, .if_icmp .ne 24, 3, 57, 0, 0, []),
  (36, .aload_n 0, 1, 0, 0, 0, []),
  (37, .aload_n 1, 1, 1, 0, 0, []),
  (38, .iload_n 3, 1, 3, 0, 0, []),
  (39, .invokestatic 72, 3, 37, 3, 0, [(0, 481)]),
  (42, .istore_n 3, 1, 3, 0, 0, []),
  (43, .aload_n 0, 1, 0, 0, 0, []),
  (44, .aload_n 1, 1, 1, 0, 0, []),
  (45, .iload_n 2, 1, 2, 0, 0, []),
  (46, .invokestatic 79, 3, 36, 3, 0, [(0, 478)]),
  (49, .istore 4, 2, 4, 0, 0, []),
  (51, .iinc 5 1, 3, 5, 0, 1, []),
  (54, .goto (-41), 3, 13, 0, 0, []),
  (57, .aload_n 1, 1, 1, 0, 0, []),
  (58, .iload_n 3, 1, 3, 0, 0, []),
  (59, .invokestatic 75, 3, 38, 2, 0, [(0, 484)]),
  (62, .iload 4, 2, 4, 0, 0, []),
  (64, .ireturn, 1, 0, 0, 0, [])]
/-- NamedToWed$LawReader.readTest(LNamedToWed$Tape;LNamedToWed$Law;I)I -/
def cd_36 : Cod := [(0, .aload_n 0, 1, 0, 0, 0, []),
  (1, .invokevirtual 24, 3, 24, 1, 0, [(0, 436)]),
  (4, .istore_n 3, 1, 3, 0, 0, []),
  (5, .iload_n 3, 1, 3, 0, 0, []),
  (6, .bipush 33, 2, 0, 0, 33, []),
  (8, .if_icmp .eq 9, 3, 17, 0, 0, []),
  (11, .iload_n 3, 1, 3, 0, 0, []),
  (12, .bipush 40, 2, 0, 0, 40, []),
  (14, .if_icmp .ne 15, 3, 29, 0, 0, []),
  (17, .iload_n 2, 1, 2, 0, 0, []),
  (18, .bipush 6, 2, 0, 0, 6, []),
  (20, .if_icmp .ne 9, 3, 29, 0, 0, []),
  (23, .aload_n 0, 1, 0, 0, 0, []),
  (24, .iconst 5, 1, 0, 0, 5, []),
  (25, .invokevirtual 34, 3, 25, 2, 0, [(0, 440)]),
  (28, .ireturn, 1, 0, 0, 0, []),
  (29, .iload_n 3, 1, 3, 0, 0, []),
  (30, .bipush 40, 2, 0, 0, 40, []),
  (32, .if_icmp .ne 12, 3, 44, 0, 0, []),
  (35, .aload_n 0, 1, 0, 0, 0, []),
  (36, .aload_n 1, 1, 1, 0, 0, []),
  (37, .iload_n 2, 1, 2, 0, 0, []),
  (38, .iconst 1, 1, 0, 0, 1, []),
  (39, .iadd, 1, 0, 0, 0, []),
  (40, .invokestatic 56, 3, 33, 3, 0, [(0, 469)]),
  (43, .ireturn, 1, 0, 0, 0, []),
  (44, .iload_n 3, 1, 3, 0, 0, []),
  (45, .bipush 33, 2, 0, 0, 33, []),
  (47, .if_icmp .ne 33, 3, 80, 0, 0, []),
  (50, .aload_n 0, 1, 0, 0, 0, []),
  (51, .dup, 1, 0, 0, 0, []),
  (52, .getfield 28, 3, 7, 4, 0, [(0, 191)]),
  (55, .iconst 1, 1, 0, 0, 1, []),
  (56, .iadd, 1, 0, 0, 0, []),
  (57, .putfield 28, 3, 7, 4, 0, [(0, 191)]),
  (60, .aload_n 0, 1, 0, 0, 0, []),
  (61, .aload_n 1, 1, 1, 0, 0, []),
  (62, .iload_n 2, 1, 2, 0, 0, []),
  (63, .iconst 1, 1, 0, 0, 1, []),
  (64, .iadd, 1, 0, 0, 0, []),
  (65, .invokestatic 79, 3, 36, 3, 0, [(0, 478)]),
  (68, .istore 4, 2, 4, 0, 0, []),
  (70, .aload_n 1, 1, 1, 0, 0, []),
  (71, .bipush 33, 2, 0, 0, 33, []),
  (73, .iconst 0, 1, 0, 0, 0, []),
  (74, .invokevirtual 82, 3, 31, 3, 0, [(0, 459)]),
  (77, .iload 4, 2, 4, 0, 0, []),
  (79, .ireturn, 1, 0, 0, 0, []),
  (80, .aload_n 0, 1, 0, 0, 0, []),
  (81, .aload_n 1, 1, 1, 0, 0, []),
  (82, .iload_n 2, 1, 2, 0, 0, []),
  (83, .invokestatic 49, 3, 26, 3, 0, [(0, 444)]),
  (86, .istore 4, 2, 4, 0, 0, []),
  (88, .iload 4, 2, 4, 0, 0, []),
  (90, .ifCond .eq 6, 3, 96, 0, 0, []),
  (93, .iload 4, 2, 4, 0, 0, []),
  (95, .ireturn, 1, 0, 0, 0, []),
  (96, .aload_n 0, 1, 0, 0, 0, []),
  (97, .invokevirtual 24, 3, 24, 1, 0, [(0, 436)]),
  (100, .istore 5, 2, 5, 0, 0, []),
  (102, .iload 5, 2, 5, 0, 0, []),
  (104, .bipush 60, 2, 0, 0, 60, []),
  (106, .if_icmp .eq 23, 3, 129, 0, 0, []),
  (109, .iload 5, 2, 5, 0, 0, []),
  (111, .bipush 62, 2, 0, 0, 62, []),
  (113, .if_icmp .eq 16, 3, 129, 0, 0, []),
  (116, .iload 5, 2, 5, 0, 0, []),
  (118, .bipush 61, 2, 0, 0, 61, []),
  (120, .if_icmp .eq 9, 3, 129, 0, 0, []),
  (123, .aload_n 0, 1, 0, 0, 0, []),
  (124, .iconst 1, 1, 0, 0, 1, []),
  (125, .invokevirtual 34, 3, 25, 2, 0, [(0, 440)]),
  (128, .ireturn, 1, 0, 0, 0, []),
  (129, .aload_n 0, 1, 0, 0, 0, []),
  (130, .dup, 1, 0, 0, 0, []),
  (131, .getfield 28, 3, 7, 4, 0, [(0, 191)]),
  (134, .iconst 1, 1, 0, 0, 1, []),
  (135, .iadd, 1, 0, 0, 0, []),
  (136, .putfield 28, 3, 7, 4, 0, [(0, 191)]),
  (139, .aload_n 0, 1, 0, 0, 0, []),
  (140, .aload_n 1, 1, 1, 0, 0, []),
  (141, .iload_n 2, 1, 2, 0, 0, []),
  (142, .invokestatic 49, 3, 26, 3, 0, [(0, 444)]),
  (145, .istore 4, 2, 4, 0, 0, []),
  (147, .aload_n 1, 1, 1, 0, 0, []),
  (148, .iload 5, 2, 5, 0, 0, []),
  (150, .i2c, 1, 0, 0, 0, []),
  (151, .iconst 0, 1, 0, 0, 0, []),
  (152, .invokevirtual 82, 3, 31, 3, 0, [(0, 459)]),
  (155, .iload 4, 2, 4, 0, 0, []),
  (157, .ireturn, 1, 0, 0, 0, [])]
/-- NamedToWed$LawReader.emitSkip(LNamedToWed$Tape;LNamedToWed$Law;I)I -/
def cd_37 : Cod := [(0, .aload_n 1, 1, 1, 0, 0, []),
  (1, .iload_n 2, 1, 2, 0, 0, []),
  (2, .invokestatic 75, 3, 38, 2, 0, [(0, 484)]),
  (5, .aload_n 1, 1, 1, 0, 0, []),
  (6, .aload_n 0, 1, 0, 0, 0, []),
  (7, .invokevirtual 24, 3, 24, 1, 0, [(0, 436)]),
  (10, .i2c, 1, 0, 0, 0, []),
  (11, .iconst 0, 1, 0, 0, 0, []),
  (12, .invokevirtual 82, 3, 31, 3, 0, [(0, 459)]),
  (15, .aload_n 0, 1, 0, 0, 0, []),
  (16, .dup, 1, 0, 0, 0, []),
  (17, .getfield 28, 3, 7, 4, 0, [(0, 191)]),
  (20, .iconst 1, 1, 0, 0, 1, []),
  (21, .iadd, 1, 0, 0, 0, []),
  (22, .putfield 28, 3, 7, 4, 0, [(0, 191)]),
  (25, .aload_n 1, 1, 1, 0, 0, []),
  (26, .getfield 48, 3, 2, 5, 0, [(0, 274)]),
  (29, .iconst 1, 1, 0, 0, 1, []),
  (30, .isub, 1, 0, 0, 0, []),
  (31, .ireturn, 1, 0, 0, 0, [])]
/-- NamedToWed$LawReader.endSkip(LNamedToWed$Law;I)V -/
def cd_38 : Cod := [(0, .iload_n 1, 1, 1, 0, 0, []),
  (1, .ifCond .lt 13, 3, 14, 0, 0, []),
  (4, .aload_n 0, 1, 0, 0, 0, []),
  (5, .getfield 86, 3, 2, 7, 0, [(0, 277)]),
  (8, .iload_n 1, 1, 1, 0, 0, []),
  (9, .aload_n 0, 1, 0, 0, 0, []),
  (10, .getfield 48, 3, 2, 5, 0, [(0, 274)]),
  (13, .iastore, 1, 0, 0, 0, []),
  (14, .return_, 1, 0, 0, 0, [])]
/-- NamedToWed$Tape.end()I -/
def cd_39 : Cod := [(0, .aload_n 0, 1, 0, 0, 0, []),
  (1, .getfield 25, 3, 7, 4, 0, [(0, 189)]),
  (4, .aload_n 0, 1, 0, 0, 0, []),
  (5, .getfield 22, 3, 7, 3, 0, [(0, 185)]),
  (8, .if_icmp .ge 11, 3, 19, 0, 0, []),
  (11, .aload_n 0, 1, 0, 0, 0, []),
  (12, .iconst 1, 1, 0, 0, 1, []),
  (13, .invokevirtual 32, 3, 25, 2, 0, [(0, 468)]),
  (16, .goto 4, 3, 20, 0, 0, []),
  (19, .iconst 0, 1, 0, 0, 0, []),
  (20, .ireturn, 1, 0, 0, 0, [])]
/-- NamedToWed.rule(I)I -/
def cd_40 : Cod := [(0, .aload_n 0, 1, 0, 0, 0, []),
  (1, .getfield 10, 3, 10, 0, 0, [(0, 373)]),
  (4, .iload_n 1, 1, 1, 0, 0, []),
  (5, .bipush 20, 2, 0, 0, 20, []),
  (7, .invokevirtual 132, 3, 19, 3, 0, [(0, 418)]),
  (10, .ifCond .ne 5, 3, 15, 0, 0, []),
  (13, .iconst (-1), 1, 0, 0, (-1), []),
  (14, .ireturn, 1, 0, 0, 0, []),
  (15, .aload_n 0, 1, 0, 0, 0, []),
  (16, .getfield 10, 3, 10, 0, 0, [(0, 373)]),
  (19, .iconst 0, 1, 0, 0, 0, []),
  (20, .iload_n 1, 1, 1, 0, 0, []),
  (21, .invokevirtual 136, 3, 20, 3, 0, [(0, 422)]),
  (24, .aload_n 0, 1, 0, 0, 0, []),
  (25, .getfield 23, 3, 10, 2, 0, [(0, 375)]),
  (28, .aload_n 0, 1, 0, 0, 0, []),
  (29, .getfield 10, 3, 10, 0, 0, [(0, 373)]),
  (32, .invokevirtual 149, 3, 41, 2, 0, [(0, 495)]),
  (35, .istore_n 2, 1, 2, 0, 0, []),
  (36, .iload_n 2, 1, 2, 0, 0, []),
  (37, .ifCond .eq 5, 3, 42, 0, 0, []),
  (40, .iload_n 2, 1, 2, 0, 0, []),
  (41, .ireturn, 1, 0, 0, 0, []),
  (42, .aload_n 0, 1, 0, 0, 0, []),
  (43, .getfield 19, 3, 10, 1, 0, [(0, 374)]),
  (46, .astore_n 3, 1, 3, 0, 0, []),
  (47, .aload_n 0, 1, 0, 0, 0, []),
  (48, .aload_n 0, 1, 0, 0, 0, []),
  (49, .getfield 23, 3, 10, 2, 0, [(0, 375)]),
  (52, .putfield 19, 3, 10, 1, 0, [(0, 374)]),
  (55, .aload_n 0, 1, 0, 0, 0, []),
  (56, .aload_n 3, 1, 3, 0, 0, []),
  (57, .putfield 23, 3, 10, 2, 0, [(0, 375)]),
  (60, .aload_n 0, 1, 0, 0, 0, []),
  (61, .getfield 87, 3, 10, 13, 0, [(0, 386)]),
  (64, .invokevirtual 152, 3, 47, 1, 0, [(0, 518)]),
  (67, .aload_n 0, 1, 0, 0, 0, []),
  (68, .getfield 29, 3, 10, 3, 0, [(0, 376)]),
  (71, .aload_n 0, 1, 0, 0, 0, []),
  (72, .getfield 19, 3, 10, 1, 0, [(0, 374)]),
  (75, .getfield 155, 3, 6, 0, 0, [(0, 204)]),
  (78, .invokevirtual 158, 3, 49, 2, 0, [(0, 525)]),
  (81, .aload_n 0, 1, 0, 0, 0, []),
  (82, .getfield 73, 3, 10, 11, 0, [(0, 384)]),
  (85, .aload_n 0, 1, 0, 0, 0, []),
  (86, .getfield 19, 3, 10, 1, 0, [(0, 374)]),
  (89, .aload_n 0, 1, 0, 0, 0, []),
  (90, .getfield 29, 3, 10, 3, 0, [(0, 376)]),
  (93, .invokevirtual 161, 3, 50, 3, 0, [(0, 529)]),
  (96, .aload_n 0, 1, 0, 0, 0, []),
  (97, .getfield 19, 3, 10, 1, 0, [(0, 374)]),
  (100, .getfield 155, 3, 6, 0, 0, [(0, 204)]),
  (103, .ireturn, 1, 0, 0, 0, [])]
/-- NamedToWed$Rule.read(LNamedToWed$Tape;)I -/
def cd_41 : Cod := [(0, .aload_n 0, 1, 0, 0, 0, []),
  (1, .aload_n 1, 1, 1, 0, 0, []),
  (2, .invokevirtual 28, 3, 42, 2, 0, [(0, 499)]),
  (5, .istore_n 2, 1, 2, 0, 0, []),
  (6, .iload_n 2, 1, 2, 0, 0, []),
  (7, .ifCond .ne 9, 3, 16, 0, 0, []),
  (10, .aload_n 0, 1, 0, 0, 0, []),
  (11, .aload_n 1, 1, 1, 0, 0, []),
  (12, .invokevirtual 32, 3, 45, 2, 0, [(0, 510)]),
  (15, .istore_n 2, 1, 2, 0, 0, []),
  (16, .iload_n 2, 1, 2, 0, 0, []),
  (17, .ifCond .ne 7, 3, 24, 0, 0, []),
  (20, .aload_n 0, 1, 0, 0, 0, []),
  (21, .invokevirtual 35, 3, 46, 1, 0, [(0, 514)]),
  (24, .iload_n 2, 1, 2, 0, 0, []),
  (25, .ireturn, 1, 0, 0, 0, [])]
/-- NamedToWed$Rule.readWives(LNamedToWed$Tape;)I -/
def cd_42 : Cod := [(0, .iconst 0, 1, 0, 0, 0, []),
  (1, .istore_n 2, 1, 2, 0, 0, []),
  (2, .iconst 0, 1, 0, 0, 0, []),
  (3, .istore_n 3, 1, 3, 0, 0, []),
  (4, .aload_n 1, 1, 1, 0, 0, []),
  (5, .getfield 38, 3, 7, 4, 0, [(0, 192)]),
  (8, .aload_n 1, 1, 1, 0, 0, []),
  (9, .getfield 43, 3, 7, 3, 0, [(0, 188)]),
  (12, .if_icmp .ge 85, 3, 97, 0, 0, []),
  (15, .aload_n 1, 1, 1, 0, 0, []),
  (16, .invokevirtual 46, 3, 24, 1, 0, [(0, 502)]),
  (19, .bipush 47, 2, 0, 0, 47, []),
  (21, .if_icmp .eq 76, 3, 97, 0, 0, []),
  (24, .aload_n 1, 1, 1, 0, 0, []),
  (25, .invokevirtual 46, 3, 24, 1, 0, [(0, 502)]),
  (28, .invokestatic 50, 3, 43, 1, 1, [(0, 503)]),
  (31, .istore 4, 2, 4, 0, 0, []),
  (33, .iload 4, 2, 4, 0, 0, []),
  (35, .ifCond .lt 9, 3, 44, 0, 0, []),
  (38, .iload_n 3, 1, 3, 0, 0, []),
  (39, .bipush 6, 2, 0, 0, 6, []),
  (41, .if_icmp .ne 9, 3, 50, 0, 0, []),
  (44, .aload_n 1, 1, 1, 0, 0, []),
  (45, .iconst 1, 1, 0, 0, 1, []),
  (46, .invokevirtual 54, 3, 25, 2, 0, [(0, 506)]),
  (49, .ireturn, 1, 0, 0, 0, []),
  (50, .iload_n 2, 1, 2, 0, 0, []),
  (51, .iload 4, 2, 4, 0, 0, []),
  (53, .ishr, 1, 0, 0, 0, []),
  (54, .iconst 1, 1, 0, 0, 1, []),
  (55, .iand, 1, 0, 0, 0, []),
  (56, .ifCond .eq 10, 3, 66, 0, 0, []),
  (59, .aload_n 1, 1, 1, 0, 0, []),
  (60, .bipush 6, 2, 0, 0, 6, []),
  (62, .invokevirtual 54, 3, 25, 2, 0, [(0, 506)]),
  (65, .ireturn, 1, 0, 0, 0, []),
  (66, .iload_n 2, 1, 2, 0, 0, []),
  (67, .iconst 1, 1, 0, 0, 1, []),
  (68, .iload 4, 2, 4, 0, 0, []),
  (70, .ishl, 1, 0, 0, 0, []),
  (71, .ior, 1, 0, 0, 0, []),
  (72, .istore_n 2, 1, 2, 0, 0, []),
  (73, .aload_n 0, 1, 0, 0, 0, []),
  (74, .getfield 15, 3, 6, 1, 0, [(0, 208)]),
  (77, .iload_n 3, 1, 3, 0, 0, []),
  (78, .iinc 3 1, 3, 3, 0, 1, []),
  (81, .iload 4, 2, 4, 0, 0, []),
  (83, .iastore, 1, 0, 0, 0, []),
  (84, .aload_n 1, 1, 1, 0, 0, []),
  (85, .dup, 1, 0, 0, 0, []),
  (86, .getfield 38, 3, 7, 4, 0, [(0, 192)]),
  (89, .iconst 1, 1, 0, 0, 1, []),
  (90, .iadd, 1, 0, 0, 0, []),
  (91, .putfield 38, 3, 7, 4, 0, [(0, 192)]),
  (94, .goto (-90), 3, 4, 0, 0, []),
  (97, .aload_n 1, 1, 1, 0, 0, []),
  (98, .invokevirtual 46, 3, 24, 1, 0, [(0, 502)]),
  (101, .bipush 47, 2, 0, 0, 47, []),
  (103, .if_icmp .ne 8, 3, 111, 0, 0, []),
  (106, .iload_n 3, 1, 3, 0, 0, []),
  (107, .iconst 2, 1, 0, 0, 2, []),
  (108, .if_icmp .ge 9, 3, 117, 0, 0, []),
  (111, .aload_n 1, 1, 1, 0, 0, []),
  (112, .iconst 1, 1, 0, 0, 1, []),
  (113, .invokevirtual 54, 3, 25, 2, 0, [(0, 506)]),
  (116, .ireturn, 1, 0, 0, 0, []),
  (117, .aload_n 0, 1, 0, 0, 0, []),
  (118, .iload_n 3, 1, 3, 0, 0, []),
  (119, .putfield 9, 3, 6, 0, 0, [(0, 201)]),
  (122, .iconst 0, 1, 0, 0, 0, []),
  (123, .istore 4, 2, 4, 0, 0, []),
  (125, .iload 4, 2, 4, 0, 0, []),
  (127, .aload_n 0, 1, 0, 0, 0, []),
  (128, .getfield 9, 3, 6, 0, 0, [(0, 201)]),
  (131, .if_icmp .ge 30, 3, 161, 0, 0, []),
  (134, .aload_n 0, 1, 0, 0, 0, []),
  (135, .getfield 15, 3, 6, 1, 0, [(0, 208)]),
  (138, .iload 4, 2, 4, 0, 0, []),
  (140, .iaload, 1, 0, 0, 0, []),
  (141, .aload_n 0, 1, 0, 0, 0, []),
  (142, .getfield 9, 3, 6, 0, 0, [(0, 201)]),
  (145, .if_icmp .lt 10, 3, 155, 0, 0, []),
  (148, .iconst 3, 1, 0, 0, 3, []),
  (149, .iload 4, 2, 4, 0, 0, []),
  (151, .invokestatic 57, 3, 44, 2, 1, [(0, 507)]),
  (154, .ireturn, 1, 0, 0, 0, []),
  (155, .iinc 4 1, 3, 4, 0, 1, []),
  (158, .goto (-33), 3, 125, 0, 0, []),
  (161, .aload_n 1, 1, 1, 0, 0, []),
  (162, .dup, 1, 0, 0, 0, []),
  (163, .getfield 38, 3, 7, 4, 0, [(0, 192)]),
  (166, .iconst 1, 1, 0, 0, 1, []),
  (167, .iadd, 1, 0, 0, 0, []),
  (168, .putfield 38, 3, 7, 4, 0, [(0, 192)]),
  (171, .iconst 0, 1, 0, 0, 0, []),
  (172, .ireturn, 1, 0, 0, 0, [])]
/-- NamedToWed.nameOf(I)I -/
def cd_43 : Cod := [(0, .iload_n 0, 1, 0, 0, 0, []),
  (1, .bipush 97, 2, 0, 0, 97, []),
  (3, .if_icmp .lt 16, 3, 19, 0, 0, []),
  (6, .iload_n 0, 1, 0, 0, 0, []),
  (7, .bipush 102, 2, 0, 0, 102, []),
  (9, .if_icmp .gt 10, 3, 19, 0, 0, []),
  (12, .iload_n 0, 1, 0, 0, 0, []),
  (13, .bipush 97, 2, 0, 0, 97, []),
  (15, .isub, 1, 0, 0, 0, []),
  (16, .goto 4, 3, 20, 0, 0, []),
  (19, .iconst (-1), 1, 0, 0, (-1), []),
  (20, .ireturn, 1, 0, 0, 0, [])]
/-- NamedToWed.fault(II)I -/
def cd_44 : Cod := [(0, .sipush (-1000), 3, 0, 0, (-1000), []),
  (3, .iload_n 0, 1, 0, 0, 0, []),
  (4, .imul, 1, 0, 0, 0, []),
  (5, .iload_n 1, 1, 1, 0, 0, []),
  (6, .isub, 1, 0, 0, 0, []),
  (7, .ireturn, 1, 0, 0, 0, [])]
/-- NamedToWed$Rule.readChildren(LNamedToWed$Tape;)I -/
def cd_45 : Cod := [(0, .iconst 0, 1, 0, 0, 0, []),
  (1, .istore_n 2, 1, 2, 0, 0, []),
  (2, .iconst 0, 1, 0, 0, 0, []),
  (3, .istore_n 3, 1, 3, 0, 0, []),
  (4, .iload_n 3, 1, 3, 0, 0, []),
  (5, .aload_n 0, 1, 0, 0, 0, []),
  (6, .getfield 9, 3, 6, 0, 0, [(0, 201)]),
  (9, .if_icmp .ge 85, 3, 94, 0, 0, []),
  (12, .aload_n 1, 1, 1, 0, 0, []),
  (13, .invokevirtual 46, 3, 24, 1, 0, [(0, 502)]),
  (16, .invokestatic 50, 3, 43, 1, 1, [(0, 503)]),
  (19, .istore 4, 2, 4, 0, 0, []),
  (21, .iload 4, 2, 4, 0, 0, []),
  (23, .ifCond .ge 9, 3, 32, 0, 0, []),
  (26, .aload_n 1, 1, 1, 0, 0, []),
  (27, .iconst 1, 1, 0, 0, 1, []),
  (28, .invokevirtual 54, 3, 25, 2, 0, [(0, 506)]),
  (31, .ireturn, 1, 0, 0, 0, []),
  (32, .iload_n 2, 1, 2, 0, 0, []),
  (33, .iload 4, 2, 4, 0, 0, []),
  (35, .ishr, 1, 0, 0, 0, []),
  (36, .iconst 1, 1, 0, 0, 1, []),
  (37, .iand, 1, 0, 0, 0, []),
  (38, .ifCond .eq 10, 3, 48, 0, 0, []),
  (41, .aload_n 1, 1, 1, 0, 0, []),
  (42, .bipush 6, 2, 0, 0, 6, []),
  (44, .invokevirtual 54, 3, 25, 2, 0, [(0, 506)]),
  (47, .ireturn, 1, 0, 0, 0, []),
  (48, .iload 4, 2, 4, 0, 0, []),
  (50, .aload_n 0, 1, 0, 0, 0, []),
  (51, .getfield 9, 3, 6, 0, 0, [(0, 201)]),
  (54, .if_icmp .lt 9, 3, 63, 0, 0, []),
  (57, .aload_n 1, 1, 1, 0, 0, []),
  (58, .iconst 3, 1, 0, 0, 3, []),
  (59, .invokevirtual 54, 3, 25, 2, 0, [(0, 506)]),
  (62, .ireturn, 1, 0, 0, 0, []),
  (63, .iload_n 2, 1, 2, 0, 0, []),
  (64, .iconst 1, 1, 0, 0, 1, []),
  (65, .iload 4, 2, 4, 0, 0, []),
  (67, .ishl, 1, 0, 0, 0, []),
  (68, .ior, 1, 0, 0, 0, []),
  (69, .istore_n 2, 1, 2, 0, 0, []),
  (70, .aload_n 0, 1, 0, 0, 0, []),
  (71, .getfield 22, 3, 6, 3, 0, [(0, 215)]),
  (74, .iload_n 3, 1, 3, 0, 0, []),
  (75, .iload 4, 2, 4, 0, 0, []),
  (77, .iastore, 1, 0, 0, 0, []),
  (78, .aload_n 1, 1, 1, 0, 0, []),
  (79, .dup, 1, 0, 0, 0, []),
  (80, .getfield 38, 3, 7, 4, 0, [(0, 192)]),
  (83, .iconst 1, 1, 0, 0, 1, []),
  (84, .iadd, 1, 0, 0, 0, []),
  (85, .putfield 38, 3, 7, 4, 0, [(0, 192)]),
  (88, .iinc 3 1, 3, 3, 0, 1, []),
  (91, .goto (-87), 3, 4, 0, 0, []),
  (94, .aload_n 1, 1, 1, 0, 0, []),
  (95, .invokevirtual 60, 3, 39, 1, 0, [(0, 513)]),
  (98, .ireturn, 1, 0, 0, 0, [])]
/-- NamedToWed$Rule.turnRound()V -/
def cd_46 : Cod := [(0, .iconst 0, 1, 0, 0, 0, []),
  (1, .istore_n 1, 1, 1, 0, 0, []),
  (2, .iload_n 1, 1, 1, 0, 0, []),
  (3, .aload_n 0, 1, 0, 0, 0, []),
  (4, .getfield 9, 3, 6, 0, 0, [(0, 201)]),
  (7, .if_icmp .ge 33, 3, 40, 0, 0, []),
  (10, .aload_n 0, 1, 0, 0, 0, []),
  (11, .getfield 19, 3, 6, 2, 0, [(0, 213)]),
  (14, .aload_n 0, 1, 0, 0, 0, []),
  (15, .getfield 15, 3, 6, 1, 0, [(0, 208)]),
  (18, .iload_n 1, 1, 1, 0, 0, []),
  (19, .iaload, 1, 0, 0, 0, []),
  (20, .iload_n 1, 1, 1, 0, 0, []),
  (21, .iastore, 1, 0, 0, 0, []),
  (22, .aload_n 0, 1, 0, 0, 0, []),
  (23, .getfield 25, 3, 6, 4, 0, [(0, 220)]),
  (26, .aload_n 0, 1, 0, 0, 0, []),
  (27, .getfield 22, 3, 6, 3, 0, [(0, 215)]),
  (30, .iload_n 1, 1, 1, 0, 0, []),
  (31, .iaload, 1, 0, 0, 0, []),
  (32, .iload_n 1, 1, 1, 0, 0, []),
  (33, .iastore, 1, 0, 0, 0, []),
  (34, .iinc 1 1, 3, 1, 0, 1, []),
  (37, .goto (-35), 3, 2, 0, 0, []),
  (40, .return_, 1, 0, 0, 0, [])]
/-- NamedToWed$Village.clear()V -/
def cd_47 : Cod := [(0, .aload_n 0, 1, 0, 0, 0, []),
  (1, .getfield 9, 3, 8, 0, 0, [(0, 356)]),
  (4, .iconst 0, 1, 0, 0, 0, []),
  (5, .invokestatic 40, 3, 48, 2, 0, [(0, 522)]),
  (8, .aload_n 0, 1, 0, 0, 0, []),
  (9, .getfield 15, 3, 8, 1, 0, [(0, 358)]),
  (12, .iconst 0, 1, 0, 0, 0, []),
  (13, .invokestatic 40, 3, 48, 2, 0, [(0, 522)]),
  (16, .aload_n 0, 1, 0, 0, 0, []),
  (17, .getfield 18, 3, 8, 2, 0, [(0, 360)]),
  (20, .iconst 0, 1, 0, 0, 0, []),
  (21, .invokestatic 40, 3, 48, 2, 0, [(0, 522)]),
  (24, .return_, 1, 0, 0, 0, [])]
/-- java/util/Arrays.fill([II)V -/
def cd_48 : Cod := [(0, .iconst 0, 1, 0, 0, 0, []),
  (1, .istore_n 2, 1, 2, 0, 0, []),
  (2, .aload_n 0, 1, 0, 0, 0, []),
  (3, .arraylength, 1, 0, 0, 0, []),
  (4, .istore_n 3, 1, 3, 0, 0, []),
  (5, .iload_n 2, 1, 2, 0, 0, []),
  (6, .iload_n 3, 1, 3, 0, 0, []),
  (7, .if_icmp .ge 13, 3, 20, 0, 0, []),
  (10, .aload_n 0, 1, 0, 0, 0, []),
  (11, .iload_n 2, 1, 2, 0, 0, []),
  (12, .iload_n 1, 1, 1, 0, 0, []),
  (13, .iastore, 1, 0, 0, 0, []),
  (14, .iinc 2 1, 3, 2, 0, 1, []),
  (17, .goto (-12), 3, 5, 0, 0, []),
  (20, .return_, 1, 0, 0, 0, [])]
/-- NamedToWed$Roll.forgetNamesFrom(I)V -/
def cd_49 : Cod := [(0, .iconst 0, 1, 0, 0, 0, []),
  (1, .istore_n 2, 1, 2, 0, 0, []),
  (2, .iload_n 2, 1, 2, 0, 0, []),
  (3, .aload_n 0, 1, 0, 0, 0, []),
  (4, .getfield 9, 3, 4, 0, 0, [(0, 227)]),
  (7, .if_icmp .ge 26, 3, 33, 0, 0, []),
  (10, .aload_n 0, 1, 0, 0, 0, []),
  (11, .getfield 19, 3, 4, 2, 0, [(0, 235)]),
  (14, .iload_n 2, 1, 2, 0, 0, []),
  (15, .iaload, 1, 0, 0, 0, []),
  (16, .iload_n 1, 1, 1, 0, 0, []),
  (17, .if_icmp .lt 10, 3, 27, 0, 0, []),
  (20, .aload_n 0, 1, 0, 0, 0, []),
  (21, .getfield 19, 3, 4, 2, 0, [(0, 235)]),
  (24, .iload_n 2, 1, 2, 0, 0, []),
  (25, .iconst (-1), 1, 0, 0, (-1), []),
  (26, .iastore, 1, 0, 0, 0, []),
  (27, .iinc 2 1, 3, 2, 0, 1, []),
  (30, .goto (-28), 3, 2, 0, 0, []),
  (33, .return_, 1, 0, 0, 0, [])]
/-- NamedToWed$Houses.settle(LNamedToWed$Rule;LNamedToWed$Roll;)V -/
def cd_50 : Cod := [(0, .aload_n 0, 1, 0, 0, 0, []),
  (1, .aload_n 2, 1, 2, 0, 0, []),
  (2, .invokevirtual 34, 3, 51, 2, 0, [(0, 533)]),
  (5, .aload_n 0, 1, 0, 0, 0, []),
  (6, .getfield 9, 3, 1, 0, 0, [(0, 332)]),
  (9, .iconst 0, 1, 0, 0, 0, []),
  (10, .invokestatic 38, 3, 48, 2, 0, [(0, 552)]),
  (13, .aload_n 0, 1, 0, 0, 0, []),
  (14, .getfield 24, 3, 1, 4, 0, [(0, 337)]),
  (17, .bipush 25, 2, 0, 0, 25, []),
  (19, .invokestatic 38, 3, 48, 2, 0, [(0, 552)]),
  (22, .aload_n 0, 1, 0, 0, 0, []),
  (23, .getfield 27, 3, 1, 5, 0, [(0, 338)]),
  (26, .iconst 0, 1, 0, 0, 0, []),
  (27, .invokestatic 38, 3, 48, 2, 0, [(0, 552)]),
  (30, .iconst 0, 1, 0, 0, 0, []),
  (31, .istore_n 3, 1, 3, 0, 0, []),
  (32, .iload_n 3, 1, 3, 0, 0, []),
  (33, .aload_n 1, 1, 1, 0, 0, []),
  (34, .getfield 44, 3, 6, 0, 0, [(0, 202)]),
  (37, .if_icmp .ge 27, 3, 64, 0, 0, []),
  (40, .aload_n 0, 1, 0, 0, 0, []),
  (41, .aload_n 1, 1, 1, 0, 0, []),
  (42, .aload_n 2, 1, 2, 0, 0, []),
  (43, .iload_n 3, 1, 3, 0, 0, []),
  (44, .invokevirtual 49, 3, 57, 4, 0, [(0, 553)]),
  (47, .aload_n 0, 1, 0, 0, 0, []),
  (48, .aload_n 1, 1, 1, 0, 0, []),
  (49, .aload_n 2, 1, 2, 0, 0, []),
  (50, .invokevirtual 53, 3, 61, 3, 0, [(0, 567)]),
  (53, .aload_n 0, 1, 0, 0, 0, []),
  (54, .aload_n 2, 1, 2, 0, 0, []),
  (55, .invokevirtual 57, 3, 63, 2, 0, [(0, 573)]),
  (58, .iinc 3 1, 3, 3, 0, 1, []),
  (61, .goto (-29), 3, 32, 0, 0, []),
  (64, .return_, 1, 0, 0, 0, [])]
/-- NamedToWed$Houses.findHeads(LNamedToWed$Roll;)V -/
def cd_51 : Cod := [(0, .iconst 0, 1, 0, 0, 0, []),
  (1, .istore_n 2, 1, 2, 0, 0, []),
  (2, .iload_n 2, 1, 2, 0, 0, []),
  (3, .aload_n 1, 1, 1, 0, 0, []),
  (4, .getfield 60, 3, 4, 0, 0, [(0, 229)]),
  (7, .if_icmp .ge 16, 3, 23, 0, 0, []),
  (10, .aload_n 0, 1, 0, 0, 0, []),
  (11, .getfield 15, 3, 1, 1, 0, [(0, 334)]),
  (14, .iload_n 2, 1, 2, 0, 0, []),
  (15, .iload_n 2, 1, 2, 0, 0, []),
  (16, .iastore, 1, 0, 0, 0, []),
  (17, .iinc 2 1, 3, 2, 0, 1, []),
  (20, .goto (-18), 3, 2, 0, 0, []),
  (23, .iconst 0, 1, 0, 0, 0, []),
  (24, .istore_n 2, 1, 2, 0, 0, []),
  (25, .iload_n 2, 1, 2, 0, 0, []),
  (26, .aload_n 1, 1, 1, 0, 0, []),
  (27, .getfield 60, 3, 4, 0, 0, [(0, 229)]),
  (30, .if_icmp .ge 45, 3, 75, 0, 0, []),
  (33, .aload_n 0, 1, 0, 0, 0, []),
  (34, .aload_n 1, 1, 1, 0, 0, []),
  (35, .iload_n 2, 1, 2, 0, 0, []),
  (36, .aload_n 1, 1, 1, 0, 0, []),
  (37, .getfield 65, 3, 4, 3, 0, [(0, 239)]),
  (40, .iload_n 2, 1, 2, 0, 0, []),
  (41, .iaload, 1, 0, 0, 0, []),
  (42, .invokevirtual 68, 3, 52, 4, 0, [(0, 536)]),
  (45, .aload_n 0, 1, 0, 0, 0, []),
  (46, .aload_n 1, 1, 1, 0, 0, []),
  (47, .iload_n 2, 1, 2, 0, 0, []),
  (48, .aload_n 1, 1, 1, 0, 0, []),
  (49, .getfield 72, 3, 4, 4, 0, [(0, 242)]),
  (52, .iload_n 2, 1, 2, 0, 0, []),
  (53, .iaload, 1, 0, 0, 0, []),
  (54, .invokevirtual 68, 3, 52, 4, 0, [(0, 536)]),
  (57, .aload_n 0, 1, 0, 0, 0, []),
  (58, .aload_n 1, 1, 1, 0, 0, []),
  (59, .iload_n 2, 1, 2, 0, 0, []),
  (60, .aload_n 1, 1, 1, 0, 0, []),
  (61, .getfield 75, 3, 4, 5, 0, [(0, 245)]),
  (64, .iload_n 2, 1, 2, 0, 0, []),
  (65, .iaload, 1, 0, 0, 0, []),
  (66, .invokevirtual 68, 3, 52, 4, 0, [(0, 536)]),
  (69, .iinc 2 1, 3, 2, 0, 1, []),
  (72, .goto (-47), 3, 25, 0, 0, []),
  (75, .return_, 1, 0, 0, 0, [])]
/-- NamedToWed$Houses.joinTo(LNamedToWed$Roll;II)V -/
def cd_52 : Cod := [(0, .aload_n 1, 1, 1, 0, 0, []),
  (1, .iload_n 3, 1, 3, 0, 0, []),
  (2, .invokevirtual 78, 3, 53, 2, 0, [(0, 539)]),
  (5, .ifCond .eq 16, 3, 21, 0, 0, []),
  (8, .aload_n 0, 1, 0, 0, 0, []),
  (9, .getfield 15, 3, 1, 1, 0, [(0, 334)]),
  (12, .aload_n 1, 1, 1, 0, 0, []),
  (13, .getfield 60, 3, 4, 0, 0, [(0, 229)]),
  (16, .iload_n 2, 1, 2, 0, 0, []),
  (17, .iload_n 3, 1, 3, 0, 0, []),
  (18, .invokestatic 82, 3, 54, 4, 1, [(0, 543)]),
  (21, .return_, 1, 0, 0, 0, [])]
/-- NamedToWed$Roll.has(I)Z -/
def cd_53 : Cod := [(0, .iload_n 1, 1, 1, 0, 0, []),
  (1, .ifCond .lt 15, 3, 16, 0, 0, []),
  (4, .iload_n 1, 1, 1, 0, 0, []),
  (5, .aload_n 0, 1, 0, 0, 0, []),
  (6, .getfield 9, 3, 4, 0, 0, [(0, 227)]),
  (9, .if_icmp .ge 7, 3, 16, 0, 0, []),
  (12, .iconst 1, 1, 0, 0, 1, []),
  (13, .goto 4, 3, 17, 0, 0, []),
  (16, .iconst 0, 1, 0, 0, 0, []),
  (17, .ireturn, 1, 1, 0, 0, [])]
/-- NamedToWed.join([IIII)V -/
def cd_54 : Cod := [(0, .aload_n 0, 1, 0, 0, 0, []),
  (1, .iload_n 2, 1, 2, 0, 0, []),
  (2, .iaload, 1, 0, 0, 0, []),
  (3, .aload_n 0, 1, 0, 0, 0, []),
  (4, .iload_n 3, 1, 3, 0, 0, []),
  (5, .iaload, 1, 0, 0, 0, []),
  (6, .invokestatic 377, 3, 55, 2, 0, [(0, 546)]),
  (9, .istore 4, 2, 4, 0, 0, []),
  (11, .aload_n 0, 1, 0, 0, 0, []),
  (12, .iload_n 2, 1, 2, 0, 0, []),
  (13, .iaload, 1, 0, 0, 0, []),
  (14, .aload_n 0, 1, 0, 0, 0, []),
  (15, .iload_n 3, 1, 3, 0, 0, []),
  (16, .iaload, 1, 0, 0, 0, []),
  (17, .invokestatic 394, 3, 56, 2, 0, [(0, 549)]),
  (20, .istore 5, 2, 5, 0, 0, []),
  (22, .iconst 0, 1, 0, 0, 0, []),
  (23, .istore 6, 2, 6, 0, 0, []),
  (25, .iload 6, 2, 6, 0, 0, []),
  (27, .iload_n 1, 1, 1, 0, 0, []),
  (28, .if_icmp .ge 24, 3, 52, 0, 0, []),
  (31, .aload_n 0, 1, 0, 0, 0, []),
  (32, .iload 6, 2, 6, 0, 0, []),
  (34, .iaload, 1, 0, 0, 0, []),
  (35, .iload 5, 2, 5, 0, 0, []),
  (37, .if_icmp .ne 9, 3, 46, 0, 0, []),
  (40, .aload_n 0, 1, 0, 0, 0, []),
  (41, .iload 6, 2, 6, 0, 0, []),
  (43, .iload 4, 2, 4, 0, 0, []),
  (45, .iastore, 1, 0, 0, 0, []),
  (46, .iinc 6 1, 3, 6, 0, 1, []),
  (49, .goto (-24), 3, 25, 0, 0, []),
  (52, .return_, 1, 0, 0, 0, [])]
/-- java/lang/Math.min(II)I -/
def cd_55 : Cod := [(0, .iload_n 0, 1, 0, 0, 0, []),
  (1, .iload_n 1, 1, 1, 0, 0, []),
  (2, .if_icmp .gt 7, 3, 9, 0, 0, []),
  (5, .iload_n 0, 1, 0, 0, 0, []),
  (6, .goto 4, 3, 10, 0, 0, []),
  (9, .iload_n 1, 1, 1, 0, 0, []),
  (10, .ireturn, 1, 0, 0, 0, [])]
/-- java/lang/Math.max(II)I -/
def cd_56 : Cod := [(0, .iload_n 0, 1, 0, 0, 0, []),
  (1, .iload_n 1, 1, 1, 0, 0, []),
  (2, .if_icmp .lt 7, 3, 9, 0, 0, []),
  (5, .iload_n 0, 1, 0, 0, 0, []),
  (6, .goto 4, 3, 10, 0, 0, []),
  (9, .iload_n 1, 1, 1, 0, 0, []),
  (10, .ireturn, 1, 0, 0, 0, [])]
/-- NamedToWed$Houses.nameAll(LNamedToWed$Rule;LNamedToWed$Roll;I)V -/
def cd_57 : Cod := [(0, .iconst 0, 1, 0, 0, 0, []),
  (1, .istore 4, 2, 4, 0, 0, []),
  (3, .iload 4, 2, 4, 0, 0, []),
  (5, .aload_n 2, 1, 2, 0, 0, []),
  (6, .getfield 60, 3, 4, 0, 0, [(0, 229)]),
  (9, .if_icmp .ge 33, 3, 42, 0, 0, []),
  (12, .aload_n 0, 1, 0, 0, 0, []),
  (13, .getfield 18, 3, 1, 2, 0, [(0, 335)]),
  (16, .iload 4, 2, 4, 0, 0, []),
  (18, .aload_n 0, 1, 0, 0, 0, []),
  (19, .getfield 15, 3, 1, 1, 0, [(0, 334)]),
  (22, .iload 4, 2, 4, 0, 0, []),
  (24, .iaload, 1, 0, 0, 0, []),
  (25, .iload 4, 2, 4, 0, 0, []),
  (27, .if_icmp .ne 7, 3, 34, 0, 0, []),
  (30, .iload_n 3, 1, 3, 0, 0, []),
  (31, .goto 4, 3, 35, 0, 0, []),
  (34, .iconst (-1), 1, 0, 0, (-1), []),
  (35, .iastore, 1, 0, 0, 0, []),
  (36, .iinc 4 1, 3, 4, 0, 1, []),
  (39, .goto (-36), 3, 3, 0, 0, []),
  (42, .iconst 1, 1, 0, 0, 1, []),
  (43, .istore 4, 2, 4, 0, 0, []),
  (45, .iconst 0, 1, 0, 0, 0, []),
  (46, .istore 5, 2, 5, 0, 0, []),
  (48, .iload 5, 2, 5, 0, 0, []),
  (50, .aload_n 2, 1, 2, 0, 0, []),
  (51, .getfield 60, 3, 4, 0, 0, [(0, 229)]),
  (54, .if_icmp .ge 112, 3, 166, 0, 0, []),
  (57, .iload 4, 2, 4, 0, 0, []),
  (59, .ifCond .eq 107, 3, 166, 0, 0, []),
  (62, .iconst 0, 1, 0, 0, 0, []),
  (63, .istore 4, 2, 4, 0, 0, []),
  (65, .iconst 0, 1, 0, 0, 0, []),
  (66, .istore 6, 2, 6, 0, 0, []),
  (68, .iload 6, 2, 6, 0, 0, []),
  (70, .aload_n 2, 1, 2, 0, 0, []),
  (71, .getfield 60, 3, 4, 0, 0, [(0, 229)]),
  (74, .if_icmp .ge 86, 3, 160, 0, 0, []),
  (77, .iload 4, 2, 4, 0, 0, []),
  (79, .aload_n 0, 1, 0, 0, 0, []),
  (80, .aload_n 1, 1, 1, 0, 0, []),
  (81, .aload_n 2, 1, 2, 0, 0, []),
  (82, .iload 6, 2, 6, 0, 0, []),
  (84, .aload_n 2, 1, 2, 0, 0, []),
  (85, .getfield 65, 3, 4, 3, 0, [(0, 239)]),
  (88, .iload 6, 2, 6, 0, 0, []),
  (90, .iaload, 1, 0, 0, 0, []),
  (91, .iconst 0, 1, 0, 0, 0, []),
  (92, .invokevirtual 86, 3, 58, 6, 0, [(0, 556)]),
  (95, .ior, 1, 0, 0, 0, []),
  (96, .istore 4, 2, 4, 0, 0, []),
  (98, .iload 4, 2, 4, 0, 0, []),
  (100, .aload_n 0, 1, 0, 0, 0, []),
  (101, .aload_n 1, 1, 1, 0, 0, []),
  (102, .aload_n 2, 1, 2, 0, 0, []),
  (103, .iload 6, 2, 6, 0, 0, []),
  (105, .aload_n 2, 1, 2, 0, 0, []),
  (106, .getfield 72, 3, 4, 4, 0, [(0, 242)]),
  (109, .iload 6, 2, 6, 0, 0, []),
  (111, .iaload, 1, 0, 0, 0, []),
  (112, .iconst 1, 1, 0, 0, 1, []),
  (113, .invokevirtual 86, 3, 58, 6, 0, [(0, 556)]),
  (116, .ior, 1, 0, 0, 0, []),
  (117, .istore 4, 2, 4, 0, 0, []),
  (119, .iload 4, 2, 4, 0, 0, []),
  (121, .aload_n 0, 1, 0, 0, 0, []),
  (122, .aload_n 1, 1, 1, 0, 0, []),
  (123, .aload_n 2, 1, 2, 0, 0, []),
  (124, .iload 6, 2, 6, 0, 0, []),
  (126, .aload_n 2, 1, 2, 0, 0, []),
  (127, .getfield 75, 3, 4, 5, 0, [(0, 245)]),
  (130, .iload 6, 2, 6, 0, 0, []),
  (132, .iaload, 1, 0, 0, 0, []),
  (133, .aload_n 2, 1, 2, 0, 0, []),
  (134, .getfield 90, 3, 4, 1, 0, [(0, 233)]),
  (137, .iload 6, 2, 6, 0, 0, []),
  (139, .iaload, 1, 0, 0, 0, []),
  (140, .ifCond .ne 7, 3, 147, 0, 0, []),
  (143, .iconst 3, 1, 0, 0, 3, []),
  (144, .goto 4, 3, 148, 0, 0, []),
  (147, .iconst 2, 1, 0, 0, 2, []),
  (148, .invokevirtual 86, 3, 58, 6, 0, [(0, 556)]),
  (151, .ior, 1, 0, 0, 0, []),
  (152, .istore 4, 2, 4, 0, 0, []),
  (154, .iinc 6 1, 3, 6, 0, 1, []),
  (157, .goto (-89), 3, 68, 0, 0, []),
  (160, .iinc 5 1, 3, 5, 0, 1, []),
  (163, .goto (-115), 3, 48, 0, 0, []),
  (166, .return_, 1, 0, 0, 0, [])]
/-- NamedToWed$Houses.nameNext(LNamedToWed$Rule;LNamedToWed$Roll;III)Z -/
def cd_58 : Cod := [(0, .aload_n 2, 1, 2, 0, 0, []),
  (1, .iload 4, 2, 4, 0, 0, []),
  (3, .invokevirtual 78, 3, 53, 2, 0, [(0, 539)]),
  (6, .ifCond .eq 37, 3, 43, 0, 0, []),
  (9, .aload_n 0, 1, 0, 0, 0, []),
  (10, .getfield 18, 3, 1, 2, 0, [(0, 335)]),
  (13, .iload_n 3, 1, 3, 0, 0, []),
  (14, .iaload, 1, 0, 0, 0, []),
  (15, .iconst (-1), 1, 0, 0, (-1), []),
  (16, .if_icmp .ne 7, 3, 23, 0, 0, []),
  (19, .iconst 1, 1, 0, 0, 1, []),
  (20, .goto 4, 3, 24, 0, 0, []),
  (23, .iconst 0, 1, 0, 0, 0, []),
  (24, .aload_n 0, 1, 0, 0, 0, []),
  (25, .getfield 18, 3, 1, 2, 0, [(0, 335)]),
  (28, .iload 4, 2, 4, 0, 0, []),
  (30, .iaload, 1, 0, 0, 0, []),
  (31, .iconst (-1), 1, 0, 0, (-1), []),
  (32, .if_icmp .ne 7, 3, 39, 0, 0, []),
  (35, .iconst 1, 1, 0, 0, 1, []),
  (36, .goto 4, 3, 40, 0, 0, []),
  (39, .iconst 0, 1, 0, 0, 0, []),
  (40, .if_icmp .ne 5, 3, 45, 0, 0, []),
  (43, .iconst 0, 1, 0, 0, 0, []),
  (44, .ireturn, 1, 1, 0, 0, []),
  (45, .aload_n 0, 1, 0, 0, 0, []),
  (46, .getfield 18, 3, 1, 2, 0, [(0, 335)]),
  (49, .iload_n 3, 1, 3, 0, 0, []),
  (50, .iaload, 1, 0, 0, 0, []),
  (51, .iconst (-1), 1, 0, 0, (-1), []),
  (52, .if_icmp .eq 31, 3, 83, 0, 0, []),
  (55, .aload_n 0, 1, 0, 0, 0, []),
  (56, .getfield 18, 3, 1, 2, 0, [(0, 335)]),
  (59, .iload 4, 2, 4, 0, 0, []),
  (61, .aload_n 1, 1, 1, 0, 0, []),
  (62, .iload 5, 2, 5, 0, 0, []),
  (64, .aload_n 2, 1, 2, 0, 0, []),
  (65, .getfield 90, 3, 4, 1, 0, [(0, 233)]),
  (68, .iload_n 3, 1, 3, 0, 0, []),
  (69, .iaload, 1, 0, 0, 0, []),
  (70, .aload_n 0, 1, 0, 0, 0, []),
  (71, .getfield 18, 3, 1, 2, 0, [(0, 335)]),
  (74, .iload_n 3, 1, 3, 0, 0, []),
  (75, .iaload, 1, 0, 0, 0, []),
  (76, .invokevirtual 93, 3, 59, 4, 0, [(0, 559)]),
  (79, .iastore, 1, 0, 0, 0, []),
  (80, .goto 66, 3, 146, 0, 0, []),
  (83, .iload 5, 2, 5, 0, 0, []),
  (85, .ifCond .eq 9, 3, 94, 0, 0, []),
  (88, .iload 5, 2, 5, 0, 0, []),
  (90, .iconst 1, 1, 0, 0, 1, []),
  (91, .if_icmp .ne 31, 3, 122, 0, 0, []),
  (94, .aload_n 0, 1, 0, 0, 0, []),
  (95, .getfield 18, 3, 1, 2, 0, [(0, 335)]),
  (98, .iload_n 3, 1, 3, 0, 0, []),
  (99, .aload_n 1, 1, 1, 0, 0, []),
  (100, .iconst 4, 1, 0, 0, 4, []),
  (101, .aload_n 2, 1, 2, 0, 0, []),
  (102, .getfield 90, 3, 4, 1, 0, [(0, 233)]),
  (105, .iload 4, 2, 4, 0, 0, []),
  (107, .iaload, 1, 0, 0, 0, []),
  (108, .aload_n 0, 1, 0, 0, 0, []),
  (109, .getfield 18, 3, 1, 2, 0, [(0, 335)]),
  (112, .iload 4, 2, 4, 0, 0, []),
  (114, .iaload, 1, 0, 0, 0, []),
  (115, .invokevirtual 93, 3, 59, 4, 0, [(0, 559)]),
  (118, .iastore, 1, 0, 0, 0, []),
  (119, .goto 27, 3, 146, 0, 0, []),
  (122, .aload_n 0, 1, 0, 0, 0, []),
  (123, .getfield 18, 3, 1, 2, 0, [(0, 335)]),
  (126, .iload_n 3, 1, 3, 0, 0, []),
  (127, .aload_n 1, 1, 1, 0, 0, []),
  (128, .aload_n 2, 1, 2, 0, 0, []),
  (129, .getfield 90, 3, 4, 1, 0, [(0, 233)]),
  (132, .iload 4, 2, 4, 0, 0, []),
  (134, .iaload, 1, 0, 0, 0, []),
  (135, .aload_n 0, 1, 0, 0, 0, []),
  (136, .getfield 18, 3, 1, 2, 0, [(0, 335)]),
  (139, .iload 4, 2, 4, 0, 0, []),
  (141, .iaload, 1, 0, 0, 0, []),
  (142, .invokevirtual 97, 3, 60, 3, 0, [(0, 563)]),
  (145, .iastore, 1, 0, 0, 0, []),
  (146, .iconst 1, 1, 0, 0, 1, []),
  (147, .ireturn, 1, 1, 0, 0, [])]
/-- NamedToWed$Rule.go(III)I -/
def cd_59 : Cod := [(0, .iload_n 1, 1, 1, 0, 0, []),
  (1, .tableswitch 97 0 5 #[39, 51, 58, 65, 72, 72], 39, 98, 0, 0, [(0, 40), (1, 52), (2, 59), (3, 66), (4, 73), (5, 73)]),
  (40, .aload_n 0, 1, 0, 0, 0, []),
  (41, .getfield 19, 3, 6, 2, 0, [(0, 213)]),
  (44, .aload_n 0, 1, 0, 0, 0, []),
  (45, .getfield 25, 3, 6, 4, 0, [(0, 220)]),
  (48, .iload_n 3, 1, 3, 0, 0, []),
  (49, .iaload, 1, 0, 0, 0, []),
  (50, .iaload, 1, 0, 0, 0, []),
  (51, .ireturn, 1, 0, 0, 0, []),
  (52, .aload_n 0, 1, 0, 0, 0, []),
  (53, .getfield 25, 3, 6, 4, 0, [(0, 220)]),
  (56, .iload_n 3, 1, 3, 0, 0, []),
  (57, .iaload, 1, 0, 0, 0, []),
  (58, .ireturn, 1, 0, 0, 0, []),
  (59, .aload_n 0, 1, 0, 0, 0, []),
  (60, .getfield 19, 3, 6, 2, 0, [(0, 213)]),
  (63, .iload_n 3, 1, 3, 0, 0, []),
  (64, .iaload, 1, 0, 0, 0, []),
  (65, .ireturn, 1, 0, 0, 0, []),
  (66, .aload_n 0, 1, 0, 0, 0, []),
  (67, .getfield 15, 3, 6, 1, 0, [(0, 208)]),
  (70, .iload_n 3, 1, 3, 0, 0, []),
  (71, .iaload, 1, 0, 0, 0, []),
  (72, .ireturn, 1, 0, 0, 0, []),
  (73, .iload_n 2, 1, 2, 0, 0, []),
  (74, .ifCond .ne 17, 3, 91, 0, 0, []),
  (77, .aload_n 0, 1, 0, 0, 0, []),
  (78, .getfield 22, 3, 6, 3, 0, [(0, 215)]),
  (81, .aload_n 0, 1, 0, 0, 0, []),
  (82, .getfield 15, 3, 6, 1, 0, [(0, 208)]),
  (85, .iload_n 3, 1, 3, 0, 0, []),
  (86, .iaload, 1, 0, 0, 0, []),
  (87, .iaload, 1, 0, 0, 0, []),
  (88, .goto 9, 3, 97, 0, 0, []),
  (91, .aload_n 0, 1, 0, 0, 0, []),
  (92, .getfield 22, 3, 6, 3, 0, [(0, 215)]),
  (95, .iload_n 3, 1, 3, 0, 0, []),
  (96, .iaload, 1, 0, 0, 0, []),
  (97, .ireturn, 1, 0, 0, 0, []),
  (98, .iload_n 3, 1, 3, 0, 0, []),
  (99, .ireturn, 1, 0, 0, 0, [])]
/-- NamedToWed$Rule.spouse(II)I -/
def cd_60 : Cod := [(0, .iload_n 1, 1, 1, 0, 0, []),
  (1, .ifCond .ne 12, 3, 13, 0, 0, []),
  (4, .aload_n 0, 1, 0, 0, 0, []),
  (5, .getfield 15, 3, 6, 1, 0, [(0, 208)]),
  (8, .iload_n 2, 1, 2, 0, 0, []),
  (9, .iaload, 1, 0, 0, 0, []),
  (10, .goto 9, 3, 19, 0, 0, []),
  (13, .aload_n 0, 1, 0, 0, 0, []),
  (14, .getfield 19, 3, 6, 2, 0, [(0, 213)]),
  (17, .iload_n 2, 1, 2, 0, 0, []),
  (18, .iaload, 1, 0, 0, 0, []),
  (19, .ireturn, 1, 0, 0, 0, [])]
/-- NamedToWed$Houses.findBroken(LNamedToWed$Rule;LNamedToWed$Roll;)V -/
def cd_61 : Cod := [(0, .aload_n 0, 1, 0, 0, 0, []),
  (1, .iconst 0, 1, 0, 0, 0, []),
  (2, .putfield 30, 3, 1, 6, 0, [(0, 339)]),
  (5, .iconst 0, 1, 0, 0, 0, []),
  (6, .istore_n 3, 1, 3, 0, 0, []),
  (7, .iload_n 3, 1, 3, 0, 0, []),
  (8, .aload_n 2, 1, 2, 0, 0, []),
  (9, .getfield 60, 3, 4, 0, 0, [(0, 229)]),
  (12, .if_icmp .ge 102, 3, 114, 0, 0, []),
  (15, .aload_n 0, 1, 0, 0, 0, []),
  (16, .aload_n 1, 1, 1, 0, 0, []),
  (17, .aload_n 2, 1, 2, 0, 0, []),
  (18, .iload_n 3, 1, 3, 0, 0, []),
  (19, .aload_n 2, 1, 2, 0, 0, []),
  (20, .getfield 65, 3, 4, 3, 0, [(0, 239)]),
  (23, .iload_n 3, 1, 3, 0, 0, []),
  (24, .iaload, 1, 0, 0, 0, []),
  (25, .iconst 0, 1, 0, 0, 0, []),
  (26, .invokevirtual 101, 3, 62, 6, 0, [(0, 570)]),
  (29, .ifCond .eq 54, 3, 83, 0, 0, []),
  (32, .aload_n 0, 1, 0, 0, 0, []),
  (33, .aload_n 1, 1, 1, 0, 0, []),
  (34, .aload_n 2, 1, 2, 0, 0, []),
  (35, .iload_n 3, 1, 3, 0, 0, []),
  (36, .aload_n 2, 1, 2, 0, 0, []),
  (37, .getfield 72, 3, 4, 4, 0, [(0, 242)]),
  (40, .iload_n 3, 1, 3, 0, 0, []),
  (41, .iaload, 1, 0, 0, 0, []),
  (42, .iconst 1, 1, 0, 0, 1, []),
  (43, .invokevirtual 101, 3, 62, 6, 0, [(0, 570)]),
  (46, .ifCond .eq 37, 3, 83, 0, 0, []),
  (49, .aload_n 0, 1, 0, 0, 0, []),
  (50, .aload_n 1, 1, 1, 0, 0, []),
  (51, .aload_n 2, 1, 2, 0, 0, []),
  (52, .iload_n 3, 1, 3, 0, 0, []),
  (53, .aload_n 2, 1, 2, 0, 0, []),
  (54, .getfield 75, 3, 4, 5, 0, [(0, 245)]),
  (57, .iload_n 3, 1, 3, 0, 0, []),
  (58, .iaload, 1, 0, 0, 0, []),
  (59, .aload_n 2, 1, 2, 0, 0, []),
  (60, .getfield 90, 3, 4, 1, 0, [(0, 233)]),
  (63, .iload_n 3, 1, 3, 0, 0, []),
  (64, .iaload, 1, 0, 0, 0, []),
  (65, .ifCond .ne 7, 3, 72, 0, 0, []),
  (68, .iconst 3, 1, 0, 0, 3, []),
  (69, .goto 4, 3, 73, 0, 0, []),
  (72, .iconst 2, 1, 0, 0, 2, []),
  (73, .invokevirtual 101, 3, 62, 6, 0, [(0, 570)]),
  (76, .ifCond .eq 7, 3, 83, 0, 0, []),
  (79, .iconst 1, 1, 0, 0, 1, []),
  (80, .goto 4, 3, 84, 0, 0, []),
  (83, .iconst 0, 1, 0, 0, 0, []),
  (84, .istore 4, 2, 4, 0, 0, []),
  (86, .iload 4, 2, 4, 0, 0, []),
  (88, .ifCond .ne 20, 3, 108, 0, 0, []),
  (91, .aload_n 0, 1, 0, 0, 0, []),
  (92, .dup, 1, 0, 0, 0, []),
  (93, .getfield 30, 3, 1, 6, 0, [(0, 339)]),
  (96, .iconst 1, 1, 0, 0, 1, []),
  (97, .aload_n 0, 1, 0, 0, 0, []),
  (98, .getfield 15, 3, 1, 1, 0, [(0, 334)]),
  (101, .iload_n 3, 1, 3, 0, 0, []),
  (102, .iaload, 1, 0, 0, 0, []),
  (103, .ishl, 1, 0, 0, 0, []),
  (104, .ior, 1, 0, 0, 0, []),
  (105, .putfield 30, 3, 1, 6, 0, [(0, 339)]),
  (108, .iinc 3 1, 3, 3, 0, 1, []),
  (111, .goto (-104), 3, 7, 0, 0, []),
  (114, .return_, 1, 0, 0, 0, [])]
/-- NamedToWed$Houses.fits(LNamedToWed$Rule;LNamedToWed$Roll;III)Z -/
def cd_62 : Cod := [(0, .aload_n 2, 1, 2, 0, 0, []),
  (1, .iload 4, 2, 4, 0, 0, []),
  (3, .invokevirtual 78, 3, 53, 2, 0, [(0, 539)]),
  (6, .ifCond .ne 5, 3, 11, 0, 0, []),
  (9, .iconst 1, 1, 0, 0, 1, []),
  (10, .ireturn, 1, 1, 0, 0, []),
  (11, .aload_n 0, 1, 0, 0, 0, []),
  (12, .getfield 18, 3, 1, 2, 0, [(0, 335)]),
  (15, .iload_n 3, 1, 3, 0, 0, []),
  (16, .iaload, 1, 0, 0, 0, []),
  (17, .iconst (-1), 1, 0, 0, (-1), []),
  (18, .if_icmp .eq 35, 3, 53, 0, 0, []),
  (21, .aload_n 0, 1, 0, 0, 0, []),
  (22, .getfield 18, 3, 1, 2, 0, [(0, 335)]),
  (25, .iload 4, 2, 4, 0, 0, []),
  (27, .iaload, 1, 0, 0, 0, []),
  (28, .aload_n 1, 1, 1, 0, 0, []),
  (29, .iload 5, 2, 5, 0, 0, []),
  (31, .aload_n 2, 1, 2, 0, 0, []),
  (32, .getfield 90, 3, 4, 1, 0, [(0, 233)]),
  (35, .iload_n 3, 1, 3, 0, 0, []),
  (36, .iaload, 1, 0, 0, 0, []),
  (37, .aload_n 0, 1, 0, 0, 0, []),
  (38, .getfield 18, 3, 1, 2, 0, [(0, 335)]),
  (41, .iload_n 3, 1, 3, 0, 0, []),
  (42, .iaload, 1, 0, 0, 0, []),
  (43, .invokevirtual 93, 3, 59, 4, 0, [(0, 559)]),
  (46, .if_icmp .ne 7, 3, 53, 0, 0, []),
  (49, .iconst 1, 1, 0, 0, 1, []),
  (50, .goto 4, 3, 54, 0, 0, []),
  (53, .iconst 0, 1, 0, 0, 0, []),
  (54, .ireturn, 1, 1, 0, 0, [])]
/-- NamedToWed$Houses.takeIn(LNamedToWed$Roll;)V -/
def cd_63 : Cod := [(0, .aload_n 0, 1, 0, 0, 0, []),
  (1, .getfield 21, 3, 1, 3, 0, [(0, 336)]),
  (4, .iconst 0, 1, 0, 0, 0, []),
  (5, .invokestatic 38, 3, 48, 2, 0, [(0, 552)]),
  (8, .iconst 0, 1, 0, 0, 0, []),
  (9, .istore_n 2, 1, 2, 0, 0, []),
  (10, .iload_n 2, 1, 2, 0, 0, []),
  (11, .aload_n 1, 1, 1, 0, 0, []),
  (12, .getfield 60, 3, 4, 0, 0, [(0, 229)]),
  (15, .if_icmp .ge 50, 3, 65, 0, 0, []),
  (18, .aload_n 1, 1, 1, 0, 0, []),
  (19, .getfield 104, 3, 4, 2, 0, [(0, 236)]),
  (22, .iload_n 2, 1, 2, 0, 0, []),
  (23, .iaload, 1, 0, 0, 0, []),
  (24, .ifCond .lt 35, 3, 59, 0, 0, []),
  (27, .aload_n 1, 1, 1, 0, 0, []),
  (28, .getfield 104, 3, 4, 2, 0, [(0, 236)]),
  (31, .iload_n 2, 1, 2, 0, 0, []),
  (32, .iaload, 1, 0, 0, 0, []),
  (33, .aload_n 0, 1, 0, 0, 0, []),
  (34, .getfield 18, 3, 1, 2, 0, [(0, 335)]),
  (37, .iload_n 2, 1, 2, 0, 0, []),
  (38, .iaload, 1, 0, 0, 0, []),
  (39, .if_icmp .eq 20, 3, 59, 0, 0, []),
  (42, .aload_n 0, 1, 0, 0, 0, []),
  (43, .getfield 21, 3, 1, 3, 0, [(0, 336)]),
  (46, .aload_n 0, 1, 0, 0, 0, []),
  (47, .getfield 15, 3, 1, 1, 0, [(0, 334)]),
  (50, .iload_n 2, 1, 2, 0, 0, []),
  (51, .iaload, 1, 0, 0, 0, []),
  (52, .dup2, 1, 0, 0, 0, []),
  (53, .iaload, 1, 0, 0, 0, []),
  (54, .iconst 1, 1, 0, 0, 1, []),
  (55, .iload_n 2, 1, 2, 0, 0, []),
  (56, .ishl, 1, 0, 0, 0, []),
  (57, .ior, 1, 0, 0, 0, []),
  (58, .iastore, 1, 0, 0, 0, []),
  (59, .iinc 2 1, 3, 2, 0, 1, []),
  (62, .goto (-52), 3, 10, 0, 0, []),
  (65, .iconst 0, 1, 0, 0, 0, []),
  (66, .istore_n 2, 1, 2, 0, 0, []),
  (67, .iload_n 2, 1, 2, 0, 0, []),
  (68, .aload_n 1, 1, 1, 0, 0, []),
  (69, .getfield 60, 3, 4, 0, 0, [(0, 229)]),
  (72, .if_icmp .ge 106, 3, 178, 0, 0, []),
  (75, .aload_n 0, 1, 0, 0, 0, []),
  (76, .getfield 15, 3, 1, 1, 0, [(0, 334)]),
  (79, .iload_n 2, 1, 2, 0, 0, []),
  (80, .iaload, 1, 0, 0, 0, []),
  (81, .istore_n 3, 1, 3, 0, 0, []),
  (82, .aload_n 0, 1, 0, 0, 0, []),
  (83, .getfield 30, 3, 1, 6, 0, [(0, 339)]),
  (86, .iload_n 3, 1, 3, 0, 0, []),
  (87, .ishr, 1, 0, 0, 0, []),
  (88, .iconst 1, 1, 0, 0, 1, []),
  (89, .iand, 1, 0, 0, 0, []),
  (90, .ifCond .eq 6, 3, 96, 0, 0, []),
  (93, .goto 79, 3, 172, 0, 0, []),
  (96, .aload_n 0, 1, 0, 0, 0, []),
  (97, .getfield 21, 3, 1, 3, 0, [(0, 336)]),
  (100, .iload_n 3, 1, 3, 0, 0, []),
  (101, .iaload, 1, 0, 0, 0, []),
  (102, .ifCond .ne 20, 3, 122, 0, 0, []),
  (105, .aload_n 0, 1, 0, 0, 0, []),
  (106, .getfield 9, 3, 1, 0, 0, [(0, 332)]),
  (109, .iload_n 2, 1, 2, 0, 0, []),
  (110, .dup2, 1, 0, 0, 0, []),
  (111, .iaload, 1, 0, 0, 0, []),
  (112, .iconst 1, 1, 0, 0, 1, []),
  (113, .aload_n 0, 1, 0, 0, 0, []),
  (114, .getfield 18, 3, 1, 2, 0, [(0, 335)]),
  (117, .iload_n 2, 1, 2, 0, 0, []),
  (118, .iaload, 1, 0, 0, 0, []),
  (119, .ishl, 1, 0, 0, 0, []),
  (120, .ior, 1, 0, 0, 0, []),
  (121, .iastore, 1, 0, 0, 0, []),
  (122, .iload_n 3, 1, 3, 0, 0, []),
  (123, .iload_n 2, 1, 2, 0, 0, []),
  (124, .if_icmp .ne 48, 3, 172, 0, 0, []),
  (127, .aload_n 0, 1, 0, 0, 0, []),
  (128, .getfield 21, 3, 1, 3, 0, [(0, 336)]),
  (131, .iload_n 3, 1, 3, 0, 0, []),
  (132, .iaload, 1, 0, 0, 0, []),
  (133, .invokestatic 107, 3, 64, 1, 0, [(0, 576)]),
  (136, .aload_n 0, 1, 0, 0, 0, []),
  (137, .getfield 24, 3, 1, 4, 0, [(0, 337)]),
  (140, .iload_n 3, 1, 3, 0, 0, []),
  (141, .iaload, 1, 0, 0, 0, []),
  (142, .if_icmp .ge 30, 3, 172, 0, 0, []),
  (145, .aload_n 0, 1, 0, 0, 0, []),
  (146, .getfield 24, 3, 1, 4, 0, [(0, 337)]),
  (149, .iload_n 3, 1, 3, 0, 0, []),
  (150, .aload_n 0, 1, 0, 0, 0, []),
  (151, .getfield 21, 3, 1, 3, 0, [(0, 336)]),
  (154, .iload_n 3, 1, 3, 0, 0, []),
  (155, .iaload, 1, 0, 0, 0, []),
  (156, .invokestatic 107, 3, 64, 1, 0, [(0, 576)]),
  (159, .iastore, 1, 0, 0, 0, []),
  (160, .aload_n 0, 1, 0, 0, 0, []),
  (161, .getfield 27, 3, 1, 5, 0, [(0, 338)]),
  (164, .iload_n 3, 1, 3, 0, 0, []),
  (165, .aload_n 0, 1, 0, 0, 0, []),
  (166, .getfield 21, 3, 1, 3, 0, [(0, 336)]),
  (169, .iload_n 3, 1, 3, 0, 0, []),
  (170, .iaload, 1, 0, 0, 0, []),
  (171, .iastore, 1, 0, 0, 0, []),
  (172, .iinc 2 1, 3, 2, 0, 1, []),
  (175, .goto (-108), 3, 67, 0, 0, []),
  (178, .return_, 1, 0, 0, 0, [])]
/-- java/lang/Integer.bitCount(I)I -/
def cd_64 : Cod := [(0, .iload_n 0, 1, 0, 0, 0, []),
  (1, .iload_n 0, 1, 0, 0, 0, []),
  (2, .iconst 1, 1, 0, 0, 1, []),
  (3, .iushr, 1, 0, 0, 0, []),
  (4, .ldc_w 265, 3, 0, 1, 1431655765, [(8, 579)]),
  (7, .iand, 1, 0, 0, 0, []),
  (8, .isub, 1, 0, 0, 0, []),
  (9, .istore_n 0, 1, 0, 0, 0, []),
  (10, .iload_n 0, 1, 0, 0, 0, []),
  (11, .ldc_w 266, 3, 0, 1, 858993459, [(7, 580)]),
  (14, .iand, 1, 0, 0, 0, []),
  (15, .iload_n 0, 1, 0, 0, 0, []),
  (16, .iconst 2, 1, 0, 0, 2, []),
  (17, .iushr, 1, 0, 0, 0, []),
  (18, .ldc_w 266, 3, 0, 1, 858993459, [(7, 580)]),
  (21, .iand, 1, 0, 0, 0, []),
  (22, .iadd, 1, 0, 0, 0, []),
  (23, .istore_n 0, 1, 0, 0, 0, []),
  (24, .iload_n 0, 1, 0, 0, 0, []),
  (25, .iload_n 0, 1, 0, 0, 0, []),
  (26, .iconst 4, 1, 0, 0, 4, []),
  (27, .iushr, 1, 0, 0, 0, []),
  (28, .iadd, 1, 0, 0, 0, []),
  (29, .ldc_w 267, 3, 0, 1, 252645135, [(6, 581)]),
  (32, .iand, 1, 0, 0, 0, []),
  (33, .istore_n 0, 1, 0, 0, 0, []),
  (34, .iload_n 0, 1, 0, 0, 0, []),
  (35, .iload_n 0, 1, 0, 0, 0, []),
  (36, .bipush 8, 2, 0, 0, 8, []),
  (38, .iushr, 1, 0, 0, 0, []),
  (39, .iadd, 1, 0, 0, 0, []),
  (40, .istore_n 0, 1, 0, 0, 0, []),
  (41, .iload_n 0, 1, 0, 0, 0, []),
  (42, .iload_n 0, 1, 0, 0, 0, []),
  (43, .bipush 16, 2, 0, 0, 16, []),
  (45, .iushr, 1, 0, 0, 0, []),
  (46, .iadd, 1, 0, 0, 0, []),
  (47, .istore_n 0, 1, 0, 0, 0, []),
  (48, .iload_n 0, 1, 0, 0, 0, []),
  (49, .bipush 63, 2, 0, 0, 63, []),
  (51, .iand, 1, 0, 0, 0, []),
  (52, .ireturn, 1, 0, 0, 0, [])]
/-- NamedToWed.roll(I)I -/
def cd_65 : Cod := [(0, .aload_n 0, 1, 0, 0, 0, []),
  (1, .getfield 19, 3, 10, 1, 0, [(0, 374)]),
  (4, .getfield 155, 3, 6, 0, 0, [(0, 204)]),
  (7, .ifCond .eq 17, 3, 24, 0, 0, []),
  (10, .aload_n 0, 1, 0, 0, 0, []),
  (11, .getfield 10, 3, 10, 0, 0, [(0, 373)]),
  (14, .iload_n 1, 1, 1, 0, 0, []),
  (15, .sipush 240, 3, 0, 0, 240, []),
  (18, .invokevirtual 132, 3, 19, 3, 0, [(0, 418)]),
  (21, .ifCond .ne 5, 3, 26, 0, 0, []),
  (24, .iconst (-1), 1, 0, 0, (-1), []),
  (25, .ireturn, 1, 0, 0, 0, []),
  (26, .aload_n 0, 1, 0, 0, 0, []),
  (27, .getfield 10, 3, 10, 0, 0, [(0, 373)]),
  (30, .iconst 0, 1, 0, 0, 0, []),
  (31, .iload_n 1, 1, 1, 0, 0, []),
  (32, .invokevirtual 136, 3, 20, 3, 0, [(0, 422)]),
  (35, .aload_n 0, 1, 0, 0, 0, []),
  (36, .getfield 33, 3, 10, 4, 0, [(0, 377)]),
  (39, .aload_n 0, 1, 0, 0, 0, []),
  (40, .getfield 10, 3, 10, 0, 0, [(0, 373)]),
  (43, .aload_n 0, 1, 0, 0, 0, []),
  (44, .getfield 19, 3, 10, 1, 0, [(0, 374)]),
  (47, .getfield 155, 3, 6, 0, 0, [(0, 204)]),
  (50, .invokevirtual 165, 3, 66, 3, 0, [(0, 586)]),
  (53, .istore_n 2, 1, 2, 0, 0, []),
  (54, .iload_n 2, 1, 2, 0, 0, []),
  (55, .ifCond .eq 5, 3, 60, 0, 0, []),
  (58, .iload_n 2, 1, 2, 0, 0, []),
  (59, .ireturn, 1, 0, 0, 0, []),
  (60, .aload_n 0, 1, 0, 0, 0, []),
  (61, .getfield 29, 3, 10, 3, 0, [(0, 376)]),
  (64, .astore_n 3, 1, 3, 0, 0, []),
  (65, .aload_n 0, 1, 0, 0, 0, []),
  (66, .aload_n 0, 1, 0, 0, 0, []),
  (67, .getfield 33, 3, 10, 4, 0, [(0, 377)]),
  (70, .putfield 29, 3, 10, 3, 0, [(0, 376)]),
  (73, .aload_n 0, 1, 0, 0, 0, []),
  (74, .aload_n 3, 1, 3, 0, 0, []),
  (75, .putfield 33, 3, 10, 4, 0, [(0, 377)]),
  (78, .aload_n 0, 1, 0, 0, 0, []),
  (79, .getfield 73, 3, 10, 11, 0, [(0, 384)]),
  (82, .aload_n 0, 1, 0, 0, 0, []),
  (83, .getfield 19, 3, 10, 1, 0, [(0, 374)]),
  (86, .aload_n 0, 1, 0, 0, 0, []),
  (87, .getfield 29, 3, 10, 3, 0, [(0, 376)]),
  (90, .invokevirtual 161, 3, 50, 3, 0, [(0, 529)]),
  (93, .aload_n 0, 1, 0, 0, 0, []),
  (94, .getfield 29, 3, 10, 3, 0, [(0, 376)]),
  (97, .getfield 168, 3, 4, 0, 0, [(0, 230)]),
  (100, .ireturn, 1, 0, 0, 0, [])]
/-- NamedToWed$Roll.read(LNamedToWed$Tape;I)I -/
def cd_66 : Cod := [(0, .aload_n 0, 1, 0, 0, 0, []),
  (1, .iconst 0, 1, 0, 0, 0, []),
  (2, .putfield 9, 3, 4, 0, 0, [(0, 227)]),
  (5, .iconst 0, 1, 0, 0, 0, []),
  (6, .istore_n 3, 1, 3, 0, 0, []),
  (7, .iload_n 3, 1, 3, 0, 0, []),
  (8, .bipush 24, 2, 0, 0, 24, []),
  (10, .if_icmp .gt 57, 3, 67, 0, 0, []),
  (13, .aload_n 0, 1, 0, 0, 0, []),
  (14, .aload_n 1, 1, 1, 0, 0, []),
  (15, .iload_n 2, 1, 2, 0, 0, []),
  (16, .invokevirtual 46, 3, 67, 3, 0, [(0, 590)]),
  (19, .istore 4, 2, 4, 0, 0, []),
  (21, .iload 4, 2, 4, 0, 0, []),
  (23, .ifCond .eq 6, 3, 29, 0, 0, []),
  (26, .iload 4, 2, 4, 0, 0, []),
  (28, .ireturn, 1, 0, 0, 0, []),
  (29, .aload_n 0, 1, 0, 0, 0, []),
  (30, .dup, 1, 0, 0, 0, []),
  (31, .getfield 9, 3, 4, 0, 0, [(0, 227)]),
  (34, .iconst 1, 1, 0, 0, 1, []),
  (35, .iadd, 1, 0, 0, 0, []),
  (36, .putfield 9, 3, 4, 0, 0, [(0, 227)]),
  (39, .aload_n 1, 1, 1, 0, 0, []),
  (40, .invokevirtual 50, 3, 24, 1, 0, [(0, 593)]),
  (43, .bipush 59, 2, 0, 0, 59, []),
  (45, .if_icmp .eq 6, 3, 51, 0, 0, []),
  (48, .goto 19, 3, 67, 0, 0, []),
  (51, .aload_n 1, 1, 1, 0, 0, []),
  (52, .dup, 1, 0, 0, 0, []),
  (53, .getfield 56, 3, 7, 4, 0, [(0, 193)]),
  (56, .iconst 1, 1, 0, 0, 1, []),
  (57, .iadd, 1, 0, 0, 0, []),
  (58, .putfield 56, 3, 7, 4, 0, [(0, 193)]),
  (61, .iinc 3 1, 3, 3, 0, 1, []),
  (64, .goto (-57), 3, 7, 0, 0, []),
  (67, .aload_n 0, 1, 0, 0, 0, []),
  (68, .invokevirtual 59, 3, 72, 1, 0, [(0, 611)]),
  (71, .aload_n 1, 1, 1, 0, 0, []),
  (72, .invokevirtual 62, 3, 39, 1, 0, [(0, 620)]),
  (75, .ireturn, 1, 0, 0, 0, [])]
/-- NamedToWed$Roll.readPerson(LNamedToWed$Tape;I)I -/
def cd_67 : Cod := [(0, .aload_n 1, 1, 1, 0, 0, []),
  (1, .invokevirtual 50, 3, 24, 1, 0, [(0, 593)]),
  (4, .istore_n 3, 1, 3, 0, 0, []),
  (5, .iload_n 3, 1, 3, 0, 0, []),
  (6, .bipush 77, 2, 0, 0, 77, []),
  (8, .if_icmp .eq 15, 3, 23, 0, 0, []),
  (11, .iload_n 3, 1, 3, 0, 0, []),
  (12, .bipush 70, 2, 0, 0, 70, []),
  (14, .if_icmp .eq 9, 3, 23, 0, 0, []),
  (17, .aload_n 1, 1, 1, 0, 0, []),
  (18, .iconst 1, 1, 0, 0, 1, []),
  (19, .invokevirtual 65, 3, 25, 2, 0, [(0, 594)]),
  (22, .ireturn, 1, 0, 0, 0, []),
  (23, .aload_n 0, 1, 0, 0, 0, []),
  (24, .getfield 9, 3, 4, 0, 0, [(0, 227)]),
  (27, .bipush 24, 2, 0, 0, 24, []),
  (29, .if_icmp .ne 9, 3, 38, 0, 0, []),
  (32, .aload_n 1, 1, 1, 0, 0, []),
  (33, .iconst 4, 1, 0, 0, 4, []),
  (34, .invokevirtual 65, 3, 25, 2, 0, [(0, 594)]),
  (37, .ireturn, 1, 0, 0, 0, []),
  (38, .aload_n 0, 1, 0, 0, 0, []),
  (39, .getfield 15, 3, 4, 1, 0, [(0, 231)]),
  (42, .aload_n 0, 1, 0, 0, 0, []),
  (43, .getfield 9, 3, 4, 0, 0, [(0, 227)]),
  (46, .iload_n 3, 1, 3, 0, 0, []),
  (47, .bipush 77, 2, 0, 0, 77, []),
  (49, .if_icmp .ne 7, 3, 56, 0, 0, []),
  (52, .iconst 0, 1, 0, 0, 0, []),
  (53, .goto 4, 3, 57, 0, 0, []),
  (56, .iconst 1, 1, 0, 0, 1, []),
  (57, .iastore, 1, 0, 0, 0, []),
  (58, .aload_n 0, 1, 0, 0, 0, []),
  (59, .getfield 22, 3, 4, 3, 0, [(0, 238)]),
  (62, .aload_n 0, 1, 0, 0, 0, []),
  (63, .getfield 9, 3, 4, 0, 0, [(0, 227)]),
  (66, .iconst (-1), 1, 0, 0, (-1), []),
  (67, .iastore, 1, 0, 0, 0, []),
  (68, .aload_n 0, 1, 0, 0, 0, []),
  (69, .getfield 25, 3, 4, 4, 0, [(0, 241)]),
  (72, .aload_n 0, 1, 0, 0, 0, []),
  (73, .getfield 9, 3, 4, 0, 0, [(0, 227)]),
  (76, .iconst (-1), 1, 0, 0, (-1), []),
  (77, .iastore, 1, 0, 0, 0, []),
  (78, .aload_n 0, 1, 0, 0, 0, []),
  (79, .getfield 28, 3, 4, 5, 0, [(0, 244)]),
  (82, .aload_n 0, 1, 0, 0, 0, []),
  (83, .getfield 9, 3, 4, 0, 0, [(0, 227)]),
  (86, .iconst (-1), 1, 0, 0, (-1), []),
  (87, .iastore, 1, 0, 0, 0, []),
  (88, .aload_n 1, 1, 1, 0, 0, []),
  (89, .dup, 1, 0, 0, 0, []),
  (90, .getfield 56, 3, 7, 4, 0, [(0, 193)]),
  (93, .iconst 1, 1, 0, 0, 1, []),
  (94, .iadd, 1, 0, 0, 0, []),
  (95, .putfield 56, 3, 7, 4, 0, [(0, 193)]),
  (98, .aload_n 0, 1, 0, 0, 0, []),
  (99, .getfield 19, 3, 4, 2, 0, [(0, 235)]),
  (102, .aload_n 0, 1, 0, 0, 0, []),
  (103, .getfield 9, 3, 4, 0, 0, [(0, 227)]),
  (106, .aload_n 1, 1, 1, 0, 0, []),
  (107, .invokevirtual 50, 3, 24, 1, 0, [(0, 593)]),
  (110, .invokestatic 69, 3, 43, 1, 1, [(0, 595)]),
  (113, .iastore, 1, 0, 0, 0, []),
  (114, .aload_n 0, 1, 0, 0, 0, []),
  (115, .getfield 19, 3, 4, 2, 0, [(0, 235)]),
  (118, .aload_n 0, 1, 0, 0, 0, []),
  (119, .getfield 9, 3, 4, 0, 0, [(0, 227)]),
  (122, .iaload, 1, 0, 0, 0, []),
  (123, .iload_n 2, 1, 2, 0, 0, []),
  (124, .if_icmp .lt 10, 3, 134, 0, 0, []),
  (127, .aload_n 1, 1, 1, 0, 0, []),
  (128, .bipush 6, 2, 0, 0, 6, []),
  (130, .invokevirtual 65, 3, 25, 2, 0, [(0, 594)]),
  (133, .ireturn, 1, 0, 0, 0, []),
  (134, .aload_n 0, 1, 0, 0, 0, []),
  (135, .getfield 19, 3, 4, 2, 0, [(0, 235)]),
  (138, .aload_n 0, 1, 0, 0, 0, []),
  (139, .getfield 9, 3, 4, 0, 0, [(0, 227)]),
  (142, .iaload, 1, 0, 0, 0, []),
  (143, .ifCond .lt 13, 3, 156, 0, 0, []),
  (146, .aload_n 1, 1, 1, 0, 0, []),
  (147, .dup, 1, 0, 0, 0, []),
  (148, .getfield 56, 3, 7, 4, 0, [(0, 193)]),
  (151, .iconst 1, 1, 0, 0, 1, []),
  (152, .iadd, 1, 0, 0, 0, []),
  (153, .putfield 56, 3, 7, 4, 0, [(0, 193)]),
  (156, .aload_n 0, 1, 0, 0, 0, []),
  (157, .aload_n 1, 1, 1, 0, 0, []),
  (158, .invokevirtual 72, 3, 68, 2, 0, [(0, 596)]),
  (161, .istore 4, 2, 4, 0, 0, []),
  (163, .iload 4, 2, 4, 0, 0, []),
  (165, .ifCond .eq 8, 3, 173, 0, 0, []),
  (168, .iload 4, 2, 4, 0, 0, []),
  (170, .goto 8, 3, 178, 0, 0, []),
  (173, .aload_n 0, 1, 0, 0, 0, []),
  (174, .aload_n 1, 1, 1, 0, 0, []),
  (175, .invokevirtual 76, 3, 71, 2, 0, [(0, 608)]),
  (178, .ireturn, 1, 0, 0, 0, [])]
/-- NamedToWed$Roll.readParents(LNamedToWed$Tape;)I -/
def cd_68 : Cod := [(0, .aload_n 1, 1, 1, 0, 0, []),
  (1, .invokevirtual 50, 3, 24, 1, 0, [(0, 593)]),
  (4, .bipush 60, 2, 0, 0, 60, []),
  (6, .if_icmp .eq 5, 3, 11, 0, 0, []),
  (9, .iconst 0, 1, 0, 0, 0, []),
  (10, .ireturn, 1, 0, 0, 0, []),
  (11, .aload_n 1, 1, 1, 0, 0, []),
  (12, .dup, 1, 0, 0, 0, []),
  (13, .getfield 56, 3, 7, 4, 0, [(0, 193)]),
  (16, .iconst 1, 1, 0, 0, 1, []),
  (17, .iadd, 1, 0, 0, 0, []),
  (18, .putfield 56, 3, 7, 4, 0, [(0, 193)]),
  (21, .aload_n 0, 1, 0, 0, 0, []),
  (22, .aload_n 1, 1, 1, 0, 0, []),
  (23, .iconst 0, 1, 0, 0, 0, []),
  (24, .invokevirtual 79, 3, 69, 3, 0, [(0, 599)]),
  (27, .istore_n 2, 1, 2, 0, 0, []),
  (28, .iload_n 2, 1, 2, 0, 0, []),
  (29, .ifCond .eq 5, 3, 34, 0, 0, []),
  (32, .iload_n 2, 1, 2, 0, 0, []),
  (33, .ireturn, 1, 0, 0, 0, []),
  (34, .aload_n 0, 1, 0, 0, 0, []),
  (35, .getfield 22, 3, 4, 3, 0, [(0, 238)]),
  (38, .aload_n 0, 1, 0, 0, 0, []),
  (39, .getfield 9, 3, 4, 0, 0, [(0, 227)]),
  (42, .aload_n 0, 1, 0, 0, 0, []),
  (43, .getfield 43, 3, 4, 10, 0, [(0, 255)]),
  (46, .iastore, 1, 0, 0, 0, []),
  (47, .aload_n 1, 1, 1, 0, 0, []),
  (48, .bipush 44, 2, 0, 0, 44, []),
  (50, .invokevirtual 82, 3, 32, 2, 0, [(0, 607)]),
  (53, .istore_n 2, 1, 2, 0, 0, []),
  (54, .iload_n 2, 1, 2, 0, 0, []),
  (55, .ifCond .eq 5, 3, 60, 0, 0, []),
  (58, .iload_n 2, 1, 2, 0, 0, []),
  (59, .ireturn, 1, 0, 0, 0, []),
  (60, .aload_n 0, 1, 0, 0, 0, []),
  (61, .aload_n 1, 1, 1, 0, 0, []),
  (62, .iconst 1, 1, 0, 0, 1, []),
  (63, .invokevirtual 79, 3, 69, 3, 0, [(0, 599)]),
  (66, .istore_n 2, 1, 2, 0, 0, []),
  (67, .aload_n 0, 1, 0, 0, 0, []),
  (68, .getfield 25, 3, 4, 4, 0, [(0, 241)]),
  (71, .aload_n 0, 1, 0, 0, 0, []),
  (72, .getfield 9, 3, 4, 0, 0, [(0, 227)]),
  (75, .aload_n 0, 1, 0, 0, 0, []),
  (76, .getfield 43, 3, 4, 10, 0, [(0, 255)]),
  (79, .iastore, 1, 0, 0, 0, []),
  (80, .iload_n 2, 1, 2, 0, 0, []),
  (81, .ireturn, 1, 0, 0, 0, [])]
/-- NamedToWed$Roll.readParent(LNamedToWed$Tape;I)I -/
def cd_69 : Cod := [(0, .aload_n 0, 1, 0, 0, 0, []),
  (1, .iconst (-1), 1, 0, 0, (-1), []),
  (2, .putfield 43, 3, 4, 10, 0, [(0, 255)]),
  (5, .aload_n 1, 1, 1, 0, 0, []),
  (6, .invokevirtual 50, 3, 24, 1, 0, [(0, 593)]),
  (9, .bipush 45, 2, 0, 0, 45, []),
  (11, .if_icmp .ne 15, 3, 26, 0, 0, []),
  (14, .aload_n 1, 1, 1, 0, 0, []),
  (15, .dup, 1, 0, 0, 0, []),
  (16, .getfield 56, 3, 7, 4, 0, [(0, 193)]),
  (19, .iconst 1, 1, 0, 0, 1, []),
  (20, .iadd, 1, 0, 0, 0, []),
  (21, .putfield 56, 3, 7, 4, 0, [(0, 193)]),
  (24, .iconst 0, 1, 0, 0, 0, []),
  (25, .ireturn, 1, 0, 0, 0, []),
  (26, .aload_n 1, 1, 1, 0, 0, []),
  (27, .getfield 56, 3, 7, 4, 0, [(0, 193)]),
  (30, .istore_n 3, 1, 3, 0, 0, []),
  (31, .aload_n 0, 1, 0, 0, 0, []),
  (32, .aload_n 1, 1, 1, 0, 0, []),
  (33, .invokevirtual 86, 3, 70, 2, 0, [(0, 602)]),
  (36, .istore 4, 2, 4, 0, 0, []),
  (38, .iload 4, 2, 4, 0, 0, []),
  (40, .ifCond .eq 6, 3, 46, 0, 0, []),
  (43, .iload 4, 2, 4, 0, 0, []),
  (45, .ireturn, 1, 0, 0, 0, []),
  (46, .aload_n 0, 1, 0, 0, 0, []),
  (47, .getfield 15, 3, 4, 1, 0, [(0, 231)]),
  (50, .aload_n 0, 1, 0, 0, 0, []),
  (51, .getfield 43, 3, 4, 10, 0, [(0, 255)]),
  (54, .iaload, 1, 0, 0, 0, []),
  (55, .iload_n 2, 1, 2, 0, 0, []),
  (56, .if_icmp .ne 7, 3, 63, 0, 0, []),
  (59, .iconst 0, 1, 0, 0, 0, []),
  (60, .goto 9, 3, 69, 0, 0, []),
  (63, .bipush 7, 2, 0, 0, 7, []),
  (65, .iload_n 3, 1, 3, 0, 0, []),
  (66, .invokestatic 89, 3, 44, 2, 1, [(0, 606)]),
  (69, .ireturn, 1, 0, 0, 0, [])]
/-- NamedToWed$Roll.readNumber(LNamedToWed$Tape;)I -/
def cd_70 : Cod := [(0, .aload_n 1, 1, 1, 0, 0, []),
  (1, .getfield 56, 3, 7, 4, 0, [(0, 193)]),
  (4, .istore_n 2, 1, 2, 0, 0, []),
  (5, .aload_n 0, 1, 0, 0, 0, []),
  (6, .iconst 0, 1, 0, 0, 0, []),
  (7, .putfield 43, 3, 4, 10, 0, [(0, 255)]),
  (10, .iconst 0, 1, 0, 0, 0, []),
  (11, .istore_n 3, 1, 3, 0, 0, []),
  (12, .iload_n 3, 1, 3, 0, 0, []),
  (13, .iconst 3, 1, 0, 0, 3, []),
  (14, .if_icmp .ge 59, 3, 73, 0, 0, []),
  (17, .aload_n 1, 1, 1, 0, 0, []),
  (18, .invokevirtual 50, 3, 24, 1, 0, [(0, 593)]),
  (21, .invokestatic 92, 3, 29, 1, 1, [(0, 605)]),
  (24, .ifCond .eq 49, 3, 73, 0, 0, []),
  (27, .iload_n 3, 1, 3, 0, 0, []),
  (28, .iconst 2, 1, 0, 0, 2, []),
  (29, .if_icmp .ne 9, 3, 38, 0, 0, []),
  (32, .aload_n 1, 1, 1, 0, 0, []),
  (33, .iconst 2, 1, 0, 0, 2, []),
  (34, .invokevirtual 65, 3, 25, 2, 0, [(0, 594)]),
  (37, .ireturn, 1, 0, 0, 0, []),
  (38, .aload_n 0, 1, 0, 0, 0, []),
  (39, .bipush 10, 2, 0, 0, 10, []),
  (41, .aload_n 0, 1, 0, 0, 0, []),
  (42, .getfield 43, 3, 4, 10, 0, [(0, 255)]),
  (45, .imul, 1, 0, 0, 0, []),
  (46, .aload_n 1, 1, 1, 0, 0, []),
  (47, .invokevirtual 50, 3, 24, 1, 0, [(0, 593)]),
  (50, .iadd, 1, 0, 0, 0, []),
  (51, .bipush 48, 2, 0, 0, 48, []),
  (53, .isub, 1, 0, 0, 0, []),
  (54, .putfield 43, 3, 4, 10, 0, [(0, 255)]),
  (57, .aload_n 1, 1, 1, 0, 0, []),
  (58, .dup, 1, 0, 0, 0, []),
  (59, .getfield 56, 3, 7, 4, 0, [(0, 193)]),
  (62, .iconst 1, 1, 0, 0, 1, []),
  (63, .iadd, 1, 0, 0, 0, []),
  (64, .putfield 56, 3, 7, 4, 0, [(0, 193)]),
  (67, .iinc 3 1, 3, 3, 0, 1, []),
  (70, .goto (-58), 3, 12, 0, 0, []),
  (73, .aload_n 1, 1, 1, 0, 0, []),
  (74, .getfield 56, 3, 7, 4, 0, [(0, 193)]),
  (77, .iload_n 2, 1, 2, 0, 0, []),
  (78, .if_icmp .ne 9, 3, 87, 0, 0, []),
  (81, .aload_n 1, 1, 1, 0, 0, []),
  (82, .iconst 1, 1, 0, 0, 1, []),
  (83, .invokevirtual 65, 3, 25, 2, 0, [(0, 594)]),
  (86, .ireturn, 1, 0, 0, 0, []),
  (87, .aload_n 0, 1, 0, 0, 0, []),
  (88, .getfield 43, 3, 4, 10, 0, [(0, 255)]),
  (91, .aload_n 0, 1, 0, 0, 0, []),
  (92, .getfield 9, 3, 4, 0, 0, [(0, 227)]),
  (95, .if_icmp .ge 7, 3, 102, 0, 0, []),
  (98, .iconst 0, 1, 0, 0, 0, []),
  (99, .goto 8, 3, 107, 0, 0, []),
  (102, .iconst 3, 1, 0, 0, 3, []),
  (103, .iload_n 2, 1, 2, 0, 0, []),
  (104, .invokestatic 89, 3, 44, 2, 1, [(0, 606)]),
  (107, .ireturn, 1, 0, 0, 0, [])]
/-- NamedToWed$Roll.readSpouse(LNamedToWed$Tape;)I -/
def cd_71 : Cod := [(0, .aload_n 1, 1, 1, 0, 0, []),
  (1, .invokevirtual 50, 3, 24, 1, 0, [(0, 593)]),
  (4, .bipush 38, 2, 0, 0, 38, []),
  (6, .if_icmp .eq 5, 3, 11, 0, 0, []),
  (9, .iconst 0, 1, 0, 0, 0, []),
  (10, .ireturn, 1, 0, 0, 0, []),
  (11, .aload_n 1, 1, 1, 0, 0, []),
  (12, .dup, 1, 0, 0, 0, []),
  (13, .getfield 56, 3, 7, 4, 0, [(0, 193)]),
  (16, .iconst 1, 1, 0, 0, 1, []),
  (17, .iadd, 1, 0, 0, 0, []),
  (18, .putfield 56, 3, 7, 4, 0, [(0, 193)]),
  (21, .aload_n 1, 1, 1, 0, 0, []),
  (22, .getfield 56, 3, 7, 4, 0, [(0, 193)]),
  (25, .istore_n 2, 1, 2, 0, 0, []),
  (26, .aload_n 0, 1, 0, 0, 0, []),
  (27, .aload_n 1, 1, 1, 0, 0, []),
  (28, .invokevirtual 86, 3, 70, 2, 0, [(0, 602)]),
  (31, .istore_n 3, 1, 3, 0, 0, []),
  (32, .iload_n 3, 1, 3, 0, 0, []),
  (33, .ifCond .eq 5, 3, 38, 0, 0, []),
  (36, .iload_n 3, 1, 3, 0, 0, []),
  (37, .ireturn, 1, 0, 0, 0, []),
  (38, .aload_n 0, 1, 0, 0, 0, []),
  (39, .getfield 15, 3, 4, 1, 0, [(0, 231)]),
  (42, .aload_n 0, 1, 0, 0, 0, []),
  (43, .getfield 43, 3, 4, 10, 0, [(0, 255)]),
  (46, .iaload, 1, 0, 0, 0, []),
  (47, .aload_n 0, 1, 0, 0, 0, []),
  (48, .getfield 15, 3, 4, 1, 0, [(0, 231)]),
  (51, .aload_n 0, 1, 0, 0, 0, []),
  (52, .getfield 9, 3, 4, 0, 0, [(0, 227)]),
  (55, .iaload, 1, 0, 0, 0, []),
  (56, .if_icmp .eq 16, 3, 72, 0, 0, []),
  (59, .aload_n 0, 1, 0, 0, 0, []),
  (60, .getfield 28, 3, 4, 5, 0, [(0, 244)]),
  (63, .aload_n 0, 1, 0, 0, 0, []),
  (64, .getfield 43, 3, 4, 10, 0, [(0, 255)]),
  (67, .iaload, 1, 0, 0, 0, []),
  (68, .iconst (-1), 1, 0, 0, (-1), []),
  (69, .if_icmp .eq 10, 3, 79, 0, 0, []),
  (72, .bipush 8, 2, 0, 0, 8, []),
  (74, .iload_n 2, 1, 2, 0, 0, []),
  (75, .invokestatic 89, 3, 44, 2, 1, [(0, 606)]),
  (78, .ireturn, 1, 0, 0, 0, []),
  (79, .aload_n 0, 1, 0, 0, 0, []),
  (80, .getfield 28, 3, 4, 5, 0, [(0, 244)]),
  (83, .aload_n 0, 1, 0, 0, 0, []),
  (84, .getfield 9, 3, 4, 0, 0, [(0, 227)]),
  (87, .aload_n 0, 1, 0, 0, 0, []),
  (88, .getfield 43, 3, 4, 10, 0, [(0, 255)]),
  (91, .iastore, 1, 0, 0, 0, []),
  (92, .aload_n 0, 1, 0, 0, 0, []),
  (93, .getfield 28, 3, 4, 5, 0, [(0, 244)]),
  (96, .aload_n 0, 1, 0, 0, 0, []),
  (97, .getfield 43, 3, 4, 10, 0, [(0, 255)]),
  (100, .aload_n 0, 1, 0, 0, 0, []),
  (101, .getfield 9, 3, 4, 0, 0, [(0, 227)]),
  (104, .iastore, 1, 0, 0, 0, []),
  (105, .iconst 0, 1, 0, 0, 0, []),
  (106, .ireturn, 1, 0, 0, 0, [])]
/-- NamedToWed$Roll.relateAll()V -/
def cd_72 : Cod := [(0, .aload_n 0, 1, 0, 0, 0, []),
  (1, .iconst 0, 1, 0, 0, 0, []),
  (2, .putfield 37, 3, 4, 8, 0, [(0, 251)]),
  (5, .aload_n 0, 1, 0, 0, 0, []),
  (6, .iconst 0, 1, 0, 0, 0, []),
  (7, .putfield 40, 3, 4, 9, 0, [(0, 253)]),
  (10, .iconst 0, 1, 0, 0, 0, []),
  (11, .istore_n 1, 1, 1, 0, 0, []),
  (12, .iload_n 1, 1, 1, 0, 0, []),
  (13, .aload_n 0, 1, 0, 0, 0, []),
  (14, .getfield 9, 3, 4, 0, 0, [(0, 227)]),
  (17, .if_icmp .ge 177, 3, 194, 0, 0, []),
  (20, .aload_n 0, 1, 0, 0, 0, []),
  (21, .dup, 1, 0, 0, 0, []),
  (22, .getfield 37, 3, 4, 8, 0, [(0, 251)]),
  (25, .aload_n 0, 1, 0, 0, 0, []),
  (26, .getfield 15, 3, 4, 1, 0, [(0, 231)]),
  (29, .iload_n 1, 1, 1, 0, 0, []),
  (30, .iaload, 1, 0, 0, 0, []),
  (31, .ifCond .ne 9, 3, 40, 0, 0, []),
  (34, .iconst 1, 1, 0, 0, 1, []),
  (35, .iload_n 1, 1, 1, 0, 0, []),
  (36, .ishl, 1, 0, 0, 0, []),
  (37, .goto 4, 3, 41, 0, 0, []),
  (40, .iconst 0, 1, 0, 0, 0, []),
  (41, .ior, 1, 0, 0, 0, []),
  (42, .putfield 37, 3, 4, 8, 0, [(0, 251)]),
  (45, .aload_n 0, 1, 0, 0, 0, []),
  (46, .dup, 1, 0, 0, 0, []),
  (47, .getfield 40, 3, 4, 9, 0, [(0, 253)]),
  (50, .aload_n 0, 1, 0, 0, 0, []),
  (51, .getfield 28, 3, 4, 5, 0, [(0, 244)]),
  (54, .iload_n 1, 1, 1, 0, 0, []),
  (55, .iaload, 1, 0, 0, 0, []),
  (56, .invokestatic 96, 3, 73, 1, 0, [(0, 614)]),
  (59, .ifCond .ne 7, 3, 66, 0, 0, []),
  (62, .iconst 0, 1, 0, 0, 0, []),
  (63, .goto 6, 3, 69, 0, 0, []),
  (66, .iconst 1, 1, 0, 0, 1, []),
  (67, .iload_n 1, 1, 1, 0, 0, []),
  (68, .ishl, 1, 0, 0, 0, []),
  (69, .ior, 1, 0, 0, 0, []),
  (70, .putfield 40, 3, 4, 9, 0, [(0, 253)]),
  (73, .aload_n 0, 1, 0, 0, 0, []),
  (74, .getfield 31, 3, 4, 6, 0, [(0, 247)]),
  (77, .iload_n 1, 1, 1, 0, 0, []),
  (78, .iconst 0, 1, 0, 0, 0, []),
  (79, .iastore, 1, 0, 0, 0, []),
  (80, .aload_n 0, 1, 0, 0, 0, []),
  (81, .getfield 34, 3, 4, 7, 0, [(0, 249)]),
  (84, .iload_n 1, 1, 1, 0, 0, []),
  (85, .iconst 0, 1, 0, 0, 0, []),
  (86, .iastore, 1, 0, 0, 0, []),
  (87, .iconst 0, 1, 0, 0, 0, []),
  (88, .istore_n 2, 1, 2, 0, 0, []),
  (89, .iload_n 2, 1, 2, 0, 0, []),
  (90, .aload_n 0, 1, 0, 0, 0, []),
  (91, .getfield 9, 3, 4, 0, 0, [(0, 227)]),
  (94, .if_icmp .ge 94, 3, 188, 0, 0, []),
  (97, .aload_n 0, 1, 0, 0, 0, []),
  (98, .getfield 22, 3, 4, 3, 0, [(0, 238)]),
  (101, .iload_n 2, 1, 2, 0, 0, []),
  (102, .iaload, 1, 0, 0, 0, []),
  (103, .iload_n 1, 1, 1, 0, 0, []),
  (104, .if_icmp .eq 13, 3, 117, 0, 0, []),
  (107, .aload_n 0, 1, 0, 0, 0, []),
  (108, .getfield 25, 3, 4, 4, 0, [(0, 241)]),
  (111, .iload_n 2, 1, 2, 0, 0, []),
  (112, .iaload, 1, 0, 0, 0, []),
  (113, .iload_n 1, 1, 1, 0, 0, []),
  (114, .if_icmp .ne 15, 3, 129, 0, 0, []),
  (117, .aload_n 0, 1, 0, 0, 0, []),
  (118, .getfield 31, 3, 4, 6, 0, [(0, 247)]),
  (121, .iload_n 1, 1, 1, 0, 0, []),
  (122, .dup2, 1, 0, 0, 0, []),
  (123, .iaload, 1, 0, 0, 0, []),
  (124, .iconst 1, 1, 0, 0, 1, []),
  (125, .iload_n 2, 1, 2, 0, 0, []),
  (126, .ishl, 1, 0, 0, 0, []),
  (127, .ior, 1, 0, 0, 0, []),
  (128, .iastore, 1, 0, 0, 0, []),
  (129, .iload_n 2, 1, 2, 0, 0, []),
  (130, .iload_n 1, 1, 1, 0, 0, []),
  (131, .if_icmp .eq 51, 3, 182, 0, 0, []),
  (134, .aload_n 0, 1, 0, 0, 0, []),
  (135, .getfield 22, 3, 4, 3, 0, [(0, 238)]),
  (138, .iload_n 1, 1, 1, 0, 0, []),
  (139, .iaload, 1, 0, 0, 0, []),
  (140, .aload_n 0, 1, 0, 0, 0, []),
  (141, .getfield 22, 3, 4, 3, 0, [(0, 238)]),
  (144, .iload_n 2, 1, 2, 0, 0, []),
  (145, .iaload, 1, 0, 0, 0, []),
  (146, .invokestatic 99, 3, 74, 2, 0, [(0, 617)]),
  (149, .ifCond .ne 21, 3, 170, 0, 0, []),
  (152, .aload_n 0, 1, 0, 0, 0, []),
  (153, .getfield 25, 3, 4, 4, 0, [(0, 241)]),
  (156, .iload_n 1, 1, 1, 0, 0, []),
  (157, .iaload, 1, 0, 0, 0, []),
  (158, .aload_n 0, 1, 0, 0, 0, []),
  (159, .getfield 25, 3, 4, 4, 0, [(0, 241)]),
  (162, .iload_n 2, 1, 2, 0, 0, []),
  (163, .iaload, 1, 0, 0, 0, []),
  (164, .invokestatic 99, 3, 74, 2, 0, [(0, 617)]),
  (167, .ifCond .eq 15, 3, 182, 0, 0, []),
  (170, .aload_n 0, 1, 0, 0, 0, []),
  (171, .getfield 34, 3, 4, 7, 0, [(0, 249)]),
  (174, .iload_n 1, 1, 1, 0, 0, []),
  (175, .dup2, 1, 0, 0, 0, []),
  (176, .iaload, 1, 0, 0, 0, []),
  (177, .iconst 1, 1, 0, 0, 1, []),
  (178, .iload_n 2, 1, 2, 0, 0, []),
  (179, .ishl, 1, 0, 0, 0, []),
  (180, .ior, 1, 0, 0, 0, []),
  (181, .iastore, 1, 0, 0, 0, []),
  (182, .iinc 2 1, 3, 2, 0, 1, []),
  (185, .goto (-96), 3, 89, 0, 0, []),
  (188, .iinc 1 1, 3, 1, 0, 1, []),
  (191, .goto (-179), 3, 12, 0, 0, []),
  (194, .return_, 1, 0, 0, 0, [])]
/-- NamedToWed$Roll.bit(I)I -/
def cd_73 : Cod := [(0, .iload_n 0, 1, 0, 0, 0, []),
  (1, .ifCond .ge 7, 3, 8, 0, 0, []),
  (4, .iconst 0, 1, 0, 0, 0, []),
  (5, .goto 6, 3, 11, 0, 0, []),
  (8, .iconst 1, 1, 0, 0, 1, []),
  (9, .iload_n 0, 1, 0, 0, 0, []),
  (10, .ishl, 1, 0, 0, 0, []),
  (11, .ireturn, 1, 0, 0, 0, [])]
/-- NamedToWed$Roll.isSame(II)Z -/
def cd_74 : Cod := [(0, .iload_n 0, 1, 0, 0, 0, []),
  (1, .iconst (-1), 1, 0, 0, (-1), []),
  (2, .if_icmp .eq 12, 3, 14, 0, 0, []),
  (5, .iload_n 0, 1, 0, 0, 0, []),
  (6, .iload_n 1, 1, 1, 0, 0, []),
  (7, .if_icmp .ne 7, 3, 14, 0, 0, []),
  (10, .iconst 1, 1, 0, 0, 1, []),
  (11, .goto 4, 3, 15, 0, 0, []),
  (14, .iconst 0, 1, 0, 0, 0, []),
  (15, .ireturn, 1, 1, 0, 0, [])]
/-- NamedToWed.kin(III)I -/
def cd_75 : Cod := [(0, .aload_n 0, 1, 0, 0, 0, []),
  (1, .iload_n 3, 1, 3, 0, 0, []),
  (2, .invokevirtual 105, 3, 13, 2, 0, [(0, 395)]),
  (5, .ifCond .ne 15, 3, 20, 0, 0, []),
  (8, .iload_n 3, 1, 3, 0, 0, []),
  (9, .bipush 100, 2, 0, 0, 100, []),
  (11, .if_icmp .lt 13, 3, 24, 0, 0, []),
  (14, .iload_n 3, 1, 3, 0, 0, []),
  (15, .bipush 104, 2, 0, 0, 104, []),
  (17, .if_icmp .gt 7, 3, 24, 0, 0, []),
  (20, .iconst 1, 1, 0, 0, 1, []),
  (21, .goto 4, 3, 25, 0, 0, []),
  (24, .iconst 0, 1, 0, 0, 0, []),
  (25, .istore 4, 2, 4, 0, 0, []),
  (27, .aload_n 0, 1, 0, 0, 0, []),
  (28, .getfield 19, 3, 10, 1, 0, [(0, 374)]),
  (31, .getfield 155, 3, 6, 0, 0, [(0, 204)]),
  (34, .ifCond .eq 28, 3, 62, 0, 0, []),
  (37, .iload 4, 2, 4, 0, 0, []),
  (39, .ifCond .eq 23, 3, 62, 0, 0, []),
  (42, .iload_n 2, 1, 2, 0, 0, []),
  (43, .invokestatic 171, 3, 76, 1, 0, [(0, 625)]),
  (46, .ifCond .eq 16, 3, 62, 0, 0, []),
  (49, .aload_n 0, 1, 0, 0, 0, []),
  (50, .getfield 10, 3, 10, 0, 0, [(0, 373)]),
  (53, .iload_n 1, 1, 1, 0, 0, []),
  (54, .bipush 40, 2, 0, 0, 40, []),
  (56, .invokevirtual 132, 3, 19, 3, 0, [(0, 418)]),
  (59, .ifCond .ne 5, 3, 64, 0, 0, []),
  (62, .iconst (-1), 1, 0, 0, (-1), []),
  (63, .ireturn, 1, 0, 0, 0, []),
  (64, .aload_n 0, 1, 0, 0, 0, []),
  (65, .getfield 10, 3, 10, 0, 0, [(0, 373)]),
  (68, .iconst 0, 1, 0, 0, 0, []),
  (69, .iload_n 1, 1, 1, 0, 0, []),
  (70, .invokevirtual 136, 3, 20, 3, 0, [(0, 422)]),
  (73, .aload_n 0, 1, 0, 0, 0, []),
  (74, .getfield 49, 3, 10, 7, 0, [(0, 380)]),
  (77, .aload_n 0, 1, 0, 0, 0, []),
  (78, .getfield 10, 3, 10, 0, 0, [(0, 373)]),
  (81, .iload_n 2, 1, 2, 0, 0, []),
  (82, .invokevirtual 174, 3, 77, 3, 0, [(0, 628)]),
  (85, .istore 5, 2, 5, 0, 0, []),
  (87, .iload 5, 2, 5, 0, 0, []),
  (89, .ifCond .eq 6, 3, 95, 0, 0, []),
  (92, .iload 5, 2, 5, 0, 0, []),
  (94, .ireturn, 1, 0, 0, 0, []),
  (95, .iload_n 3, 1, 3, 0, 0, []),
  (96, .tableswitch 91 100 104 #[36, 44, 57, 70, 83], 36, 187, 0, 0, [(100, 132), (101, 140), (102, 153), (103, 166), (104, 179)]),
  (132, .aload_n 0, 1, 0, 0, 0, []),
  (133, .getfield 49, 3, 10, 7, 0, [(0, 380)]),
  (136, .invokevirtual 175, 3, 88, 1, 0, [(0, 666)]),
  (139, .ireturn, 1, 0, 0, 0, []),
  (140, .aload_n 0, 1, 0, 0, 0, []),
  (141, .getfield 49, 3, 10, 7, 0, [(0, 380)]),
  (144, .aload_n 0, 1, 0, 0, 0, []),
  (145, .getfield 19, 3, 10, 1, 0, [(0, 374)]),
  (148, .iload_n 2, 1, 2, 0, 0, []),
  (149, .invokevirtual 179, 3, 89, 3, 0, [(0, 670)]),
  (152, .ireturn, 1, 0, 0, 0, []),
  (153, .aload_n 0, 1, 0, 0, 0, []),
  (154, .getfield 49, 3, 10, 7, 0, [(0, 380)]),
  (157, .aload_n 0, 1, 0, 0, 0, []),
  (158, .getfield 19, 3, 10, 1, 0, [(0, 374)]),
  (161, .iload_n 2, 1, 2, 0, 0, []),
  (162, .invokevirtual 183, 3, 91, 3, 0, [(0, 679)]),
  (165, .ireturn, 1, 0, 0, 0, []),
  (166, .aload_n 0, 1, 0, 0, 0, []),
  (167, .getfield 49, 3, 10, 7, 0, [(0, 380)]),
  (170, .aload_n 0, 1, 0, 0, 0, []),
  (171, .getfield 19, 3, 10, 1, 0, [(0, 374)]),
  (174, .iload_n 2, 1, 2, 0, 0, []),
  (175, .invokevirtual 186, 3, 93, 3, 0, [(0, 686)]),
  (178, .ireturn, 1, 0, 0, 0, []),
  (179, .aload_n 0, 1, 0, 0, 0, []),
  (180, .getfield 49, 3, 10, 7, 0, [(0, 380)]),
  (183, .getfield 189, 3, 9, 0, 0, [(0, 289)]),
  (186, .ireturn, 1, 0, 0, 0, []),
  (187, .aload_n 0, 1, 0, 0, 0, []),
  (188, .getfield 49, 3, 10, 7, 0, [(0, 380)]),
  (191, .aload_n 0, 1, 0, 0, 0, []),
  (192, .getfield 19, 3, 10, 1, 0, [(0, 374)]),
  (195, .iload_n 3, 1, 3, 0, 0, []),
  (196, .iload_n 2, 1, 2, 0, 0, []),
  (197, .invokevirtual 190, 3, 90, 4, 0, [(0, 695)]),
  (200, .ireturn, 1, 0, 0, 0, [])]
/-- NamedToWed.isSort(I)Z -/
def cd_76 : Cod := [(0, .iload_n 0, 1, 0, 0, 0, []),
  (1, .ifCond .eq 8, 3, 9, 0, 0, []),
  (4, .iload_n 0, 1, 0, 0, 0, []),
  (5, .iconst 1, 1, 0, 0, 1, []),
  (6, .if_icmp .ne 7, 3, 13, 0, 0, []),
  (9, .iconst 1, 1, 0, 0, 1, []),
  (10, .goto 4, 3, 14, 0, 0, []),
  (13, .iconst 0, 1, 0, 0, 0, []),
  (14, .ireturn, 1, 1, 0, 0, [])]
/-- NamedToWed$Word.read(LNamedToWed$Tape;I)I -/
def cd_77 : Cod := [(0, .aload_n 0, 1, 0, 0, 0, []),
  (1, .iconst 0, 1, 0, 0, 0, []),
  (2, .putfield 9, 3, 9, 0, 0, [(0, 288)]),
  (5, .aload_n 0, 1, 0, 0, 0, []),
  (6, .iconst 0, 1, 0, 0, 0, []),
  (7, .putfield 22, 3, 9, 3, 0, [(0, 292)]),
  (10, .aload_n 0, 1, 0, 0, 0, []),
  (11, .iconst 0, 1, 0, 0, 0, []),
  (12, .putfield 34, 3, 9, 7, 0, [(0, 296)]),
  (15, .aload_n 0, 1, 0, 0, 0, []),
  (16, .iconst 1, 1, 0, 0, 1, []),
  (17, .putfield 37, 3, 9, 8, 0, [(0, 297)]),
  (20, .aload_n 1, 1, 1, 0, 0, []),
  (21, .getfield 41, 3, 7, 4, 0, [(0, 190)]),
  (24, .aload_n 1, 1, 1, 0, 0, []),
  (25, .getfield 46, 3, 7, 3, 0, [(0, 187)]),
  (28, .if_icmp .ge 28, 3, 56, 0, 0, []),
  (31, .aload_n 0, 1, 0, 0, 0, []),
  (32, .aload_n 1, 1, 1, 0, 0, []),
  (33, .invokevirtual 47, 3, 78, 2, 0, [(0, 632)]),
  (36, .istore_n 3, 1, 3, 0, 0, []),
  (37, .iload_n 3, 1, 3, 0, 0, []),
  (38, .ifCond .eq 5, 3, 43, 0, 0, []),
  (41, .iload_n 3, 1, 3, 0, 0, []),
  (42, .ireturn, 1, 0, 0, 0, []),
  (43, .aload_n 1, 1, 1, 0, 0, []),
  (44, .dup, 1, 0, 0, 0, []),
  (45, .getfield 41, 3, 7, 4, 0, [(0, 190)]),
  (48, .iconst 1, 1, 0, 0, 1, []),
  (49, .iadd, 1, 0, 0, 0, []),
  (50, .putfield 41, 3, 7, 4, 0, [(0, 190)]),
  (53, .goto (-33), 3, 20, 0, 0, []),
  (56, .aload_n 0, 1, 0, 0, 0, []),
  (57, .getfield 34, 3, 9, 7, 0, [(0, 296)]),
  (60, .ifCond .ne 17, 3, 77, 0, 0, []),
  (63, .aload_n 0, 1, 0, 0, 0, []),
  (64, .getfield 37, 3, 9, 8, 0, [(0, 297)]),
  (67, .ifCond .ne 10, 3, 77, 0, 0, []),
  (70, .aload_n 0, 1, 0, 0, 0, []),
  (71, .getfield 22, 3, 9, 3, 0, [(0, 292)]),
  (74, .ifCond .le 9, 3, 83, 0, 0, []),
  (77, .aload_n 1, 1, 1, 0, 0, []),
  (78, .iconst 1, 1, 0, 0, 1, []),
  (79, .invokevirtual 51, 3, 25, 2, 0, [(0, 639)]),
  (82, .ireturn, 1, 0, 0, 0, []),
  (83, .aload_n 0, 1, 0, 0, 0, []),
  (84, .iload_n 2, 1, 2, 0, 0, []),
  (85, .invokevirtual 55, 3, 85, 2, 0, [(0, 657)]),
  (88, .ireturn, 1, 0, 0, 0, [])]
/-- NamedToWed$Word.readByte(LNamedToWed$Tape;)I -/
def cd_78 : Cod := [(0, .aload_n 1, 1, 1, 0, 0, []),
  (1, .invokevirtual 58, 3, 24, 1, 0, [(0, 635)]),
  (4, .istore_n 2, 1, 2, 0, 0, []),
  (5, .iload_n 2, 1, 2, 0, 0, []),
  (6, .bipush 40, 2, 0, 0, 40, []),
  (8, .if_icmp .ne 9, 3, 17, 0, 0, []),
  (11, .aload_n 0, 1, 0, 0, 0, []),
  (12, .aload_n 1, 1, 1, 0, 0, []),
  (13, .invokevirtual 62, 3, 79, 2, 0, [(0, 636)]),
  (16, .ireturn, 1, 0, 0, 0, []),
  (17, .iload_n 2, 1, 2, 0, 0, []),
  (18, .bipush 41, 2, 0, 0, 41, []),
  (20, .if_icmp .ne 9, 3, 29, 0, 0, []),
  (23, .aload_n 0, 1, 0, 0, 0, []),
  (24, .aload_n 1, 1, 1, 0, 0, []),
  (25, .invokevirtual 65, 3, 82, 2, 0, [(0, 647)]),
  (28, .ireturn, 1, 0, 0, 0, []),
  (29, .iload_n 2, 1, 2, 0, 0, []),
  (30, .bipush 50, 2, 0, 0, 50, []),
  (32, .if_icmp .lt 26, 3, 58, 0, 0, []),
  (35, .iload_n 2, 1, 2, 0, 0, []),
  (36, .bipush 57, 2, 0, 0, 57, []),
  (38, .if_icmp .gt 20, 3, 58, 0, 0, []),
  (41, .aload_n 0, 1, 0, 0, 0, []),
  (42, .getfield 34, 3, 9, 7, 0, [(0, 296)]),
  (45, .ifCond .ne 13, 3, 58, 0, 0, []),
  (48, .aload_n 0, 1, 0, 0, 0, []),
  (49, .iload_n 2, 1, 2, 0, 0, []),
  (50, .bipush 48, 2, 0, 0, 48, []),
  (52, .isub, 1, 0, 0, 0, []),
  (53, .putfield 34, 3, 9, 7, 0, [(0, 296)]),
  (56, .iconst 0, 1, 0, 0, 0, []),
  (57, .ireturn, 1, 0, 0, 0, []),
  (58, .iload_n 2, 1, 2, 0, 0, []),
  (59, .invokestatic 68, 3, 83, 1, 1, [(0, 651)]),
  (62, .istore_n 3, 1, 3, 0, 0, []),
  (63, .iload_n 3, 1, 3, 0, 0, []),
  (64, .ifCond .ge 11, 3, 75, 0, 0, []),
  (67, .aload_n 1, 1, 1, 0, 0, []),
  (68, .iconst 1, 1, 0, 0, 1, []),
  (69, .invokevirtual 51, 3, 25, 2, 0, [(0, 639)]),
  (72, .goto 9, 3, 81, 0, 0, []),
  (75, .aload_n 0, 1, 0, 0, 0, []),
  (76, .iload_n 3, 1, 3, 0, 0, []),
  (77, .aload_n 1, 1, 1, 0, 0, []),
  (78, .invokevirtual 71, 3, 84, 3, 0, [(0, 654)]),
  (81, .ireturn, 1, 0, 0, 0, [])]
/-- NamedToWed$Word.openRound(LNamedToWed$Tape;)I -/
def cd_79 : Cod := [(0, .aload_n 0, 1, 0, 0, 0, []),
  (1, .getfield 22, 3, 9, 3, 0, [(0, 292)]),
  (4, .iconst 2, 1, 0, 0, 2, []),
  (5, .if_icmp .ne 9, 3, 14, 0, 0, []),
  (8, .aload_n 1, 1, 1, 0, 0, []),
  (9, .iconst 5, 1, 0, 0, 5, []),
  (10, .invokevirtual 51, 3, 25, 2, 0, [(0, 639)]),
  (13, .ireturn, 1, 0, 0, 0, []),
  (14, .aload_n 0, 1, 0, 0, 0, []),
  (15, .getfield 25, 3, 9, 4, 0, [(0, 293)]),
  (18, .aload_n 0, 1, 0, 0, 0, []),
  (19, .getfield 22, 3, 9, 3, 0, [(0, 292)]),
  (22, .aload_n 0, 1, 0, 0, 0, []),
  (23, .aload_n 1, 1, 1, 0, 0, []),
  (24, .invokevirtual 75, 3, 80, 2, 0, [(0, 640)]),
  (27, .iastore, 1, 0, 0, 0, []),
  (28, .aload_n 0, 1, 0, 0, 0, []),
  (29, .getfield 28, 3, 9, 5, 0, [(0, 294)]),
  (32, .aload_n 0, 1, 0, 0, 0, []),
  (33, .getfield 22, 3, 9, 3, 0, [(0, 292)]),
  (36, .aload_n 0, 1, 0, 0, 0, []),
  (37, .invokevirtual 78, 3, 81, 1, 0, [(0, 643)]),
  (40, .iastore, 1, 0, 0, 0, []),
  (41, .aload_n 0, 1, 0, 0, 0, []),
  (42, .getfield 31, 3, 9, 6, 0, [(0, 295)]),
  (45, .aload_n 0, 1, 0, 0, 0, []),
  (46, .getfield 22, 3, 9, 3, 0, [(0, 292)]),
  (49, .aload_n 0, 1, 0, 0, 0, []),
  (50, .getfield 9, 3, 9, 0, 0, [(0, 288)]),
  (53, .iastore, 1, 0, 0, 0, []),
  (54, .aload_n 0, 1, 0, 0, 0, []),
  (55, .dup, 1, 0, 0, 0, []),
  (56, .getfield 22, 3, 9, 3, 0, [(0, 292)]),
  (59, .iconst 1, 1, 0, 0, 1, []),
  (60, .iadd, 1, 0, 0, 0, []),
  (61, .putfield 22, 3, 9, 3, 0, [(0, 292)]),
  (64, .aload_n 0, 1, 0, 0, 0, []),
  (65, .iconst 1, 1, 0, 0, 1, []),
  (66, .putfield 37, 3, 9, 8, 0, [(0, 297)]),
  (69, .iconst 0, 1, 0, 0, 0, []),
  (70, .ireturn, 1, 0, 0, 0, [])]
/-- NamedToWed$Word.startHere(LNamedToWed$Tape;)I -/
def cd_80 : Cod := [(0, .aload_n 0, 1, 0, 0, 0, []),
  (1, .getfield 34, 3, 9, 7, 0, [(0, 296)]),
  (4, .ifCond .ne 10, 3, 14, 0, 0, []),
  (7, .aload_n 1, 1, 1, 0, 0, []),
  (8, .getfield 41, 3, 7, 4, 0, [(0, 190)]),
  (11, .goto 9, 3, 20, 0, 0, []),
  (14, .aload_n 1, 1, 1, 0, 0, []),
  (15, .getfield 41, 3, 7, 4, 0, [(0, 190)]),
  (18, .iconst 1, 1, 0, 0, 1, []),
  (19, .isub, 1, 0, 0, 0, []),
  (20, .ireturn, 1, 0, 0, 0, [])]
/-- NamedToWed$Word.timesHere()I -/
def cd_81 : Cod := [(0, .aload_n 0, 1, 0, 0, 0, []),
  (1, .getfield 34, 3, 9, 7, 0, [(0, 296)]),
  (4, .iconst 1, 1, 0, 0, 1, []),
  (5, .invokestatic 84, 3, 56, 2, 0, [(0, 646)]),
  (8, .istore_n 1, 1, 1, 0, 0, []),
  (9, .aload_n 0, 1, 0, 0, 0, []),
  (10, .iconst 0, 1, 0, 0, 0, []),
  (11, .putfield 34, 3, 9, 7, 0, [(0, 296)]),
  (14, .iload_n 1, 1, 1, 0, 0, []),
  (15, .ireturn, 1, 0, 0, 0, [])]
/-- NamedToWed$Word.closeRound(LNamedToWed$Tape;)I -/
def cd_82 : Cod := [(0, .aload_n 0, 1, 0, 0, 0, []),
  (1, .getfield 22, 3, 9, 3, 0, [(0, 292)]),
  (4, .ifCond .eq 17, 3, 21, 0, 0, []),
  (7, .aload_n 0, 1, 0, 0, 0, []),
  (8, .getfield 37, 3, 9, 8, 0, [(0, 297)]),
  (11, .ifCond .ne 10, 3, 21, 0, 0, []),
  (14, .aload_n 0, 1, 0, 0, 0, []),
  (15, .getfield 34, 3, 9, 7, 0, [(0, 296)]),
  (18, .ifCond .eq 9, 3, 27, 0, 0, []),
  (21, .aload_n 1, 1, 1, 0, 0, []),
  (22, .iconst 1, 1, 0, 0, 1, []),
  (23, .invokevirtual 51, 3, 25, 2, 0, [(0, 639)]),
  (26, .ireturn, 1, 0, 0, 0, []),
  (27, .aload_n 0, 1, 0, 0, 0, []),
  (28, .dup, 1, 0, 0, 0, []),
  (29, .getfield 22, 3, 9, 3, 0, [(0, 292)]),
  (32, .iconst 1, 1, 0, 0, 1, []),
  (33, .isub, 1, 0, 0, 0, []),
  (34, .putfield 22, 3, 9, 3, 0, [(0, 292)]),
  (37, .aload_n 0, 1, 0, 0, 0, []),
  (38, .getfield 31, 3, 9, 6, 0, [(0, 295)]),
  (41, .aload_n 0, 1, 0, 0, 0, []),
  (42, .getfield 22, 3, 9, 3, 0, [(0, 292)]),
  (45, .iaload, 1, 0, 0, 0, []),
  (46, .istore_n 2, 1, 2, 0, 0, []),
  (47, .aload_n 0, 1, 0, 0, 0, []),
  (48, .getfield 9, 3, 9, 0, 0, [(0, 288)]),
  (51, .iload_n 2, 1, 2, 0, 0, []),
  (52, .isub, 1, 0, 0, 0, []),
  (53, .istore_n 3, 1, 3, 0, 0, []),
  (54, .iload_n 2, 1, 2, 0, 0, []),
  (55, .iload_n 3, 1, 3, 0, 0, []),
  (56, .aload_n 0, 1, 0, 0, 0, []),
  (57, .getfield 28, 3, 9, 5, 0, [(0, 294)]),
  (60, .aload_n 0, 1, 0, 0, 0, []),
  (61, .getfield 22, 3, 9, 3, 0, [(0, 292)]),
  (64, .iaload, 1, 0, 0, 0, []),
  (65, .imul, 1, 0, 0, 0, []),
  (66, .iadd, 1, 0, 0, 0, []),
  (67, .istore 4, 2, 4, 0, 0, []),
  (69, .iload 4, 2, 4, 0, 0, []),
  (71, .bipush 24, 2, 0, 0, 24, []),
  (73, .if_icmp .le 18, 3, 91, 0, 0, []),
  (76, .bipush 6, 2, 0, 0, 6, []),
  (78, .aload_n 0, 1, 0, 0, 0, []),
  (79, .getfield 25, 3, 9, 4, 0, [(0, 293)]),
  (82, .aload_n 0, 1, 0, 0, 0, []),
  (83, .getfield 22, 3, 9, 3, 0, [(0, 292)]),
  (86, .iaload, 1, 0, 0, 0, []),
  (87, .invokestatic 81, 3, 44, 2, 1, [(0, 650)]),
  (90, .ireturn, 1, 0, 0, 0, []),
  (91, .aload_n 0, 1, 0, 0, 0, []),
  (92, .getfield 9, 3, 9, 0, 0, [(0, 288)]),
  (95, .iload 4, 2, 4, 0, 0, []),
  (97, .if_icmp .ge 56, 3, 153, 0, 0, []),
  (100, .aload_n 0, 1, 0, 0, 0, []),
  (101, .getfield 15, 3, 9, 1, 0, [(0, 290)]),
  (104, .aload_n 0, 1, 0, 0, 0, []),
  (105, .getfield 9, 3, 9, 0, 0, [(0, 288)]),
  (108, .aload_n 0, 1, 0, 0, 0, []),
  (109, .getfield 15, 3, 9, 1, 0, [(0, 290)]),
  (112, .aload_n 0, 1, 0, 0, 0, []),
  (113, .getfield 9, 3, 9, 0, 0, [(0, 288)]),
  (116, .iload_n 3, 1, 3, 0, 0, []),
  (117, .isub, 1, 0, 0, 0, []),
  (118, .iaload, 1, 0, 0, 0, []),
  (119, .iastore, 1, 0, 0, 0, []),
  (120, .aload_n 0, 1, 0, 0, 0, []),
  (121, .getfield 19, 3, 9, 2, 0, [(0, 291)]),
  (124, .aload_n 0, 1, 0, 0, 0, []),
  (125, .getfield 9, 3, 9, 0, 0, [(0, 288)]),
  (128, .aload_n 0, 1, 0, 0, 0, []),
  (129, .getfield 19, 3, 9, 2, 0, [(0, 291)]),
  (132, .aload_n 0, 1, 0, 0, 0, []),
  (133, .getfield 9, 3, 9, 0, 0, [(0, 288)]),
  (136, .iload_n 3, 1, 3, 0, 0, []),
  (137, .isub, 1, 0, 0, 0, []),
  (138, .iaload, 1, 0, 0, 0, []),
  (139, .iastore, 1, 0, 0, 0, []),
  (140, .aload_n 0, 1, 0, 0, 0, []),
  (141, .dup, 1, 0, 0, 0, []),
  (142, .getfield 9, 3, 9, 0, 0, [(0, 288)]),
  (145, .iconst 1, 1, 0, 0, 1, []),
  (146, .iadd, 1, 0, 0, 0, []),
  (147, .putfield 9, 3, 9, 0, 0, [(0, 288)]),
  (150, .goto (-59), 3, 91, 0, 0, []),
  (153, .iconst 0, 1, 0, 0, 0, []),
  (154, .ireturn, 1, 0, 0, 0, [])]
/-- NamedToWed.stepOf(I)I -/
def cd_83 : Cod := [(0, .iconst 0, 1, 0, 0, 0, []),
  (1, .istore_n 1, 1, 1, 0, 0, []),
  (2, .iload_n 1, 1, 1, 0, 0, []),
  (3, .bipush 8, 2, 0, 0, 8, []),
  (5, .if_icmp .ge 20, 3, 25, 0, 0, []),
  (8, .getstatic 390, 3, 1, 1, 0, [(0, 2)]),
  (11, .iload_n 1, 1, 1, 0, 0, []),
  (12, .caload, 1, 0, 0, 0, []),
  (13, .iload_n 0, 1, 0, 0, 0, []),
  (14, .if_icmp .ne 5, 3, 19, 0, 0, []),
  (17, .iload_n 1, 1, 1, 0, 0, []),
  (18, .ireturn, 1, 0, 0, 0, []),
  (19, .iinc 1 1, 3, 1, 0, 1, []),
  (22, .goto (-20), 3, 2, 0, 0, []),
  (25, .iconst (-1), 1, 0, 0, (-1), []),
  (26, .ireturn, 1, 0, 0, 0, [])]
/-- NamedToWed$Word.addStep(ILNamedToWed$Tape;)I -/
def cd_84 : Cod := [(0, .aload_n 0, 1, 0, 0, 0, []),
  (1, .aload_n 2, 1, 2, 0, 0, []),
  (2, .invokevirtual 75, 3, 80, 2, 0, [(0, 640)]),
  (5, .istore_n 3, 1, 3, 0, 0, []),
  (6, .aload_n 0, 1, 0, 0, 0, []),
  (7, .invokevirtual 78, 3, 81, 1, 0, [(0, 643)]),
  (10, .istore 4, 2, 4, 0, 0, []),
  (12, .aload_n 0, 1, 0, 0, 0, []),
  (13, .getfield 9, 3, 9, 0, 0, [(0, 288)]),
  (16, .iload 4, 2, 4, 0, 0, []),
  (18, .iadd, 1, 0, 0, 0, []),
  (19, .bipush 24, 2, 0, 0, 24, []),
  (21, .if_icmp .le 10, 3, 31, 0, 0, []),
  (24, .bipush 6, 2, 0, 0, 6, []),
  (26, .iload_n 3, 1, 3, 0, 0, []),
  (27, .invokestatic 81, 3, 44, 2, 1, [(0, 650)]),
  (30, .ireturn, 1, 0, 0, 0, []),
  (31, .iconst 0, 1, 0, 0, 0, []),
  (32, .istore 5, 2, 5, 0, 0, []),
  (34, .iload 5, 2, 5, 0, 0, []),
  (36, .iload 4, 2, 4, 0, 0, []),
  (38, .if_icmp .ge 39, 3, 77, 0, 0, []),
  (41, .aload_n 0, 1, 0, 0, 0, []),
  (42, .getfield 15, 3, 9, 1, 0, [(0, 290)]),
  (45, .aload_n 0, 1, 0, 0, 0, []),
  (46, .getfield 9, 3, 9, 0, 0, [(0, 288)]),
  (49, .iload_n 1, 1, 1, 0, 0, []),
  (50, .iastore, 1, 0, 0, 0, []),
  (51, .aload_n 0, 1, 0, 0, 0, []),
  (52, .getfield 19, 3, 9, 2, 0, [(0, 291)]),
  (55, .aload_n 0, 1, 0, 0, 0, []),
  (56, .dup, 1, 0, 0, 0, []),
  (57, .getfield 9, 3, 9, 0, 0, [(0, 288)]),
  (60, .dup_x1, 1, 0, 0, 0, []),
  (61, .iconst 1, 1, 0, 0, 1, []),
  (62, .iadd, 1, 0, 0, 0, []),
  (63, .putfield 9, 3, 9, 0, 0, [(0, 288)]),
  (66, .aload_n 2, 1, 2, 0, 0, []),
  (67, .getfield 41, 3, 7, 4, 0, [(0, 190)]),
  (70, .iastore, 1, 0, 0, 0, []),
  (71, .iinc 5 1, 3, 5, 0, 1, []),
  (74, .goto (-40), 3, 34, 0, 0, []),
  (77, .aload_n 0, 1, 0, 0, 0, []),
  (78, .iconst 0, 1, 0, 0, 0, []),
  (79, .putfield 37, 3, 9, 8, 0, [(0, 297)]),
  (82, .iconst 0, 1, 0, 0, 0, []),
  (83, .ireturn, 1, 0, 0, 0, [])]
/-- NamedToWed$Word.firstNoSpouse(I)I -/
def cd_85 : Cod := [(0, .iload_n 1, 1, 1, 0, 0, []),
  (1, .istore_n 2, 1, 2, 0, 0, []),
  (2, .iconst 0, 1, 0, 0, 0, []),
  (3, .istore_n 3, 1, 3, 0, 0, []),
  (4, .iload_n 3, 1, 3, 0, 0, []),
  (5, .aload_n 0, 1, 0, 0, 0, []),
  (6, .getfield 9, 3, 9, 0, 0, [(0, 288)]),
  (9, .if_icmp .ge 44, 3, 53, 0, 0, []),
  (12, .aload_n 0, 1, 0, 0, 0, []),
  (13, .getfield 15, 3, 9, 1, 0, [(0, 290)]),
  (16, .iload_n 3, 1, 3, 0, 0, []),
  (17, .iaload, 1, 0, 0, 0, []),
  (18, .iload_n 2, 1, 2, 0, 0, []),
  (19, .invokestatic 89, 3, 86, 2, 1, [(0, 660)]),
  (22, .ifCond .ne 15, 3, 37, 0, 0, []),
  (25, .bipush 7, 2, 0, 0, 7, []),
  (27, .aload_n 0, 1, 0, 0, 0, []),
  (28, .getfield 19, 3, 9, 2, 0, [(0, 291)]),
  (31, .iload_n 3, 1, 3, 0, 0, []),
  (32, .iaload, 1, 0, 0, 0, []),
  (33, .invokestatic 81, 3, 44, 2, 1, [(0, 650)]),
  (36, .ireturn, 1, 0, 0, 0, []),
  (37, .aload_n 0, 1, 0, 0, 0, []),
  (38, .getfield 15, 3, 9, 1, 0, [(0, 290)]),
  (41, .iload_n 3, 1, 3, 0, 0, []),
  (42, .iaload, 1, 0, 0, 0, []),
  (43, .invokestatic 93, 3, 87, 1, 1, [(0, 663)]),
  (46, .istore_n 2, 1, 2, 0, 0, []),
  (47, .iinc 3 1, 3, 3, 0, 1, []),
  (50, .goto (-46), 3, 4, 0, 0, []),
  (53, .iconst 0, 1, 0, 0, 0, []),
  (54, .ireturn, 1, 0, 0, 0, [])]
/-- NamedToWed.canStep(II)Z -/
def cd_86 : Cod := [(0, .iload_n 0, 1, 0, 0, 0, []),
  (1, .iconst 2, 1, 0, 0, 2, []),
  (2, .if_icmp .ne 7, 3, 9, 0, 0, []),
  (5, .iload_n 1, 1, 1, 0, 0, []),
  (6, .ifCond .eq 17, 3, 23, 0, 0, []),
  (9, .iload_n 0, 1, 0, 0, 0, []),
  (10, .iconst 3, 1, 0, 0, 3, []),
  (11, .if_icmp .ne 8, 3, 19, 0, 0, []),
  (14, .iload_n 1, 1, 1, 0, 0, []),
  (15, .iconst 1, 1, 0, 0, 1, []),
  (16, .if_icmp .eq 7, 3, 23, 0, 0, []),
  (19, .iconst 1, 1, 0, 0, 1, []),
  (20, .goto 4, 3, 24, 0, 0, []),
  (23, .iconst 0, 1, 0, 0, 0, []),
  (24, .ireturn, 1, 1, 0, 0, [])]
/-- NamedToWed.sortBehind(I)I -/
def cd_87 : Cod := [(0, .iload_n 0, 1, 0, 0, 0, []),
  (1, .iconst 1, 1, 0, 0, 1, []),
  (2, .iand, 1, 0, 0, 0, []),
  (3, .ireturn, 1, 0, 0, 0, [])]
/-- NamedToWed$Word.sortAtEnd()I -/
def cd_88 : Cod := [(0, .aload_n 0, 1, 0, 0, 0, []),
  (1, .getfield 9, 3, 9, 0, 0, [(0, 288)]),
  (4, .ifCond .le 20, 3, 24, 0, 0, []),
  (7, .aload_n 0, 1, 0, 0, 0, []),
  (8, .getfield 15, 3, 9, 1, 0, [(0, 290)]),
  (11, .aload_n 0, 1, 0, 0, 0, []),
  (12, .getfield 9, 3, 9, 0, 0, [(0, 288)]),
  (15, .iconst 1, 1, 0, 0, 1, []),
  (16, .isub, 1, 0, 0, 0, []),
  (17, .iaload, 1, 0, 0, 0, []),
  (18, .invokestatic 93, 3, 87, 1, 1, [(0, 663)]),
  (21, .goto 4, 3, 25, 0, 0, []),
  (24, .iconst 0, 1, 0, 0, 0, []),
  (25, .ireturn, 1, 0, 0, 0, [])]
/-- NamedToWed$Word.unchanged(LNamedToWed$Rule;I)I -/
def cd_89 : Cod := [(0, .iconst 0, 1, 0, 0, 0, []),
  (1, .istore_n 3, 1, 3, 0, 0, []),
  (2, .iconst 0, 1, 0, 0, 0, []),
  (3, .istore 4, 2, 4, 0, 0, []),
  (5, .iload 4, 2, 4, 0, 0, []),
  (7, .aload_n 1, 1, 1, 0, 0, []),
  (8, .getfield 102, 3, 6, 0, 0, [(0, 207)]),
  (11, .if_icmp .ge 25, 3, 36, 0, 0, []),
  (14, .aload_n 0, 1, 0, 0, 0, []),
  (15, .aload_n 1, 1, 1, 0, 0, []),
  (16, .iload 4, 2, 4, 0, 0, []),
  (18, .iload_n 2, 1, 2, 0, 0, []),
  (19, .invokevirtual 105, 3, 90, 4, 0, [(0, 674)]),
  (22, .iload 4, 2, 4, 0, 0, []),
  (24, .if_icmp .ne 6, 3, 30, 0, 0, []),
  (27, .iinc 3 1, 3, 3, 0, 1, []),
  (30, .iinc 4 1, 3, 4, 0, 1, []),
  (33, .goto (-28), 3, 5, 0, 0, []),
  (36, .iload_n 3, 1, 3, 0, 0, []),
  (37, .ireturn, 1, 0, 0, 0, [])]
/-- NamedToWed$Word.lead(LNamedToWed$Rule;II)I -/
def cd_90 : Cod := [(0, .iload_n 3, 1, 3, 0, 0, []),
  (1, .istore 4, 2, 4, 0, 0, []),
  (3, .iload_n 2, 1, 2, 0, 0, []),
  (4, .istore 5, 2, 5, 0, 0, []),
  (6, .iconst 0, 1, 0, 0, 0, []),
  (7, .istore 6, 2, 6, 0, 0, []),
  (9, .iload 6, 2, 6, 0, 0, []),
  (11, .aload_n 0, 1, 0, 0, 0, []),
  (12, .getfield 9, 3, 9, 0, 0, [(0, 288)]),
  (15, .if_icmp .ge 38, 3, 53, 0, 0, []),
  (18, .aload_n 1, 1, 1, 0, 0, []),
  (19, .aload_n 0, 1, 0, 0, 0, []),
  (20, .getfield 15, 3, 9, 1, 0, [(0, 290)]),
  (23, .iload 6, 2, 6, 0, 0, []),
  (25, .iaload, 1, 0, 0, 0, []),
  (26, .iload 4, 2, 4, 0, 0, []),
  (28, .iload 5, 2, 5, 0, 0, []),
  (30, .invokevirtual 96, 3, 59, 4, 0, [(0, 678)]),
  (33, .istore 5, 2, 5, 0, 0, []),
  (35, .aload_n 0, 1, 0, 0, 0, []),
  (36, .getfield 15, 3, 9, 1, 0, [(0, 290)]),
  (39, .iload 6, 2, 6, 0, 0, []),
  (41, .iaload, 1, 0, 0, 0, []),
  (42, .invokestatic 93, 3, 87, 1, 1, [(0, 663)]),
  (45, .istore 4, 2, 4, 0, 0, []),
  (47, .iinc 6 1, 3, 6, 0, 1, []),
  (50, .goto (-41), 3, 9, 0, 0, []),
  (53, .iload 5, 2, 5, 0, 0, []),
  (55, .ireturn, 1, 0, 0, 0, [])]
/-- NamedToWed$Word.rounds(LNamedToWed$Rule;I)I -/
def cd_91 : Cod := [(0, .iconst 1, 1, 0, 0, 1, []),
  (1, .istore_n 3, 1, 3, 0, 0, []),
  (2, .iconst 0, 1, 0, 0, 0, []),
  (3, .istore 4, 2, 4, 0, 0, []),
  (5, .iload 4, 2, 4, 0, 0, []),
  (7, .aload_n 1, 1, 1, 0, 0, []),
  (8, .getfield 102, 3, 6, 0, 0, [(0, 207)]),
  (11, .if_icmp .ge 50, 3, 61, 0, 0, []),
  (14, .aload_n 0, 1, 0, 0, 0, []),
  (15, .aload_n 1, 1, 1, 0, 0, []),
  (16, .iload 4, 2, 4, 0, 0, []),
  (18, .iload_n 2, 1, 2, 0, 0, []),
  (19, .invokevirtual 109, 3, 92, 4, 0, [(0, 683)]),
  (22, .istore 5, 2, 5, 0, 0, []),
  (24, .iload_n 3, 1, 3, 0, 0, []),
  (25, .istore 6, 2, 6, 0, 0, []),
  (27, .iconst 1, 1, 0, 0, 1, []),
  (28, .istore 7, 2, 7, 0, 0, []),
  (30, .iload 7, 2, 7, 0, 0, []),
  (32, .iload 5, 2, 5, 0, 0, []),
  (34, .if_icmp .ge 21, 3, 55, 0, 0, []),
  (37, .iload_n 3, 1, 3, 0, 0, []),
  (38, .iload 5, 2, 5, 0, 0, []),
  (40, .irem, 1, 0, 0, 0, []),
  (41, .ifCond .eq 14, 3, 55, 0, 0, []),
  (44, .iload_n 3, 1, 3, 0, 0, []),
  (45, .iload 6, 2, 6, 0, 0, []),
  (47, .iadd, 1, 0, 0, 0, []),
  (48, .istore_n 3, 1, 3, 0, 0, []),
  (49, .iinc 7 1, 3, 7, 0, 1, []),
  (52, .goto (-22), 3, 30, 0, 0, []),
  (55, .iinc 4 1, 3, 4, 0, 1, []),
  (58, .goto (-53), 3, 5, 0, 0, []),
  (61, .iload_n 3, 1, 3, 0, 0, []),
  (62, .ireturn, 1, 0, 0, 0, [])]
/-- NamedToWed$Word.circle(LNamedToWed$Rule;II)I -/
def cd_92 : Cod := [(0, .aload_n 0, 1, 0, 0, 0, []),
  (1, .aload_n 1, 1, 1, 0, 0, []),
  (2, .iload_n 2, 1, 2, 0, 0, []),
  (3, .iload_n 3, 1, 3, 0, 0, []),
  (4, .invokevirtual 105, 3, 90, 4, 0, [(0, 674)]),
  (7, .istore 4, 2, 4, 0, 0, []),
  (9, .iconst 1, 1, 0, 0, 1, []),
  (10, .istore 5, 2, 5, 0, 0, []),
  (12, .iload 5, 2, 5, 0, 0, []),
  (14, .aload_n 1, 1, 1, 0, 0, []),
  (15, .getfield 102, 3, 6, 0, 0, [(0, 207)]),
  (18, .if_icmp .ge 25, 3, 43, 0, 0, []),
  (21, .iload 4, 2, 4, 0, 0, []),
  (23, .iload_n 2, 1, 2, 0, 0, []),
  (24, .if_icmp .eq 19, 3, 43, 0, 0, []),
  (27, .aload_n 0, 1, 0, 0, 0, []),
  (28, .aload_n 1, 1, 1, 0, 0, []),
  (29, .iload 4, 2, 4, 0, 0, []),
  (31, .iload_n 3, 1, 3, 0, 0, []),
  (32, .invokevirtual 105, 3, 90, 4, 0, [(0, 674)]),
  (35, .istore 4, 2, 4, 0, 0, []),
  (37, .iinc 5 1, 3, 5, 0, 1, []),
  (40, .goto (-28), 3, 12, 0, 0, []),
  (43, .iload 5, 2, 5, 0, 0, []),
  (45, .ireturn, 1, 0, 0, 0, [])]
/-- NamedToWed$Word.lawfulFrom(LNamedToWed$Rule;I)I -/
def cd_93 : Cod := [(0, .iconst 0, 1, 0, 0, 0, []),
  (1, .istore_n 3, 1, 3, 0, 0, []),
  (2, .iconst 0, 1, 0, 0, 0, []),
  (3, .istore 4, 2, 4, 0, 0, []),
  (5, .iload 4, 2, 4, 0, 0, []),
  (7, .aload_n 1, 1, 1, 0, 0, []),
  (8, .getfield 102, 3, 6, 0, 0, [(0, 207)]),
  (11, .if_icmp .ge 27, 3, 38, 0, 0, []),
  (14, .aload_n 0, 1, 0, 0, 0, []),
  (15, .aload_n 1, 1, 1, 0, 0, []),
  (16, .iload 4, 2, 4, 0, 0, []),
  (18, .iload_n 2, 1, 2, 0, 0, []),
  (19, .invokevirtual 112, 3, 94, 4, 0, [(0, 690)]),
  (22, .ifCond .eq 10, 3, 32, 0, 0, []),
  (25, .iload_n 3, 1, 3, 0, 0, []),
  (26, .iconst 1, 1, 0, 0, 1, []),
  (27, .iload 4, 2, 4, 0, 0, []),
  (29, .ishl, 1, 0, 0, 0, []),
  (30, .ior, 1, 0, 0, 0, []),
  (31, .istore_n 3, 1, 3, 0, 0, []),
  (32, .iinc 4 1, 3, 4, 0, 1, []),
  (35, .goto (-30), 3, 5, 0, 0, []),
  (38, .iload_n 3, 1, 3, 0, 0, []),
  (39, .ireturn, 1, 0, 0, 0, [])]
/-- NamedToWed$Word.isLawful(LNamedToWed$Rule;II)Z -/
def cd_94 : Cod := [(0, .aload_n 0, 1, 0, 0, 0, []),
  (1, .invokevirtual 116, 3, 88, 1, 0, [(0, 693)]),
  (4, .iload_n 3, 1, 3, 0, 0, []),
  (5, .if_icmp .eq 23, 3, 28, 0, 0, []),
  (8, .aload_n 0, 1, 0, 0, 0, []),
  (9, .aload_n 1, 1, 1, 0, 0, []),
  (10, .iload_n 2, 1, 2, 0, 0, []),
  (11, .iload_n 3, 1, 3, 0, 0, []),
  (12, .invokevirtual 105, 3, 90, 4, 0, [(0, 674)]),
  (15, .aload_n 1, 1, 1, 0, 0, []),
  (16, .iload_n 3, 1, 3, 0, 0, []),
  (17, .iload_n 2, 1, 2, 0, 0, []),
  (18, .invokevirtual 119, 3, 60, 3, 0, [(0, 694)]),
  (21, .if_icmp .ne 7, 3, 28, 0, 0, []),
  (24, .iconst 1, 1, 0, 0, 1, []),
  (25, .goto 4, 3, 29, 0, 0, []),
  (28, .iconst 0, 1, 0, 0, 0, []),
  (29, .ireturn, 1, 1, 0, 0, [])]
/-- NamedToWed.alike(III)I -/
def cd_95 : Cod := [(0, .iload_n 3, 1, 3, 0, 0, []),
  (1, .invokestatic 171, 3, 76, 1, 0, [(0, 625)]),
  (4, .ifCond .eq 31, 3, 35, 0, 0, []),
  (7, .iload_n 2, 1, 2, 0, 0, []),
  (8, .iconst 1, 1, 0, 0, 1, []),
  (9, .if_icmp .lt 26, 3, 35, 0, 0, []),
  (12, .iload_n 2, 1, 2, 0, 0, []),
  (13, .bipush 40, 2, 0, 0, 40, []),
  (15, .if_icmp .gt 20, 3, 35, 0, 0, []),
  (18, .aload_n 0, 1, 0, 0, 0, []),
  (19, .getfield 10, 3, 10, 0, 0, [(0, 373)]),
  (22, .iload_n 1, 1, 1, 0, 0, []),
  (23, .bipush 40, 2, 0, 0, 40, []),
  (25, .invokevirtual 132, 3, 19, 3, 0, [(0, 418)]),
  (28, .ifCond .eq 7, 3, 35, 0, 0, []),
  (31, .iconst 1, 1, 0, 0, 1, []),
  (32, .goto 4, 3, 36, 0, 0, []),
  (35, .iconst 0, 1, 0, 0, 0, []),
  (36, .istore 4, 2, 4, 0, 0, []),
  (38, .aload_n 0, 1, 0, 0, 0, []),
  (39, .getfield 19, 3, 10, 1, 0, [(0, 374)]),
  (42, .getfield 155, 3, 6, 0, 0, [(0, 204)]),
  (45, .ifCond .eq 21, 3, 66, 0, 0, []),
  (48, .iload 4, 2, 4, 0, 0, []),
  (50, .ifCond .eq 16, 3, 66, 0, 0, []),
  (53, .iload_n 1, 1, 1, 0, 0, []),
  (54, .iload_n 2, 1, 2, 0, 0, []),
  (55, .iadd, 1, 0, 0, 0, []),
  (56, .aload_n 0, 1, 0, 0, 0, []),
  (57, .getfield 10, 3, 10, 0, 0, [(0, 373)]),
  (60, .getfield 129, 3, 7, 1, 0, [(0, 183)]),
  (63, .if_icmp .le 5, 3, 68, 0, 0, []),
  (66, .iconst (-1), 1, 0, 0, (-1), []),
  (67, .ireturn, 1, 0, 0, 0, []),
  (68, .aload_n 0, 1, 0, 0, 0, []),
  (69, .getfield 10, 3, 10, 0, 0, [(0, 373)]),
  (72, .iconst 0, 1, 0, 0, 0, []),
  (73, .iload_n 1, 1, 1, 0, 0, []),
  (74, .invokevirtual 136, 3, 20, 3, 0, [(0, 422)]),
  (77, .aload_n 0, 1, 0, 0, 0, []),
  (78, .getfield 49, 3, 10, 7, 0, [(0, 380)]),
  (81, .aload_n 0, 1, 0, 0, 0, []),
  (82, .getfield 10, 3, 10, 0, 0, [(0, 373)]),
  (85, .iload_n 3, 1, 3, 0, 0, []),
  (86, .invokevirtual 174, 3, 77, 3, 0, [(0, 628)]),
  (89, .istore 5, 2, 5, 0, 0, []),
  (91, .iload 5, 2, 5, 0, 0, []),
  (93, .ifCond .eq 6, 3, 99, 0, 0, []),
  (96, .iload 5, 2, 5, 0, 0, []),
  (98, .ireturn, 1, 0, 0, 0, []),
  (99, .aload_n 0, 1, 0, 0, 0, []),
  (100, .getfield 10, 3, 10, 0, 0, [(0, 373)]),
  (103, .iload_n 1, 1, 1, 0, 0, []),
  (104, .iload_n 2, 1, 2, 0, 0, []),
  (105, .invokevirtual 136, 3, 20, 3, 0, [(0, 422)]),
  (108, .aload_n 0, 1, 0, 0, 0, []),
  (109, .getfield 53, 3, 10, 8, 0, [(0, 381)]),
  (112, .aload_n 0, 1, 0, 0, 0, []),
  (113, .getfield 10, 3, 10, 0, 0, [(0, 373)]),
  (116, .iload_n 3, 1, 3, 0, 0, []),
  (117, .invokevirtual 174, 3, 77, 3, 0, [(0, 628)]),
  (120, .istore 5, 2, 5, 0, 0, []),
  (122, .iload 5, 2, 5, 0, 0, []),
  (124, .ifCond .eq 9, 3, 133, 0, 0, []),
  (127, .ldc 194, 2, 0, 1, (-100000), [(0, 700)]),
  (129, .iload 5, 2, 5, 0, 0, []),
  (131, .iadd, 1, 0, 0, 0, []),
  (132, .ireturn, 1, 0, 0, 0, []),
  (133, .aload_n 0, 1, 0, 0, 0, []),
  (134, .getfield 49, 3, 10, 7, 0, [(0, 380)]),
  (137, .invokevirtual 175, 3, 88, 1, 0, [(0, 666)]),
  (140, .aload_n 0, 1, 0, 0, 0, []),
  (141, .getfield 53, 3, 10, 8, 0, [(0, 381)]),
  (144, .invokevirtual 175, 3, 88, 1, 0, [(0, 666)]),
  (147, .if_icmp .eq 6, 3, 153, 0, 0, []),
  (150, .bipush (-4), 2, 0, 0, (-4), []),
  (152, .ireturn, 1, 0, 0, 0, []),
  (153, .iconst 0, 1, 0, 0, 0, []),
  (154, .istore 6, 2, 6, 0, 0, []),
  (156, .iconst 0, 1, 0, 0, 0, []),
  (157, .istore 7, 2, 7, 0, 0, []),
  (159, .iload 7, 2, 7, 0, 0, []),
  (161, .aload_n 0, 1, 0, 0, 0, []),
  (162, .getfield 19, 3, 10, 1, 0, [(0, 374)]),
  (165, .getfield 155, 3, 6, 0, 0, [(0, 204)]),
  (168, .if_icmp .ge 49, 3, 217, 0, 0, []),
  (171, .aload_n 0, 1, 0, 0, 0, []),
  (172, .getfield 49, 3, 10, 7, 0, [(0, 380)]),
  (175, .aload_n 0, 1, 0, 0, 0, []),
  (176, .getfield 19, 3, 10, 1, 0, [(0, 374)]),
  (179, .iload 7, 2, 7, 0, 0, []),
  (181, .iload_n 3, 1, 3, 0, 0, []),
  (182, .invokevirtual 190, 3, 90, 4, 0, [(0, 695)]),
  (185, .aload_n 0, 1, 0, 0, 0, []),
  (186, .getfield 53, 3, 10, 8, 0, [(0, 381)]),
  (189, .aload_n 0, 1, 0, 0, 0, []),
  (190, .getfield 19, 3, 10, 1, 0, [(0, 374)]),
  (193, .iload 7, 2, 7, 0, 0, []),
  (195, .iload_n 3, 1, 3, 0, 0, []),
  (196, .invokevirtual 190, 3, 90, 4, 0, [(0, 695)]),
  (199, .if_icmp .ne 12, 3, 211, 0, 0, []),
  (202, .iload 6, 2, 6, 0, 0, []),
  (204, .iconst 1, 1, 0, 0, 1, []),
  (205, .iload 7, 2, 7, 0, 0, []),
  (207, .ishl, 1, 0, 0, 0, []),
  (208, .ior, 1, 0, 0, 0, []),
  (209, .istore 6, 2, 6, 0, 0, []),
  (211, .iinc 7 1, 3, 7, 0, 1, []),
  (214, .goto (-55), 3, 159, 0, 0, []),
  (217, .iload 6, 2, 6, 0, 0, []),
  (219, .ireturn, 1, 0, 0, 0, [])]
/-- NamedToWed.ways(I)I -/
def cd_96 : Cod := [(0, .aload_n 0, 1, 0, 0, 0, []),
  (1, .getfield 19, 3, 10, 1, 0, [(0, 374)]),
  (4, .getfield 155, 3, 6, 0, 0, [(0, 204)]),
  (7, .ifCond .eq 12, 3, 19, 0, 0, []),
  (10, .iload_n 1, 1, 1, 0, 0, []),
  (11, .ifCond .lt 8, 3, 19, 0, 0, []),
  (14, .iload_n 1, 1, 1, 0, 0, []),
  (15, .iconst 2, 1, 0, 0, 2, []),
  (16, .if_icmp .le 5, 3, 21, 0, 0, []),
  (19, .iconst (-1), 1, 0, 0, (-1), []),
  (20, .ireturn, 1, 0, 0, 0, []),
  (21, .iload_n 1, 1, 1, 0, 0, []),
  (22, .iconst 1, 1, 0, 0, 1, []),
  (23, .if_icmp .ne 15, 3, 38, 0, 0, []),
  (26, .aload_n 0, 1, 0, 0, 0, []),
  (27, .getfield 66, 3, 10, 10, 0, [(0, 383)]),
  (30, .aload_n 0, 1, 0, 0, 0, []),
  (31, .getfield 19, 3, 10, 1, 0, [(0, 374)]),
  (34, .invokevirtual 195, 3, 97, 2, 0, [(0, 705)]),
  (37, .ireturn, 1, 0, 0, 0, []),
  (38, .aload_n 0, 1, 0, 0, 0, []),
  (39, .getfield 66, 3, 10, 10, 0, [(0, 383)]),
  (42, .aload_n 0, 1, 0, 0, 0, []),
  (43, .getfield 19, 3, 10, 1, 0, [(0, 374)]),
  (46, .sipush 720, 3, 0, 0, 720, []),
  (49, .invokevirtual 199, 3, 98, 3, 0, [(0, 710)]),
  (52, .istore_n 2, 1, 2, 0, 0, []),
  (53, .iload_n 1, 1, 1, 0, 0, []),
  (54, .ifCond .ne 5, 3, 59, 0, 0, []),
  (57, .iload_n 2, 1, 2, 0, 0, []),
  (58, .ireturn, 1, 0, 0, 0, []),
  (59, .aload_n 0, 1, 0, 0, 0, []),
  (60, .getfield 66, 3, 10, 10, 0, [(0, 383)]),
  (63, .aload_n 0, 1, 0, 0, 0, []),
  (64, .getfield 19, 3, 10, 1, 0, [(0, 374)]),
  (67, .invokevirtual 195, 3, 97, 2, 0, [(0, 705)]),
  (70, .iload_n 2, 1, 2, 0, 0, []),
  (71, .imul, 1, 0, 0, 0, []),
  (72, .aload_n 0, 1, 0, 0, 0, []),
  (73, .getfield 19, 3, 10, 1, 0, [(0, 374)]),
  (76, .getfield 155, 3, 6, 0, 0, [(0, 204)]),
  (79, .if_icmp .ne 7, 3, 86, 0, 0, []),
  (82, .iconst 1, 1, 0, 0, 1, []),
  (83, .goto 4, 3, 87, 0, 0, []),
  (86, .iconst 0, 1, 0, 0, 0, []),
  (87, .ireturn, 1, 0, 0, 0, [])]
/-- NamedToWed$Changes.sides(LNamedToWed$Rule;)I -/
def cd_97 : Cod := [(0, .iconst 0, 1, 0, 0, 0, []),
  (1, .istore_n 2, 1, 2, 0, 0, []),
  (2, .iload_n 2, 1, 2, 0, 0, []),
  (3, .aload_n 1, 1, 1, 0, 0, []),
  (4, .getfield 38, 3, 6, 0, 0, [(0, 203)]),
  (7, .if_icmp .ge 16, 3, 23, 0, 0, []),
  (10, .aload_n 0, 1, 0, 0, 0, []),
  (11, .getfield 24, 3, 0, 4, 0, [(0, 324)]),
  (14, .iload_n 2, 1, 2, 0, 0, []),
  (15, .iload_n 2, 1, 2, 0, 0, []),
  (16, .iastore, 1, 0, 0, 0, []),
  (17, .iinc 2 1, 3, 2, 0, 1, []),
  (20, .goto (-18), 3, 2, 0, 0, []),
  (23, .iconst 0, 1, 0, 0, 0, []),
  (24, .istore_n 2, 1, 2, 0, 0, []),
  (25, .iload_n 2, 1, 2, 0, 0, []),
  (26, .aload_n 1, 1, 1, 0, 0, []),
  (27, .getfield 38, 3, 6, 0, 0, [(0, 203)]),
  (30, .if_icmp .ge 45, 3, 75, 0, 0, []),
  (33, .aload_n 0, 1, 0, 0, 0, []),
  (34, .getfield 24, 3, 0, 4, 0, [(0, 324)]),
  (37, .aload_n 1, 1, 1, 0, 0, []),
  (38, .getfield 38, 3, 6, 0, 0, [(0, 203)]),
  (41, .iload_n 2, 1, 2, 0, 0, []),
  (42, .aload_n 1, 1, 1, 0, 0, []),
  (43, .getfield 53, 3, 6, 1, 0, [(0, 209)]),
  (46, .iload_n 2, 1, 2, 0, 0, []),
  (47, .iaload, 1, 0, 0, 0, []),
  (48, .invokestatic 67, 3, 54, 4, 1, [(0, 709)]),
  (51, .aload_n 0, 1, 0, 0, 0, []),
  (52, .getfield 24, 3, 0, 4, 0, [(0, 324)]),
  (55, .aload_n 1, 1, 1, 0, 0, []),
  (56, .getfield 38, 3, 6, 0, 0, [(0, 203)]),
  (59, .iload_n 2, 1, 2, 0, 0, []),
  (60, .aload_n 1, 1, 1, 0, 0, []),
  (61, .getfield 60, 3, 6, 3, 0, [(0, 216)]),
  (64, .iload_n 2, 1, 2, 0, 0, []),
  (65, .iaload, 1, 0, 0, 0, []),
  (66, .invokestatic 67, 3, 54, 4, 1, [(0, 709)]),
  (69, .iinc 2 1, 3, 2, 0, 1, []),
  (72, .goto (-47), 3, 25, 0, 0, []),
  (75, .iconst 0, 1, 0, 0, 0, []),
  (76, .istore_n 2, 1, 2, 0, 0, []),
  (77, .iconst 0, 1, 0, 0, 0, []),
  (78, .istore_n 3, 1, 3, 0, 0, []),
  (79, .iload_n 3, 1, 3, 0, 0, []),
  (80, .aload_n 1, 1, 1, 0, 0, []),
  (81, .getfield 38, 3, 6, 0, 0, [(0, 203)]),
  (84, .if_icmp .ge 22, 3, 106, 0, 0, []),
  (87, .aload_n 0, 1, 0, 0, 0, []),
  (88, .getfield 24, 3, 0, 4, 0, [(0, 324)]),
  (91, .iload_n 3, 1, 3, 0, 0, []),
  (92, .iaload, 1, 0, 0, 0, []),
  (93, .iload_n 3, 1, 3, 0, 0, []),
  (94, .if_icmp .ne 6, 3, 100, 0, 0, []),
  (97, .iinc 2 1, 3, 2, 0, 1, []),
  (100, .iinc 3 1, 3, 3, 0, 1, []),
  (103, .goto (-24), 3, 79, 0, 0, []),
  (106, .iload_n 2, 1, 2, 0, 0, []),
  (107, .ireturn, 1, 0, 0, 0, [])]
/-- NamedToWed$Changes.size(LNamedToWed$Rule;I)I -/
def cd_98 : Cod := [(0, .aload_n 0, 1, 0, 0, 0, []),
  (1, .getfield 11, 3, 0, 0, 0, [(0, 320)]),
  (4, .iconst 0, 1, 0, 0, 0, []),
  (5, .getstatic 31, 3, 2, 1, 0, [(0, 4)]),
  (8, .aload_n 1, 1, 1, 0, 0, []),
  (9, .getfield 38, 3, 6, 0, 0, [(0, 203)]),
  (12, .iaload, 1, 0, 0, 0, []),
  (13, .iconst 0, 1, 0, 0, 0, []),
  (14, .invokestatic 43, 3, 99, 4, 0, [(0, 714)]),
  (17, .aload_n 0, 1, 0, 0, 0, []),
  (18, .getfield 11, 3, 0, 0, 0, [(0, 320)]),
  (21, .iconst 0, 1, 0, 0, 0, []),
  (22, .iconst 1, 1, 0, 0, 1, []),
  (23, .iastore, 1, 0, 0, 0, []),
  (24, .aload_n 0, 1, 0, 0, 0, []),
  (25, .getfield 15, 3, 0, 1, 0, [(0, 321)]),
  (28, .iconst 0, 1, 0, 0, 0, []),
  (29, .iconst 0, 1, 0, 0, 0, []),
  (30, .iastore, 1, 0, 0, 0, []),
  (31, .aload_n 0, 1, 0, 0, 0, []),
  (32, .iconst 1, 1, 0, 0, 1, []),
  (33, .putfield 27, 3, 0, 5, 0, [(0, 325)]),
  (36, .iconst 0, 1, 0, 0, 0, []),
  (37, .istore_n 3, 1, 3, 0, 0, []),
  (38, .iload_n 3, 1, 3, 0, 0, []),
  (39, .sipush 720, 3, 0, 0, 720, []),
  (42, .if_icmp .ge 66, 3, 108, 0, 0, []),
  (45, .iload_n 3, 1, 3, 0, 0, []),
  (46, .aload_n 0, 1, 0, 0, 0, []),
  (47, .getfield 27, 3, 0, 5, 0, [(0, 325)]),
  (50, .if_icmp .ge 58, 3, 108, 0, 0, []),
  (53, .aload_n 0, 1, 0, 0, 0, []),
  (54, .getfield 27, 3, 0, 5, 0, [(0, 325)]),
  (57, .iload_n 2, 1, 2, 0, 0, []),
  (58, .if_icmp .ge 50, 3, 108, 0, 0, []),
  (61, .aload_n 0, 1, 0, 0, 0, []),
  (62, .getfield 15, 3, 0, 1, 0, [(0, 321)]),
  (65, .iload_n 3, 1, 3, 0, 0, []),
  (66, .iaload, 1, 0, 0, 0, []),
  (67, .aload_n 0, 1, 0, 0, 0, []),
  (68, .getfield 18, 3, 0, 2, 0, [(0, 322)]),
  (71, .aload_n 1, 1, 1, 0, 0, []),
  (72, .getfield 38, 3, 6, 0, 0, [(0, 203)]),
  (75, .invokestatic 49, 3, 101, 3, 0, [(0, 720)]),
  (78, .aload_n 0, 1, 0, 0, 0, []),
  (79, .aload_n 1, 1, 1, 0, 0, []),
  (80, .getfield 53, 3, 6, 1, 0, [(0, 209)]),
  (83, .aload_n 1, 1, 1, 0, 0, []),
  (84, .getfield 38, 3, 6, 0, 0, [(0, 203)]),
  (87, .invokevirtual 56, 3, 103, 3, 0, [(0, 726)]),
  (90, .aload_n 0, 1, 0, 0, 0, []),
  (91, .aload_n 1, 1, 1, 0, 0, []),
  (92, .getfield 60, 3, 6, 3, 0, [(0, 216)]),
  (95, .aload_n 1, 1, 1, 0, 0, []),
  (96, .getfield 38, 3, 6, 0, 0, [(0, 203)]),
  (99, .invokevirtual 56, 3, 103, 3, 0, [(0, 726)]),
  (102, .iinc 3 1, 3, 3, 0, 1, []),
  (105, .goto (-67), 3, 38, 0, 0, []),
  (108, .aload_n 0, 1, 0, 0, 0, []),
  (109, .getfield 27, 3, 0, 5, 0, [(0, 325)]),
  (112, .ireturn, 1, 0, 0, 0, [])]
/-- java/util/Arrays.fill([IIII)V -/
def cd_99 : Cod := [(0, .aload_n 0, 1, 0, 0, 0, []),
  (1, .arraylength, 1, 0, 0, 0, []),
  (2, .iload_n 1, 1, 1, 0, 0, []),
  (3, .iload_n 2, 1, 2, 0, 0, []),
  (4, .invokestatic 13, 3, 100, 3, 0, [(0, 717)]),
  (7, .iload_n 1, 1, 1, 0, 0, []),
  (8, .istore 4, 2, 4, 0, 0, []),
  (10, .iload 4, 2, 4, 0, 0, []),
  (12, .iload_n 2, 1, 2, 0, 0, []),
  (13, .if_icmp .ge 14, 3, 27, 0, 0, []),
  (16, .aload_n 0, 1, 0, 0, 0, []),
  (17, .iload 4, 2, 4, 0, 0, []),
  (19, .iload_n 3, 1, 3, 0, 0, []),
  (20, .iastore, 1, 0, 0, 0, []),
  (21, .iinc 4 1, 3, 4, 0, 1, []),
  (24, .goto (-14), 3, 10, 0, 0, []),
  (27, .return_, 1, 0, 0, 0, [])]
/-- java/util/Arrays.rangeCheck(III)V -/
def cd_100 : Cod := [(0, .iload_n 1, 1, 1, 0, 0, []),
  (1, .iload_n 2, 1, 2, 0, 0, []),
  (2, .if_icmp .le 44, 3, 46, 0, 0, []),
  (5, .new 43, 3, 98, 0, 0, []),
  (8, .dup, 1, 0, 0, 0, []),
  (9, .new 45, 3, 98, 0, 0, []),
  (12, .dup, 1, 0, 0, 0, []),
  (13, .invokespecial 47, 3, 998, 0, 0, []),
  (16, .ldc 48, 2, 0, 0, 0, []),
  (18, .invokevirtual 50, 3, 998, 0, 0, []),
  (21, .iload_n 1, 1, 1, 0, 0, []),
  (22, .invokevirtual 54, 3, 998, 0, 0, []),
  (25, .ldc 57, 2, 0, 0, 0, []),
  (27, .invokevirtual 50, 3, 998, 0, 0, []),
  (30, .iload_n 2, 1, 2, 0, 0, []),
  (31, .invokevirtual 54, 3, 998, 0, 0, []),
  (34, .ldc 59, 2, 0, 0, 0, []),
  (36, .invokevirtual 50, 3, 998, 0, 0, []),
  (39, .invokevirtual 61, 3, 998, 0, 0, []),
  (42, .invokespecial 65, 3, 998, 0, 0, []),
  (45, .athrow, 1, 0, 0, 0, []),
  (46, .iload_n 1, 1, 1, 0, 0, []),
  (47, .ifCond .ge 12, 3, 59, 0, 0, []),
  (50, .new 68, 3, 98, 0, 0, []),
  (53, .dup, 1, 0, 0, 0, []),
  (54, .iload_n 1, 1, 1, 0, 0, []),
  (55, .invokespecial 70, 3, 998, 0, 0, []),
  (58, .athrow, 1, 0, 0, 0, []),
  (59, .iload_n 2, 1, 2, 0, 0, []),
  (60, .iload_n 0, 1, 0, 0, 0, []),
  (61, .if_icmp .le 12, 3, 73, 0, 0, []),
  (64, .new 68, 3, 98, 0, 0, []),
  (67, .dup, 1, 0, 0, 0, []),
  (68, .iload_n 2, 1, 2, 0, 0, []),
  (69, .invokespecial 70, 3, 998, 0, 0, []),
  (72, .athrow, 1, 0, 0, 0, []),
  (73, .return_, 1, 0, 0, 0, [])]
/-- NamedToWed$Changes.unpack(I[II)V -/
def cd_101 : Cod := [(0, .iload_n 0, 1, 0, 0, 0, []),
  (1, .istore_n 3, 1, 3, 0, 0, []),
  (2, .iconst 0, 1, 0, 0, 0, []),
  (3, .istore 4, 2, 4, 0, 0, []),
  (5, .iconst 0, 1, 0, 0, 0, []),
  (6, .istore 5, 2, 5, 0, 0, []),
  (8, .iload 5, 2, 5, 0, 0, []),
  (10, .iload_n 2, 1, 2, 0, 0, []),
  (11, .if_icmp .ge 56, 3, 67, 0, 0, []),
  (14, .getstatic 31, 3, 2, 1, 0, [(0, 4)]),
  (17, .iload_n 2, 1, 2, 0, 0, []),
  (18, .iconst 1, 1, 0, 0, 1, []),
  (19, .isub, 1, 0, 0, 0, []),
  (20, .iload 5, 2, 5, 0, 0, []),
  (22, .isub, 1, 0, 0, 0, []),
  (23, .iaload, 1, 0, 0, 0, []),
  (24, .istore 6, 2, 6, 0, 0, []),
  (26, .iload_n 3, 1, 3, 0, 0, []),
  (27, .iload 6, 2, 6, 0, 0, []),
  (29, .idiv, 1, 0, 0, 0, []),
  (30, .istore 7, 2, 7, 0, 0, []),
  (32, .iload_n 3, 1, 3, 0, 0, []),
  (33, .iload 6, 2, 6, 0, 0, []),
  (35, .irem, 1, 0, 0, 0, []),
  (36, .istore_n 3, 1, 3, 0, 0, []),
  (37, .iload 4, 2, 4, 0, 0, []),
  (39, .iload 7, 2, 7, 0, 0, []),
  (41, .invokestatic 34, 3, 102, 2, 0, [(0, 723)]),
  (44, .istore 8, 2, 8, 0, 0, []),
  (46, .iload 4, 2, 4, 0, 0, []),
  (48, .iconst 1, 1, 0, 0, 1, []),
  (49, .iload 8, 2, 8, 0, 0, []),
  (51, .ishl, 1, 0, 0, 0, []),
  (52, .ior, 1, 0, 0, 0, []),
  (53, .istore 4, 2, 4, 0, 0, []),
  (55, .aload_n 1, 1, 1, 0, 0, []),
  (56, .iload 5, 2, 5, 0, 0, []),
  (58, .iload 8, 2, 8, 0, 0, []),
  (60, .iastore, 1, 0, 0, 0, []),
  (61, .iinc 5 1, 3, 5, 0, 1, []),
  (64, .goto (-56), 3, 8, 0, 0, []),
  (67, .return_, 1, 0, 0, 0, [])]
/-- NamedToWed$Changes.unusedAt(II)I -/
def cd_102 : Cod := [(0, .iload_n 1, 1, 1, 0, 0, []),
  (1, .istore_n 2, 1, 2, 0, 0, []),
  (2, .iconst 0, 1, 0, 0, 0, []),
  (3, .istore_n 3, 1, 3, 0, 0, []),
  (4, .iload_n 3, 1, 3, 0, 0, []),
  (5, .bipush 6, 2, 0, 0, 6, []),
  (7, .if_icmp .ge 26, 3, 33, 0, 0, []),
  (10, .iload_n 0, 1, 0, 0, 0, []),
  (11, .iload_n 3, 1, 3, 0, 0, []),
  (12, .ishr, 1, 0, 0, 0, []),
  (13, .iconst 1, 1, 0, 0, 1, []),
  (14, .iand, 1, 0, 0, 0, []),
  (15, .ifCond .ne 12, 3, 27, 0, 0, []),
  (18, .iload_n 2, 1, 2, 0, 0, []),
  (19, .ifCond .ne 5, 3, 24, 0, 0, []),
  (22, .iload_n 3, 1, 3, 0, 0, []),
  (23, .ireturn, 1, 0, 0, 0, []),
  (24, .iinc 2 (-1), 3, 2, 0, (-1), []),
  (27, .iinc 3 1, 3, 3, 0, 1, []),
  (30, .goto (-26), 3, 4, 0, 0, []),
  (33, .iconst 0, 1, 0, 0, 0, []),
  (34, .ireturn, 1, 0, 0, 0, [])]
/-- NamedToWed$Changes.reach([II)V -/
def cd_103 : Cod := [(0, .iconst 0, 1, 0, 0, 0, []),
  (1, .istore_n 3, 1, 3, 0, 0, []),
  (2, .iload_n 3, 1, 3, 0, 0, []),
  (3, .iload_n 2, 1, 2, 0, 0, []),
  (4, .if_icmp .ge 23, 3, 27, 0, 0, []),
  (7, .aload_n 0, 1, 0, 0, 0, []),
  (8, .getfield 21, 3, 0, 3, 0, [(0, 323)]),
  (11, .iload_n 3, 1, 3, 0, 0, []),
  (12, .aload_n 1, 1, 1, 0, 0, []),
  (13, .aload_n 0, 1, 0, 0, 0, []),
  (14, .getfield 18, 3, 0, 2, 0, [(0, 322)]),
  (17, .iload_n 3, 1, 3, 0, 0, []),
  (18, .iaload, 1, 0, 0, 0, []),
  (19, .iaload, 1, 0, 0, 0, []),
  (20, .iastore, 1, 0, 0, 0, []),
  (21, .iinc 3 1, 3, 3, 0, 1, []),
  (24, .goto (-22), 3, 2, 0, 0, []),
  (27, .aload_n 0, 1, 0, 0, 0, []),
  (28, .getfield 21, 3, 0, 3, 0, [(0, 323)]),
  (31, .iload_n 2, 1, 2, 0, 0, []),
  (32, .invokestatic 63, 3, 104, 2, 0, [(0, 729)]),
  (35, .istore_n 3, 1, 3, 0, 0, []),
  (36, .aload_n 0, 1, 0, 0, 0, []),
  (37, .getfield 11, 3, 0, 0, 0, [(0, 320)]),
  (40, .iload_n 3, 1, 3, 0, 0, []),
  (41, .iaload, 1, 0, 0, 0, []),
  (42, .ifCond .ne 37, 3, 79, 0, 0, []),
  (45, .aload_n 0, 1, 0, 0, 0, []),
  (46, .getfield 27, 3, 0, 5, 0, [(0, 325)]),
  (49, .sipush 720, 3, 0, 0, 720, []),
  (52, .if_icmp .ge 27, 3, 79, 0, 0, []),
  (55, .aload_n 0, 1, 0, 0, 0, []),
  (56, .getfield 11, 3, 0, 0, 0, [(0, 320)]),
  (59, .iload_n 3, 1, 3, 0, 0, []),
  (60, .iconst 1, 1, 0, 0, 1, []),
  (61, .iastore, 1, 0, 0, 0, []),
  (62, .aload_n 0, 1, 0, 0, 0, []),
  (63, .getfield 15, 3, 0, 1, 0, [(0, 321)]),
  (66, .aload_n 0, 1, 0, 0, 0, []),
  (67, .dup, 1, 0, 0, 0, []),
  (68, .getfield 27, 3, 0, 5, 0, [(0, 325)]),
  (71, .dup_x1, 1, 0, 0, 0, []),
  (72, .iconst 1, 1, 0, 0, 1, []),
  (73, .iadd, 1, 0, 0, 0, []),
  (74, .putfield 27, 3, 0, 5, 0, [(0, 325)]),
  (77, .iload_n 3, 1, 3, 0, 0, []),
  (78, .iastore, 1, 0, 0, 0, []),
  (79, .return_, 1, 0, 0, 0, [])]
/-- NamedToWed$Changes.pack([II)I -/
def cd_104 : Cod := [(0, .iconst 0, 1, 0, 0, 0, []),
  (1, .istore_n 2, 1, 2, 0, 0, []),
  (2, .iconst 0, 1, 0, 0, 0, []),
  (3, .istore_n 3, 1, 3, 0, 0, []),
  (4, .iload_n 3, 1, 3, 0, 0, []),
  (5, .iload_n 1, 1, 1, 0, 0, []),
  (6, .if_icmp .ge 57, 3, 63, 0, 0, []),
  (9, .iconst 0, 1, 0, 0, 0, []),
  (10, .istore 4, 2, 4, 0, 0, []),
  (12, .iload_n 3, 1, 3, 0, 0, []),
  (13, .iconst 1, 1, 0, 0, 1, []),
  (14, .iadd, 1, 0, 0, 0, []),
  (15, .istore 5, 2, 5, 0, 0, []),
  (17, .iload 5, 2, 5, 0, 0, []),
  (19, .iload_n 1, 1, 1, 0, 0, []),
  (20, .if_icmp .ge 22, 3, 42, 0, 0, []),
  (23, .aload_n 0, 1, 0, 0, 0, []),
  (24, .iload 5, 2, 5, 0, 0, []),
  (26, .iaload, 1, 0, 0, 0, []),
  (27, .aload_n 0, 1, 0, 0, 0, []),
  (28, .iload_n 3, 1, 3, 0, 0, []),
  (29, .iaload, 1, 0, 0, 0, []),
  (30, .if_icmp .ge 6, 3, 36, 0, 0, []),
  (33, .iinc 4 1, 3, 4, 0, 1, []),
  (36, .iinc 5 1, 3, 5, 0, 1, []),
  (39, .goto (-22), 3, 17, 0, 0, []),
  (42, .iload_n 2, 1, 2, 0, 0, []),
  (43, .iload 4, 2, 4, 0, 0, []),
  (45, .getstatic 31, 3, 2, 1, 0, [(0, 4)]),
  (48, .iload_n 1, 1, 1, 0, 0, []),
  (49, .iconst 1, 1, 0, 0, 1, []),
  (50, .isub, 1, 0, 0, 0, []),
  (51, .iload_n 3, 1, 3, 0, 0, []),
  (52, .isub, 1, 0, 0, 0, []),
  (53, .iaload, 1, 0, 0, 0, []),
  (54, .imul, 1, 0, 0, 0, []),
  (55, .iadd, 1, 0, 0, 0, []),
  (56, .istore_n 2, 1, 2, 0, 0, []),
  (57, .iinc 3 1, 3, 3, 0, 1, []),
  (60, .goto (-56), 3, 4, 0, 0, []),
  (63, .iload_n 2, 1, 2, 0, 0, []),
  (64, .ireturn, 1, 0, 0, 0, [])]
/-- NamedToWed.term(IIIII)I -/
def cd_105 : Cod := [(0, .aload_n 0, 1, 0, 0, 0, []),
  (1, .iload_n 1, 1, 1, 0, 0, []),
  (2, .invokevirtual 105, 3, 13, 2, 0, [(0, 395)]),
  (5, .ifCond .eq 30, 3, 35, 0, 0, []),
  (8, .iload_n 2, 1, 2, 0, 0, []),
  (9, .invokestatic 171, 3, 76, 1, 0, [(0, 625)]),
  (12, .ifCond .eq 23, 3, 35, 0, 0, []),
  (15, .aload_n 0, 1, 0, 0, 0, []),
  (16, .iload_n 3, 1, 3, 0, 0, []),
  (17, .invokevirtual 105, 3, 13, 2, 0, [(0, 395)]),
  (20, .ifCond .eq 15, 3, 35, 0, 0, []),
  (23, .iload 4, 2, 4, 0, 0, []),
  (25, .invokestatic 171, 3, 76, 1, 0, [(0, 625)]),
  (28, .ifCond .eq 7, 3, 35, 0, 0, []),
  (31, .iconst 1, 1, 0, 0, 1, []),
  (32, .goto 4, 3, 36, 0, 0, []),
  (35, .iconst 0, 1, 0, 0, 0, []),
  (36, .istore 6, 2, 6, 0, 0, []),
  (38, .iload 6, 2, 6, 0, 0, []),
  (40, .ifCond .eq 13, 3, 53, 0, 0, []),
  (43, .iload 5, 2, 5, 0, 0, []),
  (45, .bipush 12, 2, 0, 0, 12, []),
  (47, .invokestatic 201, 3, 106, 2, 0, [(0, 736)]),
  (50, .ifCond .ne 5, 3, 55, 0, 0, []),
  (53, .iconst (-1), 1, 0, 0, (-1), []),
  (54, .ireturn, 1, 0, 0, 0, []),
  (55, .aload_n 0, 1, 0, 0, 0, []),
  (56, .getfield 59, 3, 10, 9, 0, [(0, 382)]),
  (59, .aload_n 0, 1, 0, 0, 0, []),
  (60, .getfield 19, 3, 10, 1, 0, [(0, 374)]),
  (63, .iconst 2, 1, 0, 0, 2, []),
  (64, .iload_n 1, 1, 1, 0, 0, []),
  (65, .imul, 1, 0, 0, 0, []),
  (66, .iload_n 2, 1, 2, 0, 0, []),
  (67, .iadd, 1, 0, 0, 0, []),
  (68, .iconst 2, 1, 0, 0, 2, []),
  (69, .iload_n 3, 1, 3, 0, 0, []),
  (70, .imul, 1, 0, 0, 0, []),
  (71, .iload 4, 2, 4, 0, 0, []),
  (73, .iadd, 1, 0, 0, 0, []),
  (74, .invokevirtual 204, 3, 107, 4, 0, [(0, 739)]),
  (77, .istore 7, 2, 7, 0, 0, []),
  (79, .iload 7, 2, 7, 0, 0, []),
  (81, .ifCond .eq 15, 3, 96, 0, 0, []),
  (84, .aload_n 0, 1, 0, 0, 0, []),
  (85, .getfield 59, 3, 10, 9, 0, [(0, 382)]),
  (88, .iload 5, 2, 5, 0, 0, []),
  (90, .invokevirtual 208, 3, 111, 2, 0, [(0, 756)]),
  (93, .goto 5, 3, 98, 0, 0, []),
  (96, .bipush (-2), 2, 0, 0, (-2), []),
  (98, .ireturn, 1, 0, 0, 0, [])]
/-- NamedToWed.isStep(II)Z -/
def cd_106 : Cod := [(0, .iload_n 0, 1, 0, 0, 0, []),
  (1, .bipush 100, 2, 0, 0, 100, []),
  (3, .if_icmp .eq 12, 3, 15, 0, 0, []),
  (6, .iload_n 0, 1, 0, 0, 0, []),
  (7, .ifCond .lt 12, 3, 19, 0, 0, []),
  (10, .iload_n 0, 1, 0, 0, 0, []),
  (11, .iload_n 1, 1, 1, 0, 0, []),
  (12, .if_icmp .ge 7, 3, 19, 0, 0, []),
  (15, .iconst 1, 1, 0, 0, 1, []),
  (16, .goto 4, 3, 20, 0, 0, []),
  (19, .iconst 0, 1, 0, 0, 0, []),
  (20, .ireturn, 1, 1, 0, 0, [])]
/-- NamedToWed$Row.findOnNames(LNamedToWed$Rule;II)Z -/
def cd_107 : Cod := [(0, .aload_n 0, 1, 0, 0, 0, []),
  (1, .getfield 19, 3, 5, 2, 0, [(0, 306)]),
  (4, .iconst (-1), 1, 0, 0, (-1), []),
  (5, .invokestatic 55, 3, 48, 2, 0, [(0, 743)]),
  (8, .aload_n 0, 1, 0, 0, 0, []),
  (9, .getfield 19, 3, 5, 2, 0, [(0, 306)]),
  (12, .iload_n 2, 1, 2, 0, 0, []),
  (13, .iload_n 2, 1, 2, 0, 0, []),
  (14, .iastore, 1, 0, 0, 0, []),
  (15, .aload_n 0, 1, 0, 0, 0, []),
  (16, .getfield 25, 3, 5, 4, 0, [(0, 308)]),
  (19, .iconst 0, 1, 0, 0, 0, []),
  (20, .iload_n 2, 1, 2, 0, 0, []),
  (21, .iastore, 1, 0, 0, 0, []),
  (22, .aload_n 0, 1, 0, 0, 0, []),
  (23, .iconst 1, 1, 0, 0, 1, []),
  (24, .putfield 28, 3, 5, 5, 0, [(0, 309)]),
  (27, .iconst 0, 1, 0, 0, 0, []),
  (28, .istore 4, 2, 4, 0, 0, []),
  (30, .iload 4, 2, 4, 0, 0, []),
  (32, .bipush 12, 2, 0, 0, 12, []),
  (34, .if_icmp .ge 77, 3, 111, 0, 0, []),
  (37, .iload 4, 2, 4, 0, 0, []),
  (39, .aload_n 0, 1, 0, 0, 0, []),
  (40, .getfield 28, 3, 5, 5, 0, [(0, 309)]),
  (43, .if_icmp .ge 68, 3, 111, 0, 0, []),
  (46, .iconst 0, 1, 0, 0, 0, []),
  (47, .istore 5, 2, 5, 0, 0, []),
  (49, .iload 5, 2, 5, 0, 0, []),
  (51, .bipush 8, 2, 0, 0, 8, []),
  (53, .if_icmp .ge 52, 3, 105, 0, 0, []),
  (56, .iload 5, 2, 5, 0, 0, []),
  (58, .aload_n 0, 1, 0, 0, 0, []),
  (59, .getfield 25, 3, 5, 4, 0, [(0, 308)]),
  (62, .iload 4, 2, 4, 0, 0, []),
  (64, .iaload, 1, 0, 0, 0, []),
  (65, .iconst 1, 1, 0, 0, 1, []),
  (66, .iand, 1, 0, 0, 0, []),
  (67, .invokestatic 61, 3, 86, 2, 1, [(0, 744)]),
  (70, .ifCond .eq 29, 3, 99, 0, 0, []),
  (73, .aload_n 0, 1, 0, 0, 0, []),
  (74, .aload_n 1, 1, 1, 0, 0, []),
  (75, .iload 5, 2, 5, 0, 0, []),
  (77, .aload_n 0, 1, 0, 0, 0, []),
  (78, .getfield 25, 3, 5, 4, 0, [(0, 308)]),
  (81, .iload 4, 2, 4, 0, 0, []),
  (83, .iaload, 1, 0, 0, 0, []),
  (84, .invokestatic 65, 3, 108, 3, 0, [(0, 745)]),
  (87, .aload_n 0, 1, 0, 0, 0, []),
  (88, .getfield 25, 3, 5, 4, 0, [(0, 308)]),
  (91, .iload 4, 2, 4, 0, 0, []),
  (93, .iaload, 1, 0, 0, 0, []),
  (94, .iload 5, 2, 5, 0, 0, []),
  (96, .invokevirtual 69, 3, 109, 4, 0, [(0, 750)]),
  (99, .iinc 5 1, 3, 5, 0, 1, []),
  (102, .goto (-53), 3, 49, 0, 0, []),
  (105, .iinc 4 1, 3, 4, 0, 1, []),
  (108, .goto (-78), 3, 30, 0, 0, []),
  (111, .aload_n 0, 1, 0, 0, 0, []),
  (112, .getfield 19, 3, 5, 2, 0, [(0, 306)]),
  (115, .iload_n 3, 1, 3, 0, 0, []),
  (116, .iaload, 1, 0, 0, 0, []),
  (117, .iconst (-1), 1, 0, 0, (-1), []),
  (118, .if_icmp .ne 5, 3, 123, 0, 0, []),
  (121, .iconst 0, 1, 0, 0, 0, []),
  (122, .ireturn, 1, 1, 0, 0, []),
  (123, .aload_n 0, 1, 0, 0, 0, []),
  (124, .iload_n 2, 1, 2, 0, 0, []),
  (125, .iload_n 3, 1, 3, 0, 0, []),
  (126, .invokevirtual 73, 3, 110, 3, 0, [(0, 753)]),
  (129, .iconst 1, 1, 0, 0, 1, []),
  (130, .ireturn, 1, 1, 0, 0, [])]
/-- NamedToWed$Row.next(LNamedToWed$Rule;II)I -/
def cd_108 : Cod := [(0, .iconst 2, 1, 0, 0, 2, []),
  (1, .aload_n 0, 1, 0, 0, 0, []),
  (2, .iload_n 1, 1, 1, 0, 0, []),
  (3, .iload_n 2, 1, 2, 0, 0, []),
  (4, .iconst 1, 1, 0, 0, 1, []),
  (5, .iand, 1, 0, 0, 0, []),
  (6, .iload_n 2, 1, 2, 0, 0, []),
  (7, .iconst 1, 1, 0, 0, 1, []),
  (8, .ishr, 1, 0, 0, 0, []),
  (9, .invokevirtual 45, 3, 59, 4, 0, [(0, 748)]),
  (12, .imul, 1, 0, 0, 0, []),
  (13, .iload_n 1, 1, 1, 0, 0, []),
  (14, .invokestatic 51, 3, 87, 1, 1, [(0, 749)]),
  (17, .iadd, 1, 0, 0, 0, []),
  (18, .ireturn, 1, 0, 0, 0, [])]
/-- NamedToWed$Row.comeTo(III)V -/
def cd_109 : Cod := [(0, .aload_n 0, 1, 0, 0, 0, []),
  (1, .getfield 19, 3, 5, 2, 0, [(0, 306)]),
  (4, .iload_n 1, 1, 1, 0, 0, []),
  (5, .iaload, 1, 0, 0, 0, []),
  (6, .iconst (-1), 1, 0, 0, (-1), []),
  (7, .if_icmp .ne 43, 3, 50, 0, 0, []),
  (10, .aload_n 0, 1, 0, 0, 0, []),
  (11, .getfield 28, 3, 5, 5, 0, [(0, 309)]),
  (14, .bipush 12, 2, 0, 0, 12, []),
  (16, .if_icmp .ge 34, 3, 50, 0, 0, []),
  (19, .aload_n 0, 1, 0, 0, 0, []),
  (20, .getfield 19, 3, 5, 2, 0, [(0, 306)]),
  (23, .iload_n 1, 1, 1, 0, 0, []),
  (24, .iload_n 2, 1, 2, 0, 0, []),
  (25, .iastore, 1, 0, 0, 0, []),
  (26, .aload_n 0, 1, 0, 0, 0, []),
  (27, .getfield 22, 3, 5, 3, 0, [(0, 307)]),
  (30, .iload_n 1, 1, 1, 0, 0, []),
  (31, .iload_n 3, 1, 3, 0, 0, []),
  (32, .iastore, 1, 0, 0, 0, []),
  (33, .aload_n 0, 1, 0, 0, 0, []),
  (34, .getfield 25, 3, 5, 4, 0, [(0, 308)]),
  (37, .aload_n 0, 1, 0, 0, 0, []),
  (38, .dup, 1, 0, 0, 0, []),
  (39, .getfield 28, 3, 5, 5, 0, [(0, 309)]),
  (42, .dup_x1, 1, 0, 0, 0, []),
  (43, .iconst 1, 1, 0, 0, 1, []),
  (44, .iadd, 1, 0, 0, 0, []),
  (45, .putfield 28, 3, 5, 5, 0, [(0, 309)]),
  (48, .iload_n 1, 1, 1, 0, 0, []),
  (49, .iastore, 1, 0, 0, 0, []),
  (50, .return_, 1, 0, 0, 0, [])]
/-- NamedToWed$Row.writeBack(II)V -/
def cd_110 : Cod := [(0, .aload_n 0, 1, 0, 0, 0, []),
  (1, .iconst 0, 1, 0, 0, 0, []),
  (2, .putfield 9, 3, 5, 0, 0, [(0, 304)]),
  (5, .iload_n 2, 1, 2, 0, 0, []),
  (6, .istore_n 3, 1, 3, 0, 0, []),
  (7, .iconst 0, 1, 0, 0, 0, []),
  (8, .istore 4, 2, 4, 0, 0, []),
  (10, .iload 4, 2, 4, 0, 0, []),
  (12, .bipush 12, 2, 0, 0, 12, []),
  (14, .if_icmp .ge 31, 3, 45, 0, 0, []),
  (17, .iload_n 3, 1, 3, 0, 0, []),
  (18, .iload_n 1, 1, 1, 0, 0, []),
  (19, .if_icmp .eq 26, 3, 45, 0, 0, []),
  (22, .aload_n 0, 1, 0, 0, 0, []),
  (23, .getfield 19, 3, 5, 2, 0, [(0, 306)]),
  (26, .iload_n 3, 1, 3, 0, 0, []),
  (27, .iaload, 1, 0, 0, 0, []),
  (28, .istore_n 3, 1, 3, 0, 0, []),
  (29, .aload_n 0, 1, 0, 0, 0, []),
  (30, .dup, 1, 0, 0, 0, []),
  (31, .getfield 9, 3, 5, 0, 0, [(0, 304)]),
  (34, .iconst 1, 1, 0, 0, 1, []),
  (35, .iadd, 1, 0, 0, 0, []),
  (36, .putfield 9, 3, 5, 0, 0, [(0, 304)]),
  (39, .iinc 4 1, 3, 4, 0, 1, []),
  (42, .goto (-32), 3, 10, 0, 0, []),
  (45, .iload_n 2, 1, 2, 0, 0, []),
  (46, .istore_n 3, 1, 3, 0, 0, []),
  (47, .aload_n 0, 1, 0, 0, 0, []),
  (48, .getfield 9, 3, 5, 0, 0, [(0, 304)]),
  (51, .iconst 1, 1, 0, 0, 1, []),
  (52, .isub, 1, 0, 0, 0, []),
  (53, .istore 4, 2, 4, 0, 0, []),
  (55, .iload 4, 2, 4, 0, 0, []),
  (57, .ifCond .lt 29, 3, 86, 0, 0, []),
  (60, .aload_n 0, 1, 0, 0, 0, []),
  (61, .getfield 15, 3, 5, 1, 0, [(0, 305)]),
  (64, .iload 4, 2, 4, 0, 0, []),
  (66, .aload_n 0, 1, 0, 0, 0, []),
  (67, .getfield 22, 3, 5, 3, 0, [(0, 307)]),
  (70, .iload_n 3, 1, 3, 0, 0, []),
  (71, .iaload, 1, 0, 0, 0, []),
  (72, .iastore, 1, 0, 0, 0, []),
  (73, .aload_n 0, 1, 0, 0, 0, []),
  (74, .getfield 19, 3, 5, 2, 0, [(0, 306)]),
  (77, .iload_n 3, 1, 3, 0, 0, []),
  (78, .iaload, 1, 0, 0, 0, []),
  (79, .istore_n 3, 1, 3, 0, 0, []),
  (80, .iinc 4 (-1), 3, 4, 0, (-1), []),
  (83, .goto (-28), 3, 55, 0, 0, []),
  (86, .return_, 1, 0, 0, 0, [])]
/-- NamedToWed$Row.tell(I)I -/
def cd_111 : Cod := [(0, .iload_n 1, 1, 1, 0, 0, []),
  (1, .bipush 100, 2, 0, 0, 100, []),
  (3, .if_icmp .ne 8, 3, 11, 0, 0, []),
  (6, .aload_n 0, 1, 0, 0, 0, []),
  (7, .getfield 9, 3, 5, 0, 0, [(0, 304)]),
  (10, .ireturn, 1, 0, 0, 0, []),
  (11, .iload_n 1, 1, 1, 0, 0, []),
  (12, .ifCond .lt 24, 3, 36, 0, 0, []),
  (15, .iload_n 1, 1, 1, 0, 0, []),
  (16, .aload_n 0, 1, 0, 0, 0, []),
  (17, .getfield 9, 3, 5, 0, 0, [(0, 304)]),
  (20, .if_icmp .ge 16, 3, 36, 0, 0, []),
  (23, .getstatic 41, 3, 1, 1, 1, [(0, 6)]),
  (26, .aload_n 0, 1, 0, 0, 0, []),
  (27, .getfield 15, 3, 5, 1, 0, [(0, 305)]),
  (30, .iload_n 1, 1, 1, 0, 0, []),
  (31, .iaload, 1, 0, 0, 0, []),
  (32, .caload, 1, 0, 0, 0, []),
  (33, .goto 5, 3, 38, 0, 0, []),
  (36, .bipush (-4), 2, 0, 0, (-4), []),
  (38, .ireturn, 1, 0, 0, 0, [])]
/-- NamedToWed.cousin(I)I -/
def cd_112 : Cod := [(0, .aload_n 0, 1, 0, 0, 0, []),
  (1, .getfield 19, 3, 10, 1, 0, [(0, 374)]),
  (4, .getfield 155, 3, 6, 0, 0, [(0, 204)]),
  (7, .ifCond .eq 12, 3, 19, 0, 0, []),
  (10, .iload_n 1, 1, 1, 0, 0, []),
  (11, .bipush 100, 2, 0, 0, 100, []),
  (13, .invokestatic 201, 3, 106, 2, 0, [(0, 736)]),
  (16, .ifCond .ne 5, 3, 21, 0, 0, []),
  (19, .iconst (-1), 1, 0, 0, (-1), []),
  (20, .ireturn, 1, 0, 0, 0, []),
  (21, .aload_n 0, 1, 0, 0, 0, []),
  (22, .getfield 59, 3, 10, 9, 0, [(0, 382)]),
  (25, .aload_n 0, 1, 0, 0, 0, []),
  (26, .getfield 19, 3, 10, 1, 0, [(0, 374)]),
  (29, .invokevirtual 212, 3, 113, 2, 0, [(0, 764)]),
  (32, .ifCond .eq 14, 3, 46, 0, 0, []),
  (35, .aload_n 0, 1, 0, 0, 0, []),
  (36, .getfield 59, 3, 10, 9, 0, [(0, 382)]),
  (39, .iload_n 1, 1, 1, 0, 0, []),
  (40, .invokevirtual 208, 3, 111, 2, 0, [(0, 756)]),
  (43, .goto 5, 3, 48, 0, 0, []),
  (46, .bipush (-2), 2, 0, 0, (-2), []),
  (48, .ireturn, 1, 0, 0, 0, [])]
/-- NamedToWed$Row.findCousin(LNamedToWed$Rule;)Z -/
def cd_113 : Cod := [(0, .iconst 0, 1, 0, 0, 0, []),
  (1, .istore_n 2, 1, 2, 0, 0, []),
  (2, .iload_n 2, 1, 2, 0, 0, []),
  (3, .bipush 8, 2, 0, 0, 8, []),
  (5, .if_icmp .ge 33, 3, 38, 0, 0, []),
  (8, .aload_n 1, 1, 1, 0, 0, []),
  (9, .bipush 6, 2, 0, 0, 6, []),
  (11, .iload_n 2, 1, 2, 0, 0, []),
  (12, .invokestatic 77, 3, 114, 3, 0, [(0, 768)]),
  (15, .ifCond .eq 17, 3, 32, 0, 0, []),
  (18, .aload_n 0, 1, 0, 0, 0, []),
  (19, .iconst 1, 1, 0, 0, 1, []),
  (20, .putfield 9, 3, 5, 0, 0, [(0, 304)]),
  (23, .aload_n 0, 1, 0, 0, 0, []),
  (24, .getfield 15, 3, 5, 1, 0, [(0, 305)]),
  (27, .iconst 0, 1, 0, 0, 0, []),
  (28, .iload_n 2, 1, 2, 0, 0, []),
  (29, .iastore, 1, 0, 0, 0, []),
  (30, .iconst 1, 1, 0, 0, 1, []),
  (31, .ireturn, 1, 1, 0, 0, []),
  (32, .iinc 2 1, 3, 2, 0, 1, []),
  (35, .goto (-33), 3, 2, 0, 0, []),
  (38, .iconst 0, 1, 0, 0, 0, []),
  (39, .istore_n 2, 1, 2, 0, 0, []),
  (40, .iload_n 2, 1, 2, 0, 0, []),
  (41, .bipush 64, 2, 0, 0, 64, []),
  (43, .if_icmp .ge 51, 3, 94, 0, 0, []),
  (46, .aload_n 1, 1, 1, 0, 0, []),
  (47, .iload_n 2, 1, 2, 0, 0, []),
  (48, .bipush 8, 2, 0, 0, 8, []),
  (50, .idiv, 1, 0, 0, 0, []),
  (51, .iload_n 2, 1, 2, 0, 0, []),
  (52, .bipush 8, 2, 0, 0, 8, []),
  (54, .irem, 1, 0, 0, 0, []),
  (55, .invokestatic 77, 3, 114, 3, 0, [(0, 768)]),
  (58, .ifCond .eq 30, 3, 88, 0, 0, []),
  (61, .aload_n 0, 1, 0, 0, 0, []),
  (62, .iconst 2, 1, 0, 0, 2, []),
  (63, .putfield 9, 3, 5, 0, 0, [(0, 304)]),
  (66, .aload_n 0, 1, 0, 0, 0, []),
  (67, .getfield 15, 3, 5, 1, 0, [(0, 305)]),
  (70, .iconst 0, 1, 0, 0, 0, []),
  (71, .iload_n 2, 1, 2, 0, 0, []),
  (72, .bipush 8, 2, 0, 0, 8, []),
  (74, .idiv, 1, 0, 0, 0, []),
  (75, .iastore, 1, 0, 0, 0, []),
  (76, .aload_n 0, 1, 0, 0, 0, []),
  (77, .getfield 15, 3, 5, 1, 0, [(0, 305)]),
  (80, .iconst 1, 1, 0, 0, 1, []),
  (81, .iload_n 2, 1, 2, 0, 0, []),
  (82, .bipush 8, 2, 0, 0, 8, []),
  (84, .irem, 1, 0, 0, 0, []),
  (85, .iastore, 1, 0, 0, 0, []),
  (86, .iconst 1, 1, 0, 0, 1, []),
  (87, .ireturn, 1, 1, 0, 0, []),
  (88, .iinc 2 1, 3, 2, 0, 1, []),
  (91, .goto (-51), 3, 40, 0, 0, []),
  (94, .iconst 0, 1, 0, 0, 0, []),
  (95, .ireturn, 1, 1, 0, 0, [])]
/-- NamedToWed$Row.isCousin(LNamedToWed$Rule;II)Z -/
def cd_114 : Cod := [(0, .iload_n 1, 1, 1, 0, 0, []),
  (1, .invokestatic 81, 3, 115, 1, 0, [(0, 771)]),
  (4, .ifCond .eq 22, 3, 26, 0, 0, []),
  (7, .iload_n 2, 1, 2, 0, 0, []),
  (8, .invokestatic 81, 3, 115, 1, 0, [(0, 771)]),
  (11, .ifCond .eq 15, 3, 26, 0, 0, []),
  (14, .iload_n 2, 1, 2, 0, 0, []),
  (15, .invokestatic 51, 3, 87, 1, 1, [(0, 749)]),
  (18, .iconst 1, 1, 0, 0, 1, []),
  (19, .if_icmp .ne 7, 3, 26, 0, 0, []),
  (22, .iconst 1, 1, 0, 0, 1, []),
  (23, .goto 4, 3, 27, 0, 0, []),
  (26, .iconst 0, 1, 0, 0, 0, []),
  (27, .istore_n 3, 1, 3, 0, 0, []),
  (28, .iconst 0, 1, 0, 0, 0, []),
  (29, .istore 4, 2, 4, 0, 0, []),
  (31, .iload 4, 2, 4, 0, 0, []),
  (33, .aload_n 0, 1, 0, 0, 0, []),
  (34, .getfield 85, 3, 6, 0, 0, [(0, 205)]),
  (37, .if_icmp .ge 50, 3, 87, 0, 0, []),
  (40, .iload_n 3, 1, 3, 0, 0, []),
  (41, .ifCond .eq 46, 3, 87, 0, 0, []),
  (44, .aload_n 0, 1, 0, 0, 0, []),
  (45, .iload_n 1, 1, 1, 0, 0, []),
  (46, .iconst 0, 1, 0, 0, 0, []),
  (47, .iload 4, 2, 4, 0, 0, []),
  (49, .invokevirtual 45, 3, 59, 4, 0, [(0, 748)]),
  (52, .istore 5, 2, 5, 0, 0, []),
  (54, .aload_n 0, 1, 0, 0, 0, []),
  (55, .iload_n 2, 1, 2, 0, 0, []),
  (56, .iload_n 1, 1, 1, 0, 0, []),
  (57, .invokestatic 51, 3, 87, 1, 1, [(0, 749)]),
  (60, .iload 5, 2, 5, 0, 0, []),
  (62, .invokevirtual 45, 3, 59, 4, 0, [(0, 748)]),
  (65, .aload_n 0, 1, 0, 0, 0, []),
  (66, .getfield 88, 3, 6, 1, 0, [(0, 211)]),
  (69, .iload 4, 2, 4, 0, 0, []),
  (71, .iaload, 1, 0, 0, 0, []),
  (72, .if_icmp .ne 7, 3, 79, 0, 0, []),
  (75, .iconst 1, 1, 0, 0, 1, []),
  (76, .goto 4, 3, 80, 0, 0, []),
  (79, .iconst 0, 1, 0, 0, 0, []),
  (80, .istore_n 3, 1, 3, 0, 0, []),
  (81, .iinc 4 1, 3, 4, 0, 1, []),
  (84, .goto (-53), 3, 31, 0, 0, []),
  (87, .iload_n 3, 1, 3, 0, 0, []),
  (88, .ireturn, 1, 1, 0, 0, [])]
/-- NamedToWed$Row.isBlood(I)Z -/
def cd_115 : Cod := [(0, .iload_n 0, 1, 0, 0, 0, []),
  (1, .iconst 2, 1, 0, 0, 2, []),
  (2, .if_icmp .eq 12, 3, 14, 0, 0, []),
  (5, .iload_n 0, 1, 0, 0, 0, []),
  (6, .iconst 3, 1, 0, 0, 3, []),
  (7, .if_icmp .eq 7, 3, 14, 0, 0, []),
  (10, .iconst 1, 1, 0, 0, 1, []),
  (11, .goto 4, 3, 15, 0, 0, []),
  (14, .iconst 0, 1, 0, 0, 0, []),
  (15, .ireturn, 1, 1, 0, 0, [])]
/-- NamedToWed.words(IIIII)J -/
def cd_116 : Cod := [(0, .aload_n 0, 1, 0, 0, 0, []),
  (1, .iload_n 2, 1, 2, 0, 0, []),
  (2, .invokevirtual 105, 3, 13, 2, 0, [(0, 395)]),
  (5, .ifCond .eq 31, 3, 36, 0, 0, []),
  (8, .iload_n 3, 1, 3, 0, 0, []),
  (9, .invokestatic 171, 3, 76, 1, 0, [(0, 625)]),
  (12, .ifCond .eq 24, 3, 36, 0, 0, []),
  (15, .aload_n 0, 1, 0, 0, 0, []),
  (16, .iload 4, 2, 4, 0, 0, []),
  (18, .invokevirtual 105, 3, 13, 2, 0, [(0, 395)]),
  (21, .ifCond .eq 15, 3, 36, 0, 0, []),
  (24, .iload 5, 2, 5, 0, 0, []),
  (26, .invokestatic 171, 3, 76, 1, 0, [(0, 625)]),
  (29, .ifCond .eq 7, 3, 36, 0, 0, []),
  (32, .iconst 1, 1, 0, 0, 1, []),
  (33, .goto 4, 3, 37, 0, 0, []),
  (36, .iconst 0, 1, 0, 0, 0, []),
  (37, .istore 6, 2, 6, 0, 0, []),
  (39, .iload 6, 2, 6, 0, 0, []),
  (41, .ifCond .eq 14, 3, 55, 0, 0, []),
  (44, .iload_n 1, 1, 1, 0, 0, []),
  (45, .iconst 1, 1, 0, 0, 1, []),
  (46, .if_icmp .lt 9, 3, 55, 0, 0, []),
  (49, .iload_n 1, 1, 1, 0, 0, []),
  (50, .bipush 20, 2, 0, 0, 20, []),
  (52, .if_icmp .le 7, 3, 59, 0, 0, []),
  (55, .ldc2_w 216, 3, 0, 1, (-1), [(0, 7)]),
  (58, .lreturn, 1, 0, 0, 0, []),
  (59, .aload_n 0, 1, 0, 0, 0, []),
  (60, .getfield 59, 3, 10, 9, 0, [(0, 382)]),
  (63, .aload_n 0, 1, 0, 0, 0, []),
  (64, .getfield 19, 3, 10, 1, 0, [(0, 374)]),
  (67, .iload_n 1, 1, 1, 0, 0, []),
  (68, .iconst 2, 1, 0, 0, 2, []),
  (69, .iload_n 2, 1, 2, 0, 0, []),
  (70, .imul, 1, 0, 0, 0, []),
  (71, .iload_n 3, 1, 3, 0, 0, []),
  (72, .iadd, 1, 0, 0, 0, []),
  (73, .iconst 2, 1, 0, 0, 2, []),
  (74, .iload 4, 2, 4, 0, 0, []),
  (76, .imul, 1, 0, 0, 0, []),
  (77, .iload 5, 2, 5, 0, 0, []),
  (79, .iadd, 1, 0, 0, 0, []),
  (80, .invokevirtual 218, 3, 117, 5, 0, [(0, 778)]),
  (83, .lreturn, 1, 0, 0, 0, [])]
/-- NamedToWed$Row.howMany(LNamedToWed$Rule;III)J -/
def cd_117 : Cod := [(0, .aload_n 0, 1, 0, 0, 0, []),
  (1, .getfield 34, 3, 5, 7, 0, [(0, 311)]),
  (4, .lconst 0, 1, 0, 0, 0, []),
  (5, .invokestatic 91, 3, 118, 2, 0, [(0, 782)]),
  (8, .aload_n 0, 1, 0, 0, 0, []),
  (9, .getfield 34, 3, 5, 7, 0, [(0, 311)]),
  (12, .iload_n 3, 1, 3, 0, 0, []),
  (13, .lconst 1, 1, 0, 0, 1, []),
  (14, .lastore, 1, 0, 0, 0, []),
  (15, .iconst 0, 1, 0, 0, 0, []),
  (16, .istore 5, 2, 5, 0, 0, []),
  (18, .iload 5, 2, 5, 0, 0, []),
  (20, .iload_n 2, 1, 2, 0, 0, []),
  (21, .if_icmp .ge 14, 3, 35, 0, 0, []),
  (24, .aload_n 0, 1, 0, 0, 0, []),
  (25, .aload_n 1, 1, 1, 0, 0, []),
  (26, .invokevirtual 94, 3, 119, 2, 0, [(0, 785)]),
  (29, .iinc 5 1, 3, 5, 0, 1, []),
  (32, .goto (-14), 3, 18, 0, 0, []),
  (35, .aload_n 0, 1, 0, 0, 0, []),
  (36, .getfield 34, 3, 5, 7, 0, [(0, 311)]),
  (39, .iload 4, 2, 4, 0, 0, []),
  (41, .laload, 1, 0, 0, 0, []),
  (42, .lreturn, 1, 0, 0, 0, [])]
/-- java/util/Arrays.fill([JJ)V -/
def cd_118 : Cod := [(0, .iconst 0, 1, 0, 0, 0, []),
  (1, .istore_n 3, 1, 3, 0, 0, []),
  (2, .aload_n 0, 1, 0, 0, 0, []),
  (3, .arraylength, 1, 0, 0, 0, []),
  (4, .istore 4, 2, 4, 0, 0, []),
  (6, .iload_n 3, 1, 3, 0, 0, []),
  (7, .iload 4, 2, 4, 0, 0, []),
  (9, .if_icmp .ge 13, 3, 22, 0, 0, []),
  (12, .aload_n 0, 1, 0, 0, 0, []),
  (13, .iload_n 3, 1, 3, 0, 0, []),
  (14, .lload_n 1, 1, 1, 0, 0, []),
  (15, .lastore, 1, 0, 0, 0, []),
  (16, .iinc 3 1, 3, 3, 0, 1, []),
  (19, .goto (-13), 3, 6, 0, 0, []),
  (22, .return_, 1, 0, 0, 0, [])]
/-- NamedToWed$Row.addOneStep(LNamedToWed$Rule;)V -/
def cd_119 : Cod := [(0, .aload_n 0, 1, 0, 0, 0, []),
  (1, .getfield 38, 3, 5, 8, 0, [(0, 312)]),
  (4, .lconst 0, 1, 0, 0, 0, []),
  (5, .invokestatic 91, 3, 118, 2, 0, [(0, 782)]),
  (8, .iconst 0, 1, 0, 0, 0, []),
  (9, .istore_n 2, 1, 2, 0, 0, []),
  (10, .iload_n 2, 1, 2, 0, 0, []),
  (11, .iconst 2, 1, 0, 0, 2, []),
  (12, .aload_n 1, 1, 1, 0, 0, []),
  (13, .getfield 85, 3, 6, 0, 0, [(0, 205)]),
  (16, .imul, 1, 0, 0, 0, []),
  (17, .if_icmp .ge 53, 3, 70, 0, 0, []),
  (20, .iconst 0, 1, 0, 0, 0, []),
  (21, .istore_n 3, 1, 3, 0, 0, []),
  (22, .iload_n 3, 1, 3, 0, 0, []),
  (23, .bipush 8, 2, 0, 0, 8, []),
  (25, .if_icmp .ge 39, 3, 64, 0, 0, []),
  (28, .iload_n 3, 1, 3, 0, 0, []),
  (29, .iload_n 2, 1, 2, 0, 0, []),
  (30, .iconst 1, 1, 0, 0, 1, []),
  (31, .iand, 1, 0, 0, 0, []),
  (32, .invokestatic 61, 3, 86, 2, 1, [(0, 744)]),
  (35, .ifCond .eq 23, 3, 58, 0, 0, []),
  (38, .aload_n 0, 1, 0, 0, 0, []),
  (39, .getfield 38, 3, 5, 8, 0, [(0, 312)]),
  (42, .aload_n 1, 1, 1, 0, 0, []),
  (43, .iload_n 3, 1, 3, 0, 0, []),
  (44, .iload_n 2, 1, 2, 0, 0, []),
  (45, .invokestatic 65, 3, 108, 3, 0, [(0, 745)]),
  (48, .dup2, 1, 0, 0, 0, []),
  (49, .laload, 1, 0, 0, 0, []),
  (50, .aload_n 0, 1, 0, 0, 0, []),
  (51, .getfield 34, 3, 5, 7, 0, [(0, 311)]),
  (54, .iload_n 2, 1, 2, 0, 0, []),
  (55, .laload, 1, 0, 0, 0, []),
  (56, .ladd, 1, 0, 0, 0, []),
  (57, .lastore, 1, 0, 0, 0, []),
  (58, .iinc 3 1, 3, 3, 0, 1, []),
  (61, .goto (-39), 3, 22, 0, 0, []),
  (64, .iinc 2 1, 3, 2, 0, 1, []),
  (67, .goto (-57), 3, 10, 0, 0, []),
  (70, .aload_n 0, 1, 0, 0, 0, []),
  (71, .getfield 34, 3, 5, 7, 0, [(0, 311)]),
  (74, .astore_n 2, 1, 2, 0, 0, []),
  (75, .aload_n 0, 1, 0, 0, 0, []),
  (76, .aload_n 0, 1, 0, 0, 0, []),
  (77, .getfield 38, 3, 5, 8, 0, [(0, 312)]),
  (80, .putfield 34, 3, 5, 7, 0, [(0, 311)]),
  (83, .aload_n 0, 1, 0, 0, 0, []),
  (84, .aload_n 2, 1, 2, 0, 0, []),
  (85, .putfield 38, 3, 5, 8, 0, [(0, 312)]),
  (88, .return_, 1, 0, 0, 0, [])]
/-- NamedToWed.allRules(III)I -/
def cd_120 : Cod := [(0, .iload_n 1, 1, 1, 0, 0, []),
  (1, .iconst 2, 1, 0, 0, 2, []),
  (2, .if_icmp .lt 21, 3, 23, 0, 0, []),
  (5, .iload_n 1, 1, 1, 0, 0, []),
  (6, .iconst 5, 1, 0, 0, 5, []),
  (7, .if_icmp .gt 16, 3, 23, 0, 0, []),
  (10, .iload_n 3, 1, 3, 0, 0, []),
  (11, .ifCond .eq 8, 3, 19, 0, 0, []),
  (14, .iload_n 3, 1, 3, 0, 0, []),
  (15, .iconst 1, 1, 0, 0, 1, []),
  (16, .if_icmp .ne 7, 3, 23, 0, 0, []),
  (19, .iconst 1, 1, 0, 0, 1, []),
  (20, .goto 4, 3, 24, 0, 0, []),
  (23, .iconst 0, 1, 0, 0, 0, []),
  (24, .istore 4, 2, 4, 0, 0, []),
  (26, .iload 4, 2, 4, 0, 0, []),
  (28, .ifCond .eq 16, 3, 44, 0, 0, []),
  (31, .aload_n 0, 1, 0, 0, 0, []),
  (32, .getfield 10, 3, 10, 0, 0, [(0, 373)]),
  (35, .iload_n 2, 1, 2, 0, 0, []),
  (36, .bipush 40, 2, 0, 0, 40, []),
  (38, .invokevirtual 132, 3, 19, 3, 0, [(0, 418)]),
  (41, .ifCond .ne 5, 3, 46, 0, 0, []),
  (44, .iconst (-1), 1, 0, 0, (-1), []),
  (45, .ireturn, 1, 0, 0, 0, []),
  (46, .aload_n 0, 1, 0, 0, 0, []),
  (47, .getfield 10, 3, 10, 0, 0, [(0, 373)]),
  (50, .iconst 0, 1, 0, 0, 0, []),
  (51, .iload_n 2, 1, 2, 0, 0, []),
  (52, .invokevirtual 136, 3, 20, 3, 0, [(0, 422)]),
  (55, .aload_n 0, 1, 0, 0, 0, []),
  (56, .getfield 49, 3, 10, 7, 0, [(0, 380)]),
  (59, .aload_n 0, 1, 0, 0, 0, []),
  (60, .getfield 10, 3, 10, 0, 0, [(0, 373)]),
  (63, .iconst 0, 1, 0, 0, 0, []),
  (64, .invokevirtual 174, 3, 77, 3, 0, [(0, 628)]),
  (67, .istore 5, 2, 5, 0, 0, []),
  (69, .iload 5, 2, 5, 0, 0, []),
  (71, .ifCond .eq 6, 3, 77, 0, 0, []),
  (74, .iload 5, 2, 5, 0, 0, []),
  (76, .ireturn, 1, 0, 0, 0, []),
  (77, .aload_n 0, 1, 0, 0, 0, []),
  (78, .getfield 49, 3, 10, 7, 0, [(0, 380)]),
  (81, .invokevirtual 175, 3, 88, 1, 0, [(0, 666)]),
  (84, .iconst 1, 1, 0, 0, 1, []),
  (85, .if_icmp .ne 12, 3, 97, 0, 0, []),
  (88, .aload_n 0, 1, 0, 0, 0, []),
  (89, .iload_n 1, 1, 1, 0, 0, []),
  (90, .iload_n 3, 1, 3, 0, 0, []),
  (91, .invokevirtual 222, 3, 121, 3, 0, [(0, 792)]),
  (94, .goto 4, 3, 98, 0, 0, []),
  (97, .iconst 0, 1, 0, 0, 0, []),
  (98, .ireturn, 1, 0, 0, 0, [])]
/-- NamedToWed.rulesForWord(II)I -/
def cd_121 : Cod := [(0, .aload_n 0, 1, 0, 0, 0, []),
  (1, .getfield 23, 3, 10, 2, 0, [(0, 375)]),
  (4, .astore_n 3, 1, 3, 0, 0, []),
  (5, .aload_n 3, 1, 3, 0, 0, []),
  (6, .iload_n 1, 1, 1, 0, 0, []),
  (7, .putfield 155, 3, 6, 0, 0, [(0, 204)]),
  (10, .getstatic 226, 3, 2, 1, 0, [(0, 8)]),
  (13, .iload_n 1, 1, 1, 0, 0, []),
  (14, .iaload, 1, 0, 0, 0, []),
  (15, .istore 4, 2, 4, 0, 0, []),
  (17, .iconst 0, 1, 0, 0, 0, []),
  (18, .istore 5, 2, 5, 0, 0, []),
  (20, .iconst 0, 1, 0, 0, 0, []),
  (21, .istore 6, 2, 6, 0, 0, []),
  (23, .iload 6, 2, 6, 0, 0, []),
  (25, .iload 4, 2, 4, 0, 0, []),
  (27, .if_icmp .ge 86, 3, 113, 0, 0, []),
  (30, .iload 6, 2, 6, 0, 0, []),
  (32, .aload_n 3, 1, 3, 0, 0, []),
  (33, .getfield 229, 3, 6, 1, 0, [(0, 212)]),
  (36, .iload_n 1, 1, 1, 0, 0, []),
  (37, .invokestatic 232, 3, 101, 3, 0, [(0, 795)]),
  (40, .aload_n 3, 1, 3, 0, 0, []),
  (41, .invokevirtual 236, 3, 122, 1, 0, [(0, 796)]),
  (44, .ifCond .eq 6, 3, 50, 0, 0, []),
  (47, .goto 60, 3, 107, 0, 0, []),
  (50, .iconst 0, 1, 0, 0, 0, []),
  (51, .istore 7, 2, 7, 0, 0, []),
  (53, .iload 7, 2, 7, 0, 0, []),
  (55, .iload 4, 2, 4, 0, 0, []),
  (57, .if_icmp .ge 50, 3, 107, 0, 0, []),
  (60, .iload 7, 2, 7, 0, 0, []),
  (62, .aload_n 3, 1, 3, 0, 0, []),
  (63, .getfield 240, 3, 6, 3, 0, [(0, 218)]),
  (66, .iload_n 1, 1, 1, 0, 0, []),
  (67, .invokestatic 232, 3, 101, 3, 0, [(0, 795)]),
  (70, .aload_n 3, 1, 3, 0, 0, []),
  (71, .invokevirtual 243, 3, 46, 1, 0, [(0, 800)]),
  (74, .aload_n 0, 1, 0, 0, 0, []),
  (75, .getfield 49, 3, 10, 7, 0, [(0, 380)]),
  (78, .aload_n 3, 1, 3, 0, 0, []),
  (79, .iconst 0, 1, 0, 0, 0, []),
  (80, .invokevirtual 246, 3, 123, 3, 0, [(0, 801)]),
  (83, .ifCond .eq 18, 3, 101, 0, 0, []),
  (86, .iload_n 2, 1, 2, 0, 0, []),
  (87, .ifCond .eq 11, 3, 98, 0, 0, []),
  (90, .aload_n 0, 1, 0, 0, 0, []),
  (91, .aload_n 3, 1, 3, 0, 0, []),
  (92, .invokevirtual 250, 3, 124, 2, 0, [(0, 805)]),
  (95, .ifCond .eq 6, 3, 101, 0, 0, []),
  (98, .iinc 5 1, 3, 5, 0, 1, []),
  (101, .iinc 7 1, 3, 7, 0, 1, []),
  (104, .goto (-51), 3, 53, 0, 0, []),
  (107, .iinc 6 1, 3, 6, 0, 1, []),
  (110, .goto (-87), 3, 23, 0, 0, []),
  (113, .iload 5, 2, 5, 0, 0, []),
  (115, .ireturn, 1, 0, 0, 0, [])]
/-- NamedToWed$Rule.someWedsOwnName()Z -/
def cd_122 : Cod := [(0, .iconst 0, 1, 0, 0, 0, []),
  (1, .istore_n 1, 1, 1, 0, 0, []),
  (2, .iload_n 1, 1, 1, 0, 0, []),
  (3, .aload_n 0, 1, 0, 0, 0, []),
  (4, .getfield 9, 3, 6, 0, 0, [(0, 201)]),
  (7, .if_icmp .ge 21, 3, 28, 0, 0, []),
  (10, .aload_n 0, 1, 0, 0, 0, []),
  (11, .getfield 15, 3, 6, 1, 0, [(0, 208)]),
  (14, .iload_n 1, 1, 1, 0, 0, []),
  (15, .iaload, 1, 0, 0, 0, []),
  (16, .iload_n 1, 1, 1, 0, 0, []),
  (17, .if_icmp .ne 5, 3, 22, 0, 0, []),
  (20, .iconst 1, 1, 0, 0, 1, []),
  (21, .ireturn, 1, 1, 0, 0, []),
  (22, .iinc 1 1, 3, 1, 0, 1, []),
  (25, .goto (-23), 3, 2, 0, 0, []),
  (28, .iconst 0, 1, 0, 0, 0, []),
  (29, .ireturn, 1, 1, 0, 0, [])]
/-- NamedToWed$Word.alwaysLawful(LNamedToWed$Rule;I)Z -/
def cd_123 : Cod := [(0, .iconst 0, 1, 0, 0, 0, []),
  (1, .istore_n 3, 1, 3, 0, 0, []),
  (2, .iload_n 3, 1, 3, 0, 0, []),
  (3, .aload_n 1, 1, 1, 0, 0, []),
  (4, .getfield 102, 3, 6, 0, 0, [(0, 207)]),
  (7, .if_icmp .ge 21, 3, 28, 0, 0, []),
  (10, .aload_n 0, 1, 0, 0, 0, []),
  (11, .aload_n 1, 1, 1, 0, 0, []),
  (12, .iload_n 3, 1, 3, 0, 0, []),
  (13, .iload_n 2, 1, 2, 0, 0, []),
  (14, .invokevirtual 112, 3, 94, 4, 0, [(0, 690)]),
  (17, .ifCond .ne 5, 3, 22, 0, 0, []),
  (20, .iconst 0, 1, 0, 0, 0, []),
  (21, .ireturn, 1, 1, 0, 0, []),
  (22, .iinc 3 1, 3, 3, 0, 1, []),
  (25, .goto (-23), 3, 2, 0, 0, []),
  (28, .iconst 1, 1, 0, 0, 1, []),
  (29, .ireturn, 1, 1, 0, 0, [])]
/-- NamedToWed.isEvenAndOneSide(LNamedToWed$Rule;)Z -/
def cd_124 : Cod := [(0, .aload_n 0, 1, 0, 0, 0, []),
  (1, .getfield 66, 3, 10, 10, 0, [(0, 383)]),
  (4, .aload_n 1, 1, 1, 0, 0, []),
  (5, .invokevirtual 195, 3, 97, 2, 0, [(0, 705)]),
  (8, .iconst 1, 1, 0, 0, 1, []),
  (9, .if_icmp .ne 28, 3, 37, 0, 0, []),
  (12, .aload_n 0, 1, 0, 0, 0, []),
  (13, .getfield 66, 3, 10, 10, 0, [(0, 383)]),
  (16, .aload_n 1, 1, 1, 0, 0, []),
  (17, .aload_n 1, 1, 1, 0, 0, []),
  (18, .getfield 155, 3, 6, 0, 0, [(0, 204)]),
  (21, .iconst 1, 1, 0, 0, 1, []),
  (22, .iadd, 1, 0, 0, 0, []),
  (23, .invokevirtual 199, 3, 98, 3, 0, [(0, 710)]),
  (26, .aload_n 1, 1, 1, 0, 0, []),
  (27, .getfield 155, 3, 6, 0, 0, [(0, 204)]),
  (30, .if_icmp .ne 7, 3, 37, 0, 0, []),
  (33, .iconst 1, 1, 0, 0, 1, []),
  (34, .goto 4, 3, 38, 0, 0, []),
  (37, .iconst 0, 1, 0, 0, 0, []),
  (38, .ireturn, 1, 1, 0, 0, [])]
/-- NamedToWed.personIs(II)I -/
def cd_125 : Cod := [(0, .aload_n 0, 1, 0, 0, 0, []),
  (1, .getfield 29, 3, 10, 3, 0, [(0, 376)]),
  (4, .iload_n 1, 1, 1, 0, 0, []),
  (5, .invokevirtual 253, 3, 53, 2, 0, [(0, 812)]),
  (8, .ifCond .ne 5, 3, 13, 0, 0, []),
  (11, .iconst (-1), 1, 0, 0, (-1), []),
  (12, .ireturn, 1, 0, 0, 0, []),
  (13, .iload_n 2, 1, 2, 0, 0, []),
  (14, .tableswitch 151 0 8 #[50, 60, 73, 86, 99, 112, 122, 132, 142], 50, 165, 0, 0, [(0, 64), (1, 74), (2, 87), (3, 100), (4, 113), (5, 126), (6, 136), (7, 146), (8, 156)]),
  (64, .aload_n 0, 1, 0, 0, 0, []),
  (65, .getfield 29, 3, 10, 3, 0, [(0, 376)]),
  (68, .getfield 255, 3, 4, 1, 0, [(0, 234)]),
  (71, .iload_n 1, 1, 1, 0, 0, []),
  (72, .iaload, 1, 0, 0, 0, []),
  (73, .ireturn, 1, 0, 0, 0, []),
  (74, .aload_n 0, 1, 0, 0, 0, []),
  (75, .getfield 29, 3, 10, 3, 0, [(0, 376)]),
  (78, .getfield 258, 3, 4, 2, 0, [(0, 237)]),
  (81, .iload_n 1, 1, 1, 0, 0, []),
  (82, .iaload, 1, 0, 0, 0, []),
  (83, .invokestatic 261, 3, 126, 1, 0, [(0, 813)]),
  (86, .ireturn, 1, 0, 0, 0, []),
  (87, .aload_n 0, 1, 0, 0, 0, []),
  (88, .getfield 29, 3, 10, 3, 0, [(0, 376)]),
  (91, .getfield 264, 3, 4, 3, 0, [(0, 240)]),
  (94, .iload_n 1, 1, 1, 0, 0, []),
  (95, .iaload, 1, 0, 0, 0, []),
  (96, .invokestatic 261, 3, 126, 1, 0, [(0, 813)]),
  (99, .ireturn, 1, 0, 0, 0, []),
  (100, .aload_n 0, 1, 0, 0, 0, []),
  (101, .getfield 29, 3, 10, 3, 0, [(0, 376)]),
  (104, .getfield 267, 3, 4, 4, 0, [(0, 243)]),
  (107, .iload_n 1, 1, 1, 0, 0, []),
  (108, .iaload, 1, 0, 0, 0, []),
  (109, .invokestatic 261, 3, 126, 1, 0, [(0, 813)]),
  (112, .ireturn, 1, 0, 0, 0, []),
  (113, .aload_n 0, 1, 0, 0, 0, []),
  (114, .getfield 29, 3, 10, 3, 0, [(0, 376)]),
  (117, .getfield 270, 3, 4, 5, 0, [(0, 246)]),
  (120, .iload_n 1, 1, 1, 0, 0, []),
  (121, .iaload, 1, 0, 0, 0, []),
  (122, .invokestatic 261, 3, 126, 1, 0, [(0, 813)]),
  (125, .ireturn, 1, 0, 0, 0, []),
  (126, .aload_n 0, 1, 0, 0, 0, []),
  (127, .getfield 29, 3, 10, 3, 0, [(0, 376)]),
  (130, .getfield 273, 3, 4, 6, 0, [(0, 248)]),
  (133, .iload_n 1, 1, 1, 0, 0, []),
  (134, .iaload, 1, 0, 0, 0, []),
  (135, .ireturn, 1, 0, 0, 0, []),
  (136, .aload_n 0, 1, 0, 0, 0, []),
  (137, .getfield 29, 3, 10, 3, 0, [(0, 376)]),
  (140, .getfield 276, 3, 4, 7, 0, [(0, 250)]),
  (143, .iload_n 1, 1, 1, 0, 0, []),
  (144, .iaload, 1, 0, 0, 0, []),
  (145, .ireturn, 1, 0, 0, 0, []),
  (146, .aload_n 0, 1, 0, 0, 0, []),
  (147, .getfield 73, 3, 10, 11, 0, [(0, 384)]),
  (150, .getfield 279, 3, 1, 0, 0, [(0, 333)]),
  (153, .iload_n 1, 1, 1, 0, 0, []),
  (154, .iaload, 1, 0, 0, 0, []),
  (155, .ireturn, 1, 0, 0, 0, []),
  (156, .aload_n 0, 1, 0, 0, 0, []),
  (157, .getfield 73, 3, 10, 11, 0, [(0, 384)]),
  (160, .iload_n 1, 1, 1, 0, 0, []),
  (161, .invokevirtual 282, 3, 127, 2, 0, [(0, 816)]),
  (164, .ireturn, 1, 0, 0, 0, []),
  (165, .iconst (-1), 1, 0, 0, (-1), []),
  (166, .ireturn, 1, 0, 0, 0, [])]
/-- NamedToWed.orNothing(I)I -/
def cd_126 : Cod := [(0, .iload_n 0, 1, 0, 0, 0, []),
  (1, .ifCond .ge 8, 3, 9, 0, 0, []),
  (4, .bipush (-2), 2, 0, 0, (-2), []),
  (6, .goto 4, 3, 10, 0, 0, []),
  (9, .iload_n 0, 1, 0, 0, 0, []),
  (10, .ireturn, 1, 0, 0, 0, [])]
/-- NamedToWed$Houses.sureName(I)I -/
def cd_127 : Cod := [(0, .aload_n 0, 1, 0, 0, 0, []),
  (1, .getfield 9, 3, 1, 0, 0, [(0, 332)]),
  (4, .iload_n 1, 1, 1, 0, 0, []),
  (5, .iaload, 1, 0, 0, 0, []),
  (6, .ifCond .ne 6, 3, 12, 0, 0, []),
  (9, .bipush (-3), 2, 0, 0, (-3), []),
  (11, .ireturn, 1, 0, 0, 0, []),
  (12, .aload_n 0, 1, 0, 0, 0, []),
  (13, .getfield 9, 3, 1, 0, 0, [(0, 332)]),
  (16, .iload_n 1, 1, 1, 0, 0, []),
  (17, .iaload, 1, 0, 0, 0, []),
  (18, .invokestatic 107, 3, 64, 1, 0, [(0, 576)]),
  (21, .iconst 1, 1, 0, 0, 1, []),
  (22, .if_icmp .ne 15, 3, 37, 0, 0, []),
  (25, .aload_n 0, 1, 0, 0, 0, []),
  (26, .getfield 9, 3, 1, 0, 0, [(0, 332)]),
  (29, .iload_n 1, 1, 1, 0, 0, []),
  (30, .iaload, 1, 0, 0, 0, []),
  (31, .invokestatic 113, 3, 128, 1, 1, [(0, 820)]),
  (34, .goto 5, 3, 39, 0, 0, []),
  (37, .bipush (-2), 2, 0, 0, (-2), []),
  (39, .ireturn, 1, 0, 0, 0, [])]
/-- NamedToWed.lowestOf(I)I -/
def cd_128 : Cod := [(0, .iconst 0, 1, 0, 0, 0, []),
  (1, .istore_n 1, 1, 1, 0, 0, []),
  (2, .bipush 31, 2, 0, 0, 31, []),
  (4, .istore_n 2, 1, 2, 0, 0, []),
  (5, .iload_n 2, 1, 2, 0, 0, []),
  (6, .ifCond .lt 19, 3, 25, 0, 0, []),
  (9, .iload_n 0, 1, 0, 0, 0, []),
  (10, .iload_n 2, 1, 2, 0, 0, []),
  (11, .ishr, 1, 0, 0, 0, []),
  (12, .iconst 1, 1, 0, 0, 1, []),
  (13, .iand, 1, 0, 0, 0, []),
  (14, .ifCond .eq 5, 3, 19, 0, 0, []),
  (17, .iload_n 2, 1, 2, 0, 0, []),
  (18, .istore_n 1, 1, 1, 0, 0, []),
  (19, .iinc 2 (-1), 3, 2, 0, (-1), []),
  (22, .goto (-17), 3, 5, 0, 0, []),
  (25, .iload_n 1, 1, 1, 0, 0, []),
  (26, .ireturn, 1, 0, 0, 0, [])]
/-- NamedToWed.houses(I)I -/
def cd_129 : Cod := [(0, .iload_n 1, 1, 1, 0, 0, []),
  (1, .tableswitch 74 0 2 #[27, 43, 59], 27, 75, 0, 0, [(0, 28), (1, 44), (2, 60)]),
  (28, .aload_n 0, 1, 0, 0, 0, []),
  (29, .getfield 73, 3, 10, 11, 0, [(0, 384)]),
  (32, .aload_n 0, 1, 0, 0, 0, []),
  (33, .getfield 29, 3, 10, 3, 0, [(0, 376)]),
  (36, .getfield 168, 3, 4, 0, 0, [(0, 230)]),
  (39, .iconst 0, 1, 0, 0, 0, []),
  (40, .invokevirtual 285, 3, 130, 3, 0, [(0, 827)]),
  (43, .ireturn, 1, 0, 0, 0, []),
  (44, .aload_n 0, 1, 0, 0, 0, []),
  (45, .getfield 73, 3, 10, 11, 0, [(0, 384)]),
  (48, .aload_n 0, 1, 0, 0, 0, []),
  (49, .getfield 29, 3, 10, 3, 0, [(0, 376)]),
  (52, .getfield 168, 3, 4, 0, 0, [(0, 230)]),
  (55, .iconst 1, 1, 0, 0, 1, []),
  (56, .invokevirtual 285, 3, 130, 3, 0, [(0, 827)]),
  (59, .ireturn, 1, 0, 0, 0, []),
  (60, .aload_n 0, 1, 0, 0, 0, []),
  (61, .getfield 73, 3, 10, 11, 0, [(0, 384)]),
  (64, .aload_n 0, 1, 0, 0, 0, []),
  (65, .getfield 29, 3, 10, 3, 0, [(0, 376)]),
  (68, .getfield 168, 3, 4, 0, 0, [(0, 230)]),
  (71, .invokevirtual 288, 3, 131, 2, 0, [(0, 831)]),
  (74, .ireturn, 1, 0, 0, 0, []),
  (75, .iconst (-1), 1, 0, 0, (-1), []),
  (76, .ireturn, 1, 0, 0, 0, [])]
/-- NamedToWed$Houses.howMany(IZ)I -/
def cd_130 : Cod := [(0, .iconst 0, 1, 0, 0, 0, []),
  (1, .istore_n 3, 1, 3, 0, 0, []),
  (2, .iconst 0, 1, 0, 0, 0, []),
  (3, .istore 4, 2, 4, 0, 0, []),
  (5, .iload 4, 2, 4, 0, 0, []),
  (7, .iload_n 1, 1, 1, 0, 0, []),
  (8, .if_icmp .ge 38, 3, 46, 0, 0, []),
  (11, .aload_n 0, 1, 0, 0, 0, []),
  (12, .getfield 15, 3, 1, 1, 0, [(0, 334)]),
  (15, .iload 4, 2, 4, 0, 0, []),
  (17, .iaload, 1, 0, 0, 0, []),
  (18, .iload 4, 2, 4, 0, 0, []),
  (20, .if_icmp .ne 20, 3, 40, 0, 0, []),
  (23, .iload_n 2, 1, 2, 0, 0, []),
  (24, .ifCond .eq 13, 3, 37, 0, 0, []),
  (27, .aload_n 0, 1, 0, 0, 0, []),
  (28, .getfield 9, 3, 1, 0, 0, [(0, 332)]),
  (31, .iload 4, 2, 4, 0, 0, []),
  (33, .iaload, 1, 0, 0, 0, []),
  (34, .ifCond .ne 6, 3, 40, 0, 0, []),
  (37, .iinc 3 1, 3, 3, 0, 1, []),
  (40, .iinc 4 1, 3, 4, 0, 1, []),
  (43, .goto (-38), 3, 5, 0, 0, []),
  (46, .iload_n 3, 1, 3, 0, 0, []),
  (47, .ireturn, 1, 0, 0, 0, [])]
/-- NamedToWed$Houses.wrongOnes(I)I -/
def cd_131 : Cod := [(0, .iconst 0, 1, 0, 0, 0, []),
  (1, .istore_n 2, 1, 2, 0, 0, []),
  (2, .iconst 0, 1, 0, 0, 0, []),
  (3, .istore_n 3, 1, 3, 0, 0, []),
  (4, .iload_n 3, 1, 3, 0, 0, []),
  (5, .iload_n 1, 1, 1, 0, 0, []),
  (6, .if_icmp .ge 24, 3, 30, 0, 0, []),
  (9, .aload_n 0, 1, 0, 0, 0, []),
  (10, .getfield 9, 3, 1, 0, 0, [(0, 332)]),
  (13, .iload_n 3, 1, 3, 0, 0, []),
  (14, .iaload, 1, 0, 0, 0, []),
  (15, .ifCond .ne 9, 3, 24, 0, 0, []),
  (18, .iload_n 2, 1, 2, 0, 0, []),
  (19, .iconst 1, 1, 0, 0, 1, []),
  (20, .iload_n 3, 1, 3, 0, 0, []),
  (21, .ishl, 1, 0, 0, 0, []),
  (22, .ior, 1, 0, 0, 0, []),
  (23, .istore_n 2, 1, 2, 0, 0, []),
  (24, .iinc 3 1, 3, 3, 0, 1, []),
  (27, .goto (-23), 3, 4, 0, 0, []),
  (30, .iload_n 2, 1, 2, 0, 0, []),
  (31, .ireturn, 1, 0, 0, 0, [])]
/-- NamedToWed.mended(I)I -/
def cd_132 : Cod := [(0, .iload_n 1, 1, 1, 0, 0, []),
  (1, .ifCond .eq 10, 3, 11, 0, 0, []),
  (4, .iload_n 1, 1, 1, 0, 0, []),
  (5, .iconst 1, 1, 0, 0, 1, []),
  (6, .if_icmp .eq 5, 3, 11, 0, 0, []),
  (9, .iconst (-1), 1, 0, 0, (-1), []),
  (10, .ireturn, 1, 0, 0, 0, []),
  (11, .aload_n 0, 1, 0, 0, 0, []),
  (12, .getfield 73, 3, 10, 11, 0, [(0, 384)]),
  (15, .aload_n 0, 1, 0, 0, 0, []),
  (16, .getfield 29, 3, 10, 3, 0, [(0, 376)]),
  (19, .getfield 168, 3, 4, 0, 0, [(0, 230)]),
  (22, .invokevirtual 291, 3, 133, 2, 0, [(0, 839)]),
  (25, .ifCond .ne 6, 3, 31, 0, 0, []),
  (28, .bipush (-2), 2, 0, 0, (-2), []),
  (30, .ireturn, 1, 0, 0, 0, []),
  (31, .aload_n 0, 1, 0, 0, 0, []),
  (32, .getfield 73, 3, 10, 11, 0, [(0, 384)]),
  (35, .aload_n 0, 1, 0, 0, 0, []),
  (36, .getfield 29, 3, 10, 3, 0, [(0, 376)]),
  (39, .getfield 168, 3, 4, 0, 0, [(0, 230)]),
  (42, .invokevirtual 294, 3, 134, 2, 0, [(0, 843)]),
  (45, .istore_n 2, 1, 2, 0, 0, []),
  (46, .iload_n 1, 1, 1, 0, 0, []),
  (47, .ifCond .ne 10, 3, 57, 0, 0, []),
  (50, .iload_n 2, 1, 2, 0, 0, []),
  (51, .invokestatic 297, 3, 64, 1, 0, [(0, 847)]),
  (54, .goto 4, 3, 58, 0, 0, []),
  (57, .iload_n 2, 1, 2, 0, 0, []),
  (58, .ireturn, 1, 0, 0, 0, [])]
/-- NamedToWed$Houses.canBeMended(I)Z -/
def cd_133 : Cod := [(0, .iconst 0, 1, 0, 0, 0, []),
  (1, .istore_n 2, 1, 2, 0, 0, []),
  (2, .iload_n 2, 1, 2, 0, 0, []),
  (3, .iload_n 1, 1, 1, 0, 0, []),
  (4, .if_icmp .ge 32, 3, 36, 0, 0, []),
  (7, .aload_n 0, 1, 0, 0, 0, []),
  (8, .getfield 15, 3, 1, 1, 0, [(0, 334)]),
  (11, .iload_n 2, 1, 2, 0, 0, []),
  (12, .iaload, 1, 0, 0, 0, []),
  (13, .iload_n 2, 1, 2, 0, 0, []),
  (14, .if_icmp .ne 16, 3, 30, 0, 0, []),
  (17, .aload_n 0, 1, 0, 0, 0, []),
  (18, .getfield 24, 3, 1, 4, 0, [(0, 337)]),
  (21, .iload_n 2, 1, 2, 0, 0, []),
  (22, .iaload, 1, 0, 0, 0, []),
  (23, .bipush 25, 2, 0, 0, 25, []),
  (25, .if_icmp .ne 5, 3, 30, 0, 0, []),
  (28, .iconst 0, 1, 0, 0, 0, []),
  (29, .ireturn, 1, 1, 0, 0, []),
  (30, .iinc 2 1, 3, 2, 0, 1, []),
  (33, .goto (-31), 3, 2, 0, 0, []),
  (36, .iconst 1, 1, 0, 0, 1, []),
  (37, .ireturn, 1, 1, 0, 0, [])]
/-- NamedToWed$Houses.goneNames(I)I -/
def cd_134 : Cod := [(0, .iconst 0, 1, 0, 0, 0, []),
  (1, .istore_n 2, 1, 2, 0, 0, []),
  (2, .iconst 0, 1, 0, 0, 0, []),
  (3, .istore_n 3, 1, 3, 0, 0, []),
  (4, .iload_n 3, 1, 3, 0, 0, []),
  (5, .iload_n 1, 1, 1, 0, 0, []),
  (6, .if_icmp .ge 28, 3, 34, 0, 0, []),
  (9, .aload_n 0, 1, 0, 0, 0, []),
  (10, .getfield 15, 3, 1, 1, 0, [(0, 334)]),
  (13, .iload_n 3, 1, 3, 0, 0, []),
  (14, .iaload, 1, 0, 0, 0, []),
  (15, .iload_n 3, 1, 3, 0, 0, []),
  (16, .if_icmp .ne 12, 3, 28, 0, 0, []),
  (19, .iload_n 2, 1, 2, 0, 0, []),
  (20, .aload_n 0, 1, 0, 0, 0, []),
  (21, .getfield 27, 3, 1, 5, 0, [(0, 338)]),
  (24, .iload_n 3, 1, 3, 0, 0, []),
  (25, .iaload, 1, 0, 0, 0, []),
  (26, .ior, 1, 0, 0, 0, []),
  (27, .istore_n 2, 1, 2, 0, 0, []),
  (28, .iinc 3 1, 3, 3, 0, 1, []),
  (31, .goto (-27), 3, 4, 0, 0, []),
  (34, .iload_n 2, 1, 2, 0, 0, []),
  (35, .ireturn, 1, 0, 0, 0, [])]
/-- NamedToWed.byTold(I)I -/
def cd_135 : Cod := [(0, .iload_n 1, 1, 1, 0, 0, []),
  (1, .ifCond .lt 8, 3, 9, 0, 0, []),
  (4, .iload_n 1, 1, 1, 0, 0, []),
  (5, .iconst 3, 1, 0, 0, 3, []),
  (6, .if_icmp .le 5, 3, 11, 0, 0, []),
  (9, .iconst (-1), 1, 0, 0, (-1), []),
  (10, .ireturn, 1, 0, 0, 0, []),
  (11, .iload_n 1, 1, 1, 0, 0, []),
  (12, .iconst 2, 1, 0, 0, 2, []),
  (13, .if_icmp .ge 17, 3, 30, 0, 0, []),
  (16, .aload_n 0, 1, 0, 0, 0, []),
  (17, .getfield 29, 3, 10, 3, 0, [(0, 376)]),
  (20, .aload_n 0, 1, 0, 0, 0, []),
  (21, .getfield 19, 3, 10, 1, 0, [(0, 374)]),
  (24, .invokevirtual 302, 3, 136, 2, 0, [(0, 852)]),
  (27, .goto 14, 3, 41, 0, 0, []),
  (30, .aload_n 0, 1, 0, 0, 0, []),
  (31, .getfield 29, 3, 10, 3, 0, [(0, 376)]),
  (34, .aload_n 0, 1, 0, 0, 0, []),
  (35, .getfield 19, 3, 10, 1, 0, [(0, 374)]),
  (38, .invokevirtual 305, 3, 137, 2, 0, [(0, 857)]),
  (41, .istore_n 2, 1, 2, 0, 0, []),
  (42, .iload_n 1, 1, 1, 0, 0, []),
  (43, .ifCond .eq 8, 3, 51, 0, 0, []),
  (46, .iload_n 1, 1, 1, 0, 0, []),
  (47, .iconst 2, 1, 0, 0, 2, []),
  (48, .if_icmp .ne 8, 3, 56, 0, 0, []),
  (51, .iload_n 2, 1, 2, 0, 0, []),
  (52, .invokestatic 297, 3, 64, 1, 0, [(0, 847)]),
  (55, .ireturn, 1, 0, 0, 0, []),
  (56, .iload_n 2, 1, 2, 0, 0, []),
  (57, .ifCond .ne 8, 3, 65, 0, 0, []),
  (60, .bipush (-2), 2, 0, 0, (-2), []),
  (62, .goto 7, 3, 69, 0, 0, []),
  (65, .iload_n 2, 1, 2, 0, 0, []),
  (66, .invokestatic 308, 3, 128, 1, 0, [(0, 861)]),
  (69, .ireturn, 1, 0, 0, 0, [])]
/-- NamedToWed$Roll.wrongWeddings(LNamedToWed$Rule;)I -/
def cd_136 : Cod := [(0, .iconst 0, 1, 0, 0, 0, []),
  (1, .istore_n 2, 1, 2, 0, 0, []),
  (2, .iconst 0, 1, 0, 0, 0, []),
  (3, .istore_n 3, 1, 3, 0, 0, []),
  (4, .iload_n 3, 1, 3, 0, 0, []),
  (5, .aload_n 0, 1, 0, 0, 0, []),
  (6, .getfield 9, 3, 4, 0, 0, [(0, 227)]),
  (9, .if_icmp .ge 74, 3, 83, 0, 0, []),
  (12, .aload_n 0, 1, 0, 0, 0, []),
  (13, .getfield 28, 3, 4, 5, 0, [(0, 244)]),
  (16, .iload_n 3, 1, 3, 0, 0, []),
  (17, .iaload, 1, 0, 0, 0, []),
  (18, .istore 4, 2, 4, 0, 0, []),
  (20, .iload 4, 2, 4, 0, 0, []),
  (22, .iload_n 3, 1, 3, 0, 0, []),
  (23, .if_icmp .le 54, 3, 77, 0, 0, []),
  (26, .aload_n 0, 1, 0, 0, 0, []),
  (27, .getfield 19, 3, 4, 2, 0, [(0, 235)]),
  (30, .iload_n 3, 1, 3, 0, 0, []),
  (31, .iaload, 1, 0, 0, 0, []),
  (32, .ifCond .lt 45, 3, 77, 0, 0, []),
  (35, .aload_n 0, 1, 0, 0, 0, []),
  (36, .getfield 19, 3, 4, 2, 0, [(0, 235)]),
  (39, .iload 4, 2, 4, 0, 0, []),
  (41, .iaload, 1, 0, 0, 0, []),
  (42, .ifCond .lt 35, 3, 77, 0, 0, []),
  (45, .aload_n 1, 1, 1, 0, 0, []),
  (46, .aload_n 0, 1, 0, 0, 0, []),
  (47, .getfield 15, 3, 4, 1, 0, [(0, 231)]),
  (50, .iload_n 3, 1, 3, 0, 0, []),
  (51, .iaload, 1, 0, 0, 0, []),
  (52, .aload_n 0, 1, 0, 0, 0, []),
  (53, .getfield 19, 3, 4, 2, 0, [(0, 235)]),
  (56, .iload_n 3, 1, 3, 0, 0, []),
  (57, .iaload, 1, 0, 0, 0, []),
  (58, .invokevirtual 109, 3, 60, 3, 0, [(0, 856)]),
  (61, .aload_n 0, 1, 0, 0, 0, []),
  (62, .getfield 19, 3, 4, 2, 0, [(0, 235)]),
  (65, .iload 4, 2, 4, 0, 0, []),
  (67, .iaload, 1, 0, 0, 0, []),
  (68, .if_icmp .eq 9, 3, 77, 0, 0, []),
  (71, .iload_n 2, 1, 2, 0, 0, []),
  (72, .iconst 1, 1, 0, 0, 1, []),
  (73, .iload_n 3, 1, 3, 0, 0, []),
  (74, .ishl, 1, 0, 0, 0, []),
  (75, .ior, 1, 0, 0, 0, []),
  (76, .istore_n 2, 1, 2, 0, 0, []),
  (77, .iinc 3 1, 3, 3, 0, 1, []),
  (80, .goto (-76), 3, 4, 0, 0, []),
  (83, .iload_n 2, 1, 2, 0, 0, []),
  (84, .ireturn, 1, 0, 0, 0, [])]
/-- NamedToWed$Roll.wrongChildren(LNamedToWed$Rule;)I -/
def cd_137 : Cod := [(0, .iconst 0, 1, 0, 0, 0, []),
  (1, .istore_n 2, 1, 2, 0, 0, []),
  (2, .iconst 0, 1, 0, 0, 0, []),
  (3, .istore_n 3, 1, 3, 0, 0, []),
  (4, .iload_n 3, 1, 3, 0, 0, []),
  (5, .aload_n 0, 1, 0, 0, 0, []),
  (6, .getfield 9, 3, 4, 0, 0, [(0, 227)]),
  (9, .if_icmp .ge 68, 3, 77, 0, 0, []),
  (12, .aload_n 0, 1, 0, 0, 0, []),
  (13, .getfield 25, 3, 4, 4, 0, [(0, 241)]),
  (16, .iload_n 3, 1, 3, 0, 0, []),
  (17, .iaload, 1, 0, 0, 0, []),
  (18, .istore 4, 2, 4, 0, 0, []),
  (20, .iload 4, 2, 4, 0, 0, []),
  (22, .ifCond .lt 49, 3, 71, 0, 0, []),
  (25, .aload_n 0, 1, 0, 0, 0, []),
  (26, .getfield 19, 3, 4, 2, 0, [(0, 235)]),
  (29, .iload_n 3, 1, 3, 0, 0, []),
  (30, .iaload, 1, 0, 0, 0, []),
  (31, .ifCond .lt 40, 3, 71, 0, 0, []),
  (34, .aload_n 0, 1, 0, 0, 0, []),
  (35, .getfield 19, 3, 4, 2, 0, [(0, 235)]),
  (38, .iload 4, 2, 4, 0, 0, []),
  (40, .iaload, 1, 0, 0, 0, []),
  (41, .ifCond .lt 30, 3, 71, 0, 0, []),
  (44, .aload_n 1, 1, 1, 0, 0, []),
  (45, .getfield 114, 3, 6, 3, 0, [(0, 219)]),
  (48, .aload_n 0, 1, 0, 0, 0, []),
  (49, .getfield 19, 3, 4, 2, 0, [(0, 235)]),
  (52, .iload 4, 2, 4, 0, 0, []),
  (54, .iaload, 1, 0, 0, 0, []),
  (55, .iaload, 1, 0, 0, 0, []),
  (56, .aload_n 0, 1, 0, 0, 0, []),
  (57, .getfield 19, 3, 4, 2, 0, [(0, 235)]),
  (60, .iload_n 3, 1, 3, 0, 0, []),
  (61, .iaload, 1, 0, 0, 0, []),
  (62, .if_icmp .eq 9, 3, 71, 0, 0, []),
  (65, .iload_n 2, 1, 2, 0, 0, []),
  (66, .iconst 1, 1, 0, 0, 1, []),
  (67, .iload_n 3, 1, 3, 0, 0, []),
  (68, .ishl, 1, 0, 0, 0, []),
  (69, .ior, 1, 0, 0, 0, []),
  (70, .istore_n 2, 1, 2, 0, 0, []),
  (71, .iinc 3 1, 3, 3, 0, 1, []),
  (74, .goto (-70), 3, 4, 0, 0, []),
  (77, .iload_n 2, 1, 2, 0, 0, []),
  (78, .ireturn, 1, 0, 0, 0, [])]
/-- NamedToWed.whatIs(III)I -/
def cd_138 : Cod := [(0, .aload_n 0, 1, 0, 0, 0, []),
  (1, .getfield 29, 3, 10, 3, 0, [(0, 376)]),
  (4, .iload_n 1, 1, 1, 0, 0, []),
  (5, .invokevirtual 253, 3, 53, 2, 0, [(0, 812)]),
  (8, .ifCond .eq 23, 3, 31, 0, 0, []),
  (11, .aload_n 0, 1, 0, 0, 0, []),
  (12, .getfield 29, 3, 10, 3, 0, [(0, 376)]),
  (15, .iload_n 2, 1, 2, 0, 0, []),
  (16, .invokevirtual 253, 3, 53, 2, 0, [(0, 812)]),
  (19, .ifCond .eq 12, 3, 31, 0, 0, []),
  (22, .iload_n 3, 1, 3, 0, 0, []),
  (23, .bipush 24, 2, 0, 0, 24, []),
  (25, .invokestatic 201, 3, 106, 2, 0, [(0, 736)]),
  (28, .ifCond .ne 5, 3, 33, 0, 0, []),
  (31, .iconst (-1), 1, 0, 0, (-1), []),
  (32, .ireturn, 1, 0, 0, 0, []),
  (33, .aload_n 0, 1, 0, 0, 0, []),
  (34, .getfield 59, 3, 10, 9, 0, [(0, 382)]),
  (37, .aload_n 0, 1, 0, 0, 0, []),
  (38, .getfield 29, 3, 10, 3, 0, [(0, 376)]),
  (41, .iload_n 1, 1, 1, 0, 0, []),
  (42, .iload_n 2, 1, 2, 0, 0, []),
  (43, .invokevirtual 311, 3, 139, 4, 0, [(0, 866)]),
  (46, .ifCond .eq 14, 3, 60, 0, 0, []),
  (49, .aload_n 0, 1, 0, 0, 0, []),
  (50, .getfield 59, 3, 10, 9, 0, [(0, 382)]),
  (53, .iload_n 3, 1, 3, 0, 0, []),
  (54, .invokevirtual 208, 3, 111, 2, 0, [(0, 756)]),
  (57, .goto 5, 3, 62, 0, 0, []),
  (60, .bipush (-2), 2, 0, 0, (-2), []),
  (62, .ireturn, 1, 0, 0, 0, [])]
/-- NamedToWed$Row.findOnPeople(LNamedToWed$Roll;II)Z -/
def cd_139 : Cod := [(0, .aload_n 0, 1, 0, 0, 0, []),
  (1, .aload_n 0, 1, 0, 0, 0, []),
  (2, .aload_n 1, 1, 1, 0, 0, []),
  (3, .iload_n 3, 1, 3, 0, 0, []),
  (4, .iload_n 2, 1, 2, 0, 0, []),
  (5, .invokevirtual 98, 3, 140, 4, 0, [(0, 870)]),
  (8, .putfield 9, 3, 5, 0, 0, [(0, 304)]),
  (11, .aload_n 0, 1, 0, 0, 0, []),
  (12, .getfield 9, 3, 5, 0, 0, [(0, 304)]),
  (15, .ifCond .ge 5, 3, 20, 0, 0, []),
  (18, .iconst 0, 1, 0, 0, 0, []),
  (19, .ireturn, 1, 1, 0, 0, []),
  (20, .iconst 1, 1, 0, 0, 1, []),
  (21, .iload_n 2, 1, 2, 0, 0, []),
  (22, .ishl, 1, 0, 0, 0, []),
  (23, .istore 4, 2, 4, 0, 0, []),
  (25, .iconst 0, 1, 0, 0, 0, []),
  (26, .istore 5, 2, 5, 0, 0, []),
  (28, .iload 5, 2, 5, 0, 0, []),
  (30, .aload_n 0, 1, 0, 0, 0, []),
  (31, .getfield 9, 3, 5, 0, 0, [(0, 304)]),
  (34, .if_icmp .ge 20, 3, 54, 0, 0, []),
  (37, .aload_n 0, 1, 0, 0, 0, []),
  (38, .aload_n 1, 1, 1, 0, 0, []),
  (39, .iload 4, 2, 4, 0, 0, []),
  (41, .iload 5, 2, 5, 0, 0, []),
  (43, .invokevirtual 102, 3, 143, 4, 0, [(0, 880)]),
  (46, .istore 4, 2, 4, 0, 0, []),
  (48, .iinc 5 1, 3, 5, 0, 1, []),
  (51, .goto (-23), 3, 28, 0, 0, []),
  (54, .iconst 1, 1, 0, 0, 1, []),
  (55, .ireturn, 1, 1, 0, 0, [])]
/-- NamedToWed$Row.layersFrom(LNamedToWed$Roll;II)I -/
def cd_140 : Cod := [(0, .iconst 1, 1, 0, 0, 1, []),
  (1, .iload_n 2, 1, 2, 0, 0, []),
  (2, .ishl, 1, 0, 0, 0, []),
  (3, .istore 4, 2, 4, 0, 0, []),
  (5, .aload_n 0, 1, 0, 0, 0, []),
  (6, .getfield 31, 3, 5, 6, 0, [(0, 310)]),
  (9, .iconst 0, 1, 0, 0, 0, []),
  (10, .iload 4, 2, 4, 0, 0, []),
  (12, .iastore, 1, 0, 0, 0, []),
  (13, .iconst 0, 1, 0, 0, 0, []),
  (14, .istore 5, 2, 5, 0, 0, []),
  (16, .iload 5, 2, 5, 0, 0, []),
  (18, .bipush 24, 2, 0, 0, 24, []),
  (20, .if_icmp .ge 86, 3, 106, 0, 0, []),
  (23, .aload_n 0, 1, 0, 0, 0, []),
  (24, .getfield 31, 3, 5, 6, 0, [(0, 310)]),
  (27, .iload 5, 2, 5, 0, 0, []),
  (29, .iaload, 1, 0, 0, 0, []),
  (30, .iload_n 3, 1, 3, 0, 0, []),
  (31, .ishr, 1, 0, 0, 0, []),
  (32, .iconst 1, 1, 0, 0, 1, []),
  (33, .iand, 1, 0, 0, 0, []),
  (34, .ifCond .eq 6, 3, 40, 0, 0, []),
  (37, .iload 5, 2, 5, 0, 0, []),
  (39, .ireturn, 1, 0, 0, 0, []),
  (40, .iconst 0, 1, 0, 0, 0, []),
  (41, .istore 6, 2, 6, 0, 0, []),
  (43, .iconst 0, 1, 0, 0, 0, []),
  (44, .istore 7, 2, 7, 0, 0, []),
  (46, .iload 7, 2, 7, 0, 0, []),
  (48, .bipush 8, 2, 0, 0, 8, []),
  (50, .if_icmp .ge 27, 3, 77, 0, 0, []),
  (53, .iload 6, 2, 6, 0, 0, []),
  (55, .aload_n 1, 1, 1, 0, 0, []),
  (56, .iload 7, 2, 7, 0, 0, []),
  (58, .aload_n 0, 1, 0, 0, 0, []),
  (59, .getfield 31, 3, 5, 6, 0, [(0, 310)]),
  (62, .iload 5, 2, 5, 0, 0, []),
  (64, .iaload, 1, 0, 0, 0, []),
  (65, .invokevirtual 105, 3, 141, 3, 0, [(0, 873)]),
  (68, .ior, 1, 0, 0, 0, []),
  (69, .istore 6, 2, 6, 0, 0, []),
  (71, .iinc 7 1, 3, 7, 0, 1, []),
  (74, .goto (-28), 3, 46, 0, 0, []),
  (77, .aload_n 0, 1, 0, 0, 0, []),
  (78, .getfield 31, 3, 5, 6, 0, [(0, 310)]),
  (81, .iload 5, 2, 5, 0, 0, []),
  (83, .iconst 1, 1, 0, 0, 1, []),
  (84, .iadd, 1, 0, 0, 0, []),
  (85, .iload 6, 2, 6, 0, 0, []),
  (87, .iload 4, 2, 4, 0, 0, []),
  (89, .iconst (-1), 1, 0, 0, (-1), []),
  (90, .ixor, 1, 0, 0, 0, []),
  (91, .iand, 1, 0, 0, 0, []),
  (92, .iastore, 1, 0, 0, 0, []),
  (93, .iload 4, 2, 4, 0, 0, []),
  (95, .iload 6, 2, 6, 0, 0, []),
  (97, .ior, 1, 0, 0, 0, []),
  (98, .istore 4, 2, 4, 0, 0, []),
  (100, .iinc 5 1, 3, 5, 0, 1, []),
  (103, .goto (-87), 3, 16, 0, 0, []),
  (106, .iconst (-1), 1, 0, 0, (-1), []),
  (107, .ireturn, 1, 0, 0, 0, [])]
/-- NamedToWed$Roll.relatedToAny(II)I -/
def cd_141 : Cod := [(0, .iconst 0, 1, 0, 0, 0, []),
  (1, .istore_n 3, 1, 3, 0, 0, []),
  (2, .iconst 0, 1, 0, 0, 0, []),
  (3, .istore 4, 2, 4, 0, 0, []),
  (5, .iload 4, 2, 4, 0, 0, []),
  (7, .aload_n 0, 1, 0, 0, 0, []),
  (8, .getfield 9, 3, 4, 0, 0, [(0, 227)]),
  (11, .if_icmp .ge 28, 3, 39, 0, 0, []),
  (14, .iload_n 2, 1, 2, 0, 0, []),
  (15, .iload 4, 2, 4, 0, 0, []),
  (17, .ishr, 1, 0, 0, 0, []),
  (18, .iconst 1, 1, 0, 0, 1, []),
  (19, .iand, 1, 0, 0, 0, []),
  (20, .ifCond .eq 13, 3, 33, 0, 0, []),
  (23, .iload_n 3, 1, 3, 0, 0, []),
  (24, .aload_n 0, 1, 0, 0, 0, []),
  (25, .iload_n 1, 1, 1, 0, 0, []),
  (26, .iload 4, 2, 4, 0, 0, []),
  (28, .invokevirtual 103, 3, 142, 3, 0, [(0, 877)]),
  (31, .ior, 1, 0, 0, 0, []),
  (32, .istore_n 3, 1, 3, 0, 0, []),
  (33, .iinc 4 1, 3, 4, 0, 1, []),
  (36, .goto (-31), 3, 5, 0, 0, []),
  (39, .iload_n 3, 1, 3, 0, 0, []),
  (40, .ireturn, 1, 0, 0, 0, [])]
/-- NamedToWed$Roll.related(II)I -/
def cd_142 : Cod := [(0, .iload_n 1, 1, 1, 0, 0, []),
  (1, .tableswitch 151 0 7 #[47, 57, 67, 82, 99, 111, 125, 137], 47, 152, 0, 0, [(0, 48), (1, 58), (2, 68), (3, 83), (4, 100), (5, 112), (6, 126), (7, 138)]),
  (48, .aload_n 0, 1, 0, 0, 0, []),
  (49, .getfield 22, 3, 4, 3, 0, [(0, 238)]),
  (52, .iload_n 2, 1, 2, 0, 0, []),
  (53, .iaload, 1, 0, 0, 0, []),
  (54, .invokestatic 96, 3, 73, 1, 0, [(0, 614)]),
  (57, .ireturn, 1, 0, 0, 0, []),
  (58, .aload_n 0, 1, 0, 0, 0, []),
  (59, .getfield 25, 3, 4, 4, 0, [(0, 241)]),
  (62, .iload_n 2, 1, 2, 0, 0, []),
  (63, .iaload, 1, 0, 0, 0, []),
  (64, .invokestatic 96, 3, 73, 1, 0, [(0, 614)]),
  (67, .ireturn, 1, 0, 0, 0, []),
  (68, .aload_n 0, 1, 0, 0, 0, []),
  (69, .getfield 28, 3, 4, 5, 0, [(0, 244)]),
  (72, .iload_n 2, 1, 2, 0, 0, []),
  (73, .iaload, 1, 0, 0, 0, []),
  (74, .invokestatic 96, 3, 73, 1, 0, [(0, 614)]),
  (77, .aload_n 0, 1, 0, 0, 0, []),
  (78, .getfield 37, 3, 4, 8, 0, [(0, 251)]),
  (81, .iand, 1, 0, 0, 0, []),
  (82, .ireturn, 1, 0, 0, 0, []),
  (83, .aload_n 0, 1, 0, 0, 0, []),
  (84, .getfield 28, 3, 4, 5, 0, [(0, 244)]),
  (87, .iload_n 2, 1, 2, 0, 0, []),
  (88, .iaload, 1, 0, 0, 0, []),
  (89, .invokestatic 96, 3, 73, 1, 0, [(0, 614)]),
  (92, .aload_n 0, 1, 0, 0, 0, []),
  (93, .getfield 37, 3, 4, 8, 0, [(0, 251)]),
  (96, .iconst (-1), 1, 0, 0, (-1), []),
  (97, .ixor, 1, 0, 0, 0, []),
  (98, .iand, 1, 0, 0, 0, []),
  (99, .ireturn, 1, 0, 0, 0, []),
  (100, .aload_n 0, 1, 0, 0, 0, []),
  (101, .getfield 31, 3, 4, 6, 0, [(0, 247)]),
  (104, .iload_n 2, 1, 2, 0, 0, []),
  (105, .iaload, 1, 0, 0, 0, []),
  (106, .aload_n 0, 1, 0, 0, 0, []),
  (107, .getfield 37, 3, 4, 8, 0, [(0, 251)]),
  (110, .iand, 1, 0, 0, 0, []),
  (111, .ireturn, 1, 0, 0, 0, []),
  (112, .aload_n 0, 1, 0, 0, 0, []),
  (113, .getfield 31, 3, 4, 6, 0, [(0, 247)]),
  (116, .iload_n 2, 1, 2, 0, 0, []),
  (117, .iaload, 1, 0, 0, 0, []),
  (118, .aload_n 0, 1, 0, 0, 0, []),
  (119, .getfield 37, 3, 4, 8, 0, [(0, 251)]),
  (122, .iconst (-1), 1, 0, 0, (-1), []),
  (123, .ixor, 1, 0, 0, 0, []),
  (124, .iand, 1, 0, 0, 0, []),
  (125, .ireturn, 1, 0, 0, 0, []),
  (126, .aload_n 0, 1, 0, 0, 0, []),
  (127, .getfield 34, 3, 4, 7, 0, [(0, 249)]),
  (130, .iload_n 2, 1, 2, 0, 0, []),
  (131, .iaload, 1, 0, 0, 0, []),
  (132, .aload_n 0, 1, 0, 0, 0, []),
  (133, .getfield 37, 3, 4, 8, 0, [(0, 251)]),
  (136, .iand, 1, 0, 0, 0, []),
  (137, .ireturn, 1, 0, 0, 0, []),
  (138, .aload_n 0, 1, 0, 0, 0, []),
  (139, .getfield 34, 3, 4, 7, 0, [(0, 249)]),
  (142, .iload_n 2, 1, 2, 0, 0, []),
  (143, .iaload, 1, 0, 0, 0, []),
  (144, .aload_n 0, 1, 0, 0, 0, []),
  (145, .getfield 37, 3, 4, 8, 0, [(0, 251)]),
  (148, .iconst (-1), 1, 0, 0, (-1), []),
  (149, .ixor, 1, 0, 0, 0, []),
  (150, .iand, 1, 0, 0, 0, []),
  (151, .ireturn, 1, 0, 0, 0, []),
  (152, .iconst 0, 1, 0, 0, 0, []),
  (153, .ireturn, 1, 0, 0, 0, [])]
/-- NamedToWed$Row.leastStep(LNamedToWed$Roll;II)I -/
def cd_143 : Cod := [(0, .aload_n 0, 1, 0, 0, 0, []),
  (1, .getfield 31, 3, 5, 6, 0, [(0, 310)]),
  (4, .aload_n 0, 1, 0, 0, 0, []),
  (5, .getfield 9, 3, 5, 0, 0, [(0, 304)]),
  (8, .iload_n 3, 1, 3, 0, 0, []),
  (9, .isub, 1, 0, 0, 0, []),
  (10, .iconst 1, 1, 0, 0, 1, []),
  (11, .isub, 1, 0, 0, 0, []),
  (12, .iaload, 1, 0, 0, 0, []),
  (13, .istore 4, 2, 4, 0, 0, []),
  (15, .iconst 0, 1, 0, 0, 0, []),
  (16, .istore 5, 2, 5, 0, 0, []),
  (18, .iload 5, 2, 5, 0, 0, []),
  (20, .bipush 8, 2, 0, 0, 8, []),
  (22, .if_icmp .ge 37, 3, 59, 0, 0, []),
  (25, .aload_n 1, 1, 1, 0, 0, []),
  (26, .iload 5, 2, 5, 0, 0, []),
  (28, .iload_n 2, 1, 2, 0, 0, []),
  (29, .invokevirtual 105, 3, 141, 3, 0, [(0, 873)]),
  (32, .iload 4, 2, 4, 0, 0, []),
  (34, .iand, 1, 0, 0, 0, []),
  (35, .istore 6, 2, 6, 0, 0, []),
  (37, .iload 6, 2, 6, 0, 0, []),
  (39, .ifCond .eq 14, 3, 53, 0, 0, []),
  (42, .aload_n 0, 1, 0, 0, 0, []),
  (43, .getfield 15, 3, 5, 1, 0, [(0, 305)]),
  (46, .iload_n 3, 1, 3, 0, 0, []),
  (47, .iload 5, 2, 5, 0, 0, []),
  (49, .iastore, 1, 0, 0, 0, []),
  (50, .iload 6, 2, 6, 0, 0, []),
  (52, .ireturn, 1, 0, 0, 0, []),
  (53, .iinc 5 1, 3, 5, 0, 1, []),
  (56, .goto (-38), 3, 18, 0, 0, []),
  (59, .iconst 0, 1, 0, 0, 0, []),
  (60, .ireturn, 1, 0, 0, 0, [])]
/-- NamedToWed.those(II)I -/
def cd_144 : Cod := [(0, .aload_n 0, 1, 0, 0, 0, []),
  (1, .getfield 29, 3, 10, 3, 0, [(0, 376)]),
  (4, .iload_n 1, 1, 1, 0, 0, []),
  (5, .invokevirtual 253, 3, 53, 2, 0, [(0, 812)]),
  (8, .ifCond .eq 16, 3, 24, 0, 0, []),
  (11, .aload_n 0, 1, 0, 0, 0, []),
  (12, .getfield 10, 3, 10, 0, 0, [(0, 373)]),
  (15, .iload_n 2, 1, 2, 0, 0, []),
  (16, .bipush 40, 2, 0, 0, 40, []),
  (18, .invokevirtual 132, 3, 19, 3, 0, [(0, 418)]),
  (21, .ifCond .ne 5, 3, 26, 0, 0, []),
  (24, .iconst (-1), 1, 0, 0, (-1), []),
  (25, .ireturn, 1, 0, 0, 0, []),
  (26, .aload_n 0, 1, 0, 0, 0, []),
  (27, .getfield 10, 3, 10, 0, 0, [(0, 373)]),
  (30, .iconst 0, 1, 0, 0, 0, []),
  (31, .iload_n 2, 1, 2, 0, 0, []),
  (32, .invokevirtual 136, 3, 20, 3, 0, [(0, 422)]),
  (35, .aload_n 0, 1, 0, 0, 0, []),
  (36, .getfield 49, 3, 10, 7, 0, [(0, 380)]),
  (39, .aload_n 0, 1, 0, 0, 0, []),
  (40, .getfield 10, 3, 10, 0, 0, [(0, 373)]),
  (43, .aload_n 0, 1, 0, 0, 0, []),
  (44, .getfield 29, 3, 10, 3, 0, [(0, 376)]),
  (47, .getfield 255, 3, 4, 1, 0, [(0, 234)]),
  (50, .iload_n 1, 1, 1, 0, 0, []),
  (51, .iaload, 1, 0, 0, 0, []),
  (52, .invokevirtual 174, 3, 77, 3, 0, [(0, 628)]),
  (55, .istore_n 3, 1, 3, 0, 0, []),
  (56, .iload_n 3, 1, 3, 0, 0, []),
  (57, .ifCond .eq 7, 3, 64, 0, 0, []),
  (60, .iload_n 3, 1, 3, 0, 0, []),
  (61, .goto 15, 3, 76, 0, 0, []),
  (64, .aload_n 0, 1, 0, 0, 0, []),
  (65, .getfield 49, 3, 10, 7, 0, [(0, 380)]),
  (68, .aload_n 0, 1, 0, 0, 0, []),
  (69, .getfield 29, 3, 10, 3, 0, [(0, 376)]),
  (72, .iload_n 1, 1, 1, 0, 0, []),
  (73, .invokevirtual 315, 3, 145, 3, 0, [(0, 887)]),
  (76, .ireturn, 1, 0, 0, 0, [])]
/-- NamedToWed$Word.leadOnRoll(LNamedToWed$Roll;I)I -/
def cd_145 : Cod := [(0, .iconst 1, 1, 0, 0, 1, []),
  (1, .iload_n 2, 1, 2, 0, 0, []),
  (2, .ishl, 1, 0, 0, 0, []),
  (3, .istore_n 3, 1, 3, 0, 0, []),
  (4, .iconst 0, 1, 0, 0, 0, []),
  (5, .istore 4, 2, 4, 0, 0, []),
  (7, .iload 4, 2, 4, 0, 0, []),
  (9, .aload_n 0, 1, 0, 0, 0, []),
  (10, .getfield 9, 3, 9, 0, 0, [(0, 288)]),
  (13, .if_icmp .ge 22, 3, 35, 0, 0, []),
  (16, .aload_n 1, 1, 1, 0, 0, []),
  (17, .aload_n 0, 1, 0, 0, 0, []),
  (18, .getfield 15, 3, 9, 1, 0, [(0, 290)]),
  (21, .iload 4, 2, 4, 0, 0, []),
  (23, .iaload, 1, 0, 0, 0, []),
  (24, .iload_n 3, 1, 3, 0, 0, []),
  (25, .invokevirtual 122, 3, 141, 3, 0, [(0, 891)]),
  (28, .istore_n 3, 1, 3, 0, 0, []),
  (29, .iinc 4 1, 3, 4, 0, 1, []),
  (32, .goto (-25), 3, 7, 0, 0, []),
  (35, .iload_n 3, 1, 3, 0, 0, []),
  (36, .ireturn, 1, 0, 0, 0, [])]
/-- NamedToWed.mayWed(I)I -/
def cd_146 : Cod := [(0, .aload_n 0, 1, 0, 0, 0, []),
  (1, .getfield 29, 3, 10, 3, 0, [(0, 376)]),
  (4, .iload_n 1, 1, 1, 0, 0, []),
  (5, .invokevirtual 253, 3, 53, 2, 0, [(0, 812)]),
  (8, .ifCond .eq 22, 3, 30, 0, 0, []),
  (11, .aload_n 0, 1, 0, 0, 0, []),
  (12, .getfield 73, 3, 10, 11, 0, [(0, 384)]),
  (15, .aload_n 0, 1, 0, 0, 0, []),
  (16, .getfield 19, 3, 10, 1, 0, [(0, 374)]),
  (19, .aload_n 0, 1, 0, 0, 0, []),
  (20, .getfield 29, 3, 10, 3, 0, [(0, 376)]),
  (23, .iload_n 1, 1, 1, 0, 0, []),
  (24, .invokevirtual 319, 3, 147, 4, 0, [(0, 896)]),
  (27, .goto 4, 3, 31, 0, 0, []),
  (30, .iconst (-1), 1, 0, 0, (-1), []),
  (31, .ireturn, 1, 0, 0, 0, [])]
/-- NamedToWed$Houses.suitable(LNamedToWed$Rule;LNamedToWed$Roll;I)I -/
def cd_147 : Cod := [(0, .aload_n 2, 1, 2, 0, 0, []),
  (1, .getfield 75, 3, 4, 5, 0, [(0, 245)]),
  (4, .iload_n 3, 1, 3, 0, 0, []),
  (5, .iaload, 1, 0, 0, 0, []),
  (6, .ifCond .lt 5, 3, 11, 0, 0, []),
  (9, .iconst 0, 1, 0, 0, 0, []),
  (10, .ireturn, 1, 0, 0, 0, []),
  (11, .aload_n 1, 1, 1, 0, 0, []),
  (12, .aload_n 2, 1, 2, 0, 0, []),
  (13, .getfield 90, 3, 4, 1, 0, [(0, 233)]),
  (16, .iload_n 3, 1, 3, 0, 0, []),
  (17, .iaload, 1, 0, 0, 0, []),
  (18, .aload_n 0, 1, 0, 0, 0, []),
  (19, .getfield 9, 3, 1, 0, 0, [(0, 332)]),
  (22, .iload_n 3, 1, 3, 0, 0, []),
  (23, .iaload, 1, 0, 0, 0, []),
  (24, .invokestatic 116, 3, 148, 3, 0, [(0, 900)]),
  (27, .istore 4, 2, 4, 0, 0, []),
  (29, .aload_n 2, 1, 2, 0, 0, []),
  (30, .iload_n 3, 1, 3, 0, 0, []),
  (31, .invokevirtual 120, 3, 149, 2, 0, [(0, 903)]),
  (34, .istore 5, 2, 5, 0, 0, []),
  (36, .iconst 0, 1, 0, 0, 0, []),
  (37, .istore 6, 2, 6, 0, 0, []),
  (39, .iconst 0, 1, 0, 0, 0, []),
  (40, .istore 7, 2, 7, 0, 0, []),
  (42, .iload 7, 2, 7, 0, 0, []),
  (44, .aload_n 2, 1, 2, 0, 0, []),
  (45, .getfield 60, 3, 4, 0, 0, [(0, 229)]),
  (48, .if_icmp .ge 79, 3, 127, 0, 0, []),
  (51, .aload_n 2, 1, 2, 0, 0, []),
  (52, .getfield 90, 3, 4, 1, 0, [(0, 233)]),
  (55, .iload 7, 2, 7, 0, 0, []),
  (57, .iaload, 1, 0, 0, 0, []),
  (58, .aload_n 2, 1, 2, 0, 0, []),
  (59, .getfield 90, 3, 4, 1, 0, [(0, 233)]),
  (62, .iload_n 3, 1, 3, 0, 0, []),
  (63, .iaload, 1, 0, 0, 0, []),
  (64, .if_icmp .eq 27, 3, 91, 0, 0, []),
  (67, .aload_n 2, 1, 2, 0, 0, []),
  (68, .getfield 75, 3, 4, 5, 0, [(0, 245)]),
  (71, .iload 7, 2, 7, 0, 0, []),
  (73, .iaload, 1, 0, 0, 0, []),
  (74, .ifCond .ge 17, 3, 91, 0, 0, []),
  (77, .iload 5, 2, 5, 0, 0, []),
  (79, .iload 7, 2, 7, 0, 0, []),
  (81, .ishr, 1, 0, 0, 0, []),
  (82, .iconst 1, 1, 0, 0, 1, []),
  (83, .iand, 1, 0, 0, 0, []),
  (84, .ifCond .ne 7, 3, 91, 0, 0, []),
  (87, .iconst 1, 1, 0, 0, 1, []),
  (88, .goto 4, 3, 92, 0, 0, []),
  (91, .iconst 0, 1, 0, 0, 0, []),
  (92, .istore 8, 2, 8, 0, 0, []),
  (94, .iload 8, 2, 8, 0, 0, []),
  (96, .ifCond .eq 25, 3, 121, 0, 0, []),
  (99, .aload_n 0, 1, 0, 0, 0, []),
  (100, .getfield 9, 3, 1, 0, 0, [(0, 332)]),
  (103, .iload 7, 2, 7, 0, 0, []),
  (105, .iaload, 1, 0, 0, 0, []),
  (106, .iload 4, 2, 4, 0, 0, []),
  (108, .iand, 1, 0, 0, 0, []),
  (109, .ifCond .eq 12, 3, 121, 0, 0, []),
  (112, .iload 6, 2, 6, 0, 0, []),
  (114, .iconst 1, 1, 0, 0, 1, []),
  (115, .iload 7, 2, 7, 0, 0, []),
  (117, .ishl, 1, 0, 0, 0, []),
  (118, .ior, 1, 0, 0, 0, []),
  (119, .istore 6, 2, 6, 0, 0, []),
  (121, .iinc 7 1, 3, 7, 0, 1, []),
  (124, .goto (-82), 3, 42, 0, 0, []),
  (127, .iload 6, 2, 6, 0, 0, []),
  (129, .ireturn, 1, 0, 0, 0, [])]
/-- NamedToWed$Houses.spouseNames(LNamedToWed$Rule;II)I -/
def cd_148 : Cod := [(0, .iconst 0, 1, 0, 0, 0, []),
  (1, .istore_n 3, 1, 3, 0, 0, []),
  (2, .iconst 0, 1, 0, 0, 0, []),
  (3, .istore 4, 2, 4, 0, 0, []),
  (5, .iload 4, 2, 4, 0, 0, []),
  (7, .aload_n 0, 1, 0, 0, 0, []),
  (8, .getfield 44, 3, 6, 0, 0, [(0, 202)]),
  (11, .if_icmp .ge 30, 3, 41, 0, 0, []),
  (14, .iload_n 2, 1, 2, 0, 0, []),
  (15, .iload 4, 2, 4, 0, 0, []),
  (17, .ishr, 1, 0, 0, 0, []),
  (18, .iconst 1, 1, 0, 0, 1, []),
  (19, .iand, 1, 0, 0, 0, []),
  (20, .ifCond .eq 15, 3, 35, 0, 0, []),
  (23, .iload_n 3, 1, 3, 0, 0, []),
  (24, .iconst 1, 1, 0, 0, 1, []),
  (25, .aload_n 0, 1, 0, 0, 0, []),
  (26, .iload_n 1, 1, 1, 0, 0, []),
  (27, .iload 4, 2, 4, 0, 0, []),
  (29, .invokevirtual 97, 3, 60, 3, 0, [(0, 563)]),
  (32, .ishl, 1, 0, 0, 0, []),
  (33, .ior, 1, 0, 0, 0, []),
  (34, .istore_n 3, 1, 3, 0, 0, []),
  (35, .iinc 4 1, 3, 4, 0, 1, []),
  (38, .goto (-33), 3, 5, 0, 0, []),
  (41, .iload_n 3, 1, 3, 0, 0, []),
  (42, .ireturn, 1, 0, 0, 0, [])]
/-- NamedToWed$Roll.nearTo(I)I -/
def cd_149 : Cod := [(0, .aload_n 0, 1, 0, 0, 0, []),
  (1, .getfield 22, 3, 4, 3, 0, [(0, 238)]),
  (4, .iload_n 1, 1, 1, 0, 0, []),
  (5, .iaload, 1, 0, 0, 0, []),
  (6, .invokestatic 96, 3, 73, 1, 0, [(0, 614)]),
  (9, .aload_n 0, 1, 0, 0, 0, []),
  (10, .getfield 25, 3, 4, 4, 0, [(0, 241)]),
  (13, .iload_n 1, 1, 1, 0, 0, []),
  (14, .iaload, 1, 0, 0, 0, []),
  (15, .invokestatic 96, 3, 73, 1, 0, [(0, 614)]),
  (18, .ior, 1, 0, 0, 0, []),
  (19, .aload_n 0, 1, 0, 0, 0, []),
  (20, .getfield 31, 3, 4, 6, 0, [(0, 247)]),
  (23, .iload_n 1, 1, 1, 0, 0, []),
  (24, .iaload, 1, 0, 0, 0, []),
  (25, .ior, 1, 0, 0, 0, []),
  (26, .aload_n 0, 1, 0, 0, 0, []),
  (27, .getfield 34, 3, 4, 7, 0, [(0, 249)]),
  (30, .iload_n 1, 1, 1, 0, 0, []),
  (31, .iaload, 1, 0, 0, 0, []),
  (32, .ior, 1, 0, 0, 0, []),
  (33, .ireturn, 1, 0, 0, 0, [])]
/-- NamedToWed.weddings()I -/
def cd_150 : Cod := [(0, .aload_n 0, 1, 0, 0, 0, []),
  (1, .getfield 80, 3, 10, 12, 0, [(0, 385)]),
  (4, .aload_n 0, 1, 0, 0, 0, []),
  (5, .getfield 19, 3, 10, 1, 0, [(0, 374)]),
  (8, .aload_n 0, 1, 0, 0, 0, []),
  (9, .getfield 29, 3, 10, 3, 0, [(0, 376)]),
  (12, .aload_n 0, 1, 0, 0, 0, []),
  (13, .getfield 73, 3, 10, 11, 0, [(0, 384)]),
  (16, .invokevirtual 323, 3, 151, 4, 0, [(0, 911)]),
  (19, .ireturn, 1, 0, 0, 0, [])]
/-- NamedToWed$Matches.most(LNamedToWed$Rule;LNamedToWed$Roll;LNamedToWed$Houses;)I -/
def cd_151 : Cod := [(0, .iconst 0, 1, 0, 0, 0, []),
  (1, .istore 4, 2, 4, 0, 0, []),
  (3, .iload 4, 2, 4, 0, 0, []),
  (5, .aload_n 2, 1, 2, 0, 0, []),
  (6, .getfield 24, 3, 4, 0, 0, [(0, 228)]),
  (9, .if_icmp .ge 32, 3, 41, 0, 0, []),
  (12, .aload_n 0, 1, 0, 0, 0, []),
  (13, .getfield 9, 3, 3, 0, 0, [(0, 346)]),
  (16, .iload 4, 2, 4, 0, 0, []),
  (18, .aload_n 3, 1, 3, 0, 0, []),
  (19, .aload_n 1, 1, 1, 0, 0, []),
  (20, .aload_n 2, 1, 2, 0, 0, []),
  (21, .iload 4, 2, 4, 0, 0, []),
  (23, .invokevirtual 30, 3, 147, 4, 0, [(0, 915)]),
  (26, .iastore, 1, 0, 0, 0, []),
  (27, .aload_n 0, 1, 0, 0, 0, []),
  (28, .getfield 15, 3, 3, 1, 0, [(0, 347)]),
  (31, .iload 4, 2, 4, 0, 0, []),
  (33, .iconst (-1), 1, 0, 0, (-1), []),
  (34, .iastore, 1, 0, 0, 0, []),
  (35, .iinc 4 1, 3, 4, 0, 1, []),
  (38, .goto (-35), 3, 3, 0, 0, []),
  (41, .iconst 0, 1, 0, 0, 0, []),
  (42, .istore 4, 2, 4, 0, 0, []),
  (44, .iconst 0, 1, 0, 0, 0, []),
  (45, .istore 5, 2, 5, 0, 0, []),
  (47, .iload 5, 2, 5, 0, 0, []),
  (49, .aload_n 2, 1, 2, 0, 0, []),
  (50, .getfield 24, 3, 4, 0, 0, [(0, 228)]),
  (53, .if_icmp .ge 35, 3, 88, 0, 0, []),
  (56, .aload_n 2, 1, 2, 0, 0, []),
  (57, .getfield 36, 3, 4, 1, 0, [(0, 232)]),
  (60, .iload 5, 2, 5, 0, 0, []),
  (62, .iaload, 1, 0, 0, 0, []),
  (63, .ifCond .ne 19, 3, 82, 0, 0, []),
  (66, .aload_n 0, 1, 0, 0, 0, []),
  (67, .iload 5, 2, 5, 0, 0, []),
  (69, .aload_n 2, 1, 2, 0, 0, []),
  (70, .getfield 24, 3, 4, 0, 0, [(0, 228)]),
  (73, .invokevirtual 39, 3, 152, 3, 0, [(0, 916)]),
  (76, .ifCond .eq 6, 3, 82, 0, 0, []),
  (79, .iinc 4 1, 3, 4, 0, 1, []),
  (82, .iinc 5 1, 3, 5, 0, 1, []),
  (85, .goto (-38), 3, 47, 0, 0, []),
  (88, .iload 4, 2, 4, 0, 0, []),
  (90, .ireturn, 1, 0, 0, 0, [])]
/-- NamedToWed$Matches.findFor(II)Z -/
def cd_152 : Cod := [(0, .iconst 0, 1, 0, 0, 0, []),
  (1, .istore_n 3, 1, 3, 0, 0, []),
  (2, .iconst 1, 1, 0, 0, 1, []),
  (3, .istore 4, 2, 4, 0, 0, []),
  (5, .aload_n 0, 1, 0, 0, 0, []),
  (6, .getfield 21, 3, 3, 3, 0, [(0, 349)]),
  (9, .iconst 0, 1, 0, 0, 0, []),
  (10, .iload_n 1, 1, 1, 0, 0, []),
  (11, .iastore, 1, 0, 0, 0, []),
  (12, .iconst 0, 1, 0, 0, 0, []),
  (13, .istore 5, 2, 5, 0, 0, []),
  (15, .iload 5, 2, 5, 0, 0, []),
  (17, .bipush 24, 2, 0, 0, 24, []),
  (19, .if_icmp .ge 121, 3, 140, 0, 0, []),
  (22, .iload 5, 2, 5, 0, 0, []),
  (24, .iload 4, 2, 4, 0, 0, []),
  (26, .if_icmp .ge 114, 3, 140, 0, 0, []),
  (29, .aload_n 0, 1, 0, 0, 0, []),
  (30, .getfield 21, 3, 3, 3, 0, [(0, 349)]),
  (33, .iload 5, 2, 5, 0, 0, []),
  (35, .iaload, 1, 0, 0, 0, []),
  (36, .istore 6, 2, 6, 0, 0, []),
  (38, .iconst 0, 1, 0, 0, 0, []),
  (39, .istore 7, 2, 7, 0, 0, []),
  (41, .iload 7, 2, 7, 0, 0, []),
  (43, .iload_n 2, 1, 2, 0, 0, []),
  (44, .if_icmp .ge 90, 3, 134, 0, 0, []),
  (47, .aload_n 0, 1, 0, 0, 0, []),
  (48, .getfield 9, 3, 3, 0, 0, [(0, 346)]),
  (51, .iload 6, 2, 6, 0, 0, []),
  (53, .iaload, 1, 0, 0, 0, []),
  (54, .iload_n 3, 1, 3, 0, 0, []),
  (55, .iconst (-1), 1, 0, 0, (-1), []),
  (56, .ixor, 1, 0, 0, 0, []),
  (57, .iand, 1, 0, 0, 0, []),
  (58, .iconst 1, 1, 0, 0, 1, []),
  (59, .iload 7, 2, 7, 0, 0, []),
  (61, .ishl, 1, 0, 0, 0, []),
  (62, .iand, 1, 0, 0, 0, []),
  (63, .ifCond .ne 6, 3, 69, 0, 0, []),
  (66, .goto 62, 3, 128, 0, 0, []),
  (69, .iload_n 3, 1, 3, 0, 0, []),
  (70, .iconst 1, 1, 0, 0, 1, []),
  (71, .iload 7, 2, 7, 0, 0, []),
  (73, .ishl, 1, 0, 0, 0, []),
  (74, .ior, 1, 0, 0, 0, []),
  (75, .istore_n 3, 1, 3, 0, 0, []),
  (76, .aload_n 0, 1, 0, 0, 0, []),
  (77, .getfield 18, 3, 3, 2, 0, [(0, 348)]),
  (80, .iload 7, 2, 7, 0, 0, []),
  (82, .iload 6, 2, 6, 0, 0, []),
  (84, .iastore, 1, 0, 0, 0, []),
  (85, .aload_n 0, 1, 0, 0, 0, []),
  (86, .getfield 15, 3, 3, 1, 0, [(0, 347)]),
  (89, .iload 7, 2, 7, 0, 0, []),
  (91, .iaload, 1, 0, 0, 0, []),
  (92, .iconst (-1), 1, 0, 0, (-1), []),
  (93, .if_icmp .ne 11, 3, 104, 0, 0, []),
  (96, .aload_n 0, 1, 0, 0, 0, []),
  (97, .iload 7, 2, 7, 0, 0, []),
  (99, .invokevirtual 43, 3, 153, 2, 0, [(0, 919)]),
  (102, .iconst 1, 1, 0, 0, 1, []),
  (103, .ireturn, 1, 1, 0, 0, []),
  (104, .iload 4, 2, 4, 0, 0, []),
  (106, .bipush 24, 2, 0, 0, 24, []),
  (108, .if_icmp .ge 20, 3, 128, 0, 0, []),
  (111, .aload_n 0, 1, 0, 0, 0, []),
  (112, .getfield 21, 3, 3, 3, 0, [(0, 349)]),
  (115, .iload 4, 2, 4, 0, 0, []),
  (117, .iinc 4 1, 3, 4, 0, 1, []),
  (120, .aload_n 0, 1, 0, 0, 0, []),
  (121, .getfield 15, 3, 3, 1, 0, [(0, 347)]),
  (124, .iload 7, 2, 7, 0, 0, []),
  (126, .iaload, 1, 0, 0, 0, []),
  (127, .iastore, 1, 0, 0, 0, []),
  (128, .iinc 7 1, 3, 7, 0, 1, []),
  (131, .goto (-90), 3, 41, 0, 0, []),
  (134, .iinc 5 1, 3, 5, 0, 1, []),
  (137, .goto (-122), 3, 15, 0, 0, []),
  (140, .iconst 0, 1, 0, 0, 0, []),
  (141, .ireturn, 1, 1, 0, 0, [])]
/-- NamedToWed$Matches.giveWay(I)V -/
def cd_153 : Cod := [(0, .iload_n 1, 1, 1, 0, 0, []),
  (1, .istore_n 2, 1, 2, 0, 0, []),
  (2, .iconst 0, 1, 0, 0, 0, []),
  (3, .istore_n 3, 1, 3, 0, 0, []),
  (4, .iload_n 3, 1, 3, 0, 0, []),
  (5, .bipush 24, 2, 0, 0, 24, []),
  (7, .if_icmp .ge 50, 3, 57, 0, 0, []),
  (10, .iload_n 2, 1, 2, 0, 0, []),
  (11, .iconst (-1), 1, 0, 0, (-1), []),
  (12, .if_icmp .eq 45, 3, 57, 0, 0, []),
  (15, .aload_n 0, 1, 0, 0, 0, []),
  (16, .getfield 18, 3, 3, 2, 0, [(0, 348)]),
  (19, .iload_n 2, 1, 2, 0, 0, []),
  (20, .iaload, 1, 0, 0, 0, []),
  (21, .istore 4, 2, 4, 0, 0, []),
  (23, .aload_n 0, 1, 0, 0, 0, []),
  (24, .getfield 15, 3, 3, 1, 0, [(0, 347)]),
  (27, .iload 4, 2, 4, 0, 0, []),
  (29, .iaload, 1, 0, 0, 0, []),
  (30, .istore 5, 2, 5, 0, 0, []),
  (32, .aload_n 0, 1, 0, 0, 0, []),
  (33, .getfield 15, 3, 3, 1, 0, [(0, 347)]),
  (36, .iload 4, 2, 4, 0, 0, []),
  (38, .iload_n 2, 1, 2, 0, 0, []),
  (39, .iastore, 1, 0, 0, 0, []),
  (40, .aload_n 0, 1, 0, 0, 0, []),
  (41, .getfield 15, 3, 3, 1, 0, [(0, 347)]),
  (44, .iload_n 2, 1, 2, 0, 0, []),
  (45, .iload 4, 2, 4, 0, 0, []),
  (47, .iastore, 1, 0, 0, 0, []),
  (48, .iload 5, 2, 5, 0, 0, []),
  (50, .istore_n 2, 1, 2, 0, 0, []),
  (51, .iinc 3 1, 3, 3, 0, 1, []),
  (54, .goto (-50), 3, 4, 0, 0, []),
  (57, .return_, 1, 0, 0, 0, [])]
/-- NamedToWed.line(II)I -/
def cd_154 : Cod := [(0, .aload_n 0, 1, 0, 0, 0, []),
  (1, .getfield 29, 3, 10, 3, 0, [(0, 376)]),
  (4, .iload_n 1, 1, 1, 0, 0, []),
  (5, .invokevirtual 253, 3, 53, 2, 0, [(0, 812)]),
  (8, .ifCond .ne 5, 3, 13, 0, 0, []),
  (11, .iconst (-1), 1, 0, 0, (-1), []),
  (12, .ireturn, 1, 0, 0, 0, []),
  (13, .iload_n 2, 1, 2, 0, 0, []),
  (14, .tableswitch 59 0 2 #[26, 38, 50], 26, 73, 0, 0, [(0, 40), (1, 52), (2, 64)]),
  (40, .aload_n 0, 1, 0, 0, 0, []),
  (41, .getfield 29, 3, 10, 3, 0, [(0, 376)]),
  (44, .iload_n 1, 1, 1, 0, 0, []),
  (45, .invokevirtual 327, 3, 155, 2, 0, [(0, 926)]),
  (48, .invokestatic 297, 3, 64, 1, 0, [(0, 847)]),
  (51, .ireturn, 1, 0, 0, 0, []),
  (52, .aload_n 0, 1, 0, 0, 0, []),
  (53, .getfield 29, 3, 10, 3, 0, [(0, 376)]),
  (56, .iload_n 1, 1, 1, 0, 0, []),
  (57, .invokevirtual 330, 3, 156, 2, 0, [(0, 930)]),
  (60, .invokestatic 297, 3, 64, 1, 0, [(0, 847)]),
  (63, .ireturn, 1, 0, 0, 0, []),
  (64, .aload_n 0, 1, 0, 0, 0, []),
  (65, .getfield 29, 3, 10, 3, 0, [(0, 376)]),
  (68, .iload_n 1, 1, 1, 0, 0, []),
  (69, .invokevirtual 333, 3, 157, 2, 0, [(0, 934)]),
  (72, .ireturn, 1, 0, 0, 0, []),
  (73, .iconst (-1), 1, 0, 0, (-1), []),
  (74, .ireturn, 1, 0, 0, 0, [])]
/-- NamedToWed$Roll.comeFrom(I)I -/
def cd_155 : Cod := [(0, .aload_n 0, 1, 0, 0, 0, []),
  (1, .getfield 31, 3, 4, 6, 0, [(0, 247)]),
  (4, .iload_n 1, 1, 1, 0, 0, []),
  (5, .iaload, 1, 0, 0, 0, []),
  (6, .istore_n 2, 1, 2, 0, 0, []),
  (7, .iload_n 1, 1, 1, 0, 0, []),
  (8, .iconst 1, 1, 0, 0, 1, []),
  (9, .iadd, 1, 0, 0, 0, []),
  (10, .istore_n 3, 1, 3, 0, 0, []),
  (11, .iload_n 3, 1, 3, 0, 0, []),
  (12, .aload_n 0, 1, 0, 0, 0, []),
  (13, .getfield 9, 3, 4, 0, 0, [(0, 227)]),
  (16, .if_icmp .ge 26, 3, 42, 0, 0, []),
  (19, .iload_n 2, 1, 2, 0, 0, []),
  (20, .iload_n 3, 1, 3, 0, 0, []),
  (21, .ishr, 1, 0, 0, 0, []),
  (22, .iconst 1, 1, 0, 0, 1, []),
  (23, .iand, 1, 0, 0, 0, []),
  (24, .ifCond .eq 12, 3, 36, 0, 0, []),
  (27, .iload_n 2, 1, 2, 0, 0, []),
  (28, .aload_n 0, 1, 0, 0, 0, []),
  (29, .getfield 31, 3, 4, 6, 0, [(0, 247)]),
  (32, .iload_n 3, 1, 3, 0, 0, []),
  (33, .iaload, 1, 0, 0, 0, []),
  (34, .ior, 1, 0, 0, 0, []),
  (35, .istore_n 2, 1, 2, 0, 0, []),
  (36, .iinc 3 1, 3, 3, 0, 1, []),
  (39, .goto (-28), 3, 11, 0, 0, []),
  (42, .iload_n 2, 1, 2, 0, 0, []),
  (43, .ireturn, 1, 0, 0, 0, [])]
/-- NamedToWed$Roll.aheadOf(I)I -/
def cd_156 : Cod := [(0, .aload_n 0, 1, 0, 0, 0, []),
  (1, .getfield 22, 3, 4, 3, 0, [(0, 238)]),
  (4, .iload_n 1, 1, 1, 0, 0, []),
  (5, .iaload, 1, 0, 0, 0, []),
  (6, .invokestatic 96, 3, 73, 1, 0, [(0, 614)]),
  (9, .aload_n 0, 1, 0, 0, 0, []),
  (10, .getfield 25, 3, 4, 4, 0, [(0, 241)]),
  (13, .iload_n 1, 1, 1, 0, 0, []),
  (14, .iaload, 1, 0, 0, 0, []),
  (15, .invokestatic 96, 3, 73, 1, 0, [(0, 614)]),
  (18, .ior, 1, 0, 0, 0, []),
  (19, .istore_n 2, 1, 2, 0, 0, []),
  (20, .iload_n 1, 1, 1, 0, 0, []),
  (21, .iconst 1, 1, 0, 0, 1, []),
  (22, .isub, 1, 0, 0, 0, []),
  (23, .istore_n 3, 1, 3, 0, 0, []),
  (24, .iload_n 3, 1, 3, 0, 0, []),
  (25, .ifCond .lt 39, 3, 64, 0, 0, []),
  (28, .iload_n 2, 1, 2, 0, 0, []),
  (29, .iload_n 3, 1, 3, 0, 0, []),
  (30, .ishr, 1, 0, 0, 0, []),
  (31, .iconst 1, 1, 0, 0, 1, []),
  (32, .iand, 1, 0, 0, 0, []),
  (33, .ifCond .eq 25, 3, 58, 0, 0, []),
  (36, .iload_n 2, 1, 2, 0, 0, []),
  (37, .aload_n 0, 1, 0, 0, 0, []),
  (38, .getfield 22, 3, 4, 3, 0, [(0, 238)]),
  (41, .iload_n 3, 1, 3, 0, 0, []),
  (42, .iaload, 1, 0, 0, 0, []),
  (43, .invokestatic 96, 3, 73, 1, 0, [(0, 614)]),
  (46, .aload_n 0, 1, 0, 0, 0, []),
  (47, .getfield 25, 3, 4, 4, 0, [(0, 241)]),
  (50, .iload_n 3, 1, 3, 0, 0, []),
  (51, .iaload, 1, 0, 0, 0, []),
  (52, .invokestatic 96, 3, 73, 1, 0, [(0, 614)]),
  (55, .ior, 1, 0, 0, 0, []),
  (56, .ior, 1, 0, 0, 0, []),
  (57, .istore_n 2, 1, 2, 0, 0, []),
  (58, .iinc 3 (-1), 3, 3, 0, (-1), []),
  (61, .goto (-37), 3, 24, 0, 0, []),
  (64, .iload_n 2, 1, 2, 0, 0, []),
  (65, .ireturn, 1, 0, 0, 0, [])]
/-- NamedToWed$Roll.generation(I)I -/
def cd_157 : Cod := [(0, .iconst 1, 1, 0, 0, 1, []),
  (1, .iload_n 1, 1, 1, 0, 0, []),
  (2, .ishl, 1, 0, 0, 0, []),
  (3, .istore_n 2, 1, 2, 0, 0, []),
  (4, .iconst 0, 1, 0, 0, 0, []),
  (5, .istore_n 3, 1, 3, 0, 0, []),
  (6, .iload_n 3, 1, 3, 0, 0, []),
  (7, .bipush 24, 2, 0, 0, 24, []),
  (9, .if_icmp .ge 29, 3, 38, 0, 0, []),
  (12, .aload_n 0, 1, 0, 0, 0, []),
  (13, .iconst 0, 1, 0, 0, 0, []),
  (14, .iload_n 2, 1, 2, 0, 0, []),
  (15, .invokevirtual 106, 3, 141, 3, 0, [(0, 938)]),
  (18, .aload_n 0, 1, 0, 0, 0, []),
  (19, .iconst 1, 1, 0, 0, 1, []),
  (20, .iload_n 2, 1, 2, 0, 0, []),
  (21, .invokevirtual 106, 3, 141, 3, 0, [(0, 938)]),
  (24, .ior, 1, 0, 0, 0, []),
  (25, .istore_n 2, 1, 2, 0, 0, []),
  (26, .iload_n 2, 1, 2, 0, 0, []),
  (27, .ifCond .ne 5, 3, 32, 0, 0, []),
  (30, .iload_n 3, 1, 3, 0, 0, []),
  (31, .ireturn, 1, 0, 0, 0, []),
  (32, .iinc 3 1, 3, 3, 0, 1, []),
  (35, .goto (-29), 3, 6, 0, 0, []),
  (38, .iconst 0, 1, 0, 0, 0, []),
  (39, .ireturn, 1, 0, 0, 0, [])]
/-- NamedToWed.years(I)I -/
def cd_158 : Cod := [(0, .iload_n 1, 1, 1, 0, 0, []),
  (1, .invokestatic 336, 3, 159, 1, 0, [(0, 943)]),
  (4, .ifCond .ne 5, 3, 9, 0, 0, []),
  (7, .iconst (-1), 1, 0, 0, (-1), []),
  (8, .ireturn, 1, 0, 0, 0, []),
  (9, .aload_n 0, 1, 0, 0, 0, []),
  (10, .getfield 87, 3, 10, 13, 0, [(0, 386)]),
  (13, .aload_n 0, 1, 0, 0, 0, []),
  (14, .getfield 19, 3, 10, 1, 0, [(0, 374)]),
  (17, .aload_n 0, 1, 0, 0, 0, []),
  (18, .getfield 39, 3, 10, 5, 0, [(0, 378)]),
  (21, .iload_n 1, 1, 1, 0, 0, []),
  (22, .invokevirtual 339, 3, 160, 4, 0, [(0, 946)]),
  (25, .aload_n 0, 1, 0, 0, 0, []),
  (26, .getfield 87, 3, 10, 13, 0, [(0, 386)]),
  (29, .getfield 343, 3, 8, 5, 0, [(0, 367)]),
  (32, .ireturn, 1, 0, 0, 0, [])]
/-- NamedToWed.isYears(I)Z -/
def cd_159 : Cod := [(0, .iload_n 0, 1, 0, 0, 0, []),
  (1, .iconst 1, 1, 0, 0, 1, []),
  (2, .if_icmp .lt 13, 3, 15, 0, 0, []),
  (5, .iload_n 0, 1, 0, 0, 0, []),
  (6, .bipush 100, 2, 0, 0, 100, []),
  (8, .if_icmp .gt 7, 3, 15, 0, 0, []),
  (11, .iconst 1, 1, 0, 0, 1, []),
  (12, .goto 4, 3, 16, 0, 0, []),
  (15, .iconst 0, 1, 0, 0, 0, []),
  (16, .ireturn, 1, 1, 0, 0, [])]
/-- NamedToWed$Village.goBy(LNamedToWed$Rule;LNamedToWed$Law;I)V -/
def cd_160 : Cod := [(0, .aload_n 0, 1, 0, 0, 0, []),
  (1, .iconst 0, 1, 0, 0, 0, []),
  (2, .putfield 28, 3, 8, 5, 0, [(0, 366)]),
  (5, .aload_n 0, 1, 0, 0, 0, []),
  (6, .iconst 0, 1, 0, 0, 0, []),
  (7, .putfield 31, 3, 8, 6, 0, [(0, 368)]),
  (10, .aload_n 0, 1, 0, 0, 0, []),
  (11, .iconst 0, 1, 0, 0, 0, []),
  (12, .putfield 34, 3, 8, 7, 0, [(0, 370)]),
  (15, .iconst 0, 1, 0, 0, 0, []),
  (16, .istore 4, 2, 4, 0, 0, []),
  (18, .iload 4, 2, 4, 0, 0, []),
  (20, .iload_n 3, 1, 3, 0, 0, []),
  (21, .if_icmp .ge 127, 3, 148, 0, 0, []),
  (24, .aload_n 0, 1, 0, 0, 0, []),
  (25, .getfield 21, 3, 8, 3, 0, [(0, 362)]),
  (28, .sipush 9999, 3, 0, 0, 9999, []),
  (31, .if_icmp .ge 117, 3, 148, 0, 0, []),
  (34, .iconst 0, 1, 0, 0, 0, []),
  (35, .istore 5, 2, 5, 0, 0, []),
  (37, .iload 5, 2, 5, 0, 0, []),
  (39, .aload_n 1, 1, 1, 0, 0, []),
  (40, .getfield 63, 3, 6, 0, 0, [(0, 206)]),
  (43, .if_icmp .ge 24, 3, 67, 0, 0, []),
  (46, .aload_n 0, 1, 0, 0, 0, []),
  (47, .aload_n 1, 1, 1, 0, 0, []),
  (48, .iload 5, 2, 5, 0, 0, []),
  (50, .invokevirtual 66, 3, 161, 3, 0, [(0, 950)]),
  (53, .aload_n 0, 1, 0, 0, 0, []),
  (54, .aload_n 1, 1, 1, 0, 0, []),
  (55, .aload_n 2, 1, 2, 0, 0, []),
  (56, .iload 5, 2, 5, 0, 0, []),
  (58, .invokevirtual 70, 3, 164, 4, 0, [(0, 962)]),
  (61, .iinc 5 1, 3, 5, 0, 1, []),
  (64, .goto (-27), 3, 37, 0, 0, []),
  (67, .iconst 0, 1, 0, 0, 0, []),
  (68, .istore 5, 2, 5, 0, 0, []),
  (70, .iload 5, 2, 5, 0, 0, []),
  (72, .aload_n 1, 1, 1, 0, 0, []),
  (73, .getfield 63, 3, 6, 0, 0, [(0, 206)]),
  (76, .if_icmp .ge 24, 3, 100, 0, 0, []),
  (79, .aload_n 0, 1, 0, 0, 0, []),
  (80, .aload_n 1, 1, 1, 0, 0, []),
  (81, .iload 5, 2, 5, 0, 0, []),
  (83, .invokevirtual 66, 3, 161, 3, 0, [(0, 950)]),
  (86, .aload_n 0, 1, 0, 0, 0, []),
  (87, .aload_n 1, 1, 1, 0, 0, []),
  (88, .aload_n 2, 1, 2, 0, 0, []),
  (89, .iload 5, 2, 5, 0, 0, []),
  (91, .invokevirtual 74, 3, 172, 4, 0, [(0, 991)]),
  (94, .iinc 5 1, 3, 5, 0, 1, []),
  (97, .goto (-27), 3, 70, 0, 0, []),
  (100, .iconst 0, 1, 0, 0, 0, []),
  (101, .istore 5, 2, 5, 0, 0, []),
  (103, .iload 5, 2, 5, 0, 0, []),
  (105, .aload_n 1, 1, 1, 0, 0, []),
  (106, .getfield 63, 3, 6, 0, 0, [(0, 206)]),
  (109, .if_icmp .ge 23, 3, 132, 0, 0, []),
  (112, .aload_n 0, 1, 0, 0, 0, []),
  (113, .aload_n 1, 1, 1, 0, 0, []),
  (114, .iload 5, 2, 5, 0, 0, []),
  (116, .invokevirtual 66, 3, 161, 3, 0, [(0, 950)]),
  (119, .aload_n 0, 1, 0, 0, 0, []),
  (120, .aload_n 2, 1, 2, 0, 0, []),
  (121, .iload 5, 2, 5, 0, 0, []),
  (123, .invokevirtual 77, 3, 173, 3, 0, [(0, 994)]),
  (126, .iinc 5 1, 3, 5, 0, 1, []),
  (129, .goto (-26), 3, 103, 0, 0, []),
  (132, .aload_n 0, 1, 0, 0, 0, []),
  (133, .dup, 1, 0, 0, 0, []),
  (134, .getfield 21, 3, 8, 3, 0, [(0, 362)]),
  (137, .iconst 1, 1, 0, 0, 1, []),
  (138, .iadd, 1, 0, 0, 0, []),
  (139, .putfield 21, 3, 8, 3, 0, [(0, 362)]),
  (142, .iinc 4 1, 3, 4, 0, 1, []),
  (145, .goto (-127), 3, 18, 0, 0, []),
  (148, .return_, 1, 0, 0, 0, [])]
/-- NamedToWed$Village.draw(LNamedToWed$Rule;I)V -/
def cd_161 : Cod := [(0, .aload_n 0, 1, 0, 0, 0, []),
  (1, .sipush 25173, 3, 0, 0, 25173, []),
  (4, .aload_n 0, 1, 0, 0, 0, []),
  (5, .getfield 25, 3, 8, 4, 0, [(0, 364)]),
  (8, .imul, 1, 0, 0, 0, []),
  (9, .sipush 13849, 3, 0, 0, 13849, []),
  (12, .iadd, 1, 0, 0, 0, []),
  (13, .ldc 81, 2, 0, 1, 65536, [(2, 953)]),
  (15, .irem, 1, 0, 0, 0, []),
  (16, .putfield 25, 3, 8, 4, 0, [(0, 364)]),
  (19, .aload_n 0, 1, 0, 0, 0, []),
  (20, .getfield 37, 3, 8, 8, 0, [(0, 372)]),
  (23, .iconst 0, 1, 0, 0, 0, []),
  (24, .iload_n 2, 1, 2, 0, 0, []),
  (25, .iastore, 1, 0, 0, 0, []),
  (26, .aload_n 0, 1, 0, 0, 0, []),
  (27, .getfield 37, 3, 8, 8, 0, [(0, 372)]),
  (30, .iconst 1, 1, 0, 0, 1, []),
  (31, .aload_n 0, 1, 0, 0, 0, []),
  (32, .getfield 9, 3, 8, 0, 0, [(0, 356)]),
  (35, .iload_n 2, 1, 2, 0, 0, []),
  (36, .iaload, 1, 0, 0, 0, []),
  (37, .iastore, 1, 0, 0, 0, []),
  (38, .aload_n 0, 1, 0, 0, 0, []),
  (39, .getfield 37, 3, 8, 8, 0, [(0, 372)]),
  (42, .iconst 2, 1, 0, 0, 2, []),
  (43, .aload_n 0, 1, 0, 0, 0, []),
  (44, .getfield 15, 3, 8, 1, 0, [(0, 358)]),
  (47, .aload_n 1, 1, 1, 0, 0, []),
  (48, .getfield 60, 3, 6, 1, 0, [(0, 210)]),
  (51, .iload_n 2, 1, 2, 0, 0, []),
  (52, .iaload, 1, 0, 0, 0, []),
  (53, .iaload, 1, 0, 0, 0, []),
  (54, .iastore, 1, 0, 0, 0, []),
  (55, .aload_n 0, 1, 0, 0, 0, []),
  (56, .getfield 37, 3, 8, 8, 0, [(0, 372)]),
  (59, .iconst 3, 1, 0, 0, 3, []),
  (60, .aload_n 0, 1, 0, 0, 0, []),
  (61, .getfield 18, 3, 8, 2, 0, [(0, 360)]),
  (64, .iload_n 2, 1, 2, 0, 0, []),
  (65, .iaload, 1, 0, 0, 0, []),
  (66, .iastore, 1, 0, 0, 0, []),
  (67, .aload_n 0, 1, 0, 0, 0, []),
  (68, .getfield 37, 3, 8, 8, 0, [(0, 372)]),
  (71, .iconst 4, 1, 0, 0, 4, []),
  (72, .aload_n 0, 1, 0, 0, 0, []),
  (73, .aload_n 1, 1, 1, 0, 0, []),
  (74, .iload_n 2, 1, 2, 0, 0, []),
  (75, .invokevirtual 82, 3, 162, 3, 0, [(0, 954)]),
  (78, .iastore, 1, 0, 0, 0, []),
  (79, .aload_n 0, 1, 0, 0, 0, []),
  (80, .getfield 37, 3, 8, 8, 0, [(0, 372)]),
  (83, .iconst 5, 1, 0, 0, 5, []),
  (84, .aload_n 0, 1, 0, 0, 0, []),
  (85, .invokevirtual 86, 3, 163, 1, 0, [(0, 958)]),
  (88, .iastore, 1, 0, 0, 0, []),
  (89, .aload_n 0, 1, 0, 0, 0, []),
  (90, .getfield 37, 3, 8, 8, 0, [(0, 372)]),
  (93, .bipush 6, 2, 0, 0, 6, []),
  (95, .aload_n 0, 1, 0, 0, 0, []),
  (96, .getfield 21, 3, 8, 3, 0, [(0, 362)]),
  (99, .bipush 100, 2, 0, 0, 100, []),
  (101, .irem, 1, 0, 0, 0, []),
  (102, .iastore, 1, 0, 0, 0, []),
  (103, .aload_n 0, 1, 0, 0, 0, []),
  (104, .getfield 37, 3, 8, 8, 0, [(0, 372)]),
  (107, .bipush 7, 2, 0, 0, 7, []),
  (109, .aload_n 0, 1, 0, 0, 0, []),
  (110, .getfield 25, 3, 8, 4, 0, [(0, 364)]),
  (113, .bipush 10, 2, 0, 0, 10, []),
  (115, .irem, 1, 0, 0, 0, []),
  (116, .iastore, 1, 0, 0, 0, []),
  (117, .return_, 1, 0, 0, 0, [])]
/-- NamedToWed$Village.allOf(LNamedToWed$Rule;I)I -/
def cd_162 : Cod := [(0, .aload_n 0, 1, 0, 0, 0, []),
  (1, .getfield 9, 3, 8, 0, 0, [(0, 356)]),
  (4, .iload_n 2, 1, 2, 0, 0, []),
  (5, .iaload, 1, 0, 0, 0, []),
  (6, .aload_n 0, 1, 0, 0, 0, []),
  (7, .getfield 15, 3, 8, 1, 0, [(0, 358)]),
  (10, .iload_n 2, 1, 2, 0, 0, []),
  (11, .iaload, 1, 0, 0, 0, []),
  (12, .iadd, 1, 0, 0, 0, []),
  (13, .aload_n 0, 1, 0, 0, 0, []),
  (14, .getfield 18, 3, 8, 2, 0, [(0, 360)]),
  (17, .iload_n 2, 1, 2, 0, 0, []),
  (18, .iaload, 1, 0, 0, 0, []),
  (19, .iadd, 1, 0, 0, 0, []),
  (20, .aload_n 0, 1, 0, 0, 0, []),
  (21, .getfield 18, 3, 8, 2, 0, [(0, 360)]),
  (24, .aload_n 1, 1, 1, 0, 0, []),
  (25, .getfield 55, 3, 6, 2, 0, [(0, 214)]),
  (28, .iload_n 2, 1, 2, 0, 0, []),
  (29, .iaload, 1, 0, 0, 0, []),
  (30, .iaload, 1, 0, 0, 0, []),
  (31, .iadd, 1, 0, 0, 0, []),
  (32, .ireturn, 1, 0, 0, 0, [])]
/-- NamedToWed$Village.all()I -/
def cd_163 : Cod := [(0, .iconst 0, 1, 0, 0, 0, []),
  (1, .istore_n 1, 1, 1, 0, 0, []),
  (2, .iconst 0, 1, 0, 0, 0, []),
  (3, .istore_n 2, 1, 2, 0, 0, []),
  (4, .iload_n 2, 1, 2, 0, 0, []),
  (5, .bipush 6, 2, 0, 0, 6, []),
  (7, .if_icmp .ge 34, 3, 41, 0, 0, []),
  (10, .iload_n 1, 1, 1, 0, 0, []),
  (11, .aload_n 0, 1, 0, 0, 0, []),
  (12, .getfield 9, 3, 8, 0, 0, [(0, 356)]),
  (15, .iload_n 2, 1, 2, 0, 0, []),
  (16, .iaload, 1, 0, 0, 0, []),
  (17, .aload_n 0, 1, 0, 0, 0, []),
  (18, .getfield 15, 3, 8, 1, 0, [(0, 358)]),
  (21, .iload_n 2, 1, 2, 0, 0, []),
  (22, .iaload, 1, 0, 0, 0, []),
  (23, .iadd, 1, 0, 0, 0, []),
  (24, .iconst 2, 1, 0, 0, 2, []),
  (25, .aload_n 0, 1, 0, 0, 0, []),
  (26, .getfield 18, 3, 8, 2, 0, [(0, 360)]),
  (29, .iload_n 2, 1, 2, 0, 0, []),
  (30, .iaload, 1, 0, 0, 0, []),
  (31, .imul, 1, 0, 0, 0, []),
  (32, .iadd, 1, 0, 0, 0, []),
  (33, .iadd, 1, 0, 0, 0, []),
  (34, .istore_n 1, 1, 1, 0, 0, []),
  (35, .iinc 2 1, 3, 2, 0, 1, []),
  (38, .goto (-34), 3, 4, 0, 0, []),
  (41, .iload_n 1, 1, 1, 0, 0, []),
  (42, .ireturn, 1, 0, 0, 0, [])]
/-- NamedToWed$Village.wedSome(LNamedToWed$Rule;LNamedToWed$Law;I)V -/
def cd_164 : Cod := [(0, .aload_n 2, 1, 2, 0, 0, []),
  (1, .bipush 120, 2, 0, 0, 120, []),
  (3, .aload_n 0, 1, 0, 0, 0, []),
  (4, .getfield 37, 3, 8, 8, 0, [(0, 372)]),
  (7, .invokevirtual 90, 3, 165, 3, 0, [(0, 965)]),
  (10, .ifCond .eq 4, 3, 14, 0, 0, []),
  (13, .return_, 1, 0, 0, 0, []),
  (14, .aload_n 1, 1, 1, 0, 0, []),
  (15, .getfield 60, 3, 6, 1, 0, [(0, 210)]),
  (18, .iload_n 3, 1, 3, 0, 0, []),
  (19, .iaload, 1, 0, 0, 0, []),
  (20, .istore 4, 2, 4, 0, 0, []),
  (22, .aload_n 0, 1, 0, 0, 0, []),
  (23, .getfield 9, 3, 8, 0, 0, [(0, 356)]),
  (26, .iload_n 3, 1, 3, 0, 0, []),
  (27, .iaload, 1, 0, 0, 0, []),
  (28, .aload_n 0, 1, 0, 0, 0, []),
  (29, .getfield 15, 3, 8, 1, 0, [(0, 358)]),
  (32, .iload 4, 2, 4, 0, 0, []),
  (34, .iaload, 1, 0, 0, 0, []),
  (35, .invokestatic 96, 3, 55, 2, 0, [(0, 985)]),
  (38, .istore 5, 2, 5, 0, 0, []),
  (40, .iload 5, 2, 5, 0, 0, []),
  (42, .aload_n 2, 1, 2, 0, 0, []),
  (43, .bipush 119, 2, 0, 0, 119, []),
  (45, .aload_n 0, 1, 0, 0, 0, []),
  (46, .getfield 37, 3, 8, 8, 0, [(0, 372)]),
  (49, .bipush 50, 2, 0, 0, 50, []),
  (51, .bipush 100, 2, 0, 0, 100, []),
  (53, .invokevirtual 102, 3, 171, 5, 0, [(0, 986)]),
  (56, .imul, 1, 0, 0, 0, []),
  (57, .bipush 100, 2, 0, 0, 100, []),
  (59, .idiv, 1, 0, 0, 0, []),
  (60, .istore 6, 2, 6, 0, 0, []),
  (62, .iload 6, 2, 6, 0, 0, []),
  (64, .sipush 9999, 3, 0, 0, 9999, []),
  (67, .aload_n 0, 1, 0, 0, 0, []),
  (68, .getfield 18, 3, 8, 2, 0, [(0, 360)]),
  (71, .iload_n 3, 1, 3, 0, 0, []),
  (72, .iaload, 1, 0, 0, 0, []),
  (73, .isub, 1, 0, 0, 0, []),
  (74, .invokestatic 96, 3, 55, 2, 0, [(0, 985)]),
  (77, .istore 6, 2, 6, 0, 0, []),
  (79, .aload_n 0, 1, 0, 0, 0, []),
  (80, .getfield 9, 3, 8, 0, 0, [(0, 356)]),
  (83, .iload_n 3, 1, 3, 0, 0, []),
  (84, .dup2, 1, 0, 0, 0, []),
  (85, .iaload, 1, 0, 0, 0, []),
  (86, .iload 6, 2, 6, 0, 0, []),
  (88, .isub, 1, 0, 0, 0, []),
  (89, .iastore, 1, 0, 0, 0, []),
  (90, .aload_n 0, 1, 0, 0, 0, []),
  (91, .getfield 15, 3, 8, 1, 0, [(0, 358)]),
  (94, .iload 4, 2, 4, 0, 0, []),
  (96, .dup2, 1, 0, 0, 0, []),
  (97, .iaload, 1, 0, 0, 0, []),
  (98, .iload 6, 2, 6, 0, 0, []),
  (100, .isub, 1, 0, 0, 0, []),
  (101, .iastore, 1, 0, 0, 0, []),
  (102, .aload_n 0, 1, 0, 0, 0, []),
  (103, .getfield 18, 3, 8, 2, 0, [(0, 360)]),
  (106, .iload_n 3, 1, 3, 0, 0, []),
  (107, .dup2, 1, 0, 0, 0, []),
  (108, .iaload, 1, 0, 0, 0, []),
  (109, .iload 6, 2, 6, 0, 0, []),
  (111, .iadd, 1, 0, 0, 0, []),
  (112, .iastore, 1, 0, 0, 0, []),
  (113, .aload_n 0, 1, 0, 0, 0, []),
  (114, .dup, 1, 0, 0, 0, []),
  (115, .getfield 28, 3, 8, 5, 0, [(0, 366)]),
  (118, .iload 6, 2, 6, 0, 0, []),
  (120, .iadd, 1, 0, 0, 0, []),
  (121, .putfield 28, 3, 8, 5, 0, [(0, 366)]),
  (124, .return_, 1, 0, 0, 0, [])]
/-- NamedToWed$Law.anyHolds(C[I)Z -/
def cd_165 : Cod := [(0, .iconst 0, 1, 0, 0, 0, []),
  (1, .istore_n 3, 1, 3, 0, 0, []),
  (2, .iload_n 3, 1, 3, 0, 0, []),
  (3, .aload_n 0, 1, 0, 0, 0, []),
  (4, .getfield 9, 3, 2, 0, 0, [(0, 262)]),
  (7, .if_icmp .ge 41, 3, 48, 0, 0, []),
  (10, .aload_n 0, 1, 0, 0, 0, []),
  (11, .getfield 15, 3, 2, 1, 0, [(0, 265)]),
  (14, .iload_n 3, 1, 3, 0, 0, []),
  (15, .iaload, 1, 0, 0, 0, []),
  (16, .iload_n 1, 1, 1, 0, 0, []),
  (17, .if_icmp .ne 25, 3, 42, 0, 0, []),
  (20, .aload_n 0, 1, 0, 0, 0, []),
  (21, .aload_n 0, 1, 0, 0, 0, []),
  (22, .getfield 22, 3, 2, 3, 0, [(0, 269)]),
  (25, .iload_n 3, 1, 3, 0, 0, []),
  (26, .iaload, 1, 0, 0, 0, []),
  (27, .aload_n 0, 1, 0, 0, 0, []),
  (28, .getfield 25, 3, 2, 4, 0, [(0, 271)]),
  (31, .iload_n 3, 1, 3, 0, 0, []),
  (32, .iaload, 1, 0, 0, 0, []),
  (33, .aload_n 2, 1, 2, 0, 0, []),
  (34, .invokevirtual 48, 3, 166, 4, 0, [(0, 969)]),
  (37, .ifCond .eq 5, 3, 42, 0, 0, []),
  (40, .iconst 1, 1, 0, 0, 1, []),
  (41, .ireturn, 1, 1, 0, 0, []),
  (42, .iinc 3 1, 3, 3, 0, 1, []),
  (45, .goto (-43), 3, 2, 0, 0, []),
  (48, .iconst 0, 1, 0, 0, 0, []),
  (49, .ireturn, 1, 1, 0, 0, [])]
/-- NamedToWed$Law.run(II[I)I -/
def cd_166 : Cod := [(0, .aload_n 0, 1, 0, 0, 0, []),
  (1, .iconst 0, 1, 0, 0, 0, []),
  (2, .putfield 41, 3, 2, 9, 0, [(0, 279)]),
  (5, .aload_n 0, 1, 0, 0, 0, []),
  (6, .iconst 0, 1, 0, 0, 0, []),
  (7, .putfield 44, 3, 2, 10, 0, [(0, 280)]),
  (10, .iload_n 1, 1, 1, 0, 0, []),
  (11, .istore 4, 2, 4, 0, 0, []),
  (13, .iload_n 1, 1, 1, 0, 0, []),
  (14, .istore 5, 2, 5, 0, 0, []),
  (16, .iload 5, 2, 5, 0, 0, []),
  (18, .iload_n 2, 1, 2, 0, 0, []),
  (19, .if_icmp .ge 205, 3, 224, 0, 0, []),
  (22, .aload_n 0, 1, 0, 0, 0, []),
  (23, .getfield 44, 3, 2, 10, 0, [(0, 280)]),
  (26, .ifCond .ne 198, 3, 224, 0, 0, []),
  (29, .iload 5, 2, 5, 0, 0, []),
  (31, .iload 4, 2, 4, 0, 0, []),
  (33, .if_icmp .ge 6, 3, 39, 0, 0, []),
  (36, .goto 182, 3, 218, 0, 0, []),
  (39, .aload_n 0, 1, 0, 0, 0, []),
  (40, .getfield 31, 3, 2, 6, 0, [(0, 275)]),
  (43, .iload 5, 2, 5, 0, 0, []),
  (45, .caload, 1, 0, 0, 0, []),
  (46, .lookupswitch 145 #[(33, 80), (35, 50), (38, 93), (97, 64), (124, 93)], 50, 191, 0, 0, [(33, 126), (35, 96), (38, 139), (97, 110), (124, 139)]),
  (96, .aload_n 0, 1, 0, 0, 0, []),
  (97, .aload_n 0, 1, 0, 0, 0, []),
  (98, .getfield 35, 3, 2, 7, 0, [(0, 276)]),
  (101, .iload 5, 2, 5, 0, 0, []),
  (103, .iaload, 1, 0, 0, 0, []),
  (104, .invokevirtual 61, 3, 167, 2, 0, [(0, 972)]),
  (107, .goto 111, 3, 218, 0, 0, []),
  (110, .aload_n 0, 1, 0, 0, 0, []),
  (111, .aload_n 3, 1, 3, 0, 0, []),
  (112, .aload_n 0, 1, 0, 0, 0, []),
  (113, .getfield 35, 3, 2, 7, 0, [(0, 276)]),
  (116, .iload 5, 2, 5, 0, 0, []),
  (118, .iaload, 1, 0, 0, 0, []),
  (119, .iaload, 1, 0, 0, 0, []),
  (120, .invokevirtual 61, 3, 167, 2, 0, [(0, 972)]),
  (123, .goto 95, 3, 218, 0, 0, []),
  (126, .aload_n 0, 1, 0, 0, 0, []),
  (127, .iconst 1, 1, 0, 0, 1, []),
  (128, .aload_n 0, 1, 0, 0, 0, []),
  (129, .invokevirtual 65, 3, 168, 1, 0, [(0, 975)]),
  (132, .isub, 1, 0, 0, 0, []),
  (133, .invokevirtual 61, 3, 167, 2, 0, [(0, 972)]),
  (136, .goto 82, 3, 218, 0, 0, []),
  (139, .aload_n 0, 1, 0, 0, 0, []),
  (140, .invokevirtual 69, 3, 169, 1, 0, [(0, 978)]),
  (143, .ifCond .eq 7, 3, 150, 0, 0, []),
  (146, .iconst 1, 1, 0, 0, 1, []),
  (147, .goto 4, 3, 151, 0, 0, []),
  (150, .iconst 0, 1, 0, 0, 0, []),
  (151, .aload_n 0, 1, 0, 0, 0, []),
  (152, .getfield 31, 3, 2, 6, 0, [(0, 275)]),
  (155, .iload 5, 2, 5, 0, 0, []),
  (157, .caload, 1, 0, 0, 0, []),
  (158, .bipush 124, 2, 0, 0, 124, []),
  (160, .if_icmp .ne 7, 3, 167, 0, 0, []),
  (163, .iconst 1, 1, 0, 0, 1, []),
  (164, .goto 4, 3, 168, 0, 0, []),
  (167, .iconst 0, 1, 0, 0, 0, []),
  (168, .if_icmp .ne 15, 3, 183, 0, 0, []),
  (171, .aload_n 0, 1, 0, 0, 0, []),
  (172, .getfield 35, 3, 2, 7, 0, [(0, 276)]),
  (175, .iload 5, 2, 5, 0, 0, []),
  (177, .iaload, 1, 0, 0, 0, []),
  (178, .istore 4, 2, 4, 0, 0, []),
  (180, .goto 38, 3, 218, 0, 0, []),
  (183, .aload_n 0, 1, 0, 0, 0, []),
  (184, .invokevirtual 65, 3, 168, 1, 0, [(0, 975)]),
  (187, .pop, 1, 0, 0, 0, []),
  (188, .goto 30, 3, 218, 0, 0, []),
  (191, .aload_n 0, 1, 0, 0, 0, []),
  (192, .invokevirtual 65, 3, 168, 1, 0, [(0, 975)]),
  (195, .istore 6, 2, 6, 0, 0, []),
  (197, .aload_n 0, 1, 0, 0, 0, []),
  (198, .aload_n 0, 1, 0, 0, 0, []),
  (199, .aload_n 0, 1, 0, 0, 0, []),
  (200, .getfield 31, 3, 2, 6, 0, [(0, 275)]),
  (203, .iload 5, 2, 5, 0, 0, []),
  (205, .caload, 1, 0, 0, 0, []),
  (206, .aload_n 0, 1, 0, 0, 0, []),
  (207, .invokevirtual 65, 3, 168, 1, 0, [(0, 975)]),
  (210, .iload 6, 2, 6, 0, 0, []),
  (212, .invokevirtual 72, 3, 170, 4, 0, [(0, 982)]),
  (215, .invokevirtual 61, 3, 167, 2, 0, [(0, 972)]),
  (218, .iinc 5 1, 3, 5, 0, 1, []),
  (221, .goto (-205), 3, 16, 0, 0, []),
  (224, .aload_n 0, 1, 0, 0, 0, []),
  (225, .getfield 44, 3, 2, 10, 0, [(0, 280)]),
  (228, .ifCond .eq 7, 3, 235, 0, 0, []),
  (231, .iconst 0, 1, 0, 0, 0, []),
  (232, .goto 7, 3, 239, 0, 0, []),
  (235, .aload_n 0, 1, 0, 0, 0, []),
  (236, .invokevirtual 69, 3, 169, 1, 0, [(0, 978)]),
  (239, .ireturn, 1, 0, 0, 0, [])]
/-- NamedToWed$Law.push(I)V -/
def cd_167 : Cod := [(0, .aload_n 0, 1, 0, 0, 0, []),
  (1, .getfield 41, 3, 2, 9, 0, [(0, 279)]),
  (4, .aload_n 0, 1, 0, 0, 0, []),
  (5, .getfield 38, 3, 2, 8, 0, [(0, 278)]),
  (8, .arraylength, 1, 0, 0, 0, []),
  (9, .if_icmp .ge 20, 3, 29, 0, 0, []),
  (12, .aload_n 0, 1, 0, 0, 0, []),
  (13, .getfield 38, 3, 2, 8, 0, [(0, 278)]),
  (16, .aload_n 0, 1, 0, 0, 0, []),
  (17, .dup, 1, 0, 0, 0, []),
  (18, .getfield 41, 3, 2, 9, 0, [(0, 279)]),
  (21, .dup_x1, 1, 0, 0, 0, []),
  (22, .iconst 1, 1, 0, 0, 1, []),
  (23, .iadd, 1, 0, 0, 0, []),
  (24, .putfield 41, 3, 2, 9, 0, [(0, 279)]),
  (27, .iload_n 1, 1, 1, 0, 0, []),
  (28, .iastore, 1, 0, 0, 0, []),
  (29, .return_, 1, 0, 0, 0, [])]
/-- NamedToWed$Law.pop()I -/
def cd_168 : Cod := [(0, .aload_n 0, 1, 0, 0, 0, []),
  (1, .invokevirtual 69, 3, 169, 1, 0, [(0, 978)]),
  (4, .istore_n 1, 1, 1, 0, 0, []),
  (5, .aload_n 0, 1, 0, 0, 0, []),
  (6, .iconst 0, 1, 0, 0, 0, []),
  (7, .aload_n 0, 1, 0, 0, 0, []),
  (8, .getfield 41, 3, 2, 9, 0, [(0, 279)]),
  (11, .iconst 1, 1, 0, 0, 1, []),
  (12, .isub, 1, 0, 0, 0, []),
  (13, .invokestatic 58, 3, 56, 2, 0, [(0, 981)]),
  (16, .putfield 41, 3, 2, 9, 0, [(0, 279)]),
  (19, .iload_n 1, 1, 1, 0, 0, []),
  (20, .ireturn, 1, 0, 0, 0, [])]
/-- NamedToWed$Law.top()I -/
def cd_169 : Cod := [(0, .aload_n 0, 1, 0, 0, 0, []),
  (1, .getfield 41, 3, 2, 9, 0, [(0, 279)]),
  (4, .ifCond .le 17, 3, 21, 0, 0, []),
  (7, .aload_n 0, 1, 0, 0, 0, []),
  (8, .getfield 38, 3, 2, 8, 0, [(0, 278)]),
  (11, .aload_n 0, 1, 0, 0, 0, []),
  (12, .getfield 41, 3, 2, 9, 0, [(0, 279)]),
  (15, .iconst 1, 1, 0, 0, 1, []),
  (16, .isub, 1, 0, 0, 0, []),
  (17, .iaload, 1, 0, 0, 0, []),
  (18, .goto 4, 3, 22, 0, 0, []),
  (21, .iconst 0, 1, 0, 0, 0, []),
  (22, .ireturn, 1, 0, 0, 0, [])]
/-- NamedToWed$Law.reckon(CII)I -/
def cd_170 : Cod := [(0, .iload_n 1, 1, 1, 0, 0, []),
  (1, .lookupswitch 104 #[(42, 67), (43, 59), (45, 63), (60, 71), (61, 93), (62, 82)], 59, 105, 0, 0, [(42, 68), (43, 60), (45, 64), (60, 72), (61, 94), (62, 83)]),
  (60, .iload_n 2, 1, 2, 0, 0, []),
  (61, .iload_n 3, 1, 3, 0, 0, []),
  (62, .iadd, 1, 0, 0, 0, []),
  (63, .ireturn, 1, 0, 0, 0, []),
  (64, .iload_n 2, 1, 2, 0, 0, []),
  (65, .iload_n 3, 1, 3, 0, 0, []),
  (66, .isub, 1, 0, 0, 0, []),
  (67, .ireturn, 1, 0, 0, 0, []),
  (68, .iload_n 2, 1, 2, 0, 0, []),
  (69, .iload_n 3, 1, 3, 0, 0, []),
  (70, .imul, 1, 0, 0, 0, []),
  (71, .ireturn, 1, 0, 0, 0, []),
  (72, .iload_n 2, 1, 2, 0, 0, []),
  (73, .iload_n 3, 1, 3, 0, 0, []),
  (74, .if_icmp .ge 7, 3, 81, 0, 0, []),
  (77, .iconst 1, 1, 0, 0, 1, []),
  (78, .goto 4, 3, 82, 0, 0, []),
  (81, .iconst 0, 1, 0, 0, 0, []),
  (82, .ireturn, 1, 0, 0, 0, []),
  (83, .iload_n 2, 1, 2, 0, 0, []),
  (84, .iload_n 3, 1, 3, 0, 0, []),
  (85, .if_icmp .le 7, 3, 92, 0, 0, []),
  (88, .iconst 1, 1, 0, 0, 1, []),
  (89, .goto 4, 3, 93, 0, 0, []),
  (92, .iconst 0, 1, 0, 0, 0, []),
  (93, .ireturn, 1, 0, 0, 0, []),
  (94, .iload_n 2, 1, 2, 0, 0, []),
  (95, .iload_n 3, 1, 3, 0, 0, []),
  (96, .if_icmp .ne 7, 3, 103, 0, 0, []),
  (99, .iconst 1, 1, 0, 0, 1, []),
  (100, .goto 4, 3, 104, 0, 0, []),
  (103, .iconst 0, 1, 0, 0, 0, []),
  (104, .ireturn, 1, 0, 0, 0, []),
  (105, .iload_n 3, 1, 3, 0, 0, []),
  (106, .ifCond .ne 10, 3, 116, 0, 0, []),
  (109, .aload_n 0, 1, 0, 0, 0, []),
  (110, .iconst 1, 1, 0, 0, 1, []),
  (111, .putfield 44, 3, 2, 10, 0, [(0, 280)]),
  (114, .iconst 0, 1, 0, 0, 0, []),
  (115, .ireturn, 1, 0, 0, 0, []),
  (116, .iload_n 1, 1, 1, 0, 0, []),
  (117, .bipush 47, 2, 0, 0, 47, []),
  (119, .if_icmp .ne 9, 3, 128, 0, 0, []),
  (122, .iload_n 2, 1, 2, 0, 0, []),
  (123, .iload_n 3, 1, 3, 0, 0, []),
  (124, .idiv, 1, 0, 0, 0, []),
  (125, .goto 6, 3, 131, 0, 0, []),
  (128, .iload_n 2, 1, 2, 0, 0, []),
  (129, .iload_n 3, 1, 3, 0, 0, []),
  (130, .irem, 1, 0, 0, 0, []),
  (131, .ireturn, 1, 0, 0, 0, [])]
/-- NamedToWed$Law.worth(C[III)I -/
def cd_171 : Cod := [(0, .iconst 0, 1, 0, 0, 0, []),
  (1, .istore 5, 2, 5, 0, 0, []),
  (3, .iload 5, 2, 5, 0, 0, []),
  (5, .aload_n 0, 1, 0, 0, 0, []),
  (6, .getfield 9, 3, 2, 0, 0, [(0, 262)]),
  (9, .if_icmp .ge 75, 3, 84, 0, 0, []),
  (12, .aload_n 0, 1, 0, 0, 0, []),
  (13, .getfield 15, 3, 2, 1, 0, [(0, 265)]),
  (16, .iload 5, 2, 5, 0, 0, []),
  (18, .iaload, 1, 0, 0, 0, []),
  (19, .iload_n 1, 1, 1, 0, 0, []),
  (20, .if_icmp .ne 58, 3, 78, 0, 0, []),
  (23, .aload_n 0, 1, 0, 0, 0, []),
  (24, .aload_n 0, 1, 0, 0, 0, []),
  (25, .getfield 22, 3, 2, 3, 0, [(0, 269)]),
  (28, .iload 5, 2, 5, 0, 0, []),
  (30, .iaload, 1, 0, 0, 0, []),
  (31, .aload_n 0, 1, 0, 0, 0, []),
  (32, .getfield 25, 3, 2, 4, 0, [(0, 271)]),
  (35, .iload 5, 2, 5, 0, 0, []),
  (37, .iaload, 1, 0, 0, 0, []),
  (38, .aload_n 2, 1, 2, 0, 0, []),
  (39, .invokevirtual 48, 3, 166, 4, 0, [(0, 969)]),
  (42, .ifCond .eq 36, 3, 78, 0, 0, []),
  (45, .aload_n 0, 1, 0, 0, 0, []),
  (46, .aload_n 0, 1, 0, 0, 0, []),
  (47, .getfield 19, 3, 2, 2, 0, [(0, 267)]),
  (50, .iload 5, 2, 5, 0, 0, []),
  (52, .iaload, 1, 0, 0, 0, []),
  (53, .aload_n 0, 1, 0, 0, 0, []),
  (54, .getfield 22, 3, 2, 3, 0, [(0, 269)]),
  (57, .iload 5, 2, 5, 0, 0, []),
  (59, .iaload, 1, 0, 0, 0, []),
  (60, .aload_n 2, 1, 2, 0, 0, []),
  (61, .invokevirtual 48, 3, 166, 4, 0, [(0, 969)]),
  (64, .istore 6, 2, 6, 0, 0, []),
  (66, .iconst 0, 1, 0, 0, 0, []),
  (67, .iload 6, 2, 6, 0, 0, []),
  (69, .iload 4, 2, 4, 0, 0, []),
  (71, .invokestatic 52, 3, 55, 2, 0, [(0, 990)]),
  (74, .invokestatic 58, 3, 56, 2, 0, [(0, 981)]),
  (77, .ireturn, 1, 0, 0, 0, []),
  (78, .iinc 5 1, 3, 5, 0, 1, []),
  (81, .goto (-78), 3, 3, 0, 0, []),
  (84, .iload_n 3, 1, 3, 0, 0, []),
  (85, .ireturn, 1, 0, 0, 0, [])]
/-- NamedToWed$Village.bearSome(LNamedToWed$Rule;LNamedToWed$Law;I)V -/
def cd_172 : Cod := [(0, .aload_n 0, 1, 0, 0, 0, []),
  (1, .getfield 18, 3, 8, 2, 0, [(0, 360)]),
  (4, .iload_n 3, 1, 3, 0, 0, []),
  (5, .iaload, 1, 0, 0, 0, []),
  (6, .aload_n 2, 1, 2, 0, 0, []),
  (7, .bipush 98, 2, 0, 0, 98, []),
  (9, .aload_n 0, 1, 0, 0, 0, []),
  (10, .getfield 37, 3, 8, 8, 0, [(0, 372)]),
  (13, .bipush 40, 2, 0, 0, 40, []),
  (15, .sipush 300, 3, 0, 0, 300, []),
  (18, .invokevirtual 102, 3, 171, 5, 0, [(0, 986)]),
  (21, .imul, 1, 0, 0, 0, []),
  (22, .bipush 100, 2, 0, 0, 100, []),
  (24, .idiv, 1, 0, 0, 0, []),
  (25, .istore 4, 2, 4, 0, 0, []),
  (27, .aload_n 0, 1, 0, 0, 0, []),
  (28, .getfield 37, 3, 8, 8, 0, [(0, 372)]),
  (31, .bipush 7, 2, 0, 0, 7, []),
  (33, .iaload, 1, 0, 0, 0, []),
  (34, .iconst 2, 1, 0, 0, 2, []),
  (35, .irem, 1, 0, 0, 0, []),
  (36, .ifCond .ne 13, 3, 49, 0, 0, []),
  (39, .iload 4, 2, 4, 0, 0, []),
  (41, .iload 4, 2, 4, 0, 0, []),
  (43, .iconst 2, 1, 0, 0, 2, []),
  (44, .idiv, 1, 0, 0, 0, []),
  (45, .isub, 1, 0, 0, 0, []),
  (46, .goto 7, 3, 53, 0, 0, []),
  (49, .iload 4, 2, 4, 0, 0, []),
  (51, .iconst 2, 1, 0, 0, 2, []),
  (52, .idiv, 1, 0, 0, 0, []),
  (53, .istore 5, 2, 5, 0, 0, []),
  (55, .aload_n 1, 1, 1, 0, 0, []),
  (56, .getfield 106, 3, 6, 3, 0, [(0, 217)]),
  (59, .aload_n 1, 1, 1, 0, 0, []),
  (60, .getfield 60, 3, 6, 1, 0, [(0, 210)]),
  (63, .iload_n 3, 1, 3, 0, 0, []),
  (64, .iaload, 1, 0, 0, 0, []),
  (65, .iaload, 1, 0, 0, 0, []),
  (66, .istore 6, 2, 6, 0, 0, []),
  (68, .aload_n 0, 1, 0, 0, 0, []),
  (69, .getfield 9, 3, 8, 0, 0, [(0, 356)]),
  (72, .iload 6, 2, 6, 0, 0, []),
  (74, .sipush 9999, 3, 0, 0, 9999, []),
  (77, .aload_n 0, 1, 0, 0, 0, []),
  (78, .getfield 9, 3, 8, 0, 0, [(0, 356)]),
  (81, .iload 6, 2, 6, 0, 0, []),
  (83, .iaload, 1, 0, 0, 0, []),
  (84, .iload 5, 2, 5, 0, 0, []),
  (86, .iadd, 1, 0, 0, 0, []),
  (87, .invokestatic 96, 3, 55, 2, 0, [(0, 985)]),
  (90, .iastore, 1, 0, 0, 0, []),
  (91, .aload_n 0, 1, 0, 0, 0, []),
  (92, .getfield 15, 3, 8, 1, 0, [(0, 358)]),
  (95, .iload 6, 2, 6, 0, 0, []),
  (97, .sipush 9999, 3, 0, 0, 9999, []),
  (100, .aload_n 0, 1, 0, 0, 0, []),
  (101, .getfield 15, 3, 8, 1, 0, [(0, 358)]),
  (104, .iload 6, 2, 6, 0, 0, []),
  (106, .iaload, 1, 0, 0, 0, []),
  (107, .iload 4, 2, 4, 0, 0, []),
  (109, .iadd, 1, 0, 0, 0, []),
  (110, .iload 5, 2, 5, 0, 0, []),
  (112, .isub, 1, 0, 0, 0, []),
  (113, .invokestatic 96, 3, 55, 2, 0, [(0, 985)]),
  (116, .iastore, 1, 0, 0, 0, []),
  (117, .aload_n 0, 1, 0, 0, 0, []),
  (118, .dup, 1, 0, 0, 0, []),
  (119, .getfield 31, 3, 8, 6, 0, [(0, 368)]),
  (122, .iload 4, 2, 4, 0, 0, []),
  (124, .iadd, 1, 0, 0, 0, []),
  (125, .putfield 31, 3, 8, 6, 0, [(0, 368)]),
  (128, .return_, 1, 0, 0, 0, [])]
/-- NamedToWed$Village.dieSome(LNamedToWed$Law;I)V -/
def cd_173 : Cod := [(0, .aload_n 1, 1, 1, 0, 0, []),
  (1, .bipush 100, 2, 0, 0, 100, []),
  (3, .aload_n 0, 1, 0, 0, 0, []),
  (4, .getfield 37, 3, 8, 8, 0, [(0, 372)]),
  (7, .iconst 2, 1, 0, 0, 2, []),
  (8, .bipush 100, 2, 0, 0, 100, []),
  (10, .invokevirtual 102, 3, 171, 5, 0, [(0, 986)]),
  (13, .istore_n 3, 1, 3, 0, 0, []),
  (14, .aload_n 0, 1, 0, 0, 0, []),
  (15, .getfield 9, 3, 8, 0, 0, [(0, 356)]),
  (18, .iload_n 2, 1, 2, 0, 0, []),
  (19, .iaload, 1, 0, 0, 0, []),
  (20, .iload_n 3, 1, 3, 0, 0, []),
  (21, .imul, 1, 0, 0, 0, []),
  (22, .bipush 100, 2, 0, 0, 100, []),
  (24, .idiv, 1, 0, 0, 0, []),
  (25, .istore 4, 2, 4, 0, 0, []),
  (27, .aload_n 0, 1, 0, 0, 0, []),
  (28, .getfield 15, 3, 8, 1, 0, [(0, 358)]),
  (31, .iload_n 2, 1, 2, 0, 0, []),
  (32, .iaload, 1, 0, 0, 0, []),
  (33, .iload_n 3, 1, 3, 0, 0, []),
  (34, .imul, 1, 0, 0, 0, []),
  (35, .bipush 100, 2, 0, 0, 100, []),
  (37, .idiv, 1, 0, 0, 0, []),
  (38, .istore 5, 2, 5, 0, 0, []),
  (40, .aload_n 0, 1, 0, 0, 0, []),
  (41, .getfield 18, 3, 8, 2, 0, [(0, 360)]),
  (44, .iload_n 2, 1, 2, 0, 0, []),
  (45, .iaload, 1, 0, 0, 0, []),
  (46, .iload_n 3, 1, 3, 0, 0, []),
  (47, .imul, 1, 0, 0, 0, []),
  (48, .bipush 100, 2, 0, 0, 100, []),
  (50, .idiv, 1, 0, 0, 0, []),
  (51, .istore 6, 2, 6, 0, 0, []),
  (53, .aload_n 0, 1, 0, 0, 0, []),
  (54, .getfield 9, 3, 8, 0, 0, [(0, 356)]),
  (57, .iload_n 2, 1, 2, 0, 0, []),
  (58, .dup2, 1, 0, 0, 0, []),
  (59, .iaload, 1, 0, 0, 0, []),
  (60, .iload 4, 2, 4, 0, 0, []),
  (62, .isub, 1, 0, 0, 0, []),
  (63, .iastore, 1, 0, 0, 0, []),
  (64, .aload_n 0, 1, 0, 0, 0, []),
  (65, .getfield 15, 3, 8, 1, 0, [(0, 358)]),
  (68, .iload_n 2, 1, 2, 0, 0, []),
  (69, .dup2, 1, 0, 0, 0, []),
  (70, .iaload, 1, 0, 0, 0, []),
  (71, .iload 5, 2, 5, 0, 0, []),
  (73, .isub, 1, 0, 0, 0, []),
  (74, .iastore, 1, 0, 0, 0, []),
  (75, .aload_n 0, 1, 0, 0, 0, []),
  (76, .getfield 18, 3, 8, 2, 0, [(0, 360)]),
  (79, .iload_n 2, 1, 2, 0, 0, []),
  (80, .dup2, 1, 0, 0, 0, []),
  (81, .iaload, 1, 0, 0, 0, []),
  (82, .iload 6, 2, 6, 0, 0, []),
  (84, .isub, 1, 0, 0, 0, []),
  (85, .iastore, 1, 0, 0, 0, []),
  (86, .aload_n 0, 1, 0, 0, 0, []),
  (87, .dup, 1, 0, 0, 0, []),
  (88, .getfield 34, 3, 8, 7, 0, [(0, 370)]),
  (91, .iload 4, 2, 4, 0, 0, []),
  (93, .iload 5, 2, 5, 0, 0, []),
  (95, .iadd, 1, 0, 0, 0, []),
  (96, .iconst 2, 1, 0, 0, 2, []),
  (97, .iload 6, 2, 6, 0, 0, []),
  (99, .imul, 1, 0, 0, 0, []),
  (100, .iadd, 1, 0, 0, 0, []),
  (101, .iadd, 1, 0, 0, 0, []),
  (102, .putfield 34, 3, 8, 7, 0, [(0, 370)]),
  (105, .return_, 1, 0, 0, 0, [])]
/-- NamedToWed.tried(II)I -/
def cd_174 : Cod := [(0, .iload_n 1, 1, 1, 0, 0, []),
  (1, .invokestatic 336, 3, 159, 1, 0, [(0, 943)]),
  (4, .ifCond .eq 11, 3, 15, 0, 0, []),
  (7, .aload_n 0, 1, 0, 0, 0, []),
  (8, .iload_n 2, 1, 2, 0, 0, []),
  (9, .invokevirtual 345, 3, 175, 2, 0, [(0, 1001)]),
  (12, .ifCond .ne 5, 3, 17, 0, 0, []),
  (15, .iconst (-1), 1, 0, 0, (-1), []),
  (16, .ireturn, 1, 0, 0, 0, []),
  (17, .aload_n 0, 1, 0, 0, 0, []),
  (18, .getfield 91, 3, 10, 14, 0, [(0, 387)]),
  (21, .aload_n 0, 1, 0, 0, 0, []),
  (22, .getfield 87, 3, 10, 13, 0, [(0, 386)]),
  (25, .bipush 6, 2, 0, 0, 6, []),
  (27, .invokevirtual 348, 3, 176, 3, 0, [(0, 1004)]),
  (30, .aload_n 0, 1, 0, 0, 0, []),
  (31, .getfield 91, 3, 10, 14, 0, [(0, 387)]),
  (34, .aload_n 0, 1, 0, 0, 0, []),
  (35, .getfield 19, 3, 10, 1, 0, [(0, 374)]),
  (38, .aload_n 0, 1, 0, 0, 0, []),
  (39, .getfield 39, 3, 10, 5, 0, [(0, 378)]),
  (42, .iload_n 1, 1, 1, 0, 0, []),
  (43, .invokevirtual 339, 3, 160, 4, 0, [(0, 946)]),
  (46, .iload_n 2, 1, 2, 0, 0, []),
  (47, .tableswitch 61 0 3 #[29, 37, 45, 53], 29, 108, 0, 0, [(0, 76), (1, 84), (2, 92), (3, 100)]),
  (76, .aload_n 0, 1, 0, 0, 0, []),
  (77, .getfield 91, 3, 10, 14, 0, [(0, 387)]),
  (80, .getfield 343, 3, 8, 5, 0, [(0, 367)]),
  (83, .ireturn, 1, 0, 0, 0, []),
  (84, .aload_n 0, 1, 0, 0, 0, []),
  (85, .getfield 91, 3, 10, 14, 0, [(0, 387)]),
  (88, .getfield 352, 3, 8, 6, 0, [(0, 369)]),
  (91, .ireturn, 1, 0, 0, 0, []),
  (92, .aload_n 0, 1, 0, 0, 0, []),
  (93, .getfield 91, 3, 10, 14, 0, [(0, 387)]),
  (96, .getfield 355, 3, 8, 7, 0, [(0, 371)]),
  (99, .ireturn, 1, 0, 0, 0, []),
  (100, .aload_n 0, 1, 0, 0, 0, []),
  (101, .getfield 91, 3, 10, 14, 0, [(0, 387)]),
  (104, .invokevirtual 358, 3, 163, 1, 0, [(0, 1009)]),
  (107, .ireturn, 1, 0, 0, 0, []),
  (108, .aload_n 0, 1, 0, 0, 0, []),
  (109, .getfield 91, 3, 10, 14, 0, [(0, 387)]),
  (112, .iload_n 2, 1, 2, 0, 0, []),
  (113, .bipush 10, 2, 0, 0, 10, []),
  (115, .irem, 1, 0, 0, 0, []),
  (116, .iload_n 2, 1, 2, 0, 0, []),
  (117, .bipush 10, 2, 0, 0, 10, []),
  (119, .idiv, 1, 0, 0, 0, []),
  (120, .iconst 1, 1, 0, 0, 1, []),
  (121, .isub, 1, 0, 0, 0, []),
  (122, .invokevirtual 361, 3, 177, 3, 0, [(0, 1010)]),
  (125, .ireturn, 1, 0, 0, 0, [])]
/-- NamedToWed.isTriedWhat(I)Z -/
def cd_175 : Cod := [(0, .iload_n 1, 1, 1, 0, 0, []),
  (1, .ifCond .lt 8, 3, 9, 0, 0, []),
  (4, .iload_n 1, 1, 1, 0, 0, []),
  (5, .iconst 3, 1, 0, 0, 3, []),
  (6, .if_icmp .le 26, 3, 32, 0, 0, []),
  (9, .iload_n 1, 1, 1, 0, 0, []),
  (10, .bipush 10, 2, 0, 0, 10, []),
  (12, .if_icmp .lt 24, 3, 36, 0, 0, []),
  (15, .iload_n 1, 1, 1, 0, 0, []),
  (16, .bipush 40, 2, 0, 0, 40, []),
  (18, .if_icmp .ge 18, 3, 36, 0, 0, []),
  (21, .aload_n 0, 1, 0, 0, 0, []),
  (22, .iload_n 1, 1, 1, 0, 0, []),
  (23, .bipush 10, 2, 0, 0, 10, []),
  (25, .irem, 1, 0, 0, 0, []),
  (26, .invokevirtual 105, 3, 13, 2, 0, [(0, 395)]),
  (29, .ifCond .eq 7, 3, 36, 0, 0, []),
  (32, .iconst 1, 1, 0, 0, 1, []),
  (33, .goto 4, 3, 37, 0, 0, []),
  (36, .iconst 0, 1, 0, 0, 0, []),
  (37, .ireturn, 1, 1, 0, 0, [])]
/-- NamedToWed$Village.copy(LNamedToWed$Village;I)V -/
def cd_176 : Cod := [(0, .aload_n 0, 1, 0, 0, 0, []),
  (1, .invokevirtual 46, 3, 47, 1, 0, [(0, 1008)]),
  (4, .aload_n 1, 1, 1, 0, 0, []),
  (5, .getfield 9, 3, 8, 0, 0, [(0, 356)]),
  (8, .iconst 0, 1, 0, 0, 0, []),
  (9, .aload_n 0, 1, 0, 0, 0, []),
  (10, .getfield 9, 3, 8, 0, 0, [(0, 356)]),
  (13, .iconst 0, 1, 0, 0, 0, []),
  (14, .iload_n 2, 1, 2, 0, 0, []),
  (15, .invokestatic 49, 3, 999, 5, 0, [(0, 9)]),
  (18, .aload_n 1, 1, 1, 0, 0, []),
  (19, .getfield 15, 3, 8, 1, 0, [(0, 358)]),
  (22, .iconst 0, 1, 0, 0, 0, []),
  (23, .aload_n 0, 1, 0, 0, 0, []),
  (24, .getfield 15, 3, 8, 1, 0, [(0, 358)]),
  (27, .iconst 0, 1, 0, 0, 0, []),
  (28, .iload_n 2, 1, 2, 0, 0, []),
  (29, .invokestatic 49, 3, 999, 5, 0, [(0, 9)]),
  (32, .aload_n 1, 1, 1, 0, 0, []),
  (33, .getfield 18, 3, 8, 2, 0, [(0, 360)]),
  (36, .iconst 0, 1, 0, 0, 0, []),
  (37, .aload_n 0, 1, 0, 0, 0, []),
  (38, .getfield 18, 3, 8, 2, 0, [(0, 360)]),
  (41, .iconst 0, 1, 0, 0, 0, []),
  (42, .iload_n 2, 1, 2, 0, 0, []),
  (43, .invokestatic 49, 3, 999, 5, 0, [(0, 9)]),
  (46, .aload_n 0, 1, 0, 0, 0, []),
  (47, .aload_n 1, 1, 1, 0, 0, []),
  (48, .getfield 21, 3, 8, 3, 0, [(0, 362)]),
  (51, .putfield 21, 3, 8, 3, 0, [(0, 362)]),
  (54, .aload_n 0, 1, 0, 0, 0, []),
  (55, .aload_n 1, 1, 1, 0, 0, []),
  (56, .getfield 25, 3, 8, 4, 0, [(0, 364)]),
  (59, .putfield 25, 3, 8, 4, 0, [(0, 364)]),
  (62, .return_, 1, 0, 0, 0, [])]
/-- NamedToWed$Village.some(II)I -/
def cd_177 : Cod := [(0, .iload_n 2, 1, 2, 0, 0, []),
  (1, .ifCond .ne 10, 3, 11, 0, 0, []),
  (4, .aload_n 0, 1, 0, 0, 0, []),
  (5, .getfield 9, 3, 8, 0, 0, [(0, 356)]),
  (8, .iload_n 1, 1, 1, 0, 0, []),
  (9, .iaload, 1, 0, 0, 0, []),
  (10, .ireturn, 1, 0, 0, 0, []),
  (11, .iload_n 2, 1, 2, 0, 0, []),
  (12, .iconst 1, 1, 0, 0, 1, []),
  (13, .if_icmp .ne 12, 3, 25, 0, 0, []),
  (16, .aload_n 0, 1, 0, 0, 0, []),
  (17, .getfield 15, 3, 8, 1, 0, [(0, 358)]),
  (20, .iload_n 1, 1, 1, 0, 0, []),
  (21, .iaload, 1, 0, 0, 0, []),
  (22, .goto 9, 3, 31, 0, 0, []),
  (25, .aload_n 0, 1, 0, 0, 0, []),
  (26, .getfield 18, 3, 8, 2, 0, [(0, 360)]),
  (29, .iload_n 1, 1, 1, 0, 0, []),
  (30, .iaload, 1, 0, 0, 0, []),
  (31, .ireturn, 1, 0, 0, 0, [])]
/-- NamedToWed.nameIs(II)I -/
def cd_178 : Cod := [(0, .aload_n 0, 1, 0, 0, 0, []),
  (1, .iload_n 1, 1, 1, 0, 0, []),
  (2, .invokevirtual 105, 3, 13, 2, 0, [(0, 395)]),
  (5, .ifCond .ne 5, 3, 10, 0, 0, []),
  (8, .iconst (-1), 1, 0, 0, (-1), []),
  (9, .ireturn, 1, 0, 0, 0, []),
  (10, .iload_n 2, 1, 2, 0, 0, []),
  (11, .tableswitch 80 0 5 #[37, 37, 37, 47, 60, 70], 37, 91, 0, 0, [(0, 48), (1, 48), (2, 48), (3, 58), (4, 71), (5, 81)]),
  (48, .aload_n 0, 1, 0, 0, 0, []),
  (49, .getfield 87, 3, 10, 13, 0, [(0, 386)]),
  (52, .iload_n 1, 1, 1, 0, 0, []),
  (53, .iload_n 2, 1, 2, 0, 0, []),
  (54, .invokevirtual 361, 3, 177, 3, 0, [(0, 1010)]),
  (57, .ireturn, 1, 0, 0, 0, []),
  (58, .aload_n 0, 1, 0, 0, 0, []),
  (59, .getfield 87, 3, 10, 13, 0, [(0, 386)]),
  (62, .aload_n 0, 1, 0, 0, 0, []),
  (63, .getfield 19, 3, 10, 1, 0, [(0, 374)]),
  (66, .iload_n 1, 1, 1, 0, 0, []),
  (67, .invokevirtual 364, 3, 162, 3, 0, [(0, 1018)]),
  (70, .ireturn, 1, 0, 0, 0, []),
  (71, .aload_n 0, 1, 0, 0, 0, []),
  (72, .getfield 19, 3, 10, 1, 0, [(0, 374)]),
  (75, .getfield 229, 3, 6, 1, 0, [(0, 212)]),
  (78, .iload_n 1, 1, 1, 0, 0, []),
  (79, .iaload, 1, 0, 0, 0, []),
  (80, .ireturn, 1, 0, 0, 0, []),
  (81, .aload_n 0, 1, 0, 0, 0, []),
  (82, .getfield 19, 3, 10, 1, 0, [(0, 374)]),
  (85, .getfield 240, 3, 6, 3, 0, [(0, 218)]),
  (88, .iload_n 1, 1, 1, 0, 0, []),
  (89, .iaload, 1, 0, 0, 0, []),
  (90, .ireturn, 1, 0, 0, 0, []),
  (91, .iconst (-1), 1, 0, 0, (-1), []),
  (92, .ireturn, 1, 0, 0, 0, [])]
/-- NamedToWed.diesOut(II)I -/
def cd_179 : Cod := [(0, .aload_n 0, 1, 0, 0, 0, []),
  (1, .iload_n 1, 1, 1, 0, 0, []),
  (2, .invokevirtual 105, 3, 13, 2, 0, [(0, 395)]),
  (5, .ifCond .eq 10, 3, 15, 0, 0, []),
  (8, .iload_n 2, 1, 2, 0, 0, []),
  (9, .invokestatic 336, 3, 159, 1, 0, [(0, 943)]),
  (12, .ifCond .ne 5, 3, 17, 0, 0, []),
  (15, .iconst (-1), 1, 0, 0, (-1), []),
  (16, .ireturn, 1, 0, 0, 0, []),
  (17, .aload_n 0, 1, 0, 0, 0, []),
  (18, .getfield 91, 3, 10, 14, 0, [(0, 387)]),
  (21, .aload_n 0, 1, 0, 0, 0, []),
  (22, .getfield 87, 3, 10, 13, 0, [(0, 386)]),
  (25, .bipush 6, 2, 0, 0, 6, []),
  (27, .invokevirtual 348, 3, 176, 3, 0, [(0, 1004)]),
  (30, .aload_n 0, 1, 0, 0, 0, []),
  (31, .getfield 91, 3, 10, 14, 0, [(0, 387)]),
  (34, .aload_n 0, 1, 0, 0, 0, []),
  (35, .getfield 19, 3, 10, 1, 0, [(0, 374)]),
  (38, .iload_n 1, 1, 1, 0, 0, []),
  (39, .invokevirtual 364, 3, 162, 3, 0, [(0, 1018)]),
  (42, .ifCond .ne 7, 3, 49, 0, 0, []),
  (45, .iconst 1, 1, 0, 0, 1, []),
  (46, .goto 4, 3, 50, 0, 0, []),
  (49, .iconst 0, 1, 0, 0, 0, []),
  (50, .istore_n 3, 1, 3, 0, 0, []),
  (51, .iconst 0, 1, 0, 0, 0, []),
  (52, .istore 4, 2, 4, 0, 0, []),
  (54, .iload 4, 2, 4, 0, 0, []),
  (56, .iload_n 2, 1, 2, 0, 0, []),
  (57, .if_icmp .ge 50, 3, 107, 0, 0, []),
  (60, .iload_n 3, 1, 3, 0, 0, []),
  (61, .ifCond .ne 46, 3, 107, 0, 0, []),
  (64, .aload_n 0, 1, 0, 0, 0, []),
  (65, .getfield 91, 3, 10, 14, 0, [(0, 387)]),
  (68, .aload_n 0, 1, 0, 0, 0, []),
  (69, .getfield 19, 3, 10, 1, 0, [(0, 374)]),
  (72, .aload_n 0, 1, 0, 0, 0, []),
  (73, .getfield 39, 3, 10, 5, 0, [(0, 378)]),
  (76, .iconst 1, 1, 0, 0, 1, []),
  (77, .invokevirtual 339, 3, 160, 4, 0, [(0, 946)]),
  (80, .aload_n 0, 1, 0, 0, 0, []),
  (81, .getfield 91, 3, 10, 14, 0, [(0, 387)]),
  (84, .aload_n 0, 1, 0, 0, 0, []),
  (85, .getfield 19, 3, 10, 1, 0, [(0, 374)]),
  (88, .iload_n 1, 1, 1, 0, 0, []),
  (89, .invokevirtual 364, 3, 162, 3, 0, [(0, 1018)]),
  (92, .ifCond .ne 7, 3, 99, 0, 0, []),
  (95, .iconst 1, 1, 0, 0, 1, []),
  (96, .goto 4, 3, 100, 0, 0, []),
  (99, .iconst 0, 1, 0, 0, 0, []),
  (100, .istore_n 3, 1, 3, 0, 0, []),
  (101, .iinc 4 1, 3, 4, 0, 1, []),
  (104, .goto (-50), 3, 54, 0, 0, []),
  (107, .iload_n 3, 1, 3, 0, 0, []),
  (108, .ifCond .eq 8, 3, 116, 0, 0, []),
  (111, .iload 4, 2, 4, 0, 0, []),
  (113, .goto 5, 3, 118, 0, 0, []),
  (116, .bipush (-2), 2, 0, 0, (-2), []),
  (118, .ireturn, 1, 0, 0, 0, [])]
/-- NamedToWed.left(I)I -/
def cd_180 : Cod := [(0, .aload_n 0, 1, 0, 0, 0, []),
  (1, .getfield 19, 3, 10, 1, 0, [(0, 374)]),
  (4, .getfield 155, 3, 6, 0, 0, [(0, 204)]),
  (7, .ifCond .eq 12, 3, 19, 0, 0, []),
  (10, .iload_n 1, 1, 1, 0, 0, []),
  (11, .ifCond .eq 11, 3, 22, 0, 0, []),
  (14, .iload_n 1, 1, 1, 0, 0, []),
  (15, .iconst 1, 1, 0, 0, 1, []),
  (16, .if_icmp .eq 6, 3, 22, 0, 0, []),
  (19, .ldc 194, 2, 0, 1, (-100000), [(0, 700)]),
  (21, .ireturn, 1, 0, 0, 0, []),
  (22, .iconst 0, 1, 0, 0, 0, []),
  (23, .istore_n 2, 1, 2, 0, 0, []),
  (24, .iconst 1, 1, 0, 0, 1, []),
  (25, .istore_n 3, 1, 3, 0, 0, []),
  (26, .iload_n 3, 1, 3, 0, 0, []),
  (27, .aload_n 0, 1, 0, 0, 0, []),
  (28, .getfield 19, 3, 10, 1, 0, [(0, 374)]),
  (31, .getfield 155, 3, 6, 0, 0, [(0, 204)]),
  (34, .if_icmp .ge 38, 3, 72, 0, 0, []),
  (37, .aload_n 0, 1, 0, 0, 0, []),
  (38, .getfield 87, 3, 10, 13, 0, [(0, 386)]),
  (41, .aload_n 0, 1, 0, 0, 0, []),
  (42, .getfield 19, 3, 10, 1, 0, [(0, 374)]),
  (45, .iload_n 3, 1, 3, 0, 0, []),
  (46, .invokevirtual 367, 3, 181, 3, 0, [(0, 1027)]),
  (49, .aload_n 0, 1, 0, 0, 0, []),
  (50, .getfield 87, 3, 10, 13, 0, [(0, 386)]),
  (53, .aload_n 0, 1, 0, 0, 0, []),
  (54, .getfield 19, 3, 10, 1, 0, [(0, 374)]),
  (57, .iload_n 2, 1, 2, 0, 0, []),
  (58, .invokevirtual 367, 3, 181, 3, 0, [(0, 1027)]),
  (61, .if_icmp .le 5, 3, 66, 0, 0, []),
  (64, .iload_n 3, 1, 3, 0, 0, []),
  (65, .istore_n 2, 1, 2, 0, 0, []),
  (66, .iinc 3 1, 3, 3, 0, 1, []),
  (69, .goto (-43), 3, 26, 0, 0, []),
  (72, .iload_n 1, 1, 1, 0, 0, []),
  (73, .ifCond .ne 7, 3, 80, 0, 0, []),
  (76, .iload_n 2, 1, 2, 0, 0, []),
  (77, .goto 15, 3, 92, 0, 0, []),
  (80, .aload_n 0, 1, 0, 0, 0, []),
  (81, .getfield 87, 3, 10, 13, 0, [(0, 386)]),
  (84, .aload_n 0, 1, 0, 0, 0, []),
  (85, .getfield 19, 3, 10, 1, 0, [(0, 374)]),
  (88, .iload_n 2, 1, 2, 0, 0, []),
  (89, .invokevirtual 367, 3, 181, 3, 0, [(0, 1027)]),
  (92, .ireturn, 1, 0, 0, 0, [])]
/-- NamedToWed$Village.leftMen(LNamedToWed$Rule;I)I -/
def cd_181 : Cod := [(0, .aload_n 0, 1, 0, 0, 0, []),
  (1, .getfield 9, 3, 8, 0, 0, [(0, 356)]),
  (4, .iload_n 2, 1, 2, 0, 0, []),
  (5, .iaload, 1, 0, 0, 0, []),
  (6, .aload_n 0, 1, 0, 0, 0, []),
  (7, .getfield 15, 3, 8, 1, 0, [(0, 358)]),
  (10, .aload_n 1, 1, 1, 0, 0, []),
  (11, .getfield 60, 3, 6, 1, 0, [(0, 210)]),
  (14, .iload_n 2, 1, 2, 0, 0, []),
  (15, .iaload, 1, 0, 0, 0, []),
  (16, .iaload, 1, 0, 0, 0, []),
  (17, .isub, 1, 0, 0, 0, []),
  (18, .ireturn, 1, 0, 0, 0, [])]
/-- NamedToWed.seed(I)Z -/
def cd_182 : Cod := [(0, .iload_n 1, 1, 1, 0, 0, []),
  (1, .ifCond .lt 10, 3, 11, 0, 0, []),
  (4, .iload_n 1, 1, 1, 0, 0, []),
  (5, .ldc_w 370, 3, 0, 1, 65535, [(1, 1035)]),
  (8, .if_icmp .le 5, 3, 13, 0, 0, []),
  (11, .iconst 0, 1, 0, 0, 0, []),
  (12, .ireturn, 1, 1, 0, 0, []),
  (13, .aload_n 0, 1, 0, 0, 0, []),
  (14, .getfield 87, 3, 10, 13, 0, [(0, 386)]),
  (17, .iload_n 1, 1, 1, 0, 0, []),
  (18, .putfield 371, 3, 8, 4, 0, [(0, 365)]),
  (21, .iconst 1, 1, 0, 0, 1, []),
  (22, .ireturn, 1, 1, 0, 0, [])]
/-- NamedToWed.keep()I -/
def cd_183 : Cod := [(0, .aload_n 0, 1, 0, 0, 0, []),
  (1, .getfield 94, 3, 10, 15, 0, [(0, 388)]),
  (4, .aload_n 0, 1, 0, 0, 0, []),
  (5, .getfield 87, 3, 10, 13, 0, [(0, 386)]),
  (8, .bipush 6, 2, 0, 0, 6, []),
  (10, .invokevirtual 348, 3, 176, 3, 0, [(0, 1004)]),
  (13, .aload_n 0, 1, 0, 0, 0, []),
  (14, .aload_n 0, 1, 0, 0, 0, []),
  (15, .getfield 19, 3, 10, 1, 0, [(0, 374)]),
  (18, .getfield 155, 3, 6, 0, 0, [(0, 204)]),
  (21, .putfield 97, 3, 10, 16, 0, [(0, 389)]),
  (24, .aload_n 0, 1, 0, 0, 0, []),
  (25, .iconst 1, 1, 0, 0, 1, []),
  (26, .putfield 101, 3, 10, 17, 0, [(0, 390)]),
  (29, .aload_n 0, 1, 0, 0, 0, []),
  (30, .getfield 87, 3, 10, 13, 0, [(0, 386)]),
  (33, .getfield 374, 3, 8, 3, 0, [(0, 363)]),
  (36, .ireturn, 1, 0, 0, 0, [])]
/-- NamedToWed.undo()Z -/
def cd_184 : Cod := [(0, .aload_n 0, 1, 0, 0, 0, []),
  (1, .getfield 101, 3, 10, 17, 0, [(0, 390)]),
  (4, .ifCond .ne 5, 3, 9, 0, 0, []),
  (7, .iconst 0, 1, 0, 0, 0, []),
  (8, .ireturn, 1, 1, 0, 0, []),
  (9, .aload_n 0, 1, 0, 0, 0, []),
  (10, .getfield 87, 3, 10, 13, 0, [(0, 386)]),
  (13, .aload_n 0, 1, 0, 0, 0, []),
  (14, .getfield 94, 3, 10, 15, 0, [(0, 388)]),
  (17, .aload_n 0, 1, 0, 0, 0, []),
  (18, .getfield 97, 3, 10, 16, 0, [(0, 389)]),
  (21, .aload_n 0, 1, 0, 0, 0, []),
  (22, .getfield 19, 3, 10, 1, 0, [(0, 374)]),
  (25, .getfield 155, 3, 6, 0, 0, [(0, 204)]),
  (28, .invokestatic 377, 3, 55, 2, 0, [(0, 546)]),
  (31, .invokevirtual 348, 3, 176, 3, 0, [(0, 1004)]),
  (34, .iconst 1, 1, 0, 0, 1, []),
  (35, .ireturn, 1, 1, 0, 0, [])]
/-- NamedToWed.check(I)I -/
def cd_185 : Cod := [(0, .iload_n 1, 1, 1, 0, 0, []),
  (1, .ifCond .lt 20, 3, 21, 0, 0, []),
  (4, .iload_n 1, 1, 1, 0, 0, []),
  (5, .bipush 6, 2, 0, 0, 6, []),
  (7, .if_icmp .gt 14, 3, 21, 0, 0, []),
  (10, .iload_n 1, 1, 1, 0, 0, []),
  (11, .aload_n 0, 1, 0, 0, 0, []),
  (12, .getfield 10, 3, 10, 0, 0, [(0, 373)]),
  (15, .getfield 129, 3, 7, 1, 0, [(0, 183)]),
  (18, .if_icmp .le 6, 3, 24, 0, 0, []),
  (21, .bipush (-2), 2, 0, 0, (-2), []),
  (23, .ireturn, 1, 0, 0, 0, []),
  (24, .aload_n 0, 1, 0, 0, 0, []),
  (25, .getfield 10, 3, 10, 0, 0, [(0, 373)]),
  (28, .iconst 0, 1, 0, 0, 0, []),
  (29, .iload_n 1, 1, 1, 0, 0, []),
  (30, .invokevirtual 136, 3, 20, 3, 0, [(0, 422)]),
  (33, .iconst 0, 1, 0, 0, 0, []),
  (34, .istore_n 2, 1, 2, 0, 0, []),
  (35, .iload_n 2, 1, 2, 0, 0, []),
  (36, .iload_n 1, 1, 1, 0, 0, []),
  (37, .if_icmp .ge 53, 3, 90, 0, 0, []),
  (40, .aload_n 0, 1, 0, 0, 0, []),
  (41, .iload_n 2, 1, 2, 0, 0, []),
  (42, .invokevirtual 105, 3, 13, 2, 0, [(0, 395)]),
  (45, .ifCond .eq 18, 3, 63, 0, 0, []),
  (48, .aload_n 0, 1, 0, 0, 0, []),
  (49, .getfield 87, 3, 10, 13, 0, [(0, 386)]),
  (52, .aload_n 0, 1, 0, 0, 0, []),
  (53, .getfield 19, 3, 10, 1, 0, [(0, 374)]),
  (56, .iload_n 2, 1, 2, 0, 0, []),
  (57, .invokevirtual 364, 3, 162, 3, 0, [(0, 1018)]),
  (60, .goto 4, 3, 64, 0, 0, []),
  (63, .iconst 0, 1, 0, 0, 0, []),
  (64, .istore_n 3, 1, 3, 0, 0, []),
  (65, .aload_n 0, 1, 0, 0, 0, []),
  (66, .getfield 10, 3, 10, 0, 0, [(0, 373)]),
  (69, .getfield 382, 3, 7, 0, 0, [(0, 181)]),
  (72, .iload_n 2, 1, 2, 0, 0, []),
  (73, .iaload, 1, 0, 0, 0, []),
  (74, .iload_n 3, 1, 3, 0, 0, []),
  (75, .sipush 255, 3, 0, 0, 255, []),
  (78, .iand, 1, 0, 0, 0, []),
  (79, .if_icmp .eq 5, 3, 84, 0, 0, []),
  (82, .iload_n 2, 1, 2, 0, 0, []),
  (83, .ireturn, 1, 0, 0, 0, []),
  (84, .iinc 2 1, 3, 2, 0, 1, []),
  (87, .goto (-52), 3, 35, 0, 0, []),
  (90, .iconst (-1), 1, 0, 0, (-1), []),
  (91, .ireturn, 1, 0, 0, 0, [])]
/-- NamedToWed.count(I)I -/
def cd_186 : Cod := [(0, .iload_n 1, 1, 1, 0, 0, []),
  (1, .tableswitch 123 0 8 #[51, 59, 67, 75, 83, 91, 99, 107, 115], 51, 124, 0, 0, [(0, 52), (1, 60), (2, 68), (3, 76), (4, 84), (5, 92), (6, 100), (7, 108), (8, 116)]),
  (52, .aload_n 0, 1, 0, 0, 0, []),
  (53, .getfield 87, 3, 10, 13, 0, [(0, 386)]),
  (56, .getfield 374, 3, 8, 3, 0, [(0, 363)]),
  (59, .ireturn, 1, 0, 0, 0, []),
  (60, .aload_n 0, 1, 0, 0, 0, []),
  (61, .getfield 19, 3, 10, 1, 0, [(0, 374)]),
  (64, .getfield 155, 3, 6, 0, 0, [(0, 204)]),
  (67, .ireturn, 1, 0, 0, 0, []),
  (68, .aload_n 0, 1, 0, 0, 0, []),
  (69, .getfield 29, 3, 10, 3, 0, [(0, 376)]),
  (72, .getfield 168, 3, 4, 0, 0, [(0, 230)]),
  (75, .ireturn, 1, 0, 0, 0, []),
  (76, .aload_n 0, 1, 0, 0, 0, []),
  (77, .getfield 29, 3, 10, 3, 0, [(0, 376)]),
  (80, .getfield 385, 3, 4, 8, 0, [(0, 252)]),
  (83, .ireturn, 1, 0, 0, 0, []),
  (84, .aload_n 0, 1, 0, 0, 0, []),
  (85, .getfield 29, 3, 10, 3, 0, [(0, 376)]),
  (88, .getfield 387, 3, 4, 9, 0, [(0, 254)]),
  (91, .ireturn, 1, 0, 0, 0, []),
  (92, .aload_n 0, 1, 0, 0, 0, []),
  (93, .getfield 39, 3, 10, 5, 0, [(0, 378)]),
  (96, .getfield 146, 3, 2, 0, 0, [(0, 264)]),
  (99, .ireturn, 1, 0, 0, 0, []),
  (100, .aload_n 0, 1, 0, 0, 0, []),
  (101, .getfield 10, 3, 10, 0, 0, [(0, 373)]),
  (104, .getfield 129, 3, 7, 1, 0, [(0, 183)]),
  (107, .ireturn, 1, 0, 0, 0, []),
  (108, .aload_n 0, 1, 0, 0, 0, []),
  (109, .getfield 87, 3, 10, 13, 0, [(0, 386)]),
  (112, .getfield 371, 3, 8, 4, 0, [(0, 365)]),
  (115, .ireturn, 1, 0, 0, 0, []),
  (116, .aload_n 0, 1, 0, 0, 0, []),
  (117, .getfield 87, 3, 10, 13, 0, [(0, 386)]),
  (120, .invokevirtual 358, 3, 163, 1, 0, [(0, 1009)]),
  (123, .ireturn, 1, 0, 0, 0, []),
  (124, .iconst (-1), 1, 0, 0, (-1), []),
  (125, .ireturn, 1, 0, 0, 0, [])]
/-- NamedToWedModel.<init>()V -/
def cd_187 : Cod := [(0, .aload_n 0, 1, 0, 0, 0, []),
  (1, .invokespecial 1, 3, 1, 1, 0, [(0, 1057)]),
  (4, .aload_n 0, 1, 0, 0, 0, []),
  (5, .bipush 20, 2, 0, 0, 20, []),
  (7, .newarray .int, 2, 14, 0, 0, []),
  (9, .putfield 7, 3, 11, 0, 0, [(0, 1058)]),
  (12, .aload_n 0, 1, 0, 0, 0, []),
  (13, .bipush 20, 2, 0, 0, 20, []),
  (15, .newarray .int, 2, 14, 0, 0, []),
  (17, .putfield 13, 3, 11, 1, 0, [(0, 1059)]),
  (20, .aload_n 0, 1, 0, 0, 0, []),
  (21, .bipush 20, 2, 0, 0, 20, []),
  (23, .newarray .int, 2, 14, 0, 0, []),
  (25, .putfield 16, 3, 11, 2, 0, [(0, 1060)]),
  (28, .aload_n 0, 1, 0, 0, 0, []),
  (29, .bipush 6, 2, 0, 0, 6, []),
  (31, .newarray .int, 2, 14, 0, 0, []),
  (33, .putfield 19, 3, 11, 3, 0, [(0, 1061)]),
  (36, .aload_n 0, 1, 0, 0, 0, []),
  (37, .bipush 6, 2, 0, 0, 6, []),
  (39, .newarray .int, 2, 14, 0, 0, []),
  (41, .putfield 22, 3, 11, 4, 0, [(0, 1062)]),
  (44, .aload_n 0, 1, 0, 0, 0, []),
  (45, .sipush 260, 3, 0, 0, 260, []),
  (48, .newarray .byte, 2, 12, 0, 0, []),
  (50, .putfield 25, 3, 11, 6, 0, [(0, 1064)]),
  (53, .aload_n 0, 1, 0, 0, 0, []),
  (54, .sipush 260, 3, 0, 0, 260, []),
  (57, .newarray .int, 2, 14, 0, 0, []),
  (59, .putfield 29, 3, 11, 17, 0, [(0, 1075)]),
  (62, .aload_n 0, 1, 0, 0, 0, []),
  (63, .sipush 260, 3, 0, 0, 260, []),
  (66, .newarray .int, 2, 14, 0, 0, []),
  (68, .putfield 32, 3, 11, 18, 0, [(0, 1076)]),
  (71, .aload_n 0, 1, 0, 0, 0, []),
  (72, .bipush 16, 2, 0, 0, 16, []),
  (74, .newarray .int, 2, 14, 0, 0, []),
  (76, .putfield 35, 3, 11, 19, 0, [(0, 1077)]),
  (79, .aload_n 0, 1, 0, 0, 0, []),
  (80, .bipush 16, 2, 0, 0, 16, []),
  (82, .newarray .int, 2, 14, 0, 0, []),
  (84, .putfield 38, 3, 11, 20, 0, [(0, 1078)]),
  (87, .aload_n 0, 1, 0, 0, 0, []),
  (88, .bipush 16, 2, 0, 0, 16, []),
  (90, .newarray .int, 2, 14, 0, 0, []),
  (92, .putfield 41, 3, 11, 21, 0, [(0, 1079)]),
  (95, .aload_n 0, 1, 0, 0, 0, []),
  (96, .bipush 16, 2, 0, 0, 16, []),
  (98, .newarray .int, 2, 14, 0, 0, []),
  (100, .putfield 44, 3, 11, 22, 0, [(0, 1080)]),
  (103, .aload_n 0, 1, 0, 0, 0, []),
  (104, .sipush 260, 3, 0, 0, 260, []),
  (107, .newarray .int, 2, 14, 0, 0, []),
  (109, .putfield 47, 3, 11, 23, 0, [(0, 1081)]),
  (112, .aload_n 0, 1, 0, 0, 0, []),
  (113, .bipush 16, 2, 0, 0, 16, []),
  (115, .newarray .int, 2, 14, 0, 0, []),
  (117, .putfield 50, 3, 11, 24, 0, [(0, 1082)]),
  (120, .aload_n 0, 1, 0, 0, 0, []),
  (121, .bipush 16, 2, 0, 0, 16, []),
  (123, .newarray .int, 2, 14, 0, 0, []),
  (125, .putfield 53, 3, 11, 25, 0, [(0, 1083)]),
  (128, .aload_n 0, 1, 0, 0, 0, []),
  (129, .bipush 16, 2, 0, 0, 16, []),
  (131, .newarray .int, 2, 14, 0, 0, []),
  (133, .putfield 56, 3, 11, 26, 0, [(0, 1084)]),
  (136, .aload_n 0, 1, 0, 0, 0, []),
  (137, .bipush 16, 2, 0, 0, 16, []),
  (139, .newarray .int, 2, 14, 0, 0, []),
  (141, .putfield 59, 3, 11, 27, 0, [(0, 1085)]),
  (144, .aload_n 0, 1, 0, 0, 0, []),
  (145, .sipush 260, 3, 0, 0, 260, []),
  (148, .newarray .int, 2, 14, 0, 0, []),
  (150, .putfield 62, 3, 11, 28, 0, [(0, 1086)]),
  (153, .aload_n 0, 1, 0, 0, 0, []),
  (154, .bipush 8, 2, 0, 0, 8, []),
  (156, .newarray .int, 2, 14, 0, 0, []),
  (158, .putfield 65, 3, 11, 29, 0, [(0, 1087)]),
  (161, .aload_n 0, 1, 0, 0, 0, []),
  (162, .bipush 6, 2, 0, 0, 6, []),
  (164, .newarray .int, 2, 14, 0, 0, []),
  (166, .putfield 68, 3, 11, 30, 0, [(0, 1088)]),
  (169, .aload_n 0, 1, 0, 0, 0, []),
  (170, .bipush 6, 2, 0, 0, 6, []),
  (172, .newarray .int, 2, 14, 0, 0, []),
  (174, .putfield 71, 3, 11, 31, 0, [(0, 1089)]),
  (177, .aload_n 0, 1, 0, 0, 0, []),
  (178, .bipush 24, 2, 0, 0, 24, []),
  (180, .newarray .int, 2, 14, 0, 0, []),
  (182, .putfield 74, 3, 11, 33, 0, [(0, 1091)]),
  (185, .aload_n 0, 1, 0, 0, 0, []),
  (186, .bipush 24, 2, 0, 0, 24, []),
  (188, .newarray .int, 2, 14, 0, 0, []),
  (190, .putfield 77, 3, 11, 34, 0, [(0, 1092)]),
  (193, .aload_n 0, 1, 0, 0, 0, []),
  (194, .iconst 2, 1, 0, 0, 2, []),
  (195, .newarray .int, 2, 14, 0, 0, []),
  (197, .putfield 80, 3, 11, 35, 0, [(0, 1093)]),
  (200, .aload_n 0, 1, 0, 0, 0, []),
  (201, .iconst 2, 1, 0, 0, 2, []),
  (202, .newarray .int, 2, 14, 0, 0, []),
  (204, .putfield 83, 3, 11, 36, 0, [(0, 1094)]),
  (207, .aload_n 0, 1, 0, 0, 0, []),
  (208, .iconst 2, 1, 0, 0, 2, []),
  (209, .newarray .int, 2, 14, 0, 0, []),
  (211, .putfield 86, 3, 11, 37, 0, [(0, 1095)]),
  (214, .aload_n 0, 1, 0, 0, 0, []),
  (215, .bipush 6, 2, 0, 0, 6, []),
  (217, .newarray .int, 2, 14, 0, 0, []),
  (219, .putfield 89, 3, 11, 43, 0, [(0, 1101)]),
  (222, .aload_n 0, 1, 0, 0, 0, []),
  (223, .bipush 6, 2, 0, 0, 6, []),
  (225, .newarray .int, 2, 14, 0, 0, []),
  (227, .putfield 92, 3, 11, 44, 0, [(0, 1102)]),
  (230, .aload_n 0, 1, 0, 0, 0, []),
  (231, .sipush 720, 3, 0, 0, 720, []),
  (234, .newarray .int, 2, 14, 0, 0, []),
  (236, .putfield 95, 3, 11, 45, 0, [(0, 1103)]),
  (239, .aload_n 0, 1, 0, 0, 0, []),
  (240, .bipush 12, 2, 0, 0, 12, []),
  (242, .newarray .int, 2, 14, 0, 0, []),
  (244, .putfield 98, 3, 11, 47, 0, [(0, 1105)]),
  (247, .aload_n 0, 1, 0, 0, 0, []),
  (248, .sipush 1440, 3, 0, 0, 1440, []),
  (251, .newarray .int, 2, 14, 0, 0, []),
  (253, .putfield 101, 3, 11, 48, 0, [(0, 1106)]),
  (256, .aload_n 0, 1, 0, 0, 0, []),
  (257, .sipush 1440, 3, 0, 0, 1440, []),
  (260, .newarray .int, 2, 14, 0, 0, []),
  (262, .putfield 104, 3, 11, 49, 0, [(0, 1107)]),
  (265, .aload_n 0, 1, 0, 0, 0, []),
  (266, .sipush 1440, 3, 0, 0, 1440, []),
  (269, .newarray .int, 2, 14, 0, 0, []),
  (271, .putfield 107, 3, 11, 50, 0, [(0, 1108)]),
  (274, .aload_n 0, 1, 0, 0, 0, []),
  (275, .sipush 1440, 3, 0, 0, 1440, []),
  (278, .newarray .int, 2, 14, 0, 0, []),
  (280, .putfield 110, 3, 11, 51, 0, [(0, 1109)]),
  (283, .aload_n 0, 1, 0, 0, 0, []),
  (284, .sipush 1440, 3, 0, 0, 1440, []),
  (287, .newarray .int, 2, 14, 0, 0, []),
  (289, .putfield 113, 3, 11, 52, 0, [(0, 1110)]),
  (292, .aload_n 0, 1, 0, 0, 0, []),
  (293, .bipush 12, 2, 0, 0, 12, []),
  (295, .newarray .long, 2, 15, 0, 0, []),
  (297, .putfield 116, 3, 11, 54, 0, [(0, 1112)]),
  (300, .aload_n 0, 1, 0, 0, 0, []),
  (301, .bipush 12, 2, 0, 0, 12, []),
  (303, .newarray .long, 2, 15, 0, 0, []),
  (305, .putfield 120, 3, 11, 55, 0, [(0, 1113)]),
  (308, .aload_n 0, 1, 0, 0, 0, []),
  (309, .bipush 6, 2, 0, 0, 6, []),
  (311, .newarray .int, 2, 14, 0, 0, []),
  (313, .putfield 123, 3, 11, 56, 0, [(0, 1114)]),
  (316, .aload_n 0, 1, 0, 0, 0, []),
  (317, .bipush 6, 2, 0, 0, 6, []),
  (319, .newarray .int, 2, 14, 0, 0, []),
  (321, .putfield 126, 3, 11, 57, 0, [(0, 1115)]),
  (324, .aload_n 0, 1, 0, 0, 0, []),
  (325, .bipush 24, 2, 0, 0, 24, []),
  (327, .newarray .int, 2, 14, 0, 0, []),
  (329, .putfield 129, 3, 11, 59, 0, [(0, 1117)]),
  (332, .aload_n 0, 1, 0, 0, 0, []),
  (333, .bipush 24, 2, 0, 0, 24, []),
  (335, .newarray .int, 2, 14, 0, 0, []),
  (337, .putfield 132, 3, 11, 60, 0, [(0, 1118)]),
  (340, .aload_n 0, 1, 0, 0, 0, []),
  (341, .bipush 24, 2, 0, 0, 24, []),
  (343, .newarray .int, 2, 14, 0, 0, []),
  (345, .putfield 135, 3, 11, 61, 0, [(0, 1119)]),
  (348, .aload_n 0, 1, 0, 0, 0, []),
  (349, .bipush 24, 2, 0, 0, 24, []),
  (351, .newarray .int, 2, 14, 0, 0, []),
  (353, .putfield 138, 3, 11, 62, 0, [(0, 1120)]),
  (356, .aload_n 0, 1, 0, 0, 0, []),
  (357, .bipush 24, 2, 0, 0, 24, []),
  (359, .newarray .int, 2, 14, 0, 0, []),
  (361, .putfield 141, 3, 11, 63, 0, [(0, 1121)]),
  (364, .aload_n 0, 1, 0, 0, 0, []),
  (365, .bipush 24, 2, 0, 0, 24, []),
  (367, .newarray .int, 2, 14, 0, 0, []),
  (369, .putfield 144, 3, 11, 64, 0, [(0, 1122)]),
  (372, .aload_n 0, 1, 0, 0, 0, []),
  (373, .bipush 24, 2, 0, 0, 24, []),
  (375, .newarray .int, 2, 14, 0, 0, []),
  (377, .putfield 147, 3, 11, 65, 0, [(0, 1123)]),
  (380, .aload_n 0, 1, 0, 0, 0, []),
  (381, .bipush 24, 2, 0, 0, 24, []),
  (383, .newarray .int, 2, 14, 0, 0, []),
  (385, .putfield 150, 3, 11, 66, 0, [(0, 1124)]),
  (388, .aload_n 0, 1, 0, 0, 0, []),
  (389, .bipush 24, 2, 0, 0, 24, []),
  (391, .newarray .int, 2, 14, 0, 0, []),
  (393, .putfield 153, 3, 11, 67, 0, [(0, 1125)]),
  (396, .aload_n 0, 1, 0, 0, 0, []),
  (397, .bipush 24, 2, 0, 0, 24, []),
  (399, .newarray .int, 2, 14, 0, 0, []),
  (401, .putfield 156, 3, 11, 68, 0, [(0, 1126)]),
  (404, .aload_n 0, 1, 0, 0, 0, []),
  (405, .bipush 24, 2, 0, 0, 24, []),
  (407, .newarray .int, 2, 14, 0, 0, []),
  (409, .putfield 159, 3, 11, 71, 0, [(0, 1129)]),
  (412, .aload_n 0, 1, 0, 0, 0, []),
  (413, .bipush 24, 2, 0, 0, 24, []),
  (415, .newarray .int, 2, 14, 0, 0, []),
  (417, .putfield 162, 3, 11, 74, 0, [(0, 1132)]),
  (420, .aload_n 0, 1, 0, 0, 0, []),
  (421, .bipush 24, 2, 0, 0, 24, []),
  (423, .newarray .int, 2, 14, 0, 0, []),
  (425, .putfield 165, 3, 11, 75, 0, [(0, 1133)]),
  (428, .aload_n 0, 1, 0, 0, 0, []),
  (429, .bipush 24, 2, 0, 0, 24, []),
  (431, .newarray .int, 2, 14, 0, 0, []),
  (433, .putfield 168, 3, 11, 76, 0, [(0, 1134)]),
  (436, .aload_n 0, 1, 0, 0, 0, []),
  (437, .bipush 24, 2, 0, 0, 24, []),
  (439, .newarray .int, 2, 14, 0, 0, []),
  (441, .putfield 171, 3, 11, 77, 0, [(0, 1135)]),
  (444, .aload_n 0, 1, 0, 0, 0, []),
  (445, .bipush 24, 2, 0, 0, 24, []),
  (447, .newarray .int, 2, 14, 0, 0, []),
  (449, .putfield 174, 3, 11, 78, 0, [(0, 1136)]),
  (452, .aload_n 0, 1, 0, 0, 0, []),
  (453, .getfield 7, 3, 11, 0, 0, [(0, 1058)]),
  (456, .bipush 19, 2, 0, 0, 19, []),
  (458, .iconst 1, 1, 0, 0, 1, []),
  (459, .iastore, 1, 0, 0, 0, []),
  (460, .return_, 1, 0, 0, 0, [])]
/-- NamedToWedModel.people(IIII)Z -/
def cd_188 : Cod := [(0, .aload_n 0, 1, 0, 0, 0, []),
  (1, .iload_n 1, 1, 1, 0, 0, []),
  (2, .invokevirtual 189, 3, 189, 2, 0, [(0, 1148)]),
  (5, .ifCond .eq 37, 3, 42, 0, 0, []),
  (8, .iload_n 2, 1, 2, 0, 0, []),
  (9, .iconst 0, 1, 0, 0, 0, []),
  (10, .sipush 9999, 3, 0, 0, 9999, []),
  (13, .invokestatic 185, 3, 190, 3, 0, [(0, 1151)]),
  (16, .ifCond .eq 26, 3, 42, 0, 0, []),
  (19, .iload_n 3, 1, 3, 0, 0, []),
  (20, .iconst 0, 1, 0, 0, 0, []),
  (21, .sipush 9999, 3, 0, 0, 9999, []),
  (24, .invokestatic 185, 3, 190, 3, 0, [(0, 1151)]),
  (27, .ifCond .eq 15, 3, 42, 0, 0, []),
  (30, .iload 4, 2, 4, 0, 0, []),
  (32, .iconst 0, 1, 0, 0, 0, []),
  (33, .sipush 9999, 3, 0, 0, 9999, []),
  (36, .invokestatic 185, 3, 190, 3, 0, [(0, 1151)]),
  (39, .ifCond .ne 5, 3, 44, 0, 0, []),
  (42, .iconst 0, 1, 0, 0, 0, []),
  (43, .ireturn, 1, 1, 0, 0, []),
  (44, .aload_n 0, 1, 0, 0, 0, []),
  (45, .getfield 7, 3, 11, 0, 0, [(0, 1058)]),
  (48, .iconst 0, 1, 0, 0, 0, []),
  (49, .iload_n 1, 1, 1, 0, 0, []),
  (50, .iadd, 1, 0, 0, 0, []),
  (51, .iload_n 2, 1, 2, 0, 0, []),
  (52, .iastore, 1, 0, 0, 0, []),
  (53, .aload_n 0, 1, 0, 0, 0, []),
  (54, .getfield 7, 3, 11, 0, 0, [(0, 1058)]),
  (57, .bipush 6, 2, 0, 0, 6, []),
  (59, .iload_n 1, 1, 1, 0, 0, []),
  (60, .iadd, 1, 0, 0, 0, []),
  (61, .iload_n 3, 1, 3, 0, 0, []),
  (62, .iastore, 1, 0, 0, 0, []),
  (63, .aload_n 0, 1, 0, 0, 0, []),
  (64, .getfield 7, 3, 11, 0, 0, [(0, 1058)]),
  (67, .bipush 12, 2, 0, 0, 12, []),
  (69, .iload_n 1, 1, 1, 0, 0, []),
  (70, .iadd, 1, 0, 0, 0, []),
  (71, .iload 4, 2, 4, 0, 0, []),
  (73, .iastore, 1, 0, 0, 0, []),
  (74, .iconst 1, 1, 0, 0, 1, []),
  (75, .ireturn, 1, 1, 0, 0, [])]
/-- NamedToWedModel.isName(I)Z -/
def cd_189 : Cod := [(0, .iload_n 1, 1, 1, 0, 0, []),
  (1, .iconst 0, 1, 0, 0, 0, []),
  (2, .aload_n 0, 1, 0, 0, 0, []),
  (3, .getfield 181, 3, 11, 5, 0, [(0, 1063)]),
  (6, .iconst 1, 1, 0, 0, 1, []),
  (7, .isub, 1, 0, 0, 0, []),
  (8, .invokestatic 185, 3, 190, 3, 0, [(0, 1151)]),
  (11, .ireturn, 1, 1, 0, 0, [])]
/-- NamedToWedModel.in(III)Z -/
def cd_190 : Cod := [(0, .iload_n 0, 1, 0, 0, 0, []),
  (1, .iload_n 1, 1, 1, 0, 0, []),
  (2, .if_icmp .lt 12, 3, 14, 0, 0, []),
  (5, .iload_n 0, 1, 0, 0, 0, []),
  (6, .iload_n 2, 1, 2, 0, 0, []),
  (7, .if_icmp .gt 7, 3, 14, 0, 0, []),
  (10, .iconst 1, 1, 0, 0, 1, []),
  (11, .goto 4, 3, 15, 0, 0, []),
  (14, .iconst 0, 1, 0, 0, 0, []),
  (15, .ireturn, 1, 1, 0, 0, [])]
/-- NamedToWedModel.feed(IIIII)I -/
def cd_191 : Cod := [(0, .aload_n 0, 1, 0, 0, 0, []),
  (1, .getfield 193, 3, 11, 7, 0, [(0, 1065)]),
  (4, .bipush 20, 2, 0, 0, 20, []),
  (6, .iadd, 1, 0, 0, 0, []),
  (7, .sipush 260, 3, 0, 0, 260, []),
  (10, .if_icmp .le 5, 3, 15, 0, 0, []),
  (13, .iconst (-1), 1, 0, 0, (-1), []),
  (14, .ireturn, 1, 0, 0, 0, []),
  (15, .aload_n 0, 1, 0, 0, 0, []),
  (16, .iload_n 1, 1, 1, 0, 0, []),
  (17, .invokevirtual 196, 3, 192, 2, 0, [(0, 1158)]),
  (20, .aload_n 0, 1, 0, 0, 0, []),
  (21, .iload_n 2, 1, 2, 0, 0, []),
  (22, .invokevirtual 196, 3, 192, 2, 0, [(0, 1158)]),
  (25, .aload_n 0, 1, 0, 0, 0, []),
  (26, .iload_n 3, 1, 3, 0, 0, []),
  (27, .invokevirtual 196, 3, 192, 2, 0, [(0, 1158)]),
  (30, .aload_n 0, 1, 0, 0, 0, []),
  (31, .iload 4, 2, 4, 0, 0, []),
  (33, .invokevirtual 196, 3, 192, 2, 0, [(0, 1158)]),
  (36, .aload_n 0, 1, 0, 0, 0, []),
  (37, .iload 5, 2, 5, 0, 0, []),
  (39, .invokevirtual 196, 3, 192, 2, 0, [(0, 1158)]),
  (42, .aload_n 0, 1, 0, 0, 0, []),
  (43, .getfield 193, 3, 11, 7, 0, [(0, 1065)]),
  (46, .ireturn, 1, 0, 0, 0, [])]
/-- NamedToWedModel.types(I)V -/
def cd_192 : Cod := [(0, .iconst 3, 1, 0, 0, 3, []),
  (1, .istore_n 2, 1, 2, 0, 0, []),
  (2, .iload_n 2, 1, 2, 0, 0, []),
  (3, .ifCond .lt 35, 3, 38, 0, 0, []),
  (6, .aload_n 0, 1, 0, 0, 0, []),
  (7, .getfield 25, 3, 11, 6, 0, [(0, 1064)]),
  (10, .aload_n 0, 1, 0, 0, 0, []),
  (11, .getfield 193, 3, 11, 7, 0, [(0, 1065)]),
  (14, .iload_n 1, 1, 1, 0, 0, []),
  (15, .bipush 8, 2, 0, 0, 8, []),
  (17, .iload_n 2, 1, 2, 0, 0, []),
  (18, .imul, 1, 0, 0, 0, []),
  (19, .ishr, 1, 0, 0, 0, []),
  (20, .i2b, 1, 0, 0, 0, []),
  (21, .bastore, 1, 0, 0, 0, []),
  (22, .aload_n 0, 1, 0, 0, 0, []),
  (23, .aload_n 0, 1, 0, 0, 0, []),
  (24, .getfield 193, 3, 11, 7, 0, [(0, 1065)]),
  (27, .iconst 1, 1, 0, 0, 1, []),
  (28, .iadd, 1, 0, 0, 0, []),
  (29, .putfield 193, 3, 11, 7, 0, [(0, 1065)]),
  (32, .iinc 2 (-1), 3, 2, 0, (-1), []),
  (35, .goto (-33), 3, 2, 0, 0, []),
  (38, .return_, 1, 0, 0, 0, [])]
/-- NamedToWedModel.law(I)I -/
def cd_193 : Cod := [(0, .iload_n 1, 1, 1, 0, 0, []),
  (1, .iconst 1, 1, 0, 0, 1, []),
  (2, .sipush 240, 3, 0, 0, 240, []),
  (5, .invokestatic 185, 3, 190, 3, 0, [(0, 1151)]),
  (8, .ifCond .eq 11, 3, 19, 0, 0, []),
  (11, .iload_n 1, 1, 1, 0, 0, []),
  (12, .aload_n 0, 1, 0, 0, 0, []),
  (13, .getfield 193, 3, 11, 7, 0, [(0, 1065)]),
  (16, .if_icmp .le 5, 3, 21, 0, 0, []),
  (19, .iconst (-1), 1, 0, 0, (-1), []),
  (20, .ireturn, 1, 0, 0, 0, []),
  (21, .aload_n 0, 1, 0, 0, 0, []),
  (22, .iconst 0, 1, 0, 0, 0, []),
  (23, .iload_n 1, 1, 1, 0, 0, []),
  (24, .invokevirtual 284, 3, 194, 3, 0, [(0, 1165)]),
  (27, .aload_n 0, 1, 0, 0, 0, []),
  (28, .invokevirtual 287, 3, 195, 1, 0, [(0, 1168)]),
  (31, .istore_n 2, 1, 2, 0, 0, []),
  (32, .iload_n 2, 1, 2, 0, 0, []),
  (33, .ifCond .eq 39, 3, 72, 0, 0, []),
  (36, .aload_n 0, 1, 0, 0, 0, []),
  (37, .getfield 200, 3, 11, 8, 0, [(0, 1066)]),
  (40, .aload_n 0, 1, 0, 0, 0, []),
  (41, .getfield 203, 3, 11, 9, 0, [(0, 1067)]),
  (44, .if_icmp .ge 28, 3, 72, 0, 0, []),
  (47, .aload_n 0, 1, 0, 0, 0, []),
  (48, .bipush 59, 2, 0, 0, 59, []),
  (50, .invokevirtual 290, 3, 214, 2, 0, [(0, 1226)]),
  (53, .ifCond .eq 14, 3, 67, 0, 0, []),
  (56, .aload_n 0, 1, 0, 0, 0, []),
  (57, .invokevirtual 287, 3, 195, 1, 0, [(0, 1168)]),
  (60, .ifCond .eq 7, 3, 67, 0, 0, []),
  (63, .iconst 1, 1, 0, 0, 1, []),
  (64, .goto 4, 3, 68, 0, 0, []),
  (67, .iconst 0, 1, 0, 0, 0, []),
  (68, .istore_n 2, 1, 2, 0, 0, []),
  (69, .goto (-37), 3, 32, 0, 0, []),
  (72, .aload_n 0, 1, 0, 0, 0, []),
  (73, .iconst 0, 1, 0, 0, 0, []),
  (74, .putfield 193, 3, 11, 7, 0, [(0, 1065)]),
  (77, .iload_n 2, 1, 2, 0, 0, []),
  (78, .ifCond .ne 8, 3, 86, 0, 0, []),
  (81, .aload_n 0, 1, 0, 0, 0, []),
  (82, .getfield 210, 3, 11, 10, 0, [(0, 1068)]),
  (85, .ireturn, 1, 0, 0, 0, []),
  (86, .aload_n 0, 1, 0, 0, 0, []),
  (87, .aload_n 0, 1, 0, 0, 0, []),
  (88, .getfield 278, 3, 11, 15, 0, [(0, 1073)]),
  (91, .putfield 293, 3, 11, 16, 0, [(0, 1074)]),
  (94, .iconst 0, 1, 0, 0, 0, []),
  (95, .istore_n 3, 1, 3, 0, 0, []),
  (96, .iload_n 3, 1, 3, 0, 0, []),
  (97, .aload_n 0, 1, 0, 0, 0, []),
  (98, .getfield 223, 3, 11, 13, 0, [(0, 1071)]),
  (101, .if_icmp .ge 21, 3, 122, 0, 0, []),
  (104, .aload_n 0, 1, 0, 0, 0, []),
  (105, .getfield 47, 3, 11, 23, 0, [(0, 1081)]),
  (108, .iload_n 3, 1, 3, 0, 0, []),
  (109, .aload_n 0, 1, 0, 0, 0, []),
  (110, .getfield 29, 3, 11, 17, 0, [(0, 1075)]),
  (113, .iload_n 3, 1, 3, 0, 0, []),
  (114, .iaload, 1, 0, 0, 0, []),
  (115, .iastore, 1, 0, 0, 0, []),
  (116, .iinc 3 1, 3, 3, 0, 1, []),
  (119, .goto (-23), 3, 96, 0, 0, []),
  (122, .iconst 0, 1, 0, 0, 0, []),
  (123, .istore_n 3, 1, 3, 0, 0, []),
  (124, .iload_n 3, 1, 3, 0, 0, []),
  (125, .aload_n 0, 1, 0, 0, 0, []),
  (126, .getfield 278, 3, 11, 15, 0, [(0, 1073)]),
  (129, .if_icmp .ge 57, 3, 186, 0, 0, []),
  (132, .aload_n 0, 1, 0, 0, 0, []),
  (133, .getfield 50, 3, 11, 24, 0, [(0, 1082)]),
  (136, .iload_n 3, 1, 3, 0, 0, []),
  (137, .aload_n 0, 1, 0, 0, 0, []),
  (138, .getfield 35, 3, 11, 19, 0, [(0, 1077)]),
  (141, .iload_n 3, 1, 3, 0, 0, []),
  (142, .iaload, 1, 0, 0, 0, []),
  (143, .iastore, 1, 0, 0, 0, []),
  (144, .aload_n 0, 1, 0, 0, 0, []),
  (145, .getfield 53, 3, 11, 25, 0, [(0, 1083)]),
  (148, .iload_n 3, 1, 3, 0, 0, []),
  (149, .aload_n 0, 1, 0, 0, 0, []),
  (150, .getfield 38, 3, 11, 20, 0, [(0, 1078)]),
  (153, .iload_n 3, 1, 3, 0, 0, []),
  (154, .iaload, 1, 0, 0, 0, []),
  (155, .iastore, 1, 0, 0, 0, []),
  (156, .aload_n 0, 1, 0, 0, 0, []),
  (157, .getfield 56, 3, 11, 26, 0, [(0, 1084)]),
  (160, .iload_n 3, 1, 3, 0, 0, []),
  (161, .aload_n 0, 1, 0, 0, 0, []),
  (162, .getfield 41, 3, 11, 21, 0, [(0, 1079)]),
  (165, .iload_n 3, 1, 3, 0, 0, []),
  (166, .iaload, 1, 0, 0, 0, []),
  (167, .iastore, 1, 0, 0, 0, []),
  (168, .aload_n 0, 1, 0, 0, 0, []),
  (169, .getfield 59, 3, 11, 27, 0, [(0, 1085)]),
  (172, .iload_n 3, 1, 3, 0, 0, []),
  (173, .aload_n 0, 1, 0, 0, 0, []),
  (174, .getfield 44, 3, 11, 22, 0, [(0, 1080)]),
  (177, .iload_n 3, 1, 3, 0, 0, []),
  (178, .iaload, 1, 0, 0, 0, []),
  (179, .iastore, 1, 0, 0, 0, []),
  (180, .iinc 3 1, 3, 3, 0, 1, []),
  (183, .goto (-59), 3, 124, 0, 0, []),
  (186, .aload_n 0, 1, 0, 0, 0, []),
  (187, .getfield 278, 3, 11, 15, 0, [(0, 1073)]),
  (190, .ireturn, 1, 0, 0, 0, [])]
/-- NamedToWedModel.beginsText(II)V -/
def cd_194 : Cod := [(0, .aload_n 0, 1, 0, 0, 0, []),
  (1, .iload_n 1, 1, 1, 0, 0, []),
  (2, .putfield 200, 3, 11, 8, 0, [(0, 1066)]),
  (5, .aload_n 0, 1, 0, 0, 0, []),
  (6, .iload_n 1, 1, 1, 0, 0, []),
  (7, .iload_n 2, 1, 2, 0, 0, []),
  (8, .iadd, 1, 0, 0, 0, []),
  (9, .putfield 203, 3, 11, 9, 0, [(0, 1067)]),
  (12, .aload_n 0, 1, 0, 0, 0, []),
  (13, .iconst 0, 1, 0, 0, 0, []),
  (14, .putfield 223, 3, 11, 13, 0, [(0, 1071)]),
  (17, .aload_n 0, 1, 0, 0, 0, []),
  (18, .iconst 0, 1, 0, 0, 0, []),
  (19, .putfield 278, 3, 11, 15, 0, [(0, 1073)]),
  (22, .return_, 1, 0, 0, 0, [])]
/-- NamedToWedModel.readsClause()Z -/
def cd_195 : Cod := [(0, .aload_n 0, 1, 0, 0, 0, []),
  (1, .invokevirtual 206, 3, 196, 1, 0, [(0, 1171)]),
  (4, .istore_n 1, 1, 1, 0, 0, []),
  (5, .iload_n 1, 1, 1, 0, 0, []),
  (6, .bipush 119, 2, 0, 0, 119, []),
  (8, .if_icmp .eq 31, 3, 39, 0, 0, []),
  (11, .iload_n 1, 1, 1, 0, 0, []),
  (12, .bipush 98, 2, 0, 0, 98, []),
  (14, .if_icmp .eq 25, 3, 39, 0, 0, []),
  (17, .iload_n 1, 1, 1, 0, 0, []),
  (18, .bipush 100, 2, 0, 0, 100, []),
  (20, .if_icmp .eq 19, 3, 39, 0, 0, []),
  (23, .iload_n 1, 1, 1, 0, 0, []),
  (24, .bipush 120, 2, 0, 0, 120, []),
  (26, .if_icmp .eq 13, 3, 39, 0, 0, []),
  (29, .aload_n 0, 1, 0, 0, 0, []),
  (30, .iconst 1, 1, 0, 0, 1, []),
  (31, .aload_n 0, 1, 0, 0, 0, []),
  (32, .getfield 200, 3, 11, 8, 0, [(0, 1066)]),
  (35, .invokevirtual 213, 3, 197, 3, 0, [(0, 1174)]),
  (38, .ireturn, 1, 1, 0, 0, []),
  (39, .aload_n 0, 1, 0, 0, 0, []),
  (40, .getfield 278, 3, 11, 15, 0, [(0, 1073)]),
  (43, .bipush 16, 2, 0, 0, 16, []),
  (45, .if_icmp .ne 13, 3, 58, 0, 0, []),
  (48, .aload_n 0, 1, 0, 0, 0, []),
  (49, .iconst 4, 1, 0, 0, 4, []),
  (50, .aload_n 0, 1, 0, 0, 0, []),
  (51, .getfield 200, 3, 11, 8, 0, [(0, 1066)]),
  (54, .invokevirtual 213, 3, 197, 3, 0, [(0, 1174)]),
  (57, .ireturn, 1, 1, 0, 0, []),
  (58, .aload_n 0, 1, 0, 0, 0, []),
  (59, .getfield 35, 3, 11, 19, 0, [(0, 1077)]),
  (62, .aload_n 0, 1, 0, 0, 0, []),
  (63, .getfield 278, 3, 11, 15, 0, [(0, 1073)]),
  (66, .iload_n 1, 1, 1, 0, 0, []),
  (67, .iastore, 1, 0, 0, 0, []),
  (68, .aload_n 0, 1, 0, 0, 0, []),
  (69, .aload_n 0, 1, 0, 0, 0, []),
  (70, .getfield 200, 3, 11, 8, 0, [(0, 1066)]),
  (73, .iconst 1, 1, 0, 0, 1, []),
  (74, .iadd, 1, 0, 0, 0, []),
  (75, .putfield 200, 3, 11, 8, 0, [(0, 1066)]),
  (78, .aload_n 0, 1, 0, 0, 0, []),
  (79, .getfield 38, 3, 11, 20, 0, [(0, 1078)]),
  (82, .aload_n 0, 1, 0, 0, 0, []),
  (83, .getfield 278, 3, 11, 15, 0, [(0, 1073)]),
  (86, .aload_n 0, 1, 0, 0, 0, []),
  (87, .getfield 223, 3, 11, 13, 0, [(0, 1071)]),
  (90, .iastore, 1, 0, 0, 0, []),
  (91, .aload_n 0, 1, 0, 0, 0, []),
  (92, .iconst 0, 1, 0, 0, 0, []),
  (93, .putfield 227, 3, 11, 12, 0, [(0, 1070)]),
  (96, .aload_n 0, 1, 0, 0, 0, []),
  (97, .iconst 0, 1, 0, 0, 0, []),
  (98, .putfield 230, 3, 11, 14, 0, [(0, 1072)]),
  (101, .iload_n 1, 1, 1, 0, 0, []),
  (102, .bipush 120, 2, 0, 0, 120, []),
  (104, .if_icmp .eq 12, 3, 116, 0, 0, []),
  (107, .aload_n 0, 1, 0, 0, 0, []),
  (108, .invokevirtual 263, 3, 198, 1, 0, [(0, 1177)]),
  (111, .ifCond .ne 5, 3, 116, 0, 0, []),
  (114, .iconst 0, 1, 0, 0, 0, []),
  (115, .ireturn, 1, 1, 0, 0, []),
  (116, .aload_n 0, 1, 0, 0, 0, []),
  (117, .getfield 41, 3, 11, 21, 0, [(0, 1079)]),
  (120, .aload_n 0, 1, 0, 0, 0, []),
  (121, .getfield 278, 3, 11, 15, 0, [(0, 1073)]),
  (124, .aload_n 0, 1, 0, 0, 0, []),
  (125, .getfield 223, 3, 11, 13, 0, [(0, 1071)]),
  (128, .iastore, 1, 0, 0, 0, []),
  (129, .aload_n 0, 1, 0, 0, 0, []),
  (130, .invokevirtual 281, 3, 209, 1, 0, [(0, 1211)]),
  (133, .ifCond .ne 5, 3, 138, 0, 0, []),
  (136, .iconst 0, 1, 0, 0, 0, []),
  (137, .ireturn, 1, 1, 0, 0, []),
  (138, .aload_n 0, 1, 0, 0, 0, []),
  (139, .getfield 44, 3, 11, 22, 0, [(0, 1080)]),
  (142, .aload_n 0, 1, 0, 0, 0, []),
  (143, .getfield 278, 3, 11, 15, 0, [(0, 1073)]),
  (146, .aload_n 0, 1, 0, 0, 0, []),
  (147, .getfield 223, 3, 11, 13, 0, [(0, 1071)]),
  (150, .iastore, 1, 0, 0, 0, []),
  (151, .aload_n 0, 1, 0, 0, 0, []),
  (152, .aload_n 0, 1, 0, 0, 0, []),
  (153, .getfield 278, 3, 11, 15, 0, [(0, 1073)]),
  (156, .iconst 1, 1, 0, 0, 1, []),
  (157, .iadd, 1, 0, 0, 0, []),
  (158, .putfield 278, 3, 11, 15, 0, [(0, 1073)]),
  (161, .iconst 1, 1, 0, 0, 1, []),
  (162, .ireturn, 1, 1, 0, 0, [])]
/-- NamedToWedModel.here()I -/
def cd_196 : Cod := [(0, .aload_n 0, 1, 0, 0, 0, []),
  (1, .getfield 200, 3, 11, 8, 0, [(0, 1066)]),
  (4, .aload_n 0, 1, 0, 0, 0, []),
  (5, .getfield 203, 3, 11, 9, 0, [(0, 1067)]),
  (8, .if_icmp .ge 19, 3, 27, 0, 0, []),
  (11, .aload_n 0, 1, 0, 0, 0, []),
  (12, .getfield 25, 3, 11, 6, 0, [(0, 1064)]),
  (15, .aload_n 0, 1, 0, 0, 0, []),
  (16, .getfield 200, 3, 11, 8, 0, [(0, 1066)]),
  (19, .baload, 1, 0, 0, 0, []),
  (20, .sipush 255, 3, 0, 0, 255, []),
  (23, .iand, 1, 0, 0, 0, []),
  (24, .goto 4, 3, 28, 0, 0, []),
  (27, .iconst (-1), 1, 0, 0, (-1), []),
  (28, .ireturn, 1, 0, 0, 0, [])]
/-- NamedToWedModel.wrongAt(II)Z -/
def cd_197 : Cod := [(0, .aload_n 0, 1, 0, 0, 0, []),
  (1, .sipush (-1000), 3, 0, 0, (-1000), []),
  (4, .iload_n 1, 1, 1, 0, 0, []),
  (5, .imul, 1, 0, 0, 0, []),
  (6, .iload_n 2, 1, 2, 0, 0, []),
  (7, .isub, 1, 0, 0, 0, []),
  (8, .putfield 210, 3, 11, 10, 0, [(0, 1068)]),
  (11, .iconst 0, 1, 0, 0, 0, []),
  (12, .ireturn, 1, 1, 0, 0, [])]
/-- NamedToWedModel.readsSum()Z -/
def cd_198 : Cod := [(0, .aload_n 0, 1, 0, 0, 0, []),
  (1, .getfield 230, 3, 11, 14, 0, [(0, 1072)]),
  (4, .istore_n 1, 1, 1, 0, 0, []),
  (5, .aload_n 0, 1, 0, 0, 0, []),
  (6, .invokevirtual 250, 3, 199, 1, 0, [(0, 1180)]),
  (9, .ifCond .ne 5, 3, 14, 0, 0, []),
  (12, .iconst 0, 1, 0, 0, 0, []),
  (13, .ireturn, 1, 1, 0, 0, []),
  (14, .aload_n 0, 1, 0, 0, 0, []),
  (15, .invokevirtual 206, 3, 196, 1, 0, [(0, 1171)]),
  (18, .invokestatic 253, 3, 205, 1, 0, [(0, 1199)]),
  (21, .istore_n 2, 1, 2, 0, 0, []),
  (22, .iload_n 2, 1, 2, 0, 0, []),
  (23, .iconst (-1), 1, 0, 0, (-1), []),
  (24, .if_icmp .eq 59, 3, 83, 0, 0, []),
  (27, .aload_n 0, 1, 0, 0, 0, []),
  (28, .iload_n 2, 1, 2, 0, 0, []),
  (29, .iconst 4, 1, 0, 0, 4, []),
  (30, .if_icmp .ge 7, 3, 37, 0, 0, []),
  (33, .iconst 1, 1, 0, 0, 1, []),
  (34, .goto 4, 3, 38, 0, 0, []),
  (37, .iconst 0, 1, 0, 0, 0, []),
  (38, .invokevirtual 256, 3, 206, 2, 0, [(0, 1202)]),
  (41, .aload_n 0, 1, 0, 0, 0, []),
  (42, .getfield 32, 3, 11, 18, 0, [(0, 1076)]),
  (45, .aload_n 0, 1, 0, 0, 0, []),
  (46, .getfield 230, 3, 11, 14, 0, [(0, 1072)]),
  (49, .ldc 226, 2, 0, 1, 1048576, [(5, 1186)]),
  (51, .iload_n 2, 1, 2, 0, 0, []),
  (52, .imul, 1, 0, 0, 0, []),
  (53, .iastore, 1, 0, 0, 0, []),
  (54, .aload_n 0, 1, 0, 0, 0, []),
  (55, .aload_n 0, 1, 0, 0, 0, []),
  (56, .getfield 230, 3, 11, 14, 0, [(0, 1072)]),
  (59, .iconst 1, 1, 0, 0, 1, []),
  (60, .iadd, 1, 0, 0, 0, []),
  (61, .putfield 230, 3, 11, 14, 0, [(0, 1072)]),
  (64, .aload_n 0, 1, 0, 0, 0, []),
  (65, .aload_n 0, 1, 0, 0, 0, []),
  (66, .getfield 200, 3, 11, 8, 0, [(0, 1066)]),
  (69, .iconst 1, 1, 0, 0, 1, []),
  (70, .iadd, 1, 0, 0, 0, []),
  (71, .putfield 200, 3, 11, 8, 0, [(0, 1066)]),
  (74, .aload_n 0, 1, 0, 0, 0, []),
  (75, .invokevirtual 250, 3, 199, 1, 0, [(0, 1180)]),
  (78, .ifCond .ne 85, 3, 163, 0, 0, []),
  (81, .iconst 0, 1, 0, 0, 0, []),
  (82, .ireturn, 1, 1, 0, 0, []),
  (83, .aload_n 0, 1, 0, 0, 0, []),
  (84, .invokevirtual 206, 3, 196, 1, 0, [(0, 1171)]),
  (87, .bipush 93, 2, 0, 0, 93, []),
  (89, .if_icmp .ne 49, 3, 138, 0, 0, []),
  (92, .aload_n 0, 1, 0, 0, 0, []),
  (93, .iload_n 1, 1, 1, 0, 0, []),
  (94, .invokevirtual 260, 3, 208, 2, 0, [(0, 1208)]),
  (97, .ifCond .eq 41, 3, 138, 0, 0, []),
  (100, .aload_n 0, 1, 0, 0, 0, []),
  (101, .iconst 1, 1, 0, 0, 1, []),
  (102, .invokevirtual 256, 3, 206, 2, 0, [(0, 1202)]),
  (105, .aload_n 0, 1, 0, 0, 0, []),
  (106, .aload_n 0, 1, 0, 0, 0, []),
  (107, .getfield 230, 3, 11, 14, 0, [(0, 1072)]),
  (110, .iconst 1, 1, 0, 0, 1, []),
  (111, .isub, 1, 0, 0, 0, []),
  (112, .putfield 230, 3, 11, 14, 0, [(0, 1072)]),
  (115, .aload_n 0, 1, 0, 0, 0, []),
  (116, .aload_n 0, 1, 0, 0, 0, []),
  (117, .getfield 227, 3, 11, 12, 0, [(0, 1070)]),
  (120, .iconst 1, 1, 0, 0, 1, []),
  (121, .isub, 1, 0, 0, 0, []),
  (122, .putfield 227, 3, 11, 12, 0, [(0, 1070)]),
  (125, .aload_n 0, 1, 0, 0, 0, []),
  (126, .aload_n 0, 1, 0, 0, 0, []),
  (127, .getfield 200, 3, 11, 8, 0, [(0, 1066)]),
  (130, .iconst 1, 1, 0, 0, 1, []),
  (131, .iadd, 1, 0, 0, 0, []),
  (132, .putfield 200, 3, 11, 8, 0, [(0, 1066)]),
  (135, .goto 28, 3, 163, 0, 0, []),
  (138, .aload_n 0, 1, 0, 0, 0, []),
  (139, .iload_n 1, 1, 1, 0, 0, []),
  (140, .invokevirtual 260, 3, 208, 2, 0, [(0, 1208)]),
  (143, .ifCond .eq 13, 3, 156, 0, 0, []),
  (146, .aload_n 0, 1, 0, 0, 0, []),
  (147, .iconst 1, 1, 0, 0, 1, []),
  (148, .aload_n 0, 1, 0, 0, 0, []),
  (149, .getfield 200, 3, 11, 8, 0, [(0, 1066)]),
  (152, .invokevirtual 213, 3, 197, 3, 0, [(0, 1174)]),
  (155, .ireturn, 1, 1, 0, 0, []),
  (156, .aload_n 0, 1, 0, 0, 0, []),
  (157, .iconst 1, 1, 0, 0, 1, []),
  (158, .invokevirtual 256, 3, 206, 2, 0, [(0, 1202)]),
  (161, .iconst 1, 1, 0, 0, 1, []),
  (162, .ireturn, 1, 1, 0, 0, []),
  (163, .goto (-149), 3, 14, 0, 0, [])]
/-- NamedToWedModel.readsFactor()Z -/
def cd_199 : Cod := [(0, .aload_n 0, 1, 0, 0, 0, []),
  (1, .invokevirtual 206, 3, 196, 1, 0, [(0, 1171)]),
  (4, .bipush 91, 2, 0, 0, 91, []),
  (6, .if_icmp .ne 14, 3, 20, 0, 0, []),
  (9, .aload_n 0, 1, 0, 0, 0, []),
  (10, .bipush 14, 2, 0, 0, 14, []),
  (12, .invokevirtual 240, 3, 200, 2, 0, [(0, 1183)]),
  (15, .ifCond .ne (-15), 3, 0, 0, 0, []),
  (18, .iconst 0, 1, 0, 0, 0, []),
  (19, .ireturn, 1, 1, 0, 0, []),
  (20, .aload_n 0, 1, 0, 0, 0, []),
  (21, .invokevirtual 219, 3, 201, 1, 0, [(0, 1187)]),
  (24, .ifCond .eq 23, 3, 47, 0, 0, []),
  (27, .aload_n 0, 1, 0, 0, 0, []),
  (28, .invokevirtual 243, 3, 202, 1, 0, [(0, 1190)]),
  (31, .ifCond .ne 5, 3, 36, 0, 0, []),
  (34, .iconst 0, 1, 0, 0, 0, []),
  (35, .ireturn, 1, 1, 0, 0, []),
  (36, .aload_n 0, 1, 0, 0, 0, []),
  (37, .iconst 0, 1, 0, 0, 0, []),
  (38, .aload_n 0, 1, 0, 0, 0, []),
  (39, .getfield 216, 3, 11, 11, 0, [(0, 1069)]),
  (42, .invokevirtual 236, 3, 203, 3, 0, [(0, 1193)]),
  (45, .iconst 1, 1, 0, 0, 1, []),
  (46, .ireturn, 1, 1, 0, 0, []),
  (47, .aload_n 0, 1, 0, 0, 0, []),
  (48, .invokevirtual 206, 3, 196, 1, 0, [(0, 1171)]),
  (51, .invokestatic 246, 3, 204, 1, 0, [(0, 1196)]),
  (54, .istore_n 1, 1, 1, 0, 0, []),
  (55, .iload_n 1, 1, 1, 0, 0, []),
  (56, .iconst (-1), 1, 0, 0, (-1), []),
  (57, .if_icmp .ne 13, 3, 70, 0, 0, []),
  (60, .aload_n 0, 1, 0, 0, 0, []),
  (61, .iconst 1, 1, 0, 0, 1, []),
  (62, .aload_n 0, 1, 0, 0, 0, []),
  (63, .getfield 200, 3, 11, 8, 0, [(0, 1066)]),
  (66, .invokevirtual 213, 3, 197, 3, 0, [(0, 1174)]),
  (69, .ireturn, 1, 1, 0, 0, []),
  (70, .aload_n 0, 1, 0, 0, 0, []),
  (71, .iconst 1, 1, 0, 0, 1, []),
  (72, .iload_n 1, 1, 1, 0, 0, []),
  (73, .invokevirtual 236, 3, 203, 3, 0, [(0, 1193)]),
  (76, .aload_n 0, 1, 0, 0, 0, []),
  (77, .aload_n 0, 1, 0, 0, 0, []),
  (78, .getfield 200, 3, 11, 8, 0, [(0, 1066)]),
  (81, .iconst 1, 1, 0, 0, 1, []),
  (82, .iadd, 1, 0, 0, 0, []),
  (83, .putfield 200, 3, 11, 8, 0, [(0, 1066)]),
  (86, .iconst 1, 1, 0, 0, 1, []),
  (87, .ireturn, 1, 1, 0, 0, [])]
/-- NamedToWedModel.opens(I)Z -/
def cd_200 : Cod := [(0, .aload_n 0, 1, 0, 0, 0, []),
  (1, .getfield 227, 3, 11, 12, 0, [(0, 1070)]),
  (4, .bipush 6, 2, 0, 0, 6, []),
  (6, .if_icmp .ne 13, 3, 19, 0, 0, []),
  (9, .aload_n 0, 1, 0, 0, 0, []),
  (10, .iconst 5, 1, 0, 0, 5, []),
  (11, .aload_n 0, 1, 0, 0, 0, []),
  (12, .getfield 200, 3, 11, 8, 0, [(0, 1066)]),
  (15, .invokevirtual 213, 3, 197, 3, 0, [(0, 1174)]),
  (18, .ireturn, 1, 1, 0, 0, []),
  (19, .aload_n 0, 1, 0, 0, 0, []),
  (20, .aload_n 0, 1, 0, 0, 0, []),
  (21, .getfield 227, 3, 11, 12, 0, [(0, 1070)]),
  (24, .iconst 1, 1, 0, 0, 1, []),
  (25, .iadd, 1, 0, 0, 0, []),
  (26, .putfield 227, 3, 11, 12, 0, [(0, 1070)]),
  (29, .aload_n 0, 1, 0, 0, 0, []),
  (30, .getfield 32, 3, 11, 18, 0, [(0, 1076)]),
  (33, .aload_n 0, 1, 0, 0, 0, []),
  (34, .getfield 230, 3, 11, 14, 0, [(0, 1072)]),
  (37, .ldc 226, 2, 0, 1, 1048576, [(5, 1186)]),
  (39, .iload_n 1, 1, 1, 0, 0, []),
  (40, .imul, 1, 0, 0, 0, []),
  (41, .iastore, 1, 0, 0, 0, []),
  (42, .aload_n 0, 1, 0, 0, 0, []),
  (43, .aload_n 0, 1, 0, 0, 0, []),
  (44, .getfield 230, 3, 11, 14, 0, [(0, 1072)]),
  (47, .iconst 1, 1, 0, 0, 1, []),
  (48, .iadd, 1, 0, 0, 0, []),
  (49, .putfield 230, 3, 11, 14, 0, [(0, 1072)]),
  (52, .aload_n 0, 1, 0, 0, 0, []),
  (53, .aload_n 0, 1, 0, 0, 0, []),
  (54, .getfield 200, 3, 11, 8, 0, [(0, 1066)]),
  (57, .iconst 1, 1, 0, 0, 1, []),
  (58, .iadd, 1, 0, 0, 0, []),
  (59, .putfield 200, 3, 11, 8, 0, [(0, 1066)]),
  (62, .iconst 1, 1, 0, 0, 1, []),
  (63, .ireturn, 1, 1, 0, 0, [])]
/-- NamedToWedModel.isDigit()Z -/
def cd_201 : Cod := [(0, .aload_n 0, 1, 0, 0, 0, []),
  (1, .invokevirtual 206, 3, 196, 1, 0, [(0, 1171)]),
  (4, .bipush 48, 2, 0, 0, 48, []),
  (6, .if_icmp .lt 16, 3, 22, 0, 0, []),
  (9, .aload_n 0, 1, 0, 0, 0, []),
  (10, .invokevirtual 206, 3, 196, 1, 0, [(0, 1171)]),
  (13, .bipush 57, 2, 0, 0, 57, []),
  (15, .if_icmp .gt 7, 3, 22, 0, 0, []),
  (18, .iconst 1, 1, 0, 0, 1, []),
  (19, .goto 4, 3, 23, 0, 0, []),
  (22, .iconst 0, 1, 0, 0, 0, []),
  (23, .ireturn, 1, 1, 0, 0, [])]
/-- NamedToWedModel.readsNumber()Z -/
def cd_202 : Cod := [(0, .aload_n 0, 1, 0, 0, 0, []),
  (1, .getfield 200, 3, 11, 8, 0, [(0, 1066)]),
  (4, .istore_n 1, 1, 1, 0, 0, []),
  (5, .aload_n 0, 1, 0, 0, 0, []),
  (6, .iconst 0, 1, 0, 0, 0, []),
  (7, .putfield 216, 3, 11, 11, 0, [(0, 1069)]),
  (10, .aload_n 0, 1, 0, 0, 0, []),
  (11, .invokevirtual 219, 3, 201, 1, 0, [(0, 1187)]),
  (14, .ifCond .eq 55, 3, 69, 0, 0, []),
  (17, .aload_n 0, 1, 0, 0, 0, []),
  (18, .getfield 200, 3, 11, 8, 0, [(0, 1066)]),
  (21, .iload_n 1, 1, 1, 0, 0, []),
  (22, .iconst 5, 1, 0, 0, 5, []),
  (23, .iadd, 1, 0, 0, 0, []),
  (24, .if_icmp .ne 13, 3, 37, 0, 0, []),
  (27, .aload_n 0, 1, 0, 0, 0, []),
  (28, .iconst 2, 1, 0, 0, 2, []),
  (29, .aload_n 0, 1, 0, 0, 0, []),
  (30, .getfield 200, 3, 11, 8, 0, [(0, 1066)]),
  (33, .invokevirtual 213, 3, 197, 3, 0, [(0, 1174)]),
  (36, .ireturn, 1, 1, 0, 0, []),
  (37, .aload_n 0, 1, 0, 0, 0, []),
  (38, .bipush 10, 2, 0, 0, 10, []),
  (40, .aload_n 0, 1, 0, 0, 0, []),
  (41, .getfield 216, 3, 11, 11, 0, [(0, 1069)]),
  (44, .imul, 1, 0, 0, 0, []),
  (45, .aload_n 0, 1, 0, 0, 0, []),
  (46, .invokevirtual 206, 3, 196, 1, 0, [(0, 1171)]),
  (49, .iadd, 1, 0, 0, 0, []),
  (50, .bipush 48, 2, 0, 0, 48, []),
  (52, .isub, 1, 0, 0, 0, []),
  (53, .putfield 216, 3, 11, 11, 0, [(0, 1069)]),
  (56, .aload_n 0, 1, 0, 0, 0, []),
  (57, .aload_n 0, 1, 0, 0, 0, []),
  (58, .getfield 200, 3, 11, 8, 0, [(0, 1066)]),
  (61, .iconst 1, 1, 0, 0, 1, []),
  (62, .iadd, 1, 0, 0, 0, []),
  (63, .putfield 200, 3, 11, 8, 0, [(0, 1066)]),
  (66, .goto (-56), 3, 10, 0, 0, []),
  (69, .iconst 1, 1, 0, 0, 1, []),
  (70, .ireturn, 1, 1, 0, 0, [])]
/-- NamedToWedModel.notes(II)V -/
def cd_203 : Cod := [(0, .aload_n 0, 1, 0, 0, 0, []),
  (1, .getfield 29, 3, 11, 17, 0, [(0, 1075)]),
  (4, .aload_n 0, 1, 0, 0, 0, []),
  (5, .getfield 223, 3, 11, 13, 0, [(0, 1071)]),
  (8, .ldc 226, 2, 0, 1, 1048576, [(5, 1186)]),
  (10, .iload_n 1, 1, 1, 0, 0, []),
  (11, .imul, 1, 0, 0, 0, []),
  (12, .iload_n 2, 1, 2, 0, 0, []),
  (13, .iadd, 1, 0, 0, 0, []),
  (14, .iastore, 1, 0, 0, 0, []),
  (15, .aload_n 0, 1, 0, 0, 0, []),
  (16, .aload_n 0, 1, 0, 0, 0, []),
  (17, .getfield 223, 3, 11, 13, 0, [(0, 1071)]),
  (20, .iconst 1, 1, 0, 0, 1, []),
  (21, .iadd, 1, 0, 0, 0, []),
  (22, .putfield 223, 3, 11, 13, 0, [(0, 1071)]),
  (25, .return_, 1, 0, 0, 0, [])]
/-- NamedToWedModel.factOf(I)I -/
def cd_204 : Cod := [(0, .iload_n 0, 1, 0, 0, 0, []),
  (1, .tableswitch 121 97 118 #[111, 121, 121, 121, 121, 121, 121, 121, 121, 121, 109, 121, 105, 103, 121, 113, 118, 121, 121, 115, 121, 107], 103, 122, 0, 0, [(97, 112), (98, 122), (99, 122), (100, 122), (101, 122), (102, 122), (103, 122), (104, 122), (105, 122), (106, 122), (107, 110), (108, 122), (109, 106), (110, 104), (111, 122), (112, 114), (113, 119), (114, 122), (115, 122), (116, 116), (117, 122), (118, 108)]),
  (104, .iconst 0, 1, 0, 0, 0, []),
  (105, .ireturn, 1, 0, 0, 0, []),
  (106, .iconst 1, 1, 0, 0, 1, []),
  (107, .ireturn, 1, 0, 0, 0, []),
  (108, .iconst 2, 1, 0, 0, 2, []),
  (109, .ireturn, 1, 0, 0, 0, []),
  (110, .iconst 3, 1, 0, 0, 3, []),
  (111, .ireturn, 1, 0, 0, 0, []),
  (112, .iconst 4, 1, 0, 0, 4, []),
  (113, .ireturn, 1, 0, 0, 0, []),
  (114, .iconst 5, 1, 0, 0, 5, []),
  (115, .ireturn, 1, 0, 0, 0, []),
  (116, .bipush 6, 2, 0, 0, 6, []),
  (118, .ireturn, 1, 0, 0, 0, []),
  (119, .bipush 7, 2, 0, 0, 7, []),
  (121, .ireturn, 1, 0, 0, 0, []),
  (122, .iconst (-1), 1, 0, 0, (-1), []),
  (123, .ireturn, 1, 0, 0, 0, [])]
/-- NamedToWedModel.sumSign(I)I -/
def cd_205 : Cod := [(0, .iload_n 0, 1, 0, 0, 0, []),
  (1, .bipush 43, 2, 0, 0, 43, []),
  (3, .if_icmp .ne 7, 3, 10, 0, 0, []),
  (6, .iconst 2, 1, 0, 0, 2, []),
  (7, .goto 45, 3, 52, 0, 0, []),
  (10, .iload_n 0, 1, 0, 0, 0, []),
  (11, .bipush 45, 2, 0, 0, 45, []),
  (13, .if_icmp .ne 7, 3, 20, 0, 0, []),
  (16, .iconst 3, 1, 0, 0, 3, []),
  (17, .goto 35, 3, 52, 0, 0, []),
  (20, .iload_n 0, 1, 0, 0, 0, []),
  (21, .bipush 42, 2, 0, 0, 42, []),
  (23, .if_icmp .ne 7, 3, 30, 0, 0, []),
  (26, .iconst 4, 1, 0, 0, 4, []),
  (27, .goto 25, 3, 52, 0, 0, []),
  (30, .iload_n 0, 1, 0, 0, 0, []),
  (31, .bipush 47, 2, 0, 0, 47, []),
  (33, .if_icmp .ne 7, 3, 40, 0, 0, []),
  (36, .iconst 5, 1, 0, 0, 5, []),
  (37, .goto 15, 3, 52, 0, 0, []),
  (40, .iload_n 0, 1, 0, 0, 0, []),
  (41, .bipush 37, 2, 0, 0, 37, []),
  (43, .if_icmp .ne 8, 3, 51, 0, 0, []),
  (46, .bipush 6, 2, 0, 0, 6, []),
  (48, .goto 4, 3, 52, 0, 0, []),
  (51, .iconst (-1), 1, 0, 0, (-1), []),
  (52, .ireturn, 1, 0, 0, 0, [])]
/-- NamedToWedModel.closesSums(Z)V -/
def cd_206 : Cod := [(0, .aload_n 0, 1, 0, 0, 0, []),
  (1, .invokevirtual 233, 3, 207, 1, 0, [(0, 1205)]),
  (4, .iconst 4, 1, 0, 0, 4, []),
  (5, .if_icmp .lt 12, 3, 17, 0, 0, []),
  (8, .aload_n 0, 1, 0, 0, 0, []),
  (9, .invokevirtual 233, 3, 207, 1, 0, [(0, 1205)]),
  (12, .bipush 6, 2, 0, 0, 6, []),
  (14, .if_icmp .le 23, 3, 37, 0, 0, []),
  (17, .iload_n 1, 1, 1, 0, 0, []),
  (18, .ifCond .eq 41, 3, 59, 0, 0, []),
  (21, .aload_n 0, 1, 0, 0, 0, []),
  (22, .invokevirtual 233, 3, 207, 1, 0, [(0, 1205)]),
  (25, .iconst 2, 1, 0, 0, 2, []),
  (26, .if_icmp .eq 11, 3, 37, 0, 0, []),
  (29, .aload_n 0, 1, 0, 0, 0, []),
  (30, .invokevirtual 233, 3, 207, 1, 0, [(0, 1205)]),
  (33, .iconst 3, 1, 0, 0, 3, []),
  (34, .if_icmp .ne 25, 3, 59, 0, 0, []),
  (37, .aload_n 0, 1, 0, 0, 0, []),
  (38, .aload_n 0, 1, 0, 0, 0, []),
  (39, .invokevirtual 233, 3, 207, 1, 0, [(0, 1205)]),
  (42, .iconst 0, 1, 0, 0, 0, []),
  (43, .invokevirtual 236, 3, 203, 3, 0, [(0, 1193)]),
  (46, .aload_n 0, 1, 0, 0, 0, []),
  (47, .aload_n 0, 1, 0, 0, 0, []),
  (48, .getfield 230, 3, 11, 14, 0, [(0, 1072)]),
  (51, .iconst 1, 1, 0, 0, 1, []),
  (52, .isub, 1, 0, 0, 0, []),
  (53, .putfield 230, 3, 11, 14, 0, [(0, 1072)]),
  (56, .goto (-56), 3, 0, 0, 0, []),
  (59, .return_, 1, 0, 0, 0, [])]
/-- NamedToWedModel.waitTop()I -/
def cd_207 : Cod := [(0, .aload_n 0, 1, 0, 0, 0, []),
  (1, .getfield 230, 3, 11, 14, 0, [(0, 1072)]),
  (4, .ifCond .ne 7, 3, 11, 0, 0, []),
  (7, .iconst (-1), 1, 0, 0, (-1), []),
  (8, .goto 17, 3, 25, 0, 0, []),
  (11, .aload_n 0, 1, 0, 0, 0, []),
  (12, .getfield 32, 3, 11, 18, 0, [(0, 1076)]),
  (15, .aload_n 0, 1, 0, 0, 0, []),
  (16, .getfield 230, 3, 11, 14, 0, [(0, 1072)]),
  (19, .iconst 1, 1, 0, 0, 1, []),
  (20, .isub, 1, 0, 0, 0, []),
  (21, .iaload, 1, 0, 0, 0, []),
  (22, .ldc 226, 2, 0, 1, 1048576, [(5, 1186)]),
  (24, .idiv, 1, 0, 0, 0, []),
  (25, .ireturn, 1, 0, 0, 0, [])]
/-- NamedToWedModel.hasOpenSum(I)Z -/
def cd_208 : Cod := [(0, .iload_n 1, 1, 1, 0, 0, []),
  (1, .istore_n 2, 1, 2, 0, 0, []),
  (2, .iload_n 2, 1, 2, 0, 0, []),
  (3, .aload_n 0, 1, 0, 0, 0, []),
  (4, .getfield 230, 3, 11, 14, 0, [(0, 1072)]),
  (7, .if_icmp .ge 25, 3, 32, 0, 0, []),
  (10, .aload_n 0, 1, 0, 0, 0, []),
  (11, .getfield 32, 3, 11, 18, 0, [(0, 1076)]),
  (14, .iload_n 2, 1, 2, 0, 0, []),
  (15, .iaload, 1, 0, 0, 0, []),
  (16, .ldc 226, 2, 0, 1, 1048576, [(5, 1186)]),
  (18, .idiv, 1, 0, 0, 0, []),
  (19, .bipush 14, 2, 0, 0, 14, []),
  (21, .if_icmp .ne 5, 3, 26, 0, 0, []),
  (24, .iconst 1, 1, 0, 0, 1, []),
  (25, .ireturn, 1, 1, 0, 0, []),
  (26, .iinc 2 1, 3, 2, 0, 1, []),
  (29, .goto (-27), 3, 2, 0, 0, []),
  (32, .iconst 0, 1, 0, 0, 0, []),
  (33, .ireturn, 1, 1, 0, 0, [])]
/-- NamedToWedModel.readsCondition()Z -/
def cd_209 : Cod := [(0, .aload_n 0, 1, 0, 0, 0, []),
  (1, .invokevirtual 206, 3, 196, 1, 0, [(0, 1171)]),
  (4, .bipush 40, 2, 0, 0, 40, []),
  (6, .if_icmp .eq 13, 3, 19, 0, 0, []),
  (9, .aload_n 0, 1, 0, 0, 0, []),
  (10, .iconst 1, 1, 0, 0, 1, []),
  (11, .aload_n 0, 1, 0, 0, 0, []),
  (12, .getfield 200, 3, 11, 8, 0, [(0, 1066)]),
  (15, .invokevirtual 213, 3, 197, 3, 0, [(0, 1174)]),
  (18, .ireturn, 1, 1, 0, 0, []),
  (19, .aload_n 0, 1, 0, 0, 0, []),
  (20, .iconst 0, 1, 0, 0, 0, []),
  (21, .putfield 227, 3, 11, 12, 0, [(0, 1070)]),
  (24, .aload_n 0, 1, 0, 0, 0, []),
  (25, .iconst 0, 1, 0, 0, 0, []),
  (26, .putfield 230, 3, 11, 14, 0, [(0, 1072)]),
  (29, .aload_n 0, 1, 0, 0, 0, []),
  (30, .bipush 13, 2, 0, 0, 13, []),
  (32, .invokevirtual 240, 3, 200, 2, 0, [(0, 1183)]),
  (35, .ifCond .ne 5, 3, 40, 0, 0, []),
  (38, .iconst 0, 1, 0, 0, 0, []),
  (39, .ireturn, 1, 1, 0, 0, []),
  (40, .aload_n 0, 1, 0, 0, 0, []),
  (41, .invokevirtual 206, 3, 196, 1, 0, [(0, 1171)]),
  (44, .bipush 33, 2, 0, 0, 33, []),
  (46, .if_icmp .eq 12, 3, 58, 0, 0, []),
  (49, .aload_n 0, 1, 0, 0, 0, []),
  (50, .invokevirtual 206, 3, 196, 1, 0, [(0, 1171)]),
  (53, .bipush 40, 2, 0, 0, 40, []),
  (55, .if_icmp .ne 28, 3, 83, 0, 0, []),
  (58, .aload_n 0, 1, 0, 0, 0, []),
  (59, .aload_n 0, 1, 0, 0, 0, []),
  (60, .invokevirtual 206, 3, 196, 1, 0, [(0, 1171)]),
  (63, .bipush 33, 2, 0, 0, 33, []),
  (65, .if_icmp .ne 8, 3, 73, 0, 0, []),
  (68, .bipush 10, 2, 0, 0, 10, []),
  (70, .goto 5, 3, 75, 0, 0, []),
  (73, .bipush 13, 2, 0, 0, 13, []),
  (75, .invokevirtual 240, 3, 200, 2, 0, [(0, 1183)]),
  (78, .ifCond .ne (-38), 3, 40, 0, 0, []),
  (81, .iconst 0, 1, 0, 0, 0, []),
  (82, .ireturn, 1, 1, 0, 0, []),
  (83, .aload_n 0, 1, 0, 0, 0, []),
  (84, .invokevirtual 269, 3, 210, 1, 0, [(0, 1214)]),
  (87, .ifCond .ne 5, 3, 92, 0, 0, []),
  (90, .iconst 0, 1, 0, 0, 0, []),
  (91, .ireturn, 1, 1, 0, 0, []),
  (92, .aload_n 0, 1, 0, 0, 0, []),
  (93, .invokevirtual 206, 3, 196, 1, 0, [(0, 1171)]),
  (96, .bipush 41, 2, 0, 0, 41, []),
  (98, .if_icmp .ne 54, 3, 152, 0, 0, []),
  (101, .aload_n 0, 1, 0, 0, 0, []),
  (102, .iconst 1, 1, 0, 0, 1, []),
  (103, .invokevirtual 272, 3, 212, 2, 0, [(0, 1220)]),
  (106, .aload_n 0, 1, 0, 0, 0, []),
  (107, .aload_n 0, 1, 0, 0, 0, []),
  (108, .getfield 230, 3, 11, 14, 0, [(0, 1072)]),
  (111, .iconst 1, 1, 0, 0, 1, []),
  (112, .isub, 1, 0, 0, 0, []),
  (113, .putfield 230, 3, 11, 14, 0, [(0, 1072)]),
  (116, .aload_n 0, 1, 0, 0, 0, []),
  (117, .aload_n 0, 1, 0, 0, 0, []),
  (118, .getfield 227, 3, 11, 12, 0, [(0, 1070)]),
  (121, .iconst 1, 1, 0, 0, 1, []),
  (122, .isub, 1, 0, 0, 0, []),
  (123, .putfield 227, 3, 11, 12, 0, [(0, 1070)]),
  (126, .aload_n 0, 1, 0, 0, 0, []),
  (127, .aload_n 0, 1, 0, 0, 0, []),
  (128, .getfield 200, 3, 11, 8, 0, [(0, 1066)]),
  (131, .iconst 1, 1, 0, 0, 1, []),
  (132, .iadd, 1, 0, 0, 0, []),
  (133, .putfield 200, 3, 11, 8, 0, [(0, 1066)]),
  (136, .aload_n 0, 1, 0, 0, 0, []),
  (137, .getfield 230, 3, 11, 14, 0, [(0, 1072)]),
  (140, .ifCond .ne 5, 3, 145, 0, 0, []),
  (143, .iconst 1, 1, 0, 0, 1, []),
  (144, .ireturn, 1, 1, 0, 0, []),
  (145, .aload_n 0, 1, 0, 0, 0, []),
  (146, .invokevirtual 266, 3, 211, 1, 0, [(0, 1217)]),
  (149, .goto (-57), 3, 92, 0, 0, []),
  (152, .aload_n 0, 1, 0, 0, 0, []),
  (153, .invokevirtual 206, 3, 196, 1, 0, [(0, 1171)]),
  (156, .bipush 38, 2, 0, 0, 38, []),
  (158, .if_icmp .eq 22, 3, 180, 0, 0, []),
  (161, .aload_n 0, 1, 0, 0, 0, []),
  (162, .invokevirtual 206, 3, 196, 1, 0, [(0, 1171)]),
  (165, .bipush 124, 2, 0, 0, 124, []),
  (167, .if_icmp .eq 13, 3, 180, 0, 0, []),
  (170, .aload_n 0, 1, 0, 0, 0, []),
  (171, .iconst 1, 1, 0, 0, 1, []),
  (172, .aload_n 0, 1, 0, 0, 0, []),
  (173, .getfield 200, 3, 11, 8, 0, [(0, 1066)]),
  (176, .invokevirtual 213, 3, 197, 3, 0, [(0, 1174)]),
  (179, .ireturn, 1, 1, 0, 0, []),
  (180, .aload_n 0, 1, 0, 0, 0, []),
  (181, .aload_n 0, 1, 0, 0, 0, []),
  (182, .invokevirtual 206, 3, 196, 1, 0, [(0, 1171)]),
  (185, .bipush 124, 2, 0, 0, 124, []),
  (187, .if_icmp .ne 7, 3, 194, 0, 0, []),
  (190, .iconst 1, 1, 0, 0, 1, []),
  (191, .goto 4, 3, 195, 0, 0, []),
  (194, .iconst 0, 1, 0, 0, 0, []),
  (195, .invokevirtual 272, 3, 212, 2, 0, [(0, 1220)]),
  (198, .aload_n 0, 1, 0, 0, 0, []),
  (199, .aload_n 0, 1, 0, 0, 0, []),
  (200, .invokevirtual 206, 3, 196, 1, 0, [(0, 1171)]),
  (203, .bipush 38, 2, 0, 0, 38, []),
  (205, .if_icmp .ne 8, 3, 213, 0, 0, []),
  (208, .bipush 11, 2, 0, 0, 11, []),
  (210, .goto 5, 3, 215, 0, 0, []),
  (213, .bipush 12, 2, 0, 0, 12, []),
  (215, .invokevirtual 275, 3, 213, 2, 0, [(0, 1223)]),
  (218, .goto (-178), 3, 40, 0, 0, [])]
/-- NamedToWedModel.readsCompared()Z -/
def cd_210 : Cod := [(0, .aload_n 0, 1, 0, 0, 0, []),
  (1, .invokevirtual 263, 3, 198, 1, 0, [(0, 1177)]),
  (4, .ifCond .ne 5, 3, 9, 0, 0, []),
  (7, .iconst 0, 1, 0, 0, 0, []),
  (8, .ireturn, 1, 1, 0, 0, []),
  (9, .aload_n 0, 1, 0, 0, 0, []),
  (10, .invokevirtual 206, 3, 196, 1, 0, [(0, 1171)]),
  (13, .bipush 60, 2, 0, 0, 60, []),
  (15, .if_icmp .ne 8, 3, 23, 0, 0, []),
  (18, .bipush 7, 2, 0, 0, 7, []),
  (20, .goto 32, 3, 52, 0, 0, []),
  (23, .aload_n 0, 1, 0, 0, 0, []),
  (24, .invokevirtual 206, 3, 196, 1, 0, [(0, 1171)]),
  (27, .bipush 62, 2, 0, 0, 62, []),
  (29, .if_icmp .ne 8, 3, 37, 0, 0, []),
  (32, .bipush 8, 2, 0, 0, 8, []),
  (34, .goto 18, 3, 52, 0, 0, []),
  (37, .aload_n 0, 1, 0, 0, 0, []),
  (38, .invokevirtual 206, 3, 196, 1, 0, [(0, 1171)]),
  (41, .bipush 61, 2, 0, 0, 61, []),
  (43, .if_icmp .ne 8, 3, 51, 0, 0, []),
  (46, .bipush 9, 2, 0, 0, 9, []),
  (48, .goto 4, 3, 52, 0, 0, []),
  (51, .iconst (-1), 1, 0, 0, (-1), []),
  (52, .istore_n 1, 1, 1, 0, 0, []),
  (53, .iload_n 1, 1, 1, 0, 0, []),
  (54, .iconst (-1), 1, 0, 0, (-1), []),
  (55, .if_icmp .ne 13, 3, 68, 0, 0, []),
  (58, .aload_n 0, 1, 0, 0, 0, []),
  (59, .iconst 1, 1, 0, 0, 1, []),
  (60, .aload_n 0, 1, 0, 0, 0, []),
  (61, .getfield 200, 3, 11, 8, 0, [(0, 1066)]),
  (64, .invokevirtual 213, 3, 197, 3, 0, [(0, 1174)]),
  (67, .ireturn, 1, 1, 0, 0, []),
  (68, .aload_n 0, 1, 0, 0, 0, []),
  (69, .aload_n 0, 1, 0, 0, 0, []),
  (70, .getfield 200, 3, 11, 8, 0, [(0, 1066)]),
  (73, .iconst 1, 1, 0, 0, 1, []),
  (74, .iadd, 1, 0, 0, 0, []),
  (75, .putfield 200, 3, 11, 8, 0, [(0, 1066)]),
  (78, .aload_n 0, 1, 0, 0, 0, []),
  (79, .invokevirtual 263, 3, 198, 1, 0, [(0, 1177)]),
  (82, .ifCond .ne 5, 3, 87, 0, 0, []),
  (85, .iconst 0, 1, 0, 0, 0, []),
  (86, .ireturn, 1, 1, 0, 0, []),
  (87, .aload_n 0, 1, 0, 0, 0, []),
  (88, .iload_n 1, 1, 1, 0, 0, []),
  (89, .iconst 0, 1, 0, 0, 0, []),
  (90, .invokevirtual 236, 3, 203, 3, 0, [(0, 1193)]),
  (93, .aload_n 0, 1, 0, 0, 0, []),
  (94, .invokevirtual 266, 3, 211, 1, 0, [(0, 1217)]),
  (97, .iconst 1, 1, 0, 0, 1, []),
  (98, .ireturn, 1, 1, 0, 0, [])]
/-- NamedToWedModel.endsPiece()V -/
def cd_211 : Cod := [(0, .aload_n 0, 1, 0, 0, 0, []),
  (1, .invokevirtual 233, 3, 207, 1, 0, [(0, 1205)]),
  (4, .bipush 10, 2, 0, 0, 10, []),
  (6, .if_icmp .ne 33, 3, 39, 0, 0, []),
  (9, .aload_n 0, 1, 0, 0, 0, []),
  (10, .bipush 10, 2, 0, 0, 10, []),
  (12, .iconst 0, 1, 0, 0, 0, []),
  (13, .invokevirtual 236, 3, 203, 3, 0, [(0, 1193)]),
  (16, .aload_n 0, 1, 0, 0, 0, []),
  (17, .aload_n 0, 1, 0, 0, 0, []),
  (18, .getfield 230, 3, 11, 14, 0, [(0, 1072)]),
  (21, .iconst 1, 1, 0, 0, 1, []),
  (22, .isub, 1, 0, 0, 0, []),
  (23, .putfield 230, 3, 11, 14, 0, [(0, 1072)]),
  (26, .aload_n 0, 1, 0, 0, 0, []),
  (27, .aload_n 0, 1, 0, 0, 0, []),
  (28, .getfield 227, 3, 11, 12, 0, [(0, 1070)]),
  (31, .iconst 1, 1, 0, 0, 1, []),
  (32, .isub, 1, 0, 0, 0, []),
  (33, .putfield 227, 3, 11, 12, 0, [(0, 1070)]),
  (36, .goto (-36), 3, 0, 0, 0, []),
  (39, .return_, 1, 0, 0, 0, [])]
/-- NamedToWedModel.lands(Z)V -/
def cd_212 : Cod := [(0, .aload_n 0, 1, 0, 0, 0, []),
  (1, .invokevirtual 233, 3, 207, 1, 0, [(0, 1205)]),
  (4, .bipush 11, 2, 0, 0, 11, []),
  (6, .if_icmp .eq 16, 3, 22, 0, 0, []),
  (9, .iload_n 1, 1, 1, 0, 0, []),
  (10, .ifCond .eq 63, 3, 73, 0, 0, []),
  (13, .aload_n 0, 1, 0, 0, 0, []),
  (14, .invokevirtual 233, 3, 207, 1, 0, [(0, 1205)]),
  (17, .bipush 12, 2, 0, 0, 12, []),
  (19, .if_icmp .ne 54, 3, 73, 0, 0, []),
  (22, .aload_n 0, 1, 0, 0, 0, []),
  (23, .getfield 32, 3, 11, 18, 0, [(0, 1076)]),
  (26, .aload_n 0, 1, 0, 0, 0, []),
  (27, .getfield 230, 3, 11, 14, 0, [(0, 1072)]),
  (30, .iconst 1, 1, 0, 0, 1, []),
  (31, .isub, 1, 0, 0, 0, []),
  (32, .iaload, 1, 0, 0, 0, []),
  (33, .ldc 226, 2, 0, 1, 1048576, [(5, 1186)]),
  (35, .irem, 1, 0, 0, 0, []),
  (36, .istore_n 2, 1, 2, 0, 0, []),
  (37, .aload_n 0, 1, 0, 0, 0, []),
  (38, .getfield 29, 3, 11, 17, 0, [(0, 1075)]),
  (41, .iload_n 2, 1, 2, 0, 0, []),
  (42, .ldc 226, 2, 0, 1, 1048576, [(5, 1186)]),
  (44, .aload_n 0, 1, 0, 0, 0, []),
  (45, .getfield 29, 3, 11, 17, 0, [(0, 1075)]),
  (48, .iload_n 2, 1, 2, 0, 0, []),
  (49, .iaload, 1, 0, 0, 0, []),
  (50, .ldc 226, 2, 0, 1, 1048576, [(5, 1186)]),
  (52, .idiv, 1, 0, 0, 0, []),
  (53, .imul, 1, 0, 0, 0, []),
  (54, .aload_n 0, 1, 0, 0, 0, []),
  (55, .getfield 223, 3, 11, 13, 0, [(0, 1071)]),
  (58, .iadd, 1, 0, 0, 0, []),
  (59, .iastore, 1, 0, 0, 0, []),
  (60, .aload_n 0, 1, 0, 0, 0, []),
  (61, .aload_n 0, 1, 0, 0, 0, []),
  (62, .getfield 230, 3, 11, 14, 0, [(0, 1072)]),
  (65, .iconst 1, 1, 0, 0, 1, []),
  (66, .isub, 1, 0, 0, 0, []),
  (67, .putfield 230, 3, 11, 14, 0, [(0, 1072)]),
  (70, .goto (-70), 3, 0, 0, 0, []),
  (73, .return_, 1, 0, 0, 0, [])]
/-- NamedToWedModel.jumps(I)V -/
def cd_213 : Cod := [(0, .aload_n 0, 1, 0, 0, 0, []),
  (1, .getfield 32, 3, 11, 18, 0, [(0, 1076)]),
  (4, .aload_n 0, 1, 0, 0, 0, []),
  (5, .getfield 230, 3, 11, 14, 0, [(0, 1072)]),
  (8, .ldc 226, 2, 0, 1, 1048576, [(5, 1186)]),
  (10, .iload_n 1, 1, 1, 0, 0, []),
  (11, .imul, 1, 0, 0, 0, []),
  (12, .aload_n 0, 1, 0, 0, 0, []),
  (13, .getfield 223, 3, 11, 13, 0, [(0, 1071)]),
  (16, .iadd, 1, 0, 0, 0, []),
  (17, .iastore, 1, 0, 0, 0, []),
  (18, .aload_n 0, 1, 0, 0, 0, []),
  (19, .aload_n 0, 1, 0, 0, 0, []),
  (20, .getfield 230, 3, 11, 14, 0, [(0, 1072)]),
  (23, .iconst 1, 1, 0, 0, 1, []),
  (24, .iadd, 1, 0, 0, 0, []),
  (25, .putfield 230, 3, 11, 14, 0, [(0, 1072)]),
  (28, .aload_n 0, 1, 0, 0, 0, []),
  (29, .iload_n 1, 1, 1, 0, 0, []),
  (30, .iconst 0, 1, 0, 0, 0, []),
  (31, .invokevirtual 236, 3, 203, 3, 0, [(0, 1193)]),
  (34, .aload_n 0, 1, 0, 0, 0, []),
  (35, .aload_n 0, 1, 0, 0, 0, []),
  (36, .getfield 200, 3, 11, 8, 0, [(0, 1066)]),
  (39, .iconst 1, 1, 0, 0, 1, []),
  (40, .iadd, 1, 0, 0, 0, []),
  (41, .putfield 200, 3, 11, 8, 0, [(0, 1066)]),
  (44, .return_, 1, 0, 0, 0, [])]
/-- NamedToWedModel.takes(I)Z -/
def cd_214 : Cod := [(0, .aload_n 0, 1, 0, 0, 0, []),
  (1, .invokevirtual 206, 3, 196, 1, 0, [(0, 1171)]),
  (4, .iload_n 1, 1, 1, 0, 0, []),
  (5, .if_icmp .eq 13, 3, 18, 0, 0, []),
  (8, .aload_n 0, 1, 0, 0, 0, []),
  (9, .iconst 1, 1, 0, 0, 1, []),
  (10, .aload_n 0, 1, 0, 0, 0, []),
  (11, .getfield 200, 3, 11, 8, 0, [(0, 1066)]),
  (14, .invokevirtual 213, 3, 197, 3, 0, [(0, 1174)]),
  (17, .ireturn, 1, 1, 0, 0, []),
  (18, .aload_n 0, 1, 0, 0, 0, []),
  (19, .aload_n 0, 1, 0, 0, 0, []),
  (20, .getfield 200, 3, 11, 8, 0, [(0, 1066)]),
  (23, .iconst 1, 1, 0, 0, 1, []),
  (24, .iadd, 1, 0, 0, 0, []),
  (25, .putfield 200, 3, 11, 8, 0, [(0, 1066)]),
  (28, .iconst 1, 1, 0, 0, 1, []),
  (29, .ireturn, 1, 1, 0, 0, [])]
/-- NamedToWedModel.rule(I)I -/
def cd_215 : Cod := [(0, .iload_n 1, 1, 1, 0, 0, []),
  (1, .iconst 1, 1, 0, 0, 1, []),
  (2, .bipush 20, 2, 0, 0, 20, []),
  (4, .invokestatic 185, 3, 190, 3, 0, [(0, 1151)]),
  (7, .ifCond .eq 11, 3, 18, 0, 0, []),
  (10, .iload_n 1, 1, 1, 0, 0, []),
  (11, .aload_n 0, 1, 0, 0, 0, []),
  (12, .getfield 193, 3, 11, 7, 0, [(0, 1065)]),
  (15, .if_icmp .le 5, 3, 20, 0, 0, []),
  (18, .iconst (-1), 1, 0, 0, (-1), []),
  (19, .ireturn, 1, 0, 0, 0, []),
  (20, .aload_n 0, 1, 0, 0, 0, []),
  (21, .iconst 0, 1, 0, 0, 0, []),
  (22, .iload_n 1, 1, 1, 0, 0, []),
  (23, .invokevirtual 284, 3, 194, 3, 0, [(0, 1165)]),
  (26, .aload_n 0, 1, 0, 0, 0, []),
  (27, .invokevirtual 311, 3, 216, 1, 0, [(0, 1233)]),
  (30, .ifCond .eq 14, 3, 44, 0, 0, []),
  (33, .aload_n 0, 1, 0, 0, 0, []),
  (34, .invokevirtual 314, 3, 218, 1, 0, [(0, 1239)]),
  (37, .ifCond .eq 7, 3, 44, 0, 0, []),
  (40, .iconst 1, 1, 0, 0, 1, []),
  (41, .goto 4, 3, 45, 0, 0, []),
  (44, .iconst 0, 1, 0, 0, 0, []),
  (45, .istore_n 2, 1, 2, 0, 0, []),
  (46, .aload_n 0, 1, 0, 0, 0, []),
  (47, .iconst 0, 1, 0, 0, 0, []),
  (48, .putfield 193, 3, 11, 7, 0, [(0, 1065)]),
  (51, .iload_n 2, 1, 2, 0, 0, []),
  (52, .ifCond .ne 8, 3, 60, 0, 0, []),
  (55, .aload_n 0, 1, 0, 0, 0, []),
  (56, .getfield 210, 3, 11, 10, 0, [(0, 1068)]),
  (59, .ireturn, 1, 0, 0, 0, []),
  (60, .aload_n 0, 1, 0, 0, 0, []),
  (61, .aload_n 0, 1, 0, 0, 0, []),
  (62, .getfield 304, 3, 11, 32, 0, [(0, 1090)]),
  (65, .putfield 181, 3, 11, 5, 0, [(0, 1063)]),
  (68, .iconst 0, 1, 0, 0, 0, []),
  (69, .istore_n 3, 1, 3, 0, 0, []),
  (70, .iload_n 3, 1, 3, 0, 0, []),
  (71, .aload_n 0, 1, 0, 0, 0, []),
  (72, .getfield 181, 3, 11, 5, 0, [(0, 1063)]),
  (75, .if_icmp .ge 33, 3, 108, 0, 0, []),
  (78, .aload_n 0, 1, 0, 0, 0, []),
  (79, .getfield 19, 3, 11, 3, 0, [(0, 1061)]),
  (82, .iload_n 3, 1, 3, 0, 0, []),
  (83, .aload_n 0, 1, 0, 0, 0, []),
  (84, .getfield 68, 3, 11, 30, 0, [(0, 1088)]),
  (87, .iload_n 3, 1, 3, 0, 0, []),
  (88, .iaload, 1, 0, 0, 0, []),
  (89, .iastore, 1, 0, 0, 0, []),
  (90, .aload_n 0, 1, 0, 0, 0, []),
  (91, .getfield 22, 3, 11, 4, 0, [(0, 1062)]),
  (94, .iload_n 3, 1, 3, 0, 0, []),
  (95, .aload_n 0, 1, 0, 0, 0, []),
  (96, .getfield 71, 3, 11, 31, 0, [(0, 1089)]),
  (99, .iload_n 3, 1, 3, 0, 0, []),
  (100, .iaload, 1, 0, 0, 0, []),
  (101, .iastore, 1, 0, 0, 0, []),
  (102, .iinc 3 1, 3, 3, 0, 1, []),
  (105, .goto (-35), 3, 70, 0, 0, []),
  (108, .iconst 0, 1, 0, 0, 0, []),
  (109, .istore_n 3, 1, 3, 0, 0, []),
  (110, .iload_n 3, 1, 3, 0, 0, []),
  (111, .bipush 18, 2, 0, 0, 18, []),
  (113, .if_icmp .ge 16, 3, 129, 0, 0, []),
  (116, .aload_n 0, 1, 0, 0, 0, []),
  (117, .getfield 7, 3, 11, 0, 0, [(0, 1058)]),
  (120, .iload_n 3, 1, 3, 0, 0, []),
  (121, .iconst 0, 1, 0, 0, 0, []),
  (122, .iastore, 1, 0, 0, 0, []),
  (123, .iinc 3 1, 3, 3, 0, 1, []),
  (126, .goto (-16), 3, 110, 0, 0, []),
  (129, .iconst 0, 1, 0, 0, 0, []),
  (130, .istore_n 3, 1, 3, 0, 0, []),
  (131, .iload_n 3, 1, 3, 0, 0, []),
  (132, .aload_n 0, 1, 0, 0, 0, []),
  (133, .getfield 317, 3, 11, 69, 0, [(0, 1127)]),
  (136, .if_icmp .ge 29, 3, 165, 0, 0, []),
  (139, .aload_n 0, 1, 0, 0, 0, []),
  (140, .getfield 132, 3, 11, 60, 0, [(0, 1118)]),
  (143, .iload_n 3, 1, 3, 0, 0, []),
  (144, .iaload, 1, 0, 0, 0, []),
  (145, .aload_n 0, 1, 0, 0, 0, []),
  (146, .getfield 181, 3, 11, 5, 0, [(0, 1063)]),
  (149, .if_icmp .lt 10, 3, 159, 0, 0, []),
  (152, .aload_n 0, 1, 0, 0, 0, []),
  (153, .getfield 132, 3, 11, 60, 0, [(0, 1118)]),
  (156, .iload_n 3, 1, 3, 0, 0, []),
  (157, .iconst (-1), 1, 0, 0, (-1), []),
  (158, .iastore, 1, 0, 0, 0, []),
  (159, .iinc 3 1, 3, 3, 0, 1, []),
  (162, .goto (-31), 3, 131, 0, 0, []),
  (165, .aload_n 0, 1, 0, 0, 0, []),
  (166, .getfield 181, 3, 11, 5, 0, [(0, 1063)]),
  (169, .ireturn, 1, 0, 0, 0, [])]
/-- NamedToWedModel.readsWives()Z -/
def cd_216 : Cod := [(0, .aload_n 0, 1, 0, 0, 0, []),
  (1, .iconst 0, 1, 0, 0, 0, []),
  (2, .putfield 304, 3, 11, 32, 0, [(0, 1090)]),
  (5, .aload_n 0, 1, 0, 0, 0, []),
  (6, .invokevirtual 206, 3, 196, 1, 0, [(0, 1171)]),
  (9, .bipush 47, 2, 0, 0, 47, []),
  (11, .if_icmp .eq 43, 3, 54, 0, 0, []),
  (14, .aload_n 0, 1, 0, 0, 0, []),
  (15, .aload_n 0, 1, 0, 0, 0, []),
  (16, .getfield 68, 3, 11, 30, 0, [(0, 1088)]),
  (19, .aload_n 0, 1, 0, 0, 0, []),
  (20, .getfield 304, 3, 11, 32, 0, [(0, 1090)]),
  (23, .invokevirtual 307, 3, 217, 3, 0, [(0, 1236)]),
  (26, .ifCond .ne 5, 3, 31, 0, 0, []),
  (29, .iconst 0, 1, 0, 0, 0, []),
  (30, .ireturn, 1, 1, 0, 0, []),
  (31, .aload_n 0, 1, 0, 0, 0, []),
  (32, .aload_n 0, 1, 0, 0, 0, []),
  (33, .getfield 304, 3, 11, 32, 0, [(0, 1090)]),
  (36, .iconst 1, 1, 0, 0, 1, []),
  (37, .iadd, 1, 0, 0, 0, []),
  (38, .putfield 304, 3, 11, 32, 0, [(0, 1090)]),
  (41, .aload_n 0, 1, 0, 0, 0, []),
  (42, .aload_n 0, 1, 0, 0, 0, []),
  (43, .getfield 200, 3, 11, 8, 0, [(0, 1066)]),
  (46, .iconst 1, 1, 0, 0, 1, []),
  (47, .iadd, 1, 0, 0, 0, []),
  (48, .putfield 200, 3, 11, 8, 0, [(0, 1066)]),
  (51, .goto (-46), 3, 5, 0, 0, []),
  (54, .aload_n 0, 1, 0, 0, 0, []),
  (55, .getfield 304, 3, 11, 32, 0, [(0, 1090)]),
  (58, .iconst 2, 1, 0, 0, 2, []),
  (59, .if_icmp .ge 13, 3, 72, 0, 0, []),
  (62, .aload_n 0, 1, 0, 0, 0, []),
  (63, .iconst 1, 1, 0, 0, 1, []),
  (64, .aload_n 0, 1, 0, 0, 0, []),
  (65, .getfield 200, 3, 11, 8, 0, [(0, 1066)]),
  (68, .invokevirtual 213, 3, 197, 3, 0, [(0, 1174)]),
  (71, .ireturn, 1, 1, 0, 0, []),
  (72, .aload_n 0, 1, 0, 0, 0, []),
  (73, .aload_n 0, 1, 0, 0, 0, []),
  (74, .getfield 200, 3, 11, 8, 0, [(0, 1066)]),
  (77, .iconst 1, 1, 0, 0, 1, []),
  (78, .iadd, 1, 0, 0, 0, []),
  (79, .putfield 200, 3, 11, 8, 0, [(0, 1066)]),
  (82, .iconst 0, 1, 0, 0, 0, []),
  (83, .istore_n 1, 1, 1, 0, 0, []),
  (84, .iload_n 1, 1, 1, 0, 0, []),
  (85, .aload_n 0, 1, 0, 0, 0, []),
  (86, .getfield 304, 3, 11, 32, 0, [(0, 1090)]),
  (89, .if_icmp .ge 29, 3, 118, 0, 0, []),
  (92, .aload_n 0, 1, 0, 0, 0, []),
  (93, .getfield 68, 3, 11, 30, 0, [(0, 1088)]),
  (96, .iload_n 1, 1, 1, 0, 0, []),
  (97, .iaload, 1, 0, 0, 0, []),
  (98, .aload_n 0, 1, 0, 0, 0, []),
  (99, .getfield 304, 3, 11, 32, 0, [(0, 1090)]),
  (102, .if_icmp .lt 10, 3, 112, 0, 0, []),
  (105, .aload_n 0, 1, 0, 0, 0, []),
  (106, .iconst 3, 1, 0, 0, 3, []),
  (107, .iload_n 1, 1, 1, 0, 0, []),
  (108, .invokevirtual 213, 3, 197, 3, 0, [(0, 1174)]),
  (111, .ireturn, 1, 1, 0, 0, []),
  (112, .iinc 1 1, 3, 1, 0, 1, []),
  (115, .goto (-31), 3, 84, 0, 0, []),
  (118, .iconst 1, 1, 0, 0, 1, []),
  (119, .ireturn, 1, 1, 0, 0, [])]
/-- NamedToWedModel.readsName([II)Z -/
def cd_217 : Cod := [(0, .aload_n 0, 1, 0, 0, 0, []),
  (1, .invokevirtual 206, 3, 196, 1, 0, [(0, 1171)]),
  (4, .bipush 97, 2, 0, 0, 97, []),
  (6, .isub, 1, 0, 0, 0, []),
  (7, .istore_n 3, 1, 3, 0, 0, []),
  (8, .iload_n 3, 1, 3, 0, 0, []),
  (9, .iconst 0, 1, 0, 0, 0, []),
  (10, .iconst 5, 1, 0, 0, 5, []),
  (11, .invokestatic 185, 3, 190, 3, 0, [(0, 1151)]),
  (14, .ifCond .eq 9, 3, 23, 0, 0, []),
  (17, .iload_n 2, 1, 2, 0, 0, []),
  (18, .bipush 6, 2, 0, 0, 6, []),
  (20, .if_icmp .ne 13, 3, 33, 0, 0, []),
  (23, .aload_n 0, 1, 0, 0, 0, []),
  (24, .iconst 1, 1, 0, 0, 1, []),
  (25, .aload_n 0, 1, 0, 0, 0, []),
  (26, .getfield 200, 3, 11, 8, 0, [(0, 1066)]),
  (29, .invokevirtual 213, 3, 197, 3, 0, [(0, 1174)]),
  (32, .ireturn, 1, 1, 0, 0, []),
  (33, .iconst 0, 1, 0, 0, 0, []),
  (34, .istore 4, 2, 4, 0, 0, []),
  (36, .iload 4, 2, 4, 0, 0, []),
  (38, .iload_n 2, 1, 2, 0, 0, []),
  (39, .if_icmp .ge 28, 3, 67, 0, 0, []),
  (42, .aload_n 1, 1, 1, 0, 0, []),
  (43, .iload 4, 2, 4, 0, 0, []),
  (45, .iaload, 1, 0, 0, 0, []),
  (46, .iload_n 3, 1, 3, 0, 0, []),
  (47, .if_icmp .ne 14, 3, 61, 0, 0, []),
  (50, .aload_n 0, 1, 0, 0, 0, []),
  (51, .bipush 6, 2, 0, 0, 6, []),
  (53, .aload_n 0, 1, 0, 0, 0, []),
  (54, .getfield 200, 3, 11, 8, 0, [(0, 1066)]),
  (57, .invokevirtual 213, 3, 197, 3, 0, [(0, 1174)]),
  (60, .ireturn, 1, 1, 0, 0, []),
  (61, .iinc 4 1, 3, 4, 0, 1, []),
  (64, .goto (-28), 3, 36, 0, 0, []),
  (67, .aload_n 1, 1, 1, 0, 0, []),
  (68, .iload_n 2, 1, 2, 0, 0, []),
  (69, .iload_n 3, 1, 3, 0, 0, []),
  (70, .iastore, 1, 0, 0, 0, []),
  (71, .iconst 1, 1, 0, 0, 1, []),
  (72, .ireturn, 1, 1, 0, 0, [])]
/-- NamedToWedModel.readsChildren()Z -/
def cd_218 : Cod := [(0, .iconst 0, 1, 0, 0, 0, []),
  (1, .istore_n 1, 1, 1, 0, 0, []),
  (2, .iload_n 1, 1, 1, 0, 0, []),
  (3, .aload_n 0, 1, 0, 0, 0, []),
  (4, .getfield 304, 3, 11, 32, 0, [(0, 1090)]),
  (7, .if_icmp .ge 56, 3, 63, 0, 0, []),
  (10, .aload_n 0, 1, 0, 0, 0, []),
  (11, .aload_n 0, 1, 0, 0, 0, []),
  (12, .getfield 71, 3, 11, 31, 0, [(0, 1089)]),
  (15, .iload_n 1, 1, 1, 0, 0, []),
  (16, .invokevirtual 307, 3, 217, 3, 0, [(0, 1236)]),
  (19, .ifCond .ne 5, 3, 24, 0, 0, []),
  (22, .iconst 0, 1, 0, 0, 0, []),
  (23, .ireturn, 1, 1, 0, 0, []),
  (24, .aload_n 0, 1, 0, 0, 0, []),
  (25, .getfield 71, 3, 11, 31, 0, [(0, 1089)]),
  (28, .iload_n 1, 1, 1, 0, 0, []),
  (29, .iaload, 1, 0, 0, 0, []),
  (30, .aload_n 0, 1, 0, 0, 0, []),
  (31, .getfield 304, 3, 11, 32, 0, [(0, 1090)]),
  (34, .if_icmp .lt 13, 3, 47, 0, 0, []),
  (37, .aload_n 0, 1, 0, 0, 0, []),
  (38, .iconst 3, 1, 0, 0, 3, []),
  (39, .aload_n 0, 1, 0, 0, 0, []),
  (40, .getfield 200, 3, 11, 8, 0, [(0, 1066)]),
  (43, .invokevirtual 213, 3, 197, 3, 0, [(0, 1174)]),
  (46, .ireturn, 1, 1, 0, 0, []),
  (47, .aload_n 0, 1, 0, 0, 0, []),
  (48, .aload_n 0, 1, 0, 0, 0, []),
  (49, .getfield 200, 3, 11, 8, 0, [(0, 1066)]),
  (52, .iconst 1, 1, 0, 0, 1, []),
  (53, .iadd, 1, 0, 0, 0, []),
  (54, .putfield 200, 3, 11, 8, 0, [(0, 1066)]),
  (57, .iinc 1 1, 3, 1, 0, 1, []),
  (60, .goto (-58), 3, 2, 0, 0, []),
  (63, .aload_n 0, 1, 0, 0, 0, []),
  (64, .getfield 200, 3, 11, 8, 0, [(0, 1066)]),
  (67, .aload_n 0, 1, 0, 0, 0, []),
  (68, .getfield 203, 3, 11, 9, 0, [(0, 1067)]),
  (71, .if_icmp .eq 15, 3, 86, 0, 0, []),
  (74, .aload_n 0, 1, 0, 0, 0, []),
  (75, .iconst 1, 1, 0, 0, 1, []),
  (76, .aload_n 0, 1, 0, 0, 0, []),
  (77, .getfield 200, 3, 11, 8, 0, [(0, 1066)]),
  (80, .invokevirtual 213, 3, 197, 3, 0, [(0, 1174)]),
  (83, .ifCond .eq 7, 3, 90, 0, 0, []),
  (86, .iconst 1, 1, 0, 0, 1, []),
  (87, .goto 4, 3, 91, 0, 0, []),
  (90, .iconst 0, 1, 0, 0, 0, []),
  (91, .ireturn, 1, 1, 0, 0, [])]
/-- NamedToWedModel.kin(III)I -/
def cd_219 : Cod := [(0, .iload_n 1, 1, 1, 0, 0, []),
  (1, .iconst 1, 1, 0, 0, 1, []),
  (2, .bipush 40, 2, 0, 0, 40, []),
  (4, .invokestatic 185, 3, 190, 3, 0, [(0, 1151)]),
  (7, .ifCond .eq 46, 3, 53, 0, 0, []),
  (10, .iload_n 2, 1, 2, 0, 0, []),
  (11, .iconst 0, 1, 0, 0, 0, []),
  (12, .iconst 1, 1, 0, 0, 1, []),
  (13, .invokestatic 185, 3, 190, 3, 0, [(0, 1151)]),
  (16, .ifCond .eq 37, 3, 53, 0, 0, []),
  (19, .aload_n 0, 1, 0, 0, 0, []),
  (20, .iload_n 3, 1, 3, 0, 0, []),
  (21, .invokevirtual 189, 3, 189, 2, 0, [(0, 1148)]),
  (24, .ifCond .ne 14, 3, 38, 0, 0, []),
  (27, .iload_n 3, 1, 3, 0, 0, []),
  (28, .bipush 100, 2, 0, 0, 100, []),
  (30, .bipush 104, 2, 0, 0, 104, []),
  (32, .invokestatic 185, 3, 190, 3, 0, [(0, 1151)]),
  (35, .ifCond .eq 18, 3, 53, 0, 0, []),
  (38, .aload_n 0, 1, 0, 0, 0, []),
  (39, .getfield 181, 3, 11, 5, 0, [(0, 1063)]),
  (42, .ifCond .eq 11, 3, 53, 0, 0, []),
  (45, .iload_n 1, 1, 1, 0, 0, []),
  (46, .aload_n 0, 1, 0, 0, 0, []),
  (47, .getfield 193, 3, 11, 7, 0, [(0, 1065)]),
  (50, .if_icmp .le 5, 3, 55, 0, 0, []),
  (53, .iconst (-1), 1, 0, 0, (-1), []),
  (54, .ireturn, 1, 0, 0, 0, []),
  (55, .aload_n 0, 1, 0, 0, 0, []),
  (56, .iconst 0, 1, 0, 0, 0, []),
  (57, .iload_n 1, 1, 1, 0, 0, []),
  (58, .iload_n 2, 1, 2, 0, 0, []),
  (59, .invokevirtual 376, 3, 220, 4, 0, [(0, 1246)]),
  (62, .istore 4, 2, 4, 0, 0, []),
  (64, .aload_n 0, 1, 0, 0, 0, []),
  (65, .iconst 0, 1, 0, 0, 0, []),
  (66, .putfield 193, 3, 11, 7, 0, [(0, 1065)]),
  (69, .iload 4, 2, 4, 0, 0, []),
  (71, .ifCond .ge 6, 3, 77, 0, 0, []),
  (74, .iload 4, 2, 4, 0, 0, []),
  (76, .ireturn, 1, 0, 0, 0, []),
  (77, .iload_n 3, 1, 3, 0, 0, []),
  (78, .tableswitch 63 100 104 #[34, 40, 46, 52, 58], 34, 141, 0, 0, [(100, 112), (101, 118), (102, 124), (103, 130), (104, 136)]),
  (112, .aload_n 0, 1, 0, 0, 0, []),
  (113, .iload_n 2, 1, 2, 0, 0, []),
  (114, .invokevirtual 363, 3, 228, 2, 0, [(0, 1270)]),
  (117, .ireturn, 1, 0, 0, 0, []),
  (118, .aload_n 0, 1, 0, 0, 0, []),
  (119, .iload_n 2, 1, 2, 0, 0, []),
  (120, .invokevirtual 379, 3, 229, 2, 0, [(0, 1273)]),
  (123, .ireturn, 1, 0, 0, 0, []),
  (124, .aload_n 0, 1, 0, 0, 0, []),
  (125, .iload_n 2, 1, 2, 0, 0, []),
  (126, .invokevirtual 382, 3, 233, 2, 0, [(0, 1285)]),
  (129, .ireturn, 1, 0, 0, 0, []),
  (130, .aload_n 0, 1, 0, 0, 0, []),
  (131, .iload_n 2, 1, 2, 0, 0, []),
  (132, .invokevirtual 385, 3, 235, 2, 0, [(0, 1291)]),
  (135, .ireturn, 1, 0, 0, 0, []),
  (136, .aload_n 0, 1, 0, 0, 0, []),
  (137, .getfield 326, 3, 11, 38, 0, [(0, 1096)]),
  (140, .ireturn, 1, 0, 0, 0, []),
  (141, .aload_n 0, 1, 0, 0, 0, []),
  (142, .iload_n 3, 1, 3, 0, 0, []),
  (143, .iload_n 2, 1, 2, 0, 0, []),
  (144, .invokevirtual 366, 3, 230, 3, 0, [(0, 1276)]),
  (147, .ireturn, 1, 0, 0, 0, [])]
/-- NamedToWedModel.readsWord(III)I -/
def cd_220 : Cod := [(0, .aload_n 0, 1, 0, 0, 0, []),
  (1, .iload_n 1, 1, 1, 0, 0, []),
  (2, .putfield 338, 3, 11, 42, 0, [(0, 1100)]),
  (5, .aload_n 0, 1, 0, 0, 0, []),
  (6, .iload_n 1, 1, 1, 0, 0, []),
  (7, .iload_n 2, 1, 2, 0, 0, []),
  (8, .invokevirtual 284, 3, 194, 3, 0, [(0, 1165)]),
  (11, .aload_n 0, 1, 0, 0, 0, []),
  (12, .iconst 0, 1, 0, 0, 0, []),
  (13, .putfield 326, 3, 11, 38, 0, [(0, 1096)]),
  (16, .aload_n 0, 1, 0, 0, 0, []),
  (17, .iconst 0, 1, 0, 0, 0, []),
  (18, .putfield 335, 3, 11, 39, 0, [(0, 1097)]),
  (21, .aload_n 0, 1, 0, 0, 0, []),
  (22, .invokevirtual 347, 3, 221, 1, 0, [(0, 1249)]),
  (25, .istore 4, 2, 4, 0, 0, []),
  (27, .iload 4, 2, 4, 0, 0, []),
  (29, .ifCond .eq 30, 3, 59, 0, 0, []),
  (32, .aload_n 0, 1, 0, 0, 0, []),
  (33, .getfield 200, 3, 11, 8, 0, [(0, 1066)]),
  (36, .aload_n 0, 1, 0, 0, 0, []),
  (37, .getfield 203, 3, 11, 9, 0, [(0, 1067)]),
  (40, .if_icmp .lt 10, 3, 50, 0, 0, []),
  (43, .aload_n 0, 1, 0, 0, 0, []),
  (44, .getfield 335, 3, 11, 39, 0, [(0, 1097)]),
  (47, .ifCond .le 12, 3, 59, 0, 0, []),
  (50, .aload_n 0, 1, 0, 0, 0, []),
  (51, .invokevirtual 347, 3, 221, 1, 0, [(0, 1249)]),
  (54, .istore 4, 2, 4, 0, 0, []),
  (56, .goto (-29), 3, 27, 0, 0, []),
  (59, .iload 4, 2, 4, 0, 0, []),
  (61, .ifCond .ne 8, 3, 69, 0, 0, []),
  (64, .aload_n 0, 1, 0, 0, 0, []),
  (65, .getfield 210, 3, 11, 10, 0, [(0, 1068)]),
  (68, .ireturn, 1, 0, 0, 0, []),
  (69, .iload_n 3, 1, 3, 0, 0, []),
  (70, .istore 5, 2, 5, 0, 0, []),
  (72, .iconst 0, 1, 0, 0, 0, []),
  (73, .istore 6, 2, 6, 0, 0, []),
  (75, .iload 6, 2, 6, 0, 0, []),
  (77, .aload_n 0, 1, 0, 0, 0, []),
  (78, .getfield 326, 3, 11, 38, 0, [(0, 1096)]),
  (81, .if_icmp .ge 48, 3, 129, 0, 0, []),
  (84, .aload_n 0, 1, 0, 0, 0, []),
  (85, .getfield 74, 3, 11, 33, 0, [(0, 1091)]),
  (88, .iload 6, 2, 6, 0, 0, []),
  (90, .iaload, 1, 0, 0, 0, []),
  (91, .iload 5, 2, 5, 0, 0, []),
  (93, .invokestatic 350, 3, 226, 2, 0, [(0, 1264)]),
  (96, .ifCond .ne 15, 3, 111, 0, 0, []),
  (99, .sipush (-7000), 3, 0, 0, (-7000), []),
  (102, .aload_n 0, 1, 0, 0, 0, []),
  (103, .getfield 77, 3, 11, 34, 0, [(0, 1092)]),
  (106, .iload 6, 2, 6, 0, 0, []),
  (108, .iaload, 1, 0, 0, 0, []),
  (109, .isub, 1, 0, 0, 0, []),
  (110, .ireturn, 1, 0, 0, 0, []),
  (111, .aload_n 0, 1, 0, 0, 0, []),
  (112, .getfield 74, 3, 11, 33, 0, [(0, 1091)]),
  (115, .iload 6, 2, 6, 0, 0, []),
  (117, .iaload, 1, 0, 0, 0, []),
  (118, .invokestatic 353, 3, 227, 1, 0, [(0, 1267)]),
  (121, .istore 5, 2, 5, 0, 0, []),
  (123, .iinc 6 1, 3, 6, 0, 1, []),
  (126, .goto (-51), 3, 75, 0, 0, []),
  (129, .iconst 0, 1, 0, 0, 0, []),
  (130, .ireturn, 1, 0, 0, 0, [])]
/-- NamedToWedModel.readsStep()Z -/
def cd_221 : Cod := [(0, .aload_n 0, 1, 0, 0, 0, []),
  (1, .invokevirtual 332, 3, 222, 1, 0, [(0, 1252)]),
  (4, .aload_n 0, 1, 0, 0, 0, []),
  (5, .invokevirtual 206, 3, 196, 1, 0, [(0, 1171)]),
  (8, .bipush 40, 2, 0, 0, 40, []),
  (10, .if_icmp .ne 92, 3, 102, 0, 0, []),
  (13, .aload_n 0, 1, 0, 0, 0, []),
  (14, .getfield 335, 3, 11, 39, 0, [(0, 1097)]),
  (17, .iconst 2, 1, 0, 0, 2, []),
  (18, .if_icmp .ne 18, 3, 36, 0, 0, []),
  (21, .aload_n 0, 1, 0, 0, 0, []),
  (22, .iconst 5, 1, 0, 0, 5, []),
  (23, .aload_n 0, 1, 0, 0, 0, []),
  (24, .getfield 200, 3, 11, 8, 0, [(0, 1066)]),
  (27, .aload_n 0, 1, 0, 0, 0, []),
  (28, .getfield 338, 3, 11, 42, 0, [(0, 1100)]),
  (31, .isub, 1, 0, 0, 0, []),
  (32, .invokevirtual 213, 3, 197, 3, 0, [(0, 1174)]),
  (35, .ireturn, 1, 1, 0, 0, []),
  (36, .aload_n 0, 1, 0, 0, 0, []),
  (37, .getfield 80, 3, 11, 35, 0, [(0, 1093)]),
  (40, .aload_n 0, 1, 0, 0, 0, []),
  (41, .getfield 335, 3, 11, 39, 0, [(0, 1097)]),
  (44, .aload_n 0, 1, 0, 0, 0, []),
  (45, .getfield 320, 3, 11, 40, 0, [(0, 1098)]),
  (48, .iastore, 1, 0, 0, 0, []),
  (49, .aload_n 0, 1, 0, 0, 0, []),
  (50, .getfield 83, 3, 11, 36, 0, [(0, 1094)]),
  (53, .aload_n 0, 1, 0, 0, 0, []),
  (54, .getfield 335, 3, 11, 39, 0, [(0, 1097)]),
  (57, .aload_n 0, 1, 0, 0, 0, []),
  (58, .getfield 326, 3, 11, 38, 0, [(0, 1096)]),
  (61, .iastore, 1, 0, 0, 0, []),
  (62, .aload_n 0, 1, 0, 0, 0, []),
  (63, .getfield 86, 3, 11, 37, 0, [(0, 1095)]),
  (66, .aload_n 0, 1, 0, 0, 0, []),
  (67, .getfield 335, 3, 11, 39, 0, [(0, 1097)]),
  (70, .aload_n 0, 1, 0, 0, 0, []),
  (71, .getfield 323, 3, 11, 41, 0, [(0, 1099)]),
  (74, .iastore, 1, 0, 0, 0, []),
  (75, .aload_n 0, 1, 0, 0, 0, []),
  (76, .aload_n 0, 1, 0, 0, 0, []),
  (77, .getfield 335, 3, 11, 39, 0, [(0, 1097)]),
  (80, .iconst 1, 1, 0, 0, 1, []),
  (81, .iadd, 1, 0, 0, 0, []),
  (82, .putfield 335, 3, 11, 39, 0, [(0, 1097)]),
  (85, .aload_n 0, 1, 0, 0, 0, []),
  (86, .aload_n 0, 1, 0, 0, 0, []),
  (87, .getfield 200, 3, 11, 8, 0, [(0, 1066)]),
  (90, .iconst 1, 1, 0, 0, 1, []),
  (91, .iadd, 1, 0, 0, 0, []),
  (92, .putfield 200, 3, 11, 8, 0, [(0, 1066)]),
  (95, .aload_n 0, 1, 0, 0, 0, []),
  (96, .invokevirtual 332, 3, 222, 1, 0, [(0, 1252)]),
  (99, .goto (-95), 3, 4, 0, 0, []),
  (102, .aload_n 0, 1, 0, 0, 0, []),
  (103, .getfield 320, 3, 11, 40, 0, [(0, 1098)]),
  (106, .istore_n 1, 1, 1, 0, 0, []),
  (107, .aload_n 0, 1, 0, 0, 0, []),
  (108, .getfield 323, 3, 11, 41, 0, [(0, 1099)]),
  (111, .istore_n 2, 1, 2, 0, 0, []),
  (112, .aload_n 0, 1, 0, 0, 0, []),
  (113, .invokevirtual 206, 3, 196, 1, 0, [(0, 1171)]),
  (116, .invokestatic 341, 3, 223, 1, 0, [(0, 1255)]),
  (119, .istore_n 3, 1, 3, 0, 0, []),
  (120, .iload_n 3, 1, 3, 0, 0, []),
  (121, .iconst (-1), 1, 0, 0, (-1), []),
  (122, .if_icmp .ne 18, 3, 140, 0, 0, []),
  (125, .aload_n 0, 1, 0, 0, 0, []),
  (126, .iconst 1, 1, 0, 0, 1, []),
  (127, .aload_n 0, 1, 0, 0, 0, []),
  (128, .getfield 200, 3, 11, 8, 0, [(0, 1066)]),
  (131, .aload_n 0, 1, 0, 0, 0, []),
  (132, .getfield 338, 3, 11, 42, 0, [(0, 1100)]),
  (135, .isub, 1, 0, 0, 0, []),
  (136, .invokevirtual 213, 3, 197, 3, 0, [(0, 1174)]),
  (139, .ireturn, 1, 1, 0, 0, []),
  (140, .aload_n 0, 1, 0, 0, 0, []),
  (141, .getfield 326, 3, 11, 38, 0, [(0, 1096)]),
  (144, .iload_n 2, 1, 2, 0, 0, []),
  (145, .iadd, 1, 0, 0, 0, []),
  (146, .bipush 24, 2, 0, 0, 24, []),
  (148, .if_icmp .le 16, 3, 164, 0, 0, []),
  (151, .aload_n 0, 1, 0, 0, 0, []),
  (152, .bipush 6, 2, 0, 0, 6, []),
  (154, .iload_n 1, 1, 1, 0, 0, []),
  (155, .aload_n 0, 1, 0, 0, 0, []),
  (156, .getfield 338, 3, 11, 42, 0, [(0, 1100)]),
  (159, .isub, 1, 0, 0, 0, []),
  (160, .invokevirtual 213, 3, 197, 3, 0, [(0, 1174)]),
  (163, .ireturn, 1, 1, 0, 0, []),
  (164, .aload_n 0, 1, 0, 0, 0, []),
  (165, .getfield 74, 3, 11, 33, 0, [(0, 1091)]),
  (168, .aload_n 0, 1, 0, 0, 0, []),
  (169, .getfield 326, 3, 11, 38, 0, [(0, 1096)]),
  (172, .iload_n 3, 1, 3, 0, 0, []),
  (173, .iastore, 1, 0, 0, 0, []),
  (174, .aload_n 0, 1, 0, 0, 0, []),
  (175, .getfield 77, 3, 11, 34, 0, [(0, 1092)]),
  (178, .aload_n 0, 1, 0, 0, 0, []),
  (179, .getfield 326, 3, 11, 38, 0, [(0, 1096)]),
  (182, .aload_n 0, 1, 0, 0, 0, []),
  (183, .getfield 200, 3, 11, 8, 0, [(0, 1066)]),
  (186, .aload_n 0, 1, 0, 0, 0, []),
  (187, .getfield 338, 3, 11, 42, 0, [(0, 1100)]),
  (190, .isub, 1, 0, 0, 0, []),
  (191, .iastore, 1, 0, 0, 0, []),
  (192, .aload_n 0, 1, 0, 0, 0, []),
  (193, .aload_n 0, 1, 0, 0, 0, []),
  (194, .getfield 200, 3, 11, 8, 0, [(0, 1066)]),
  (197, .iconst 1, 1, 0, 0, 1, []),
  (198, .iadd, 1, 0, 0, 0, []),
  (199, .putfield 200, 3, 11, 8, 0, [(0, 1066)]),
  (202, .aload_n 0, 1, 0, 0, 0, []),
  (203, .aload_n 0, 1, 0, 0, 0, []),
  (204, .getfield 326, 3, 11, 38, 0, [(0, 1096)]),
  (207, .iconst 1, 1, 0, 0, 1, []),
  (208, .iadd, 1, 0, 0, 0, []),
  (209, .putfield 326, 3, 11, 38, 0, [(0, 1096)]),
  (212, .aload_n 0, 1, 0, 0, 0, []),
  (213, .aload_n 0, 1, 0, 0, 0, []),
  (214, .getfield 326, 3, 11, 38, 0, [(0, 1096)]),
  (217, .iconst 1, 1, 0, 0, 1, []),
  (218, .isub, 1, 0, 0, 0, []),
  (219, .iload_n 2, 1, 2, 0, 0, []),
  (220, .iload_n 1, 1, 1, 0, 0, []),
  (221, .aload_n 0, 1, 0, 0, 0, []),
  (222, .getfield 338, 3, 11, 42, 0, [(0, 1100)]),
  (225, .isub, 1, 0, 0, 0, []),
  (226, .invokevirtual 344, 3, 225, 4, 0, [(0, 1261)]),
  (229, .ifCond .ne 5, 3, 234, 0, 0, []),
  (232, .iconst 0, 1, 0, 0, 0, []),
  (233, .ireturn, 1, 1, 0, 0, []),
  (234, .aload_n 0, 1, 0, 0, 0, []),
  (235, .invokevirtual 206, 3, 196, 1, 0, [(0, 1171)]),
  (238, .bipush 41, 2, 0, 0, 41, []),
  (240, .if_icmp .ne 71, 3, 311, 0, 0, []),
  (243, .aload_n 0, 1, 0, 0, 0, []),
  (244, .getfield 335, 3, 11, 39, 0, [(0, 1097)]),
  (247, .ifCond .le 64, 3, 311, 0, 0, []),
  (250, .aload_n 0, 1, 0, 0, 0, []),
  (251, .aload_n 0, 1, 0, 0, 0, []),
  (252, .getfield 200, 3, 11, 8, 0, [(0, 1066)]),
  (255, .iconst 1, 1, 0, 0, 1, []),
  (256, .iadd, 1, 0, 0, 0, []),
  (257, .putfield 200, 3, 11, 8, 0, [(0, 1066)]),
  (260, .aload_n 0, 1, 0, 0, 0, []),
  (261, .aload_n 0, 1, 0, 0, 0, []),
  (262, .getfield 335, 3, 11, 39, 0, [(0, 1097)]),
  (265, .iconst 1, 1, 0, 0, 1, []),
  (266, .isub, 1, 0, 0, 0, []),
  (267, .putfield 335, 3, 11, 39, 0, [(0, 1097)]),
  (270, .aload_n 0, 1, 0, 0, 0, []),
  (271, .aload_n 0, 1, 0, 0, 0, []),
  (272, .getfield 83, 3, 11, 36, 0, [(0, 1094)]),
  (275, .aload_n 0, 1, 0, 0, 0, []),
  (276, .getfield 335, 3, 11, 39, 0, [(0, 1097)]),
  (279, .iaload, 1, 0, 0, 0, []),
  (280, .aload_n 0, 1, 0, 0, 0, []),
  (281, .getfield 86, 3, 11, 37, 0, [(0, 1095)]),
  (284, .aload_n 0, 1, 0, 0, 0, []),
  (285, .getfield 335, 3, 11, 39, 0, [(0, 1097)]),
  (288, .iaload, 1, 0, 0, 0, []),
  (289, .aload_n 0, 1, 0, 0, 0, []),
  (290, .getfield 80, 3, 11, 35, 0, [(0, 1093)]),
  (293, .aload_n 0, 1, 0, 0, 0, []),
  (294, .getfield 335, 3, 11, 39, 0, [(0, 1097)]),
  (297, .iaload, 1, 0, 0, 0, []),
  (298, .aload_n 0, 1, 0, 0, 0, []),
  (299, .getfield 338, 3, 11, 42, 0, [(0, 1100)]),
  (302, .isub, 1, 0, 0, 0, []),
  (303, .invokevirtual 344, 3, 225, 4, 0, [(0, 1261)]),
  (306, .ifCond .ne (-72), 3, 234, 0, 0, []),
  (309, .iconst 0, 1, 0, 0, 0, []),
  (310, .ireturn, 1, 1, 0, 0, []),
  (311, .iconst 1, 1, 0, 0, 1, []),
  (312, .ireturn, 1, 1, 0, 0, [])]
/-- NamedToWedModel.readsTimes()V -/
def cd_222 : Cod := [(0, .aload_n 0, 1, 0, 0, 0, []),
  (1, .aload_n 0, 1, 0, 0, 0, []),
  (2, .getfield 200, 3, 11, 8, 0, [(0, 1066)]),
  (5, .putfield 320, 3, 11, 40, 0, [(0, 1098)]),
  (8, .aload_n 0, 1, 0, 0, 0, []),
  (9, .iconst 1, 1, 0, 0, 1, []),
  (10, .putfield 323, 3, 11, 41, 0, [(0, 1099)]),
  (13, .aload_n 0, 1, 0, 0, 0, []),
  (14, .invokevirtual 206, 3, 196, 1, 0, [(0, 1171)]),
  (17, .bipush 50, 2, 0, 0, 50, []),
  (19, .bipush 57, 2, 0, 0, 57, []),
  (21, .invokestatic 185, 3, 190, 3, 0, [(0, 1151)]),
  (24, .ifCond .ne 4, 3, 28, 0, 0, []),
  (27, .return_, 1, 0, 0, 0, []),
  (28, .aload_n 0, 1, 0, 0, 0, []),
  (29, .aload_n 0, 1, 0, 0, 0, []),
  (30, .invokevirtual 206, 3, 196, 1, 0, [(0, 1171)]),
  (33, .bipush 48, 2, 0, 0, 48, []),
  (35, .isub, 1, 0, 0, 0, []),
  (36, .putfield 323, 3, 11, 41, 0, [(0, 1099)]),
  (39, .aload_n 0, 1, 0, 0, 0, []),
  (40, .aload_n 0, 1, 0, 0, 0, []),
  (41, .getfield 200, 3, 11, 8, 0, [(0, 1066)]),
  (44, .iconst 1, 1, 0, 0, 1, []),
  (45, .iadd, 1, 0, 0, 0, []),
  (46, .putfield 200, 3, 11, 8, 0, [(0, 1066)]),
  (49, .return_, 1, 0, 0, 0, [])]
/-- NamedToWedModel.kindOf(I)I -/
def cd_223 : Cod := [(0, .iconst 0, 1, 0, 0, 0, []),
  (1, .istore_n 1, 1, 1, 0, 0, []),
  (2, .iload_n 1, 1, 1, 0, 0, []),
  (3, .bipush 8, 2, 0, 0, 8, []),
  (5, .if_icmp .ge 19, 3, 24, 0, 0, []),
  (8, .iload_n 1, 1, 1, 0, 0, []),
  (9, .invokestatic 329, 3, 224, 1, 0, [(0, 1258)]),
  (12, .iload_n 0, 1, 0, 0, 0, []),
  (13, .if_icmp .ne 5, 3, 18, 0, 0, []),
  (16, .iload_n 1, 1, 1, 0, 0, []),
  (17, .ireturn, 1, 0, 0, 0, []),
  (18, .iinc 1 1, 3, 1, 0, 1, []),
  (21, .goto (-19), 3, 2, 0, 0, []),
  (24, .iconst (-1), 1, 0, 0, (-1), []),
  (25, .ireturn, 1, 0, 0, 0, [])]
/-- NamedToWedModel.letterOf(I)I -/
def cd_224 : Cod := [(0, .iload_n 0, 1, 0, 0, 0, []),
  (1, .tableswitch 64 0 6 #[43, 46, 49, 52, 55, 58, 61], 43, 65, 0, 0, [(0, 44), (1, 47), (2, 50), (3, 53), (4, 56), (5, 59), (6, 62)]),
  (44, .bipush 102, 2, 0, 0, 102, []),
  (46, .ireturn, 1, 0, 0, 0, []),
  (47, .bipush 109, 2, 0, 0, 109, []),
  (49, .ireturn, 1, 0, 0, 0, []),
  (50, .bipush 104, 2, 0, 0, 104, []),
  (52, .ireturn, 1, 0, 0, 0, []),
  (53, .bipush 119, 2, 0, 0, 119, []),
  (55, .ireturn, 1, 0, 0, 0, []),
  (56, .bipush 115, 2, 0, 0, 115, []),
  (58, .ireturn, 1, 0, 0, 0, []),
  (59, .bipush 100, 2, 0, 0, 100, []),
  (61, .ireturn, 1, 0, 0, 0, []),
  (62, .bipush 98, 2, 0, 0, 98, []),
  (64, .ireturn, 1, 0, 0, 0, []),
  (65, .bipush 122, 2, 0, 0, 122, []),
  (67, .ireturn, 1, 0, 0, 0, [])]
/-- NamedToWedModel.repeats(III)Z -/
def cd_225 : Cod := [(0, .aload_n 0, 1, 0, 0, 0, []),
  (1, .getfield 326, 3, 11, 38, 0, [(0, 1096)]),
  (4, .iload_n 1, 1, 1, 0, 0, []),
  (5, .isub, 1, 0, 0, 0, []),
  (6, .istore 4, 2, 4, 0, 0, []),
  (8, .iload_n 1, 1, 1, 0, 0, []),
  (9, .iload 4, 2, 4, 0, 0, []),
  (11, .iload_n 2, 1, 2, 0, 0, []),
  (12, .imul, 1, 0, 0, 0, []),
  (13, .iadd, 1, 0, 0, 0, []),
  (14, .bipush 24, 2, 0, 0, 24, []),
  (16, .if_icmp .le 11, 3, 27, 0, 0, []),
  (19, .aload_n 0, 1, 0, 0, 0, []),
  (20, .bipush 6, 2, 0, 0, 6, []),
  (22, .iload_n 3, 1, 3, 0, 0, []),
  (23, .invokevirtual 213, 3, 197, 3, 0, [(0, 1174)]),
  (26, .ireturn, 1, 1, 0, 0, []),
  (27, .iload_n 1, 1, 1, 0, 0, []),
  (28, .iload 4, 2, 4, 0, 0, []),
  (30, .iadd, 1, 0, 0, 0, []),
  (31, .istore 5, 2, 5, 0, 0, []),
  (33, .iload 5, 2, 5, 0, 0, []),
  (35, .iload_n 1, 1, 1, 0, 0, []),
  (36, .iload 4, 2, 4, 0, 0, []),
  (38, .iload_n 2, 1, 2, 0, 0, []),
  (39, .imul, 1, 0, 0, 0, []),
  (40, .iadd, 1, 0, 0, 0, []),
  (41, .if_icmp .ge 43, 3, 84, 0, 0, []),
  (44, .aload_n 0, 1, 0, 0, 0, []),
  (45, .getfield 74, 3, 11, 33, 0, [(0, 1091)]),
  (48, .iload 5, 2, 5, 0, 0, []),
  (50, .aload_n 0, 1, 0, 0, 0, []),
  (51, .getfield 74, 3, 11, 33, 0, [(0, 1091)]),
  (54, .iload 5, 2, 5, 0, 0, []),
  (56, .iload 4, 2, 4, 0, 0, []),
  (58, .isub, 1, 0, 0, 0, []),
  (59, .iaload, 1, 0, 0, 0, []),
  (60, .iastore, 1, 0, 0, 0, []),
  (61, .aload_n 0, 1, 0, 0, 0, []),
  (62, .getfield 77, 3, 11, 34, 0, [(0, 1092)]),
  (65, .iload 5, 2, 5, 0, 0, []),
  (67, .aload_n 0, 1, 0, 0, 0, []),
  (68, .getfield 77, 3, 11, 34, 0, [(0, 1092)]),
  (71, .iload 5, 2, 5, 0, 0, []),
  (73, .iload 4, 2, 4, 0, 0, []),
  (75, .isub, 1, 0, 0, 0, []),
  (76, .iaload, 1, 0, 0, 0, []),
  (77, .iastore, 1, 0, 0, 0, []),
  (78, .iinc 5 1, 3, 5, 0, 1, []),
  (81, .goto (-48), 3, 33, 0, 0, []),
  (84, .aload_n 0, 1, 0, 0, 0, []),
  (85, .iload_n 1, 1, 1, 0, 0, []),
  (86, .iload 4, 2, 4, 0, 0, []),
  (88, .iload_n 2, 1, 2, 0, 0, []),
  (89, .imul, 1, 0, 0, 0, []),
  (90, .iadd, 1, 0, 0, 0, []),
  (91, .putfield 326, 3, 11, 38, 0, [(0, 1096)]),
  (94, .iconst 1, 1, 0, 0, 1, []),
  (95, .ireturn, 1, 1, 0, 0, [])]
/-- NamedToWedModel.canBe(II)Z -/
def cd_226 : Cod := [(0, .iload_n 0, 1, 0, 0, 0, []),
  (1, .iconst 2, 1, 0, 0, 2, []),
  (2, .if_icmp .eq 8, 3, 10, 0, 0, []),
  (5, .iload_n 0, 1, 0, 0, 0, []),
  (6, .iconst 3, 1, 0, 0, 3, []),
  (7, .if_icmp .ne 22, 3, 29, 0, 0, []),
  (10, .iload_n 0, 1, 0, 0, 0, []),
  (11, .iconst 2, 1, 0, 0, 2, []),
  (12, .if_icmp .ne 8, 3, 20, 0, 0, []),
  (15, .iload_n 1, 1, 1, 0, 0, []),
  (16, .iconst 1, 1, 0, 0, 1, []),
  (17, .if_icmp .eq 12, 3, 29, 0, 0, []),
  (20, .iload_n 0, 1, 0, 0, 0, []),
  (21, .iconst 3, 1, 0, 0, 3, []),
  (22, .if_icmp .ne 11, 3, 33, 0, 0, []),
  (25, .iload_n 1, 1, 1, 0, 0, []),
  (26, .ifCond .ne 7, 3, 33, 0, 0, []),
  (29, .iconst 1, 1, 0, 0, 1, []),
  (30, .goto 4, 3, 34, 0, 0, []),
  (33, .iconst 0, 1, 0, 0, 0, []),
  (34, .ireturn, 1, 1, 0, 0, [])]
/-- NamedToWedModel.sortBy(I)I -/
def cd_227 : Cod := [(0, .iload_n 0, 1, 0, 0, 0, []),
  (1, .iconst 1, 1, 0, 0, 1, []),
  (2, .if_icmp .eq 19, 3, 21, 0, 0, []),
  (5, .iload_n 0, 1, 0, 0, 0, []),
  (6, .iconst 3, 1, 0, 0, 3, []),
  (7, .if_icmp .eq 14, 3, 21, 0, 0, []),
  (10, .iload_n 0, 1, 0, 0, 0, []),
  (11, .iconst 5, 1, 0, 0, 5, []),
  (12, .if_icmp .eq 9, 3, 21, 0, 0, []),
  (15, .iload_n 0, 1, 0, 0, 0, []),
  (16, .bipush 7, 2, 0, 0, 7, []),
  (18, .if_icmp .ne 7, 3, 25, 0, 0, []),
  (21, .iconst 1, 1, 0, 0, 1, []),
  (22, .goto 4, 3, 26, 0, 0, []),
  (25, .iconst 0, 1, 0, 0, 0, []),
  (26, .ireturn, 1, 0, 0, 0, [])]
/-- NamedToWedModel.sortBehind(I)I -/
def cd_228 : Cod := [(0, .aload_n 0, 1, 0, 0, 0, []),
  (1, .getfield 326, 3, 11, 38, 0, [(0, 1096)]),
  (4, .ifCond .ne 7, 3, 11, 0, 0, []),
  (7, .iload_n 1, 1, 1, 0, 0, []),
  (8, .goto 17, 3, 25, 0, 0, []),
  (11, .aload_n 0, 1, 0, 0, 0, []),
  (12, .getfield 74, 3, 11, 33, 0, [(0, 1091)]),
  (15, .aload_n 0, 1, 0, 0, 0, []),
  (16, .getfield 326, 3, 11, 38, 0, [(0, 1096)]),
  (19, .iconst 1, 1, 0, 0, 1, []),
  (20, .isub, 1, 0, 0, 0, []),
  (21, .iaload, 1, 0, 0, 0, []),
  (22, .invokestatic 353, 3, 227, 1, 0, [(0, 1267)]),
  (25, .ireturn, 1, 0, 0, 0, [])]
/-- NamedToWedModel.fixedBy(I)I -/
def cd_229 : Cod := [(0, .iconst 0, 1, 0, 0, 0, []),
  (1, .istore_n 2, 1, 2, 0, 0, []),
  (2, .iconst 0, 1, 0, 0, 0, []),
  (3, .istore_n 3, 1, 3, 0, 0, []),
  (4, .iload_n 3, 1, 3, 0, 0, []),
  (5, .aload_n 0, 1, 0, 0, 0, []),
  (6, .getfield 181, 3, 11, 5, 0, [(0, 1063)]),
  (9, .if_icmp .ge 23, 3, 32, 0, 0, []),
  (12, .aload_n 0, 1, 0, 0, 0, []),
  (13, .iload_n 3, 1, 3, 0, 0, []),
  (14, .iload_n 1, 1, 1, 0, 0, []),
  (15, .invokevirtual 366, 3, 230, 3, 0, [(0, 1276)]),
  (18, .iload_n 3, 1, 3, 0, 0, []),
  (19, .if_icmp .ne 7, 3, 26, 0, 0, []),
  (22, .iload_n 2, 1, 2, 0, 0, []),
  (23, .iconst 1, 1, 0, 0, 1, []),
  (24, .iadd, 1, 0, 0, 0, []),
  (25, .istore_n 2, 1, 2, 0, 0, []),
  (26, .iinc 3 1, 3, 3, 0, 1, []),
  (29, .goto (-25), 3, 4, 0, 0, []),
  (32, .iload_n 2, 1, 2, 0, 0, []),
  (33, .ireturn, 1, 0, 0, 0, [])]
/-- NamedToWedModel.leadsTo(II)I -/
def cd_230 : Cod := [(0, .iload_n 1, 1, 1, 0, 0, []),
  (1, .istore_n 3, 1, 3, 0, 0, []),
  (2, .iload_n 2, 1, 2, 0, 0, []),
  (3, .istore 4, 2, 4, 0, 0, []),
  (5, .iconst 0, 1, 0, 0, 0, []),
  (6, .istore 5, 2, 5, 0, 0, []),
  (8, .iload 5, 2, 5, 0, 0, []),
  (10, .aload_n 0, 1, 0, 0, 0, []),
  (11, .getfield 326, 3, 11, 38, 0, [(0, 1096)]),
  (14, .if_icmp .ge 36, 3, 50, 0, 0, []),
  (17, .aload_n 0, 1, 0, 0, 0, []),
  (18, .aload_n 0, 1, 0, 0, 0, []),
  (19, .getfield 74, 3, 11, 33, 0, [(0, 1091)]),
  (22, .iload 5, 2, 5, 0, 0, []),
  (24, .iaload, 1, 0, 0, 0, []),
  (25, .iload_n 3, 1, 3, 0, 0, []),
  (26, .iload 4, 2, 4, 0, 0, []),
  (28, .invokevirtual 360, 3, 231, 4, 0, [(0, 1279)]),
  (31, .istore_n 3, 1, 3, 0, 0, []),
  (32, .aload_n 0, 1, 0, 0, 0, []),
  (33, .getfield 74, 3, 11, 33, 0, [(0, 1091)]),
  (36, .iload 5, 2, 5, 0, 0, []),
  (38, .iaload, 1, 0, 0, 0, []),
  (39, .invokestatic 353, 3, 227, 1, 0, [(0, 1267)]),
  (42, .istore 4, 2, 4, 0, 0, []),
  (44, .iinc 5 1, 3, 5, 0, 1, []),
  (47, .goto (-39), 3, 8, 0, 0, []),
  (50, .iload_n 3, 1, 3, 0, 0, []),
  (51, .ireturn, 1, 0, 0, 0, [])]
/-- NamedToWedModel.nameBy(III)I -/
def cd_231 : Cod := [(0, .iload_n 1, 1, 1, 0, 0, []),
  (1, .tableswitch 122 0 5 #[39, 55, 64, 73, 80, 101], 39, 123, 0, 0, [(0, 40), (1, 56), (2, 65), (3, 74), (4, 81), (5, 102)]),
  (40, .aload_n 0, 1, 0, 0, 0, []),
  (41, .getfield 19, 3, 11, 3, 0, [(0, 1061)]),
  (44, .aload_n 0, 1, 0, 0, 0, []),
  (45, .getfield 22, 3, 11, 4, 0, [(0, 1062)]),
  (48, .iload_n 2, 1, 2, 0, 0, []),
  (49, .invokestatic 356, 3, 232, 2, 0, [(0, 1282)]),
  (52, .invokestatic 356, 3, 232, 2, 0, [(0, 1282)]),
  (55, .ireturn, 1, 0, 0, 0, []),
  (56, .aload_n 0, 1, 0, 0, 0, []),
  (57, .getfield 22, 3, 11, 4, 0, [(0, 1062)]),
  (60, .iload_n 2, 1, 2, 0, 0, []),
  (61, .invokestatic 356, 3, 232, 2, 0, [(0, 1282)]),
  (64, .ireturn, 1, 0, 0, 0, []),
  (65, .aload_n 0, 1, 0, 0, 0, []),
  (66, .getfield 19, 3, 11, 3, 0, [(0, 1061)]),
  (69, .iload_n 2, 1, 2, 0, 0, []),
  (70, .invokestatic 356, 3, 232, 2, 0, [(0, 1282)]),
  (73, .ireturn, 1, 0, 0, 0, []),
  (74, .aload_n 0, 1, 0, 0, 0, []),
  (75, .getfield 19, 3, 11, 3, 0, [(0, 1061)]),
  (78, .iload_n 2, 1, 2, 0, 0, []),
  (79, .iaload, 1, 0, 0, 0, []),
  (80, .ireturn, 1, 0, 0, 0, []),
  (81, .aload_n 0, 1, 0, 0, 0, []),
  (82, .getfield 22, 3, 11, 4, 0, [(0, 1062)]),
  (85, .iload_n 3, 1, 3, 0, 0, []),
  (86, .iconst 1, 1, 0, 0, 1, []),
  (87, .if_icmp .ne 7, 3, 94, 0, 0, []),
  (90, .iload_n 2, 1, 2, 0, 0, []),
  (91, .goto 9, 3, 100, 0, 0, []),
  (94, .aload_n 0, 1, 0, 0, 0, []),
  (95, .getfield 19, 3, 11, 3, 0, [(0, 1061)]),
  (98, .iload_n 2, 1, 2, 0, 0, []),
  (99, .iaload, 1, 0, 0, 0, []),
  (100, .iaload, 1, 0, 0, 0, []),
  (101, .ireturn, 1, 0, 0, 0, []),
  (102, .aload_n 0, 1, 0, 0, 0, []),
  (103, .getfield 22, 3, 11, 4, 0, [(0, 1062)]),
  (106, .iload_n 3, 1, 3, 0, 0, []),
  (107, .iconst 1, 1, 0, 0, 1, []),
  (108, .if_icmp .ne 7, 3, 115, 0, 0, []),
  (111, .iload_n 2, 1, 2, 0, 0, []),
  (112, .goto 9, 3, 121, 0, 0, []),
  (115, .aload_n 0, 1, 0, 0, 0, []),
  (116, .getfield 19, 3, 11, 3, 0, [(0, 1061)]),
  (119, .iload_n 2, 1, 2, 0, 0, []),
  (120, .iaload, 1, 0, 0, 0, []),
  (121, .iaload, 1, 0, 0, 0, []),
  (122, .ireturn, 1, 0, 0, 0, []),
  (123, .iload_n 2, 1, 2, 0, 0, []),
  (124, .ireturn, 1, 0, 0, 0, [])]
/-- NamedToWedModel.before([II)I -/
def cd_232 : Cod := [(0, .iconst 0, 1, 0, 0, 0, []),
  (1, .istore_n 2, 1, 2, 0, 0, []),
  (2, .aload_n 0, 1, 0, 0, 0, []),
  (3, .iload_n 2, 1, 2, 0, 0, []),
  (4, .iaload, 1, 0, 0, 0, []),
  (5, .iload_n 1, 1, 1, 0, 0, []),
  (6, .if_icmp .eq 10, 3, 16, 0, 0, []),
  (9, .iload_n 2, 1, 2, 0, 0, []),
  (10, .iconst 1, 1, 0, 0, 1, []),
  (11, .iadd, 1, 0, 0, 0, []),
  (12, .istore_n 2, 1, 2, 0, 0, []),
  (13, .goto (-11), 3, 2, 0, 0, []),
  (16, .iload_n 2, 1, 2, 0, 0, []),
  (17, .ireturn, 1, 0, 0, 0, [])]
/-- NamedToWedModel.oftenTill(I)I -/
def cd_233 : Cod := [(0, .iconst 0, 1, 0, 0, 0, []),
  (1, .istore_n 2, 1, 2, 0, 0, []),
  (2, .iload_n 2, 1, 2, 0, 0, []),
  (3, .aload_n 0, 1, 0, 0, 0, []),
  (4, .getfield 181, 3, 11, 5, 0, [(0, 1063)]),
  (7, .if_icmp .ge 33, 3, 40, 0, 0, []),
  (10, .aload_n 0, 1, 0, 0, 0, []),
  (11, .getfield 92, 3, 11, 44, 0, [(0, 1102)]),
  (14, .iload_n 2, 1, 2, 0, 0, []),
  (15, .aload_n 0, 1, 0, 0, 0, []),
  (16, .iload_n 2, 1, 2, 0, 0, []),
  (17, .iload_n 1, 1, 1, 0, 0, []),
  (18, .invokevirtual 366, 3, 230, 3, 0, [(0, 1276)]),
  (21, .iastore, 1, 0, 0, 0, []),
  (22, .aload_n 0, 1, 0, 0, 0, []),
  (23, .getfield 89, 3, 11, 43, 0, [(0, 1101)]),
  (26, .iload_n 2, 1, 2, 0, 0, []),
  (27, .aload_n 0, 1, 0, 0, 0, []),
  (28, .getfield 92, 3, 11, 44, 0, [(0, 1102)]),
  (31, .iload_n 2, 1, 2, 0, 0, []),
  (32, .iaload, 1, 0, 0, 0, []),
  (33, .iastore, 1, 0, 0, 0, []),
  (34, .iinc 2 1, 3, 2, 0, 1, []),
  (37, .goto (-35), 3, 2, 0, 0, []),
  (40, .iconst 1, 1, 0, 0, 1, []),
  (41, .istore_n 2, 1, 2, 0, 0, []),
  (42, .aload_n 0, 1, 0, 0, 0, []),
  (43, .aload_n 0, 1, 0, 0, 0, []),
  (44, .getfield 89, 3, 11, 43, 0, [(0, 1101)]),
  (47, .invokevirtual 372, 3, 234, 2, 0, [(0, 1288)]),
  (50, .ifCond .ne 43, 3, 93, 0, 0, []),
  (53, .iconst 0, 1, 0, 0, 0, []),
  (54, .istore_n 3, 1, 3, 0, 0, []),
  (55, .iload_n 3, 1, 3, 0, 0, []),
  (56, .aload_n 0, 1, 0, 0, 0, []),
  (57, .getfield 181, 3, 11, 5, 0, [(0, 1063)]),
  (60, .if_icmp .ge 26, 3, 86, 0, 0, []),
  (63, .aload_n 0, 1, 0, 0, 0, []),
  (64, .getfield 89, 3, 11, 43, 0, [(0, 1101)]),
  (67, .iload_n 3, 1, 3, 0, 0, []),
  (68, .aload_n 0, 1, 0, 0, 0, []),
  (69, .getfield 92, 3, 11, 44, 0, [(0, 1102)]),
  (72, .aload_n 0, 1, 0, 0, 0, []),
  (73, .getfield 89, 3, 11, 43, 0, [(0, 1101)]),
  (76, .iload_n 3, 1, 3, 0, 0, []),
  (77, .iaload, 1, 0, 0, 0, []),
  (78, .iaload, 1, 0, 0, 0, []),
  (79, .iastore, 1, 0, 0, 0, []),
  (80, .iinc 3 1, 3, 3, 0, 1, []),
  (83, .goto (-28), 3, 55, 0, 0, []),
  (86, .iload_n 2, 1, 2, 0, 0, []),
  (87, .iconst 1, 1, 0, 0, 1, []),
  (88, .iadd, 1, 0, 0, 0, []),
  (89, .istore_n 2, 1, 2, 0, 0, []),
  (90, .goto (-48), 3, 42, 0, 0, []),
  (93, .iload_n 2, 1, 2, 0, 0, []),
  (94, .ireturn, 1, 0, 0, 0, [])]
/-- NamedToWedModel.isPlain([I)Z -/
def cd_234 : Cod := [(0, .iconst 0, 1, 0, 0, 0, []),
  (1, .istore_n 2, 1, 2, 0, 0, []),
  (2, .iload_n 2, 1, 2, 0, 0, []),
  (3, .aload_n 0, 1, 0, 0, 0, []),
  (4, .getfield 181, 3, 11, 5, 0, [(0, 1063)]),
  (7, .if_icmp .ge 18, 3, 25, 0, 0, []),
  (10, .aload_n 1, 1, 1, 0, 0, []),
  (11, .iload_n 2, 1, 2, 0, 0, []),
  (12, .iaload, 1, 0, 0, 0, []),
  (13, .iload_n 2, 1, 2, 0, 0, []),
  (14, .if_icmp .eq 5, 3, 19, 0, 0, []),
  (17, .iconst 0, 1, 0, 0, 0, []),
  (18, .ireturn, 1, 1, 0, 0, []),
  (19, .iinc 2 1, 3, 2, 0, 1, []),
  (22, .goto (-20), 3, 2, 0, 0, []),
  (25, .iconst 1, 1, 0, 0, 1, []),
  (26, .ireturn, 1, 1, 0, 0, [])]
/-- NamedToWedModel.lawful(I)I -/
def cd_235 : Cod := [(0, .iconst 0, 1, 0, 0, 0, []),
  (1, .istore_n 2, 1, 2, 0, 0, []),
  (2, .iconst 0, 1, 0, 0, 0, []),
  (3, .istore_n 3, 1, 3, 0, 0, []),
  (4, .iload_n 3, 1, 3, 0, 0, []),
  (5, .aload_n 0, 1, 0, 0, 0, []),
  (6, .getfield 181, 3, 11, 5, 0, [(0, 1063)]),
  (9, .if_icmp .ge 39, 3, 48, 0, 0, []),
  (12, .aload_n 0, 1, 0, 0, 0, []),
  (13, .iload_n 1, 1, 1, 0, 0, []),
  (14, .invokevirtual 363, 3, 228, 2, 0, [(0, 1270)]),
  (17, .iload_n 1, 1, 1, 0, 0, []),
  (18, .if_icmp .eq 24, 3, 42, 0, 0, []),
  (21, .aload_n 0, 1, 0, 0, 0, []),
  (22, .iload_n 3, 1, 3, 0, 0, []),
  (23, .iload_n 1, 1, 1, 0, 0, []),
  (24, .invokevirtual 366, 3, 230, 3, 0, [(0, 1276)]),
  (27, .aload_n 0, 1, 0, 0, 0, []),
  (28, .iload_n 3, 1, 3, 0, 0, []),
  (29, .iload_n 1, 1, 1, 0, 0, []),
  (30, .invokevirtual 369, 3, 236, 3, 0, [(0, 1294)]),
  (33, .if_icmp .ne 9, 3, 42, 0, 0, []),
  (36, .iload_n 2, 1, 2, 0, 0, []),
  (37, .iconst 1, 1, 0, 0, 1, []),
  (38, .iload_n 3, 1, 3, 0, 0, []),
  (39, .ishl, 1, 0, 0, 0, []),
  (40, .ior, 1, 0, 0, 0, []),
  (41, .istore_n 2, 1, 2, 0, 0, []),
  (42, .iinc 3 1, 3, 3, 0, 1, []),
  (45, .goto (-41), 3, 4, 0, 0, []),
  (48, .iload_n 2, 1, 2, 0, 0, []),
  (49, .ireturn, 1, 0, 0, 0, [])]
/-- NamedToWedModel.spouseOf(II)I -/
def cd_236 : Cod := [(0, .iload_n 2, 1, 2, 0, 0, []),
  (1, .ifCond .ne 12, 3, 13, 0, 0, []),
  (4, .aload_n 0, 1, 0, 0, 0, []),
  (5, .getfield 19, 3, 11, 3, 0, [(0, 1061)]),
  (8, .iload_n 1, 1, 1, 0, 0, []),
  (9, .iaload, 1, 0, 0, 0, []),
  (10, .goto 11, 3, 21, 0, 0, []),
  (13, .aload_n 0, 1, 0, 0, 0, []),
  (14, .getfield 19, 3, 11, 3, 0, [(0, 1061)]),
  (17, .iload_n 1, 1, 1, 0, 0, []),
  (18, .invokestatic 356, 3, 232, 2, 0, [(0, 1282)]),
  (21, .ireturn, 1, 0, 0, 0, [])]
/-- NamedToWedModel.alike(III)I -/
def cd_237 : Cod := [(0, .iload_n 1, 1, 1, 0, 0, []),
  (1, .iconst 1, 1, 0, 0, 1, []),
  (2, .bipush 40, 2, 0, 0, 40, []),
  (4, .invokestatic 185, 3, 190, 3, 0, [(0, 1151)]),
  (7, .ifCond .eq 39, 3, 46, 0, 0, []),
  (10, .iload_n 2, 1, 2, 0, 0, []),
  (11, .iconst 1, 1, 0, 0, 1, []),
  (12, .bipush 40, 2, 0, 0, 40, []),
  (14, .invokestatic 185, 3, 190, 3, 0, [(0, 1151)]),
  (17, .ifCond .eq 29, 3, 46, 0, 0, []),
  (20, .iload_n 3, 1, 3, 0, 0, []),
  (21, .iconst 0, 1, 0, 0, 0, []),
  (22, .iconst 1, 1, 0, 0, 1, []),
  (23, .invokestatic 185, 3, 190, 3, 0, [(0, 1151)]),
  (26, .ifCond .eq 20, 3, 46, 0, 0, []),
  (29, .aload_n 0, 1, 0, 0, 0, []),
  (30, .getfield 181, 3, 11, 5, 0, [(0, 1063)]),
  (33, .ifCond .eq 13, 3, 46, 0, 0, []),
  (36, .iload_n 1, 1, 1, 0, 0, []),
  (37, .iload_n 2, 1, 2, 0, 0, []),
  (38, .iadd, 1, 0, 0, 0, []),
  (39, .aload_n 0, 1, 0, 0, 0, []),
  (40, .getfield 193, 3, 11, 7, 0, [(0, 1065)]),
  (43, .if_icmp .le 5, 3, 48, 0, 0, []),
  (46, .iconst (-1), 1, 0, 0, (-1), []),
  (47, .ireturn, 1, 0, 0, 0, []),
  (48, .aload_n 0, 1, 0, 0, 0, []),
  (49, .iconst 0, 1, 0, 0, 0, []),
  (50, .iload_n 1, 1, 1, 0, 0, []),
  (51, .iload_n 3, 1, 3, 0, 0, []),
  (52, .invokevirtual 376, 3, 220, 4, 0, [(0, 1246)]),
  (55, .istore 4, 2, 4, 0, 0, []),
  (57, .aload_n 0, 1, 0, 0, 0, []),
  (58, .iload_n 3, 1, 3, 0, 0, []),
  (59, .invokevirtual 363, 3, 228, 2, 0, [(0, 1270)]),
  (62, .istore 5, 2, 5, 0, 0, []),
  (64, .iconst 0, 1, 0, 0, 0, []),
  (65, .istore 6, 2, 6, 0, 0, []),
  (67, .iload 6, 2, 6, 0, 0, []),
  (69, .aload_n 0, 1, 0, 0, 0, []),
  (70, .getfield 181, 3, 11, 5, 0, [(0, 1063)]),
  (73, .if_icmp .ge 28, 3, 101, 0, 0, []),
  (76, .iload 4, 2, 4, 0, 0, []),
  (78, .ifCond .ne 23, 3, 101, 0, 0, []),
  (81, .aload_n 0, 1, 0, 0, 0, []),
  (82, .getfield 92, 3, 11, 44, 0, [(0, 1102)]),
  (85, .iload 6, 2, 6, 0, 0, []),
  (87, .aload_n 0, 1, 0, 0, 0, []),
  (88, .iload 6, 2, 6, 0, 0, []),
  (90, .iload_n 3, 1, 3, 0, 0, []),
  (91, .invokevirtual 366, 3, 230, 3, 0, [(0, 1276)]),
  (94, .iastore, 1, 0, 0, 0, []),
  (95, .iinc 6 1, 3, 6, 0, 1, []),
  (98, .goto (-31), 3, 67, 0, 0, []),
  (101, .iload 4, 2, 4, 0, 0, []),
  (103, .ifCond .ne 13, 3, 116, 0, 0, []),
  (106, .aload_n 0, 1, 0, 0, 0, []),
  (107, .iload_n 1, 1, 1, 0, 0, []),
  (108, .iload_n 2, 1, 2, 0, 0, []),
  (109, .iload_n 3, 1, 3, 0, 0, []),
  (110, .invokevirtual 376, 3, 220, 4, 0, [(0, 1246)]),
  (113, .goto 4, 3, 117, 0, 0, []),
  (116, .iconst 0, 1, 0, 0, 0, []),
  (117, .istore 6, 2, 6, 0, 0, []),
  (119, .aload_n 0, 1, 0, 0, 0, []),
  (120, .iconst 0, 1, 0, 0, 0, []),
  (121, .putfield 193, 3, 11, 7, 0, [(0, 1065)]),
  (124, .iload 4, 2, 4, 0, 0, []),
  (126, .ifCond .ge 6, 3, 132, 0, 0, []),
  (129, .iload 4, 2, 4, 0, 0, []),
  (131, .ireturn, 1, 0, 0, 0, []),
  (132, .iload 6, 2, 6, 0, 0, []),
  (134, .ifCond .ge 10, 3, 144, 0, 0, []),
  (137, .iload 6, 2, 6, 0, 0, []),
  (139, .ldc_w 388, 3, 0, 1, 100000, [(3, 1301)]),
  (142, .isub, 1, 0, 0, 0, []),
  (143, .ireturn, 1, 0, 0, 0, []),
  (144, .iload 5, 2, 5, 0, 0, []),
  (146, .aload_n 0, 1, 0, 0, 0, []),
  (147, .iload_n 3, 1, 3, 0, 0, []),
  (148, .invokevirtual 363, 3, 228, 2, 0, [(0, 1270)]),
  (151, .if_icmp .eq 6, 3, 157, 0, 0, []),
  (154, .bipush (-4), 2, 0, 0, (-4), []),
  (156, .ireturn, 1, 0, 0, 0, []),
  (157, .iconst 0, 1, 0, 0, 0, []),
  (158, .istore 7, 2, 7, 0, 0, []),
  (160, .iconst 0, 1, 0, 0, 0, []),
  (161, .istore 8, 2, 8, 0, 0, []),
  (163, .iload 8, 2, 8, 0, 0, []),
  (165, .aload_n 0, 1, 0, 0, 0, []),
  (166, .getfield 181, 3, 11, 5, 0, [(0, 1063)]),
  (169, .if_icmp .ge 35, 3, 204, 0, 0, []),
  (172, .aload_n 0, 1, 0, 0, 0, []),
  (173, .getfield 92, 3, 11, 44, 0, [(0, 1102)]),
  (176, .iload 8, 2, 8, 0, 0, []),
  (178, .iaload, 1, 0, 0, 0, []),
  (179, .aload_n 0, 1, 0, 0, 0, []),
  (180, .iload 8, 2, 8, 0, 0, []),
  (182, .iload_n 3, 1, 3, 0, 0, []),
  (183, .invokevirtual 366, 3, 230, 3, 0, [(0, 1276)]),
  (186, .if_icmp .ne 12, 3, 198, 0, 0, []),
  (189, .iload 7, 2, 7, 0, 0, []),
  (191, .iconst 1, 1, 0, 0, 1, []),
  (192, .iload 8, 2, 8, 0, 0, []),
  (194, .ishl, 1, 0, 0, 0, []),
  (195, .ior, 1, 0, 0, 0, []),
  (196, .istore 7, 2, 7, 0, 0, []),
  (198, .iinc 8 1, 3, 8, 0, 1, []),
  (201, .goto (-38), 3, 163, 0, 0, []),
  (204, .iload 7, 2, 7, 0, 0, []),
  (206, .ireturn, 1, 0, 0, 0, [])]
/-- NamedToWedModel.ways(I)I -/
def cd_238 : Cod := [(0, .iload_n 1, 1, 1, 0, 0, []),
  (1, .iconst 0, 1, 0, 0, 0, []),
  (2, .iconst 2, 1, 0, 0, 2, []),
  (3, .invokestatic 185, 3, 190, 3, 0, [(0, 1151)]),
  (6, .ifCond .eq 10, 3, 16, 0, 0, []),
  (9, .aload_n 0, 1, 0, 0, 0, []),
  (10, .getfield 181, 3, 11, 5, 0, [(0, 1063)]),
  (13, .ifCond .ne 5, 3, 18, 0, 0, []),
  (16, .iconst (-1), 1, 0, 0, (-1), []),
  (17, .ireturn, 1, 0, 0, 0, []),
  (18, .aload_n 0, 1, 0, 0, 0, []),
  (19, .invokevirtual 414, 3, 239, 1, 0, [(0, 1306)]),
  (22, .iload_n 1, 1, 1, 0, 0, []),
  (23, .ifCond .ne 10, 3, 33, 0, 0, []),
  (26, .aload_n 0, 1, 0, 0, 0, []),
  (27, .getfield 392, 3, 11, 46, 0, [(0, 1104)]),
  (30, .goto 27, 3, 57, 0, 0, []),
  (33, .iload_n 1, 1, 1, 0, 0, []),
  (34, .iconst 1, 1, 0, 0, 1, []),
  (35, .if_icmp .ne 10, 3, 45, 0, 0, []),
  (38, .aload_n 0, 1, 0, 0, 0, []),
  (39, .invokevirtual 417, 3, 244, 1, 0, [(0, 1321)]),
  (42, .goto 15, 3, 57, 0, 0, []),
  (45, .aload_n 0, 1, 0, 0, 0, []),
  (46, .invokevirtual 420, 3, 248, 1, 0, [(0, 1333)]),
  (49, .ifCond .eq 7, 3, 56, 0, 0, []),
  (52, .iconst 1, 1, 0, 0, 1, []),
  (53, .goto 4, 3, 57, 0, 0, []),
  (56, .iconst 0, 1, 0, 0, 0, []),
  (57, .ireturn, 1, 0, 0, 0, [])]
/-- NamedToWedModel.laysWays()V -/
def cd_239 : Cod := [(0, .aload_n 0, 1, 0, 0, 0, []),
  (1, .iconst 0, 1, 0, 0, 0, []),
  (2, .putfield 392, 3, 11, 46, 0, [(0, 1104)]),
  (5, .aload_n 0, 1, 0, 0, 0, []),
  (6, .aload_n 0, 1, 0, 0, 0, []),
  (7, .invokevirtual 395, 3, 240, 1, 0, [(0, 1309)]),
  (10, .invokevirtual 398, 3, 241, 2, 0, [(0, 1312)]),
  (13, .iconst 0, 1, 0, 0, 0, []),
  (14, .istore_n 1, 1, 1, 0, 0, []),
  (15, .iload_n 1, 1, 1, 0, 0, []),
  (16, .aload_n 0, 1, 0, 0, 0, []),
  (17, .getfield 392, 3, 11, 46, 0, [(0, 1104)]),
  (20, .if_icmp .ge 45, 3, 65, 0, 0, []),
  (23, .aload_n 0, 1, 0, 0, 0, []),
  (24, .aload_n 0, 1, 0, 0, 0, []),
  (25, .aload_n 0, 1, 0, 0, 0, []),
  (26, .getfield 95, 3, 11, 45, 0, [(0, 1103)]),
  (29, .iload_n 1, 1, 1, 0, 0, []),
  (30, .iaload, 1, 0, 0, 0, []),
  (31, .aload_n 0, 1, 0, 0, 0, []),
  (32, .getfield 19, 3, 11, 3, 0, [(0, 1061)]),
  (35, .invokevirtual 401, 3, 242, 3, 0, [(0, 1315)]),
  (38, .invokevirtual 398, 3, 241, 2, 0, [(0, 1312)]),
  (41, .aload_n 0, 1, 0, 0, 0, []),
  (42, .aload_n 0, 1, 0, 0, 0, []),
  (43, .aload_n 0, 1, 0, 0, 0, []),
  (44, .getfield 95, 3, 11, 45, 0, [(0, 1103)]),
  (47, .iload_n 1, 1, 1, 0, 0, []),
  (48, .iaload, 1, 0, 0, 0, []),
  (49, .aload_n 0, 1, 0, 0, 0, []),
  (50, .getfield 22, 3, 11, 4, 0, [(0, 1062)]),
  (53, .invokevirtual 401, 3, 242, 3, 0, [(0, 1315)]),
  (56, .invokevirtual 398, 3, 241, 2, 0, [(0, 1312)]),
  (59, .iinc 1 1, 3, 1, 0, 1, []),
  (62, .goto (-47), 3, 15, 0, 0, []),
  (65, .return_, 1, 0, 0, 0, [])]
/-- NamedToWedModel.plainWay()I -/
def cd_240 : Cod := [(0, .iconst 0, 1, 0, 0, 0, []),
  (1, .istore_n 1, 1, 1, 0, 0, []),
  (2, .iconst 0, 1, 0, 0, 0, []),
  (3, .istore_n 2, 1, 2, 0, 0, []),
  (4, .iload_n 2, 1, 2, 0, 0, []),
  (5, .aload_n 0, 1, 0, 0, 0, []),
  (6, .getfield 181, 3, 11, 5, 0, [(0, 1063)]),
  (9, .if_icmp .ge 17, 3, 26, 0, 0, []),
  (12, .iload_n 1, 1, 1, 0, 0, []),
  (13, .iload_n 2, 1, 2, 0, 0, []),
  (14, .iconst 3, 1, 0, 0, 3, []),
  (15, .iload_n 2, 1, 2, 0, 0, []),
  (16, .imul, 1, 0, 0, 0, []),
  (17, .ishl, 1, 0, 0, 0, []),
  (18, .ior, 1, 0, 0, 0, []),
  (19, .istore_n 1, 1, 1, 0, 0, []),
  (20, .iinc 2 1, 3, 2, 0, 1, []),
  (23, .goto (-19), 3, 4, 0, 0, []),
  (26, .iload_n 1, 1, 1, 0, 0, []),
  (27, .ireturn, 1, 0, 0, 0, [])]
/-- NamedToWedModel.addsWay(I)V -/
def cd_241 : Cod := [(0, .iconst 0, 1, 0, 0, 0, []),
  (1, .istore_n 2, 1, 2, 0, 0, []),
  (2, .iload_n 2, 1, 2, 0, 0, []),
  (3, .aload_n 0, 1, 0, 0, 0, []),
  (4, .getfield 392, 3, 11, 46, 0, [(0, 1104)]),
  (7, .if_icmp .ge 20, 3, 27, 0, 0, []),
  (10, .aload_n 0, 1, 0, 0, 0, []),
  (11, .getfield 95, 3, 11, 45, 0, [(0, 1103)]),
  (14, .iload_n 2, 1, 2, 0, 0, []),
  (15, .iaload, 1, 0, 0, 0, []),
  (16, .iload_n 1, 1, 1, 0, 0, []),
  (17, .if_icmp .ne 4, 3, 21, 0, 0, []),
  (20, .return_, 1, 0, 0, 0, []),
  (21, .iinc 2 1, 3, 2, 0, 1, []),
  (24, .goto (-22), 3, 2, 0, 0, []),
  (27, .aload_n 0, 1, 0, 0, 0, []),
  (28, .getfield 95, 3, 11, 45, 0, [(0, 1103)]),
  (31, .aload_n 0, 1, 0, 0, 0, []),
  (32, .getfield 392, 3, 11, 46, 0, [(0, 1104)]),
  (35, .iload_n 1, 1, 1, 0, 0, []),
  (36, .iastore, 1, 0, 0, 0, []),
  (37, .aload_n 0, 1, 0, 0, 0, []),
  (38, .aload_n 0, 1, 0, 0, 0, []),
  (39, .getfield 392, 3, 11, 46, 0, [(0, 1104)]),
  (42, .iconst 1, 1, 0, 0, 1, []),
  (43, .iadd, 1, 0, 0, 0, []),
  (44, .putfield 392, 3, 11, 46, 0, [(0, 1104)]),
  (47, .return_, 1, 0, 0, 0, [])]
/-- NamedToWedModel.changedBy(I[I)I -/
def cd_242 : Cod := [(0, .iconst 0, 1, 0, 0, 0, []),
  (1, .istore_n 3, 1, 3, 0, 0, []),
  (2, .iconst 0, 1, 0, 0, 0, []),
  (3, .istore 4, 2, 4, 0, 0, []),
  (5, .iload 4, 2, 4, 0, 0, []),
  (7, .aload_n 0, 1, 0, 0, 0, []),
  (8, .getfield 181, 3, 11, 5, 0, [(0, 1063)]),
  (11, .if_icmp .ge 25, 3, 36, 0, 0, []),
  (14, .iload_n 3, 1, 3, 0, 0, []),
  (15, .aload_n 2, 1, 2, 0, 0, []),
  (16, .iload_n 1, 1, 1, 0, 0, []),
  (17, .iload 4, 2, 4, 0, 0, []),
  (19, .invokestatic 389, 3, 243, 2, 0, [(0, 1318)]),
  (22, .iaload, 1, 0, 0, 0, []),
  (23, .iconst 3, 1, 0, 0, 3, []),
  (24, .iload 4, 2, 4, 0, 0, []),
  (26, .imul, 1, 0, 0, 0, []),
  (27, .ishl, 1, 0, 0, 0, []),
  (28, .ior, 1, 0, 0, 0, []),
  (29, .istore_n 3, 1, 3, 0, 0, []),
  (30, .iinc 4 1, 3, 4, 0, 1, []),
  (33, .goto (-28), 3, 5, 0, 0, []),
  (36, .iload_n 3, 1, 3, 0, 0, []),
  (37, .ireturn, 1, 0, 0, 0, [])]
/-- NamedToWedModel.nameIn(II)I -/
def cd_243 : Cod := [(0, .iload_n 0, 1, 0, 0, 0, []),
  (1, .iconst 3, 1, 0, 0, 3, []),
  (2, .iload_n 1, 1, 1, 0, 0, []),
  (3, .imul, 1, 0, 0, 0, []),
  (4, .ishr, 1, 0, 0, 0, []),
  (5, .bipush 7, 2, 0, 0, 7, []),
  (7, .iand, 1, 0, 0, 0, []),
  (8, .ireturn, 1, 0, 0, 0, [])]
/-- NamedToWedModel.sides()I -/
def cd_244 : Cod := [(0, .iconst 0, 1, 0, 0, 0, []),
  (1, .istore_n 1, 1, 1, 0, 0, []),
  (2, .iconst 0, 1, 0, 0, 0, []),
  (3, .istore_n 2, 1, 2, 0, 0, []),
  (4, .iload_n 2, 1, 2, 0, 0, []),
  (5, .aload_n 0, 1, 0, 0, 0, []),
  (6, .getfield 181, 3, 11, 5, 0, [(0, 1063)]),
  (9, .if_icmp .ge 25, 3, 34, 0, 0, []),
  (12, .aload_n 0, 1, 0, 0, 0, []),
  (13, .iload_n 2, 1, 2, 0, 0, []),
  (14, .invokevirtual 405, 3, 245, 2, 0, [(0, 1324)]),
  (17, .invokestatic 408, 3, 246, 1, 0, [(0, 1327)]),
  (20, .iload_n 2, 1, 2, 0, 0, []),
  (21, .if_icmp .ne 7, 3, 28, 0, 0, []),
  (24, .iload_n 1, 1, 1, 0, 0, []),
  (25, .iconst 1, 1, 0, 0, 1, []),
  (26, .iadd, 1, 0, 0, 0, []),
  (27, .istore_n 1, 1, 1, 0, 0, []),
  (28, .iinc 2 1, 3, 2, 0, 1, []),
  (31, .goto (-27), 3, 4, 0, 0, []),
  (34, .iload_n 1, 1, 1, 0, 0, []),
  (35, .ireturn, 1, 0, 0, 0, [])]
/-- NamedToWedModel.sideOf(I)I -/
def cd_245 : Cod := [(0, .iconst 0, 1, 0, 0, 0, []),
  (1, .istore_n 2, 1, 2, 0, 0, []),
  (2, .iconst 0, 1, 0, 0, 0, []),
  (3, .istore_n 3, 1, 3, 0, 0, []),
  (4, .iload_n 3, 1, 3, 0, 0, []),
  (5, .aload_n 0, 1, 0, 0, 0, []),
  (6, .getfield 392, 3, 11, 46, 0, [(0, 1104)]),
  (9, .if_icmp .ge 24, 3, 33, 0, 0, []),
  (12, .iload_n 2, 1, 2, 0, 0, []),
  (13, .iconst 1, 1, 0, 0, 1, []),
  (14, .aload_n 0, 1, 0, 0, 0, []),
  (15, .getfield 95, 3, 11, 45, 0, [(0, 1103)]),
  (18, .iload_n 3, 1, 3, 0, 0, []),
  (19, .iaload, 1, 0, 0, 0, []),
  (20, .iload_n 1, 1, 1, 0, 0, []),
  (21, .invokestatic 389, 3, 243, 2, 0, [(0, 1318)]),
  (24, .ishl, 1, 0, 0, 0, []),
  (25, .ior, 1, 0, 0, 0, []),
  (26, .istore_n 2, 1, 2, 0, 0, []),
  (27, .iinc 3 1, 3, 3, 0, 1, []),
  (30, .goto (-26), 3, 4, 0, 0, []),
  (33, .iload_n 2, 1, 2, 0, 0, []),
  (34, .ireturn, 1, 0, 0, 0, [])]
/-- NamedToWedModel.lowest(I)I -/
def cd_246 : Cod := [(0, .iconst 0, 1, 0, 0, 0, []),
  (1, .istore_n 1, 1, 1, 0, 0, []),
  (2, .iload_n 0, 1, 0, 0, 0, []),
  (3, .iload_n 1, 1, 1, 0, 0, []),
  (4, .invokestatic 177, 3, 247, 2, 0, [(0, 1330)]),
  (7, .ifCond .ne 10, 3, 17, 0, 0, []),
  (10, .iload_n 1, 1, 1, 0, 0, []),
  (11, .iconst 1, 1, 0, 0, 1, []),
  (12, .iadd, 1, 0, 0, 0, []),
  (13, .istore_n 1, 1, 1, 0, 0, []),
  (14, .goto (-12), 3, 2, 0, 0, []),
  (17, .iload_n 1, 1, 1, 0, 0, []),
  (18, .ireturn, 1, 0, 0, 0, [])]
/-- NamedToWedModel.has(II)Z -/
def cd_247 : Cod := [(0, .iload_n 0, 1, 0, 0, 0, []),
  (1, .iload_n 1, 1, 1, 0, 0, []),
  (2, .ishr, 1, 0, 0, 0, []),
  (3, .iconst 1, 1, 0, 0, 1, []),
  (4, .iand, 1, 0, 0, 0, []),
  (5, .iconst 1, 1, 0, 0, 1, []),
  (6, .if_icmp .ne 7, 3, 13, 0, 0, []),
  (9, .iconst 1, 1, 0, 0, 1, []),
  (10, .goto 4, 3, 14, 0, 0, []),
  (13, .iconst 0, 1, 0, 0, 0, []),
  (14, .ireturn, 1, 1, 0, 0, [])]
/-- NamedToWedModel.isEven()Z -/
def cd_248 : Cod := [(0, .iconst 0, 1, 0, 0, 0, []),
  (1, .istore_n 1, 1, 1, 0, 0, []),
  (2, .iload_n 1, 1, 1, 0, 0, []),
  (3, .aload_n 0, 1, 0, 0, 0, []),
  (4, .getfield 181, 3, 11, 5, 0, [(0, 1063)]),
  (7, .if_icmp .ge 26, 3, 33, 0, 0, []),
  (10, .aload_n 0, 1, 0, 0, 0, []),
  (11, .iload_n 1, 1, 1, 0, 0, []),
  (12, .invokevirtual 405, 3, 245, 2, 0, [(0, 1324)]),
  (15, .invokestatic 411, 3, 249, 1, 0, [(0, 1336)]),
  (18, .aload_n 0, 1, 0, 0, 0, []),
  (19, .getfield 392, 3, 11, 46, 0, [(0, 1104)]),
  (22, .if_icmp .eq 5, 3, 27, 0, 0, []),
  (25, .iconst 0, 1, 0, 0, 0, []),
  (26, .ireturn, 1, 1, 0, 0, []),
  (27, .iinc 1 1, 3, 1, 0, 1, []),
  (30, .goto (-28), 3, 2, 0, 0, []),
  (33, .iconst 1, 1, 0, 0, 1, []),
  (34, .ireturn, 1, 1, 0, 0, [])]
/-- NamedToWedModel.bits(I)I -/
def cd_249 : Cod := [(0, .iconst 0, 1, 0, 0, 0, []),
  (1, .istore_n 1, 1, 1, 0, 0, []),
  (2, .iconst 0, 1, 0, 0, 0, []),
  (3, .istore_n 2, 1, 2, 0, 0, []),
  (4, .iload_n 2, 1, 2, 0, 0, []),
  (5, .bipush 24, 2, 0, 0, 24, []),
  (7, .if_icmp .ge 17, 3, 24, 0, 0, []),
  (10, .iload_n 1, 1, 1, 0, 0, []),
  (11, .iload_n 0, 1, 0, 0, 0, []),
  (12, .iload_n 2, 1, 2, 0, 0, []),
  (13, .ishr, 1, 0, 0, 0, []),
  (14, .iconst 1, 1, 0, 0, 1, []),
  (15, .iand, 1, 0, 0, 0, []),
  (16, .iadd, 1, 0, 0, 0, []),
  (17, .istore_n 1, 1, 1, 0, 0, []),
  (18, .iinc 2 1, 3, 2, 0, 1, []),
  (21, .goto (-17), 3, 4, 0, 0, []),
  (24, .iload_n 1, 1, 1, 0, 0, []),
  (25, .ireturn, 1, 0, 0, 0, [])]
/-- NamedToWedModel.term(IIIII)I -/
def cd_250 : Cod := [(0, .aload_n 0, 1, 0, 0, 0, []),
  (1, .iload_n 1, 1, 1, 0, 0, []),
  (2, .invokevirtual 189, 3, 189, 2, 0, [(0, 1148)]),
  (5, .ifCond .eq 40, 3, 45, 0, 0, []),
  (8, .aload_n 0, 1, 0, 0, 0, []),
  (9, .iload_n 3, 1, 3, 0, 0, []),
  (10, .invokevirtual 189, 3, 189, 2, 0, [(0, 1148)]),
  (13, .ifCond .eq 32, 3, 45, 0, 0, []),
  (16, .iload_n 2, 1, 2, 0, 0, []),
  (17, .iconst 0, 1, 0, 0, 0, []),
  (18, .iconst 1, 1, 0, 0, 1, []),
  (19, .invokestatic 185, 3, 190, 3, 0, [(0, 1151)]),
  (22, .ifCond .eq 23, 3, 45, 0, 0, []),
  (25, .iload 4, 2, 4, 0, 0, []),
  (27, .iconst 0, 1, 0, 0, 0, []),
  (28, .iconst 1, 1, 0, 0, 1, []),
  (29, .invokestatic 185, 3, 190, 3, 0, [(0, 1151)]),
  (32, .ifCond .eq 13, 3, 45, 0, 0, []),
  (35, .iload 5, 2, 5, 0, 0, []),
  (37, .bipush 11, 2, 0, 0, 11, []),
  (39, .invokestatic 430, 3, 251, 2, 0, [(0, 1343)]),
  (42, .ifCond .ne 5, 3, 47, 0, 0, []),
  (45, .iconst (-1), 1, 0, 0, (-1), []),
  (46, .ireturn, 1, 0, 0, 0, []),
  (47, .aload_n 0, 1, 0, 0, 0, []),
  (48, .iconst 2, 1, 0, 0, 2, []),
  (49, .iload_n 3, 1, 3, 0, 0, []),
  (50, .imul, 1, 0, 0, 0, []),
  (51, .iload 4, 2, 4, 0, 0, []),
  (53, .iadd, 1, 0, 0, 0, []),
  (54, .invokevirtual 433, 3, 252, 2, 0, [(0, 1346)]),
  (57, .iconst 2, 1, 0, 0, 2, []),
  (58, .iload_n 1, 1, 1, 0, 0, []),
  (59, .imul, 1, 0, 0, 0, []),
  (60, .iload_n 2, 1, 2, 0, 0, []),
  (61, .iadd, 1, 0, 0, 0, []),
  (62, .istore 6, 2, 6, 0, 0, []),
  (64, .aload_n 0, 1, 0, 0, 0, []),
  (65, .getfield 98, 3, 11, 47, 0, [(0, 1105)]),
  (68, .iload 6, 2, 6, 0, 0, []),
  (70, .iaload, 1, 0, 0, 0, []),
  (71, .ldc_w 423, 3, 0, 1, 1000000, [(4, 1349)]),
  (74, .if_icmp .lt 6, 3, 80, 0, 0, []),
  (77, .bipush (-2), 2, 0, 0, (-2), []),
  (79, .ireturn, 1, 0, 0, 0, []),
  (80, .iload 5, 2, 5, 0, 0, []),
  (82, .bipush 100, 2, 0, 0, 100, []),
  (84, .if_icmp .ne 11, 3, 95, 0, 0, []),
  (87, .aload_n 0, 1, 0, 0, 0, []),
  (88, .getfield 98, 3, 11, 47, 0, [(0, 1105)]),
  (91, .iload 6, 2, 6, 0, 0, []),
  (93, .iaload, 1, 0, 0, 0, []),
  (94, .ireturn, 1, 0, 0, 0, []),
  (95, .iload 5, 2, 5, 0, 0, []),
  (97, .aload_n 0, 1, 0, 0, 0, []),
  (98, .getfield 98, 3, 11, 47, 0, [(0, 1105)]),
  (101, .iload 6, 2, 6, 0, 0, []),
  (103, .iaload, 1, 0, 0, 0, []),
  (104, .if_icmp .lt 6, 3, 110, 0, 0, []),
  (107, .bipush (-4), 2, 0, 0, (-4), []),
  (109, .ireturn, 1, 0, 0, 0, []),
  (110, .iconst 0, 1, 0, 0, 0, []),
  (111, .istore 7, 2, 7, 0, 0, []),
  (113, .iload 7, 2, 7, 0, 0, []),
  (115, .iload 5, 2, 5, 0, 0, []),
  (117, .if_icmp .ge 23, 3, 140, 0, 0, []),
  (120, .aload_n 0, 1, 0, 0, 0, []),
  (121, .iload 6, 2, 6, 0, 0, []),
  (123, .aload_n 0, 1, 0, 0, 0, []),
  (124, .iload 6, 2, 6, 0, 0, []),
  (126, .invokevirtual 436, 3, 255, 2, 0, [(0, 1356)]),
  (129, .invokevirtual 424, 3, 253, 3, 0, [(0, 1350)]),
  (132, .istore 6, 2, 6, 0, 0, []),
  (134, .iinc 7 1, 3, 7, 0, 1, []),
  (137, .goto (-24), 3, 113, 0, 0, []),
  (140, .aload_n 0, 1, 0, 0, 0, []),
  (141, .iload 6, 2, 6, 0, 0, []),
  (143, .invokevirtual 436, 3, 255, 2, 0, [(0, 1356)]),
  (146, .invokestatic 329, 3, 224, 1, 0, [(0, 1258)]),
  (149, .ireturn, 1, 0, 0, 0, [])]
/-- NamedToWedModel.isStepOr(II)Z -/
def cd_251 : Cod := [(0, .iload_n 0, 1, 0, 0, 0, []),
  (1, .iconst 0, 1, 0, 0, 0, []),
  (2, .iload_n 1, 1, 1, 0, 0, []),
  (3, .invokestatic 185, 3, 190, 3, 0, [(0, 1151)]),
  (6, .ifCond .ne 9, 3, 15, 0, 0, []),
  (9, .iload_n 0, 1, 0, 0, 0, []),
  (10, .bipush 100, 2, 0, 0, 100, []),
  (12, .if_icmp .ne 7, 3, 19, 0, 0, []),
  (15, .iconst 1, 1, 0, 0, 1, []),
  (16, .goto 4, 3, 20, 0, 0, []),
  (19, .iconst 0, 1, 0, 0, 0, []),
  (20, .ireturn, 1, 1, 0, 0, [])]
/-- NamedToWedModel.laysFar(I)V -/
def cd_252 : Cod := [(0, .iconst 0, 1, 0, 0, 0, []),
  (1, .istore_n 2, 1, 2, 0, 0, []),
  (2, .iload_n 2, 1, 2, 0, 0, []),
  (3, .bipush 12, 2, 0, 0, 12, []),
  (5, .if_icmp .ge 27, 3, 32, 0, 0, []),
  (8, .aload_n 0, 1, 0, 0, 0, []),
  (9, .getfield 98, 3, 11, 47, 0, [(0, 1105)]),
  (12, .iload_n 2, 1, 2, 0, 0, []),
  (13, .iload_n 2, 1, 2, 0, 0, []),
  (14, .iload_n 1, 1, 1, 0, 0, []),
  (15, .if_icmp .ne 7, 3, 22, 0, 0, []),
  (18, .iconst 0, 1, 0, 0, 0, []),
  (19, .goto 6, 3, 25, 0, 0, []),
  (22, .ldc_w 423, 3, 0, 1, 1000000, [(4, 1349)]),
  (25, .iastore, 1, 0, 0, 0, []),
  (26, .iinc 2 1, 3, 2, 0, 1, []),
  (29, .goto (-27), 3, 2, 0, 0, []),
  (32, .iconst 0, 1, 0, 0, 0, []),
  (33, .istore_n 2, 1, 2, 0, 0, []),
  (34, .iload_n 2, 1, 2, 0, 0, []),
  (35, .bipush 12, 2, 0, 0, 12, []),
  (37, .if_icmp .ge 80, 3, 117, 0, 0, []),
  (40, .iconst 0, 1, 0, 0, 0, []),
  (41, .istore_n 3, 1, 3, 0, 0, []),
  (42, .iload_n 3, 1, 3, 0, 0, []),
  (43, .iconst 2, 1, 0, 0, 2, []),
  (44, .aload_n 0, 1, 0, 0, 0, []),
  (45, .getfield 181, 3, 11, 5, 0, [(0, 1063)]),
  (48, .imul, 1, 0, 0, 0, []),
  (49, .bipush 8, 2, 0, 0, 8, []),
  (51, .imul, 1, 0, 0, 0, []),
  (52, .if_icmp .ge 59, 3, 111, 0, 0, []),
  (55, .aload_n 0, 1, 0, 0, 0, []),
  (56, .iload_n 3, 1, 3, 0, 0, []),
  (57, .bipush 8, 2, 0, 0, 8, []),
  (59, .idiv, 1, 0, 0, 0, []),
  (60, .iload_n 3, 1, 3, 0, 0, []),
  (61, .bipush 8, 2, 0, 0, 8, []),
  (63, .irem, 1, 0, 0, 0, []),
  (64, .invokevirtual 424, 3, 253, 3, 0, [(0, 1350)]),
  (67, .istore 4, 2, 4, 0, 0, []),
  (69, .iload 4, 2, 4, 0, 0, []),
  (71, .iconst (-1), 1, 0, 0, (-1), []),
  (72, .if_icmp .eq 33, 3, 105, 0, 0, []),
  (75, .aload_n 0, 1, 0, 0, 0, []),
  (76, .getfield 98, 3, 11, 47, 0, [(0, 1105)]),
  (79, .iload_n 3, 1, 3, 0, 0, []),
  (80, .bipush 8, 2, 0, 0, 8, []),
  (82, .idiv, 1, 0, 0, 0, []),
  (83, .aload_n 0, 1, 0, 0, 0, []),
  (84, .getfield 98, 3, 11, 47, 0, [(0, 1105)]),
  (87, .iload_n 3, 1, 3, 0, 0, []),
  (88, .bipush 8, 2, 0, 0, 8, []),
  (90, .idiv, 1, 0, 0, 0, []),
  (91, .iaload, 1, 0, 0, 0, []),
  (92, .aload_n 0, 1, 0, 0, 0, []),
  (93, .getfield 98, 3, 11, 47, 0, [(0, 1105)]),
  (96, .iload 4, 2, 4, 0, 0, []),
  (98, .iaload, 1, 0, 0, 0, []),
  (99, .iconst 1, 1, 0, 0, 1, []),
  (100, .iadd, 1, 0, 0, 0, []),
  (101, .invokestatic 427, 3, 254, 2, 0, [(0, 1353)]),
  (104, .iastore, 1, 0, 0, 0, []),
  (105, .iinc 3 1, 3, 3, 0, 1, []),
  (108, .goto (-66), 3, 42, 0, 0, []),
  (111, .iinc 2 1, 3, 2, 0, 1, []),
  (114, .goto (-80), 3, 34, 0, 0, []),
  (117, .return_, 1, 0, 0, 0, [])]
/-- NamedToWedModel.stateBy(II)I -/
def cd_253 : Cod := [(0, .iload_n 2, 1, 2, 0, 0, []),
  (1, .iload_n 1, 1, 1, 0, 0, []),
  (2, .iconst 2, 1, 0, 0, 2, []),
  (3, .irem, 1, 0, 0, 0, []),
  (4, .invokestatic 350, 3, 226, 2, 0, [(0, 1264)]),
  (7, .ifCond .eq 24, 3, 31, 0, 0, []),
  (10, .iconst 2, 1, 0, 0, 2, []),
  (11, .aload_n 0, 1, 0, 0, 0, []),
  (12, .iload_n 2, 1, 2, 0, 0, []),
  (13, .iload_n 1, 1, 1, 0, 0, []),
  (14, .iconst 2, 1, 0, 0, 2, []),
  (15, .idiv, 1, 0, 0, 0, []),
  (16, .iload_n 1, 1, 1, 0, 0, []),
  (17, .iconst 2, 1, 0, 0, 2, []),
  (18, .irem, 1, 0, 0, 0, []),
  (19, .invokevirtual 360, 3, 231, 4, 0, [(0, 1279)]),
  (22, .imul, 1, 0, 0, 0, []),
  (23, .iload_n 2, 1, 2, 0, 0, []),
  (24, .invokestatic 353, 3, 227, 1, 0, [(0, 1267)]),
  (27, .iadd, 1, 0, 0, 0, []),
  (28, .goto 4, 3, 32, 0, 0, []),
  (31, .iconst (-1), 1, 0, 0, (-1), []),
  (32, .ireturn, 1, 0, 0, 0, [])]
/-- NamedToWedModel.min(II)I -/
def cd_254 : Cod := [(0, .iload_n 0, 1, 0, 0, 0, []),
  (1, .iload_n 1, 1, 1, 0, 0, []),
  (2, .if_icmp .ge 7, 3, 9, 0, 0, []),
  (5, .iload_n 0, 1, 0, 0, 0, []),
  (6, .goto 4, 3, 10, 0, 0, []),
  (9, .iload_n 1, 1, 1, 0, 0, []),
  (10, .ireturn, 1, 0, 0, 0, [])]
/-- NamedToWedModel.kindFrom(I)I -/
def cd_255 : Cod := [(0, .iconst 0, 1, 0, 0, 0, []),
  (1, .istore_n 2, 1, 2, 0, 0, []),
  (2, .aload_n 0, 1, 0, 0, 0, []),
  (3, .iload_n 1, 1, 1, 0, 0, []),
  (4, .iload_n 2, 1, 2, 0, 0, []),
  (5, .invokevirtual 424, 3, 253, 3, 0, [(0, 1350)]),
  (8, .iconst (-1), 1, 0, 0, (-1), []),
  (9, .if_icmp .eq 25, 3, 34, 0, 0, []),
  (12, .aload_n 0, 1, 0, 0, 0, []),
  (13, .getfield 98, 3, 11, 47, 0, [(0, 1105)]),
  (16, .aload_n 0, 1, 0, 0, 0, []),
  (17, .iload_n 1, 1, 1, 0, 0, []),
  (18, .iload_n 2, 1, 2, 0, 0, []),
  (19, .invokevirtual 424, 3, 253, 3, 0, [(0, 1350)]),
  (22, .iaload, 1, 0, 0, 0, []),
  (23, .aload_n 0, 1, 0, 0, 0, []),
  (24, .getfield 98, 3, 11, 47, 0, [(0, 1105)]),
  (27, .iload_n 1, 1, 1, 0, 0, []),
  (28, .iaload, 1, 0, 0, 0, []),
  (29, .iconst 1, 1, 0, 0, 1, []),
  (30, .isub, 1, 0, 0, 0, []),
  (31, .if_icmp .eq 10, 3, 41, 0, 0, []),
  (34, .iload_n 2, 1, 2, 0, 0, []),
  (35, .iconst 1, 1, 0, 0, 1, []),
  (36, .iadd, 1, 0, 0, 0, []),
  (37, .istore_n 2, 1, 2, 0, 0, []),
  (38, .goto (-36), 3, 2, 0, 0, []),
  (41, .iload_n 2, 1, 2, 0, 0, []),
  (42, .ireturn, 1, 0, 0, 0, [])]
/-- NamedToWedModel.cousin(I)I -/
def cd_256 : Cod := [(0, .iload_n 1, 1, 1, 0, 0, []),
  (1, .bipush 99, 2, 0, 0, 99, []),
  (3, .invokestatic 430, 3, 251, 2, 0, [(0, 1343)]),
  (6, .ifCond .eq 10, 3, 16, 0, 0, []),
  (9, .aload_n 0, 1, 0, 0, 0, []),
  (10, .getfield 181, 3, 11, 5, 0, [(0, 1063)]),
  (13, .ifCond .ne 5, 3, 18, 0, 0, []),
  (16, .iconst (-1), 1, 0, 0, (-1), []),
  (17, .ireturn, 1, 0, 0, 0, []),
  (18, .aload_n 0, 1, 0, 0, 0, []),
  (19, .invokevirtual 449, 3, 257, 1, 0, [(0, 1363)]),
  (22, .istore_n 2, 1, 2, 0, 0, []),
  (23, .iload_n 2, 1, 2, 0, 0, []),
  (24, .iconst (-1), 1, 0, 0, (-1), []),
  (25, .if_icmp .ne 6, 3, 31, 0, 0, []),
  (28, .bipush (-2), 2, 0, 0, (-2), []),
  (30, .ireturn, 1, 0, 0, 0, []),
  (31, .iload_n 1, 1, 1, 0, 0, []),
  (32, .bipush 100, 2, 0, 0, 100, []),
  (34, .if_icmp .ne 10, 3, 44, 0, 0, []),
  (37, .aload_n 0, 1, 0, 0, 0, []),
  (38, .getfield 113, 3, 11, 52, 0, [(0, 1110)]),
  (41, .iload_n 2, 1, 2, 0, 0, []),
  (42, .iaload, 1, 0, 0, 0, []),
  (43, .ireturn, 1, 0, 0, 0, []),
  (44, .iload_n 1, 1, 1, 0, 0, []),
  (45, .aload_n 0, 1, 0, 0, 0, []),
  (46, .getfield 113, 3, 11, 52, 0, [(0, 1110)]),
  (49, .iload_n 2, 1, 2, 0, 0, []),
  (50, .iaload, 1, 0, 0, 0, []),
  (51, .if_icmp .lt 6, 3, 57, 0, 0, []),
  (54, .bipush (-4), 2, 0, 0, (-4), []),
  (56, .ireturn, 1, 0, 0, 0, []),
  (57, .aload_n 0, 1, 0, 0, 0, []),
  (58, .getfield 113, 3, 11, 52, 0, [(0, 1110)]),
  (61, .iload_n 2, 1, 2, 0, 0, []),
  (62, .iaload, 1, 0, 0, 0, []),
  (63, .iload_n 1, 1, 1, 0, 0, []),
  (64, .iconst 1, 1, 0, 0, 1, []),
  (65, .iadd, 1, 0, 0, 0, []),
  (66, .if_icmp .le 13, 3, 79, 0, 0, []),
  (69, .aload_n 0, 1, 0, 0, 0, []),
  (70, .getfield 107, 3, 11, 50, 0, [(0, 1108)]),
  (73, .iload_n 2, 1, 2, 0, 0, []),
  (74, .iaload, 1, 0, 0, 0, []),
  (75, .istore_n 2, 1, 2, 0, 0, []),
  (76, .goto (-19), 3, 57, 0, 0, []),
  (79, .aload_n 0, 1, 0, 0, 0, []),
  (80, .getfield 110, 3, 11, 51, 0, [(0, 1109)]),
  (83, .iload_n 2, 1, 2, 0, 0, []),
  (84, .iaload, 1, 0, 0, 0, []),
  (85, .invokestatic 329, 3, 224, 1, 0, [(0, 1258)]),
  (88, .ireturn, 1, 0, 0, 0, [])]
/-- NamedToWedModel.laysCousins()I -/
def cd_257 : Cod := [(0, .aload_n 0, 1, 0, 0, 0, []),
  (1, .aload_n 0, 1, 0, 0, 0, []),
  (2, .invokevirtual 395, 3, 240, 1, 0, [(0, 1309)]),
  (5, .aload_n 0, 1, 0, 0, 0, []),
  (6, .getfield 19, 3, 11, 3, 0, [(0, 1061)]),
  (9, .invokevirtual 401, 3, 242, 3, 0, [(0, 1315)]),
  (12, .istore_n 1, 1, 1, 0, 0, []),
  (13, .aload_n 0, 1, 0, 0, 0, []),
  (14, .iconst 0, 1, 0, 0, 0, []),
  (15, .putfield 439, 3, 11, 53, 0, [(0, 1111)]),
  (18, .aload_n 0, 1, 0, 0, 0, []),
  (19, .aload_n 0, 1, 0, 0, 0, []),
  (20, .invokevirtual 395, 3, 240, 1, 0, [(0, 1309)]),
  (23, .iconst 0, 1, 0, 0, 0, []),
  (24, .iconst (-1), 1, 0, 0, (-1), []),
  (25, .iconst (-1), 1, 0, 0, (-1), []),
  (26, .invokevirtual 442, 3, 258, 5, 0, [(0, 1366)]),
  (29, .iconst 0, 1, 0, 0, 0, []),
  (30, .istore_n 2, 1, 2, 0, 0, []),
  (31, .iload_n 2, 1, 2, 0, 0, []),
  (32, .aload_n 0, 1, 0, 0, 0, []),
  (33, .getfield 439, 3, 11, 53, 0, [(0, 1111)]),
  (36, .if_icmp .ge 85, 3, 121, 0, 0, []),
  (39, .aload_n 0, 1, 0, 0, 0, []),
  (40, .getfield 101, 3, 11, 48, 0, [(0, 1106)]),
  (43, .iload_n 2, 1, 2, 0, 0, []),
  (44, .iaload, 1, 0, 0, 0, []),
  (45, .iload_n 1, 1, 1, 0, 0, []),
  (46, .if_icmp .ne 15, 3, 61, 0, 0, []),
  (49, .aload_n 0, 1, 0, 0, 0, []),
  (50, .getfield 104, 3, 11, 49, 0, [(0, 1107)]),
  (53, .iload_n 2, 1, 2, 0, 0, []),
  (54, .iaload, 1, 0, 0, 0, []),
  (55, .iconst 1, 1, 0, 0, 1, []),
  (56, .if_icmp .ne 5, 3, 61, 0, 0, []),
  (59, .iload_n 2, 1, 2, 0, 0, []),
  (60, .ireturn, 1, 0, 0, 0, []),
  (61, .iconst 0, 1, 0, 0, 0, []),
  (62, .istore_n 3, 1, 3, 0, 0, []),
  (63, .iload_n 3, 1, 3, 0, 0, []),
  (64, .bipush 8, 2, 0, 0, 8, []),
  (66, .if_icmp .ge 49, 3, 115, 0, 0, []),
  (69, .iload_n 3, 1, 3, 0, 0, []),
  (70, .iconst 2, 1, 0, 0, 2, []),
  (71, .if_icmp .eq 38, 3, 109, 0, 0, []),
  (74, .iload_n 3, 1, 3, 0, 0, []),
  (75, .iconst 3, 1, 0, 0, 3, []),
  (76, .if_icmp .ne 6, 3, 82, 0, 0, []),
  (79, .goto 30, 3, 109, 0, 0, []),
  (82, .aload_n 0, 1, 0, 0, 0, []),
  (83, .aload_n 0, 1, 0, 0, 0, []),
  (84, .aload_n 0, 1, 0, 0, 0, []),
  (85, .getfield 101, 3, 11, 48, 0, [(0, 1106)]),
  (88, .iload_n 2, 1, 2, 0, 0, []),
  (89, .iaload, 1, 0, 0, 0, []),
  (90, .iload_n 3, 1, 3, 0, 0, []),
  (91, .aload_n 0, 1, 0, 0, 0, []),
  (92, .getfield 104, 3, 11, 49, 0, [(0, 1107)]),
  (95, .iload_n 2, 1, 2, 0, 0, []),
  (96, .iaload, 1, 0, 0, 0, []),
  (97, .invokevirtual 446, 3, 259, 4, 0, [(0, 1369)]),
  (100, .iload_n 3, 1, 3, 0, 0, []),
  (101, .invokestatic 353, 3, 227, 1, 0, [(0, 1267)]),
  (104, .iload_n 2, 1, 2, 0, 0, []),
  (105, .iload_n 3, 1, 3, 0, 0, []),
  (106, .invokevirtual 442, 3, 258, 5, 0, [(0, 1366)]),
  (109, .iinc 3 1, 3, 3, 0, 1, []),
  (112, .goto (-49), 3, 63, 0, 0, []),
  (115, .iinc 2 1, 3, 2, 0, 1, []),
  (118, .goto (-87), 3, 31, 0, 0, []),
  (121, .iconst (-1), 1, 0, 0, (-1), []),
  (122, .ireturn, 1, 0, 0, 0, [])]
/-- NamedToWedModel.addsCousin(IIII)V -/
def cd_258 : Cod := [(0, .iconst 0, 1, 0, 0, 0, []),
  (1, .istore 5, 2, 5, 0, 0, []),
  (3, .iload 5, 2, 5, 0, 0, []),
  (5, .aload_n 0, 1, 0, 0, 0, []),
  (6, .getfield 439, 3, 11, 53, 0, [(0, 1111)]),
  (9, .if_icmp .ge 32, 3, 41, 0, 0, []),
  (12, .aload_n 0, 1, 0, 0, 0, []),
  (13, .getfield 101, 3, 11, 48, 0, [(0, 1106)]),
  (16, .iload 5, 2, 5, 0, 0, []),
  (18, .iaload, 1, 0, 0, 0, []),
  (19, .iload_n 1, 1, 1, 0, 0, []),
  (20, .if_icmp .ne 15, 3, 35, 0, 0, []),
  (23, .aload_n 0, 1, 0, 0, 0, []),
  (24, .getfield 104, 3, 11, 49, 0, [(0, 1107)]),
  (27, .iload 5, 2, 5, 0, 0, []),
  (29, .iaload, 1, 0, 0, 0, []),
  (30, .iload_n 2, 1, 2, 0, 0, []),
  (31, .if_icmp .ne 4, 3, 35, 0, 0, []),
  (34, .return_, 1, 0, 0, 0, []),
  (35, .iinc 5 1, 3, 5, 0, 1, []),
  (38, .goto (-35), 3, 3, 0, 0, []),
  (41, .aload_n 0, 1, 0, 0, 0, []),
  (42, .getfield 101, 3, 11, 48, 0, [(0, 1106)]),
  (45, .aload_n 0, 1, 0, 0, 0, []),
  (46, .getfield 439, 3, 11, 53, 0, [(0, 1111)]),
  (49, .iload_n 1, 1, 1, 0, 0, []),
  (50, .iastore, 1, 0, 0, 0, []),
  (51, .aload_n 0, 1, 0, 0, 0, []),
  (52, .getfield 104, 3, 11, 49, 0, [(0, 1107)]),
  (55, .aload_n 0, 1, 0, 0, 0, []),
  (56, .getfield 439, 3, 11, 53, 0, [(0, 1111)]),
  (59, .iload_n 2, 1, 2, 0, 0, []),
  (60, .iastore, 1, 0, 0, 0, []),
  (61, .aload_n 0, 1, 0, 0, 0, []),
  (62, .getfield 107, 3, 11, 50, 0, [(0, 1108)]),
  (65, .aload_n 0, 1, 0, 0, 0, []),
  (66, .getfield 439, 3, 11, 53, 0, [(0, 1111)]),
  (69, .iload_n 3, 1, 3, 0, 0, []),
  (70, .iastore, 1, 0, 0, 0, []),
  (71, .aload_n 0, 1, 0, 0, 0, []),
  (72, .getfield 110, 3, 11, 51, 0, [(0, 1109)]),
  (75, .aload_n 0, 1, 0, 0, 0, []),
  (76, .getfield 439, 3, 11, 53, 0, [(0, 1111)]),
  (79, .iload 4, 2, 4, 0, 0, []),
  (81, .iastore, 1, 0, 0, 0, []),
  (82, .aload_n 0, 1, 0, 0, 0, []),
  (83, .getfield 113, 3, 11, 52, 0, [(0, 1110)]),
  (86, .aload_n 0, 1, 0, 0, 0, []),
  (87, .getfield 439, 3, 11, 53, 0, [(0, 1111)]),
  (90, .iload_n 3, 1, 3, 0, 0, []),
  (91, .iconst (-1), 1, 0, 0, (-1), []),
  (92, .if_icmp .ne 7, 3, 99, 0, 0, []),
  (95, .iconst 0, 1, 0, 0, 0, []),
  (96, .goto 11, 3, 107, 0, 0, []),
  (99, .aload_n 0, 1, 0, 0, 0, []),
  (100, .getfield 113, 3, 11, 52, 0, [(0, 1110)]),
  (103, .iload_n 3, 1, 3, 0, 0, []),
  (104, .iaload, 1, 0, 0, 0, []),
  (105, .iconst 1, 1, 0, 0, 1, []),
  (106, .iadd, 1, 0, 0, 0, []),
  (107, .iastore, 1, 0, 0, 0, []),
  (108, .aload_n 0, 1, 0, 0, 0, []),
  (109, .aload_n 0, 1, 0, 0, 0, []),
  (110, .getfield 439, 3, 11, 53, 0, [(0, 1111)]),
  (113, .iconst 1, 1, 0, 0, 1, []),
  (114, .iadd, 1, 0, 0, 0, []),
  (115, .putfield 439, 3, 11, 53, 0, [(0, 1111)]),
  (118, .return_, 1, 0, 0, 0, [])]
/-- NamedToWedModel.wayBy(III)I -/
def cd_259 : Cod := [(0, .iconst 0, 1, 0, 0, 0, []),
  (1, .istore 4, 2, 4, 0, 0, []),
  (3, .iconst 0, 1, 0, 0, 0, []),
  (4, .istore 5, 2, 5, 0, 0, []),
  (6, .iload 5, 2, 5, 0, 0, []),
  (8, .aload_n 0, 1, 0, 0, 0, []),
  (9, .getfield 181, 3, 11, 5, 0, [(0, 1063)]),
  (12, .if_icmp .ge 31, 3, 43, 0, 0, []),
  (15, .iload 4, 2, 4, 0, 0, []),
  (17, .aload_n 0, 1, 0, 0, 0, []),
  (18, .iload_n 2, 1, 2, 0, 0, []),
  (19, .iload_n 1, 1, 1, 0, 0, []),
  (20, .iload 5, 2, 5, 0, 0, []),
  (22, .invokestatic 389, 3, 243, 2, 0, [(0, 1318)]),
  (25, .iload_n 3, 1, 3, 0, 0, []),
  (26, .invokevirtual 360, 3, 231, 4, 0, [(0, 1279)]),
  (29, .iconst 3, 1, 0, 0, 3, []),
  (30, .iload 5, 2, 5, 0, 0, []),
  (32, .imul, 1, 0, 0, 0, []),
  (33, .ishl, 1, 0, 0, 0, []),
  (34, .ior, 1, 0, 0, 0, []),
  (35, .istore 4, 2, 4, 0, 0, []),
  (37, .iinc 5 1, 3, 5, 0, 1, []),
  (40, .goto (-34), 3, 6, 0, 0, []),
  (43, .iload 4, 2, 4, 0, 0, []),
  (45, .ireturn, 1, 0, 0, 0, [])]
/-- NamedToWedModel.words(IIIII)J -/
def cd_260 : Cod := [(0, .iload_n 1, 1, 1, 0, 0, []),
  (1, .iconst 1, 1, 0, 0, 1, []),
  (2, .bipush 20, 2, 0, 0, 20, []),
  (4, .invokestatic 185, 3, 190, 3, 0, [(0, 1151)]),
  (7, .ifCond .eq 39, 3, 46, 0, 0, []),
  (10, .aload_n 0, 1, 0, 0, 0, []),
  (11, .iload_n 2, 1, 2, 0, 0, []),
  (12, .invokevirtual 189, 3, 189, 2, 0, [(0, 1148)]),
  (15, .ifCond .eq 31, 3, 46, 0, 0, []),
  (18, .aload_n 0, 1, 0, 0, 0, []),
  (19, .iload 4, 2, 4, 0, 0, []),
  (21, .invokevirtual 189, 3, 189, 2, 0, [(0, 1148)]),
  (24, .ifCond .eq 22, 3, 46, 0, 0, []),
  (27, .iload_n 3, 1, 3, 0, 0, []),
  (28, .iconst 0, 1, 0, 0, 0, []),
  (29, .iconst 1, 1, 0, 0, 1, []),
  (30, .invokestatic 185, 3, 190, 3, 0, [(0, 1151)]),
  (33, .ifCond .eq 13, 3, 46, 0, 0, []),
  (36, .iload 5, 2, 5, 0, 0, []),
  (38, .iconst 0, 1, 0, 0, 0, []),
  (39, .iconst 1, 1, 0, 0, 1, []),
  (40, .invokestatic 185, 3, 190, 3, 0, [(0, 1151)]),
  (43, .ifCond .ne 7, 3, 50, 0, 0, []),
  (46, .ldc2_w 452, 3, 0, 1, (-1), [(0, 12)]),
  (49, .lreturn, 1, 0, 0, 0, []),
  (50, .iconst 0, 1, 0, 0, 0, []),
  (51, .istore 6, 2, 6, 0, 0, []),
  (53, .iload 6, 2, 6, 0, 0, []),
  (55, .bipush 12, 2, 0, 0, 12, []),
  (57, .if_icmp .ge 31, 3, 88, 0, 0, []),
  (60, .aload_n 0, 1, 0, 0, 0, []),
  (61, .getfield 116, 3, 11, 54, 0, [(0, 1112)]),
  (64, .iload 6, 2, 6, 0, 0, []),
  (66, .iload 6, 2, 6, 0, 0, []),
  (68, .iconst 2, 1, 0, 0, 2, []),
  (69, .iload_n 2, 1, 2, 0, 0, []),
  (70, .imul, 1, 0, 0, 0, []),
  (71, .iload_n 3, 1, 3, 0, 0, []),
  (72, .iadd, 1, 0, 0, 0, []),
  (73, .if_icmp .ne 7, 3, 80, 0, 0, []),
  (76, .lconst 1, 1, 0, 0, 1, []),
  (77, .goto 4, 3, 81, 0, 0, []),
  (80, .lconst 0, 1, 0, 0, 0, []),
  (81, .lastore, 1, 0, 0, 0, []),
  (82, .iinc 6 1, 3, 6, 0, 1, []),
  (85, .goto (-32), 3, 53, 0, 0, []),
  (88, .iconst 0, 1, 0, 0, 0, []),
  (89, .istore 6, 2, 6, 0, 0, []),
  (91, .iload 6, 2, 6, 0, 0, []),
  (93, .iload_n 1, 1, 1, 0, 0, []),
  (94, .if_icmp .ge 133, 3, 227, 0, 0, []),
  (97, .iconst 0, 1, 0, 0, 0, []),
  (98, .istore 7, 2, 7, 0, 0, []),
  (100, .iload 7, 2, 7, 0, 0, []),
  (102, .bipush 12, 2, 0, 0, 12, []),
  (104, .if_icmp .ge 17, 3, 121, 0, 0, []),
  (107, .aload_n 0, 1, 0, 0, 0, []),
  (108, .getfield 120, 3, 11, 55, 0, [(0, 1113)]),
  (111, .iload 7, 2, 7, 0, 0, []),
  (113, .lconst 0, 1, 0, 0, 0, []),
  (114, .lastore, 1, 0, 0, 0, []),
  (115, .iinc 7 1, 3, 7, 0, 1, []),
  (118, .goto (-18), 3, 100, 0, 0, []),
  (121, .iconst 0, 1, 0, 0, 0, []),
  (122, .istore 7, 2, 7, 0, 0, []),
  (124, .iload 7, 2, 7, 0, 0, []),
  (126, .iconst 2, 1, 0, 0, 2, []),
  (127, .aload_n 0, 1, 0, 0, 0, []),
  (128, .getfield 181, 3, 11, 5, 0, [(0, 1063)]),
  (131, .imul, 1, 0, 0, 0, []),
  (132, .bipush 8, 2, 0, 0, 8, []),
  (134, .imul, 1, 0, 0, 0, []),
  (135, .if_icmp .ge 56, 3, 191, 0, 0, []),
  (138, .aload_n 0, 1, 0, 0, 0, []),
  (139, .iload 7, 2, 7, 0, 0, []),
  (141, .bipush 8, 2, 0, 0, 8, []),
  (143, .idiv, 1, 0, 0, 0, []),
  (144, .iload 7, 2, 7, 0, 0, []),
  (146, .bipush 8, 2, 0, 0, 8, []),
  (148, .irem, 1, 0, 0, 0, []),
  (149, .invokevirtual 424, 3, 253, 3, 0, [(0, 1350)]),
  (152, .istore 8, 2, 8, 0, 0, []),
  (154, .iload 8, 2, 8, 0, 0, []),
  (156, .iconst (-1), 1, 0, 0, (-1), []),
  (157, .if_icmp .eq 28, 3, 185, 0, 0, []),
  (160, .aload_n 0, 1, 0, 0, 0, []),
  (161, .getfield 120, 3, 11, 55, 0, [(0, 1113)]),
  (164, .iload 8, 2, 8, 0, 0, []),
  (166, .aload_n 0, 1, 0, 0, 0, []),
  (167, .getfield 120, 3, 11, 55, 0, [(0, 1113)]),
  (170, .iload 8, 2, 8, 0, 0, []),
  (172, .laload, 1, 0, 0, 0, []),
  (173, .aload_n 0, 1, 0, 0, 0, []),
  (174, .getfield 116, 3, 11, 54, 0, [(0, 1112)]),
  (177, .iload 7, 2, 7, 0, 0, []),
  (179, .bipush 8, 2, 0, 0, 8, []),
  (181, .idiv, 1, 0, 0, 0, []),
  (182, .laload, 1, 0, 0, 0, []),
  (183, .ladd, 1, 0, 0, 0, []),
  (184, .lastore, 1, 0, 0, 0, []),
  (185, .iinc 7 1, 3, 7, 0, 1, []),
  (188, .goto (-64), 3, 124, 0, 0, []),
  (191, .iconst 0, 1, 0, 0, 0, []),
  (192, .istore 7, 2, 7, 0, 0, []),
  (194, .iload 7, 2, 7, 0, 0, []),
  (196, .bipush 12, 2, 0, 0, 12, []),
  (198, .if_icmp .ge 23, 3, 221, 0, 0, []),
  (201, .aload_n 0, 1, 0, 0, 0, []),
  (202, .getfield 116, 3, 11, 54, 0, [(0, 1112)]),
  (205, .iload 7, 2, 7, 0, 0, []),
  (207, .aload_n 0, 1, 0, 0, 0, []),
  (208, .getfield 120, 3, 11, 55, 0, [(0, 1113)]),
  (211, .iload 7, 2, 7, 0, 0, []),
  (213, .laload, 1, 0, 0, 0, []),
  (214, .lastore, 1, 0, 0, 0, []),
  (215, .iinc 7 1, 3, 7, 0, 1, []),
  (218, .goto (-24), 3, 194, 0, 0, []),
  (221, .iinc 6 1, 3, 6, 0, 1, []),
  (224, .goto (-133), 3, 91, 0, 0, []),
  (227, .aload_n 0, 1, 0, 0, 0, []),
  (228, .getfield 116, 3, 11, 54, 0, [(0, 1112)]),
  (231, .iconst 2, 1, 0, 0, 2, []),
  (232, .iload 4, 2, 4, 0, 0, []),
  (234, .imul, 1, 0, 0, 0, []),
  (235, .iload 5, 2, 5, 0, 0, []),
  (237, .iadd, 1, 0, 0, 0, []),
  (238, .laload, 1, 0, 0, 0, []),
  (239, .lreturn, 1, 0, 0, 0, [])]
/-- NamedToWedModel.allRules(III)I -/
def cd_261 : Cod := [(0, .iload_n 1, 1, 1, 0, 0, []),
  (1, .iconst 2, 1, 0, 0, 2, []),
  (2, .iconst 5, 1, 0, 0, 5, []),
  (3, .invokestatic 185, 3, 190, 3, 0, [(0, 1151)]),
  (6, .ifCond .eq 30, 3, 36, 0, 0, []),
  (9, .iload_n 2, 1, 2, 0, 0, []),
  (10, .iconst 1, 1, 0, 0, 1, []),
  (11, .bipush 40, 2, 0, 0, 40, []),
  (13, .invokestatic 185, 3, 190, 3, 0, [(0, 1151)]),
  (16, .ifCond .eq 20, 3, 36, 0, 0, []),
  (19, .iload_n 3, 1, 3, 0, 0, []),
  (20, .iconst 0, 1, 0, 0, 0, []),
  (21, .iconst 1, 1, 0, 0, 1, []),
  (22, .invokestatic 185, 3, 190, 3, 0, [(0, 1151)]),
  (25, .ifCond .eq 11, 3, 36, 0, 0, []),
  (28, .iload_n 2, 1, 2, 0, 0, []),
  (29, .aload_n 0, 1, 0, 0, 0, []),
  (30, .getfield 193, 3, 11, 7, 0, [(0, 1065)]),
  (33, .if_icmp .le 5, 3, 38, 0, 0, []),
  (36, .iconst (-1), 1, 0, 0, (-1), []),
  (37, .ireturn, 1, 0, 0, 0, []),
  (38, .aload_n 0, 1, 0, 0, 0, []),
  (39, .iconst 0, 1, 0, 0, 0, []),
  (40, .iload_n 2, 1, 2, 0, 0, []),
  (41, .iconst 0, 1, 0, 0, 0, []),
  (42, .invokevirtual 376, 3, 220, 4, 0, [(0, 1246)]),
  (45, .istore 4, 2, 4, 0, 0, []),
  (47, .aload_n 0, 1, 0, 0, 0, []),
  (48, .iconst 0, 1, 0, 0, 0, []),
  (49, .putfield 193, 3, 11, 7, 0, [(0, 1065)]),
  (52, .iload 4, 2, 4, 0, 0, []),
  (54, .ifCond .ge 6, 3, 60, 0, 0, []),
  (57, .iload 4, 2, 4, 0, 0, []),
  (59, .ireturn, 1, 0, 0, 0, []),
  (60, .aload_n 0, 1, 0, 0, 0, []),
  (61, .invokevirtual 470, 3, 262, 1, 0, [(0, 1380)]),
  (64, .aload_n 0, 1, 0, 0, 0, []),
  (65, .iload_n 1, 1, 1, 0, 0, []),
  (66, .putfield 181, 3, 11, 5, 0, [(0, 1063)]),
  (69, .aload_n 0, 1, 0, 0, 0, []),
  (70, .iload_n 3, 1, 3, 0, 0, []),
  (71, .iconst 1, 1, 0, 0, 1, []),
  (72, .if_icmp .ne 7, 3, 79, 0, 0, []),
  (75, .iconst 1, 1, 0, 0, 1, []),
  (76, .goto 4, 3, 80, 0, 0, []),
  (79, .iconst 0, 1, 0, 0, 0, []),
  (80, .invokevirtual 473, 3, 263, 2, 0, [(0, 1383)]),
  (83, .istore 5, 2, 5, 0, 0, []),
  (85, .aload_n 0, 1, 0, 0, 0, []),
  (86, .invokevirtual 477, 3, 268, 1, 0, [(0, 1398)]),
  (89, .iload 5, 2, 5, 0, 0, []),
  (91, .ireturn, 1, 0, 0, 0, [])]
/-- NamedToWedModel.keepsRule()V -/
def cd_262 : Cod := [(0, .aload_n 0, 1, 0, 0, 0, []),
  (1, .aload_n 0, 1, 0, 0, 0, []),
  (2, .getfield 181, 3, 11, 5, 0, [(0, 1063)]),
  (5, .putfield 454, 3, 11, 58, 0, [(0, 1116)]),
  (8, .iconst 0, 1, 0, 0, 0, []),
  (9, .istore_n 1, 1, 1, 0, 0, []),
  (10, .iload_n 1, 1, 1, 0, 0, []),
  (11, .bipush 6, 2, 0, 0, 6, []),
  (13, .if_icmp .ge 33, 3, 46, 0, 0, []),
  (16, .aload_n 0, 1, 0, 0, 0, []),
  (17, .getfield 123, 3, 11, 56, 0, [(0, 1114)]),
  (20, .iload_n 1, 1, 1, 0, 0, []),
  (21, .aload_n 0, 1, 0, 0, 0, []),
  (22, .getfield 19, 3, 11, 3, 0, [(0, 1061)]),
  (25, .iload_n 1, 1, 1, 0, 0, []),
  (26, .iaload, 1, 0, 0, 0, []),
  (27, .iastore, 1, 0, 0, 0, []),
  (28, .aload_n 0, 1, 0, 0, 0, []),
  (29, .getfield 126, 3, 11, 57, 0, [(0, 1115)]),
  (32, .iload_n 1, 1, 1, 0, 0, []),
  (33, .aload_n 0, 1, 0, 0, 0, []),
  (34, .getfield 22, 3, 11, 4, 0, [(0, 1062)]),
  (37, .iload_n 1, 1, 1, 0, 0, []),
  (38, .iaload, 1, 0, 0, 0, []),
  (39, .iastore, 1, 0, 0, 0, []),
  (40, .iinc 1 1, 3, 1, 0, 1, []),
  (43, .goto (-33), 3, 10, 0, 0, []),
  (46, .return_, 1, 0, 0, 0, [])]
/-- NamedToWedModel.countsRules(Z)I -/
def cd_263 : Cod := [(0, .iconst 0, 1, 0, 0, 0, []),
  (1, .istore_n 2, 1, 2, 0, 0, []),
  (2, .iconst 0, 1, 0, 0, 0, []),
  (3, .istore_n 3, 1, 3, 0, 0, []),
  (4, .iload_n 3, 1, 3, 0, 0, []),
  (5, .aload_n 0, 1, 0, 0, 0, []),
  (6, .getfield 181, 3, 11, 5, 0, [(0, 1063)]),
  (9, .if_icmp .ge 23, 3, 32, 0, 0, []),
  (12, .aload_n 0, 1, 0, 0, 0, []),
  (13, .getfield 19, 3, 11, 3, 0, [(0, 1061)]),
  (16, .iload_n 3, 1, 3, 0, 0, []),
  (17, .iload_n 3, 1, 3, 0, 0, []),
  (18, .iastore, 1, 0, 0, 0, []),
  (19, .aload_n 0, 1, 0, 0, 0, []),
  (20, .getfield 22, 3, 11, 4, 0, [(0, 1062)]),
  (23, .iload_n 3, 1, 3, 0, 0, []),
  (24, .iload_n 3, 1, 3, 0, 0, []),
  (25, .iastore, 1, 0, 0, 0, []),
  (26, .iinc 3 1, 3, 3, 0, 1, []),
  (29, .goto (-25), 3, 4, 0, 0, []),
  (32, .iconst 1, 1, 0, 0, 1, []),
  (33, .istore_n 3, 1, 3, 0, 0, []),
  (34, .iload_n 3, 1, 3, 0, 0, []),
  (35, .ifCond .eq 72, 3, 107, 0, 0, []),
  (38, .aload_n 0, 1, 0, 0, 0, []),
  (39, .invokevirtual 461, 3, 264, 1, 0, [(0, 1386)]),
  (42, .ifCond .eq 34, 3, 76, 0, 0, []),
  (45, .aload_n 0, 1, 0, 0, 0, []),
  (46, .iconst 0, 1, 0, 0, 0, []),
  (47, .invokevirtual 385, 3, 235, 2, 0, [(0, 1291)]),
  (50, .iconst 1, 1, 0, 0, 1, []),
  (51, .aload_n 0, 1, 0, 0, 0, []),
  (52, .getfield 181, 3, 11, 5, 0, [(0, 1063)]),
  (55, .ishl, 1, 0, 0, 0, []),
  (56, .iconst 1, 1, 0, 0, 1, []),
  (57, .isub, 1, 0, 0, 0, []),
  (58, .if_icmp .ne 18, 3, 76, 0, 0, []),
  (61, .iload_n 1, 1, 1, 0, 0, []),
  (62, .ifCond .eq 10, 3, 72, 0, 0, []),
  (65, .aload_n 0, 1, 0, 0, 0, []),
  (66, .invokevirtual 464, 3, 265, 1, 0, [(0, 1389)]),
  (69, .ifCond .eq 7, 3, 76, 0, 0, []),
  (72, .iload_n 2, 1, 2, 0, 0, []),
  (73, .iconst 1, 1, 0, 0, 1, []),
  (74, .iadd, 1, 0, 0, 0, []),
  (75, .istore_n 2, 1, 2, 0, 0, []),
  (76, .aload_n 0, 1, 0, 0, 0, []),
  (77, .aload_n 0, 1, 0, 0, 0, []),
  (78, .getfield 22, 3, 11, 4, 0, [(0, 1062)]),
  (81, .invokevirtual 467, 3, 266, 2, 0, [(0, 1392)]),
  (84, .ifCond .ne 14, 3, 98, 0, 0, []),
  (87, .aload_n 0, 1, 0, 0, 0, []),
  (88, .aload_n 0, 1, 0, 0, 0, []),
  (89, .getfield 19, 3, 11, 3, 0, [(0, 1061)]),
  (92, .invokevirtual 467, 3, 266, 2, 0, [(0, 1392)]),
  (95, .ifCond .eq 7, 3, 102, 0, 0, []),
  (98, .iconst 1, 1, 0, 0, 1, []),
  (99, .goto 4, 3, 103, 0, 0, []),
  (102, .iconst 0, 1, 0, 0, 0, []),
  (103, .istore_n 3, 1, 3, 0, 0, []),
  (104, .goto (-70), 3, 34, 0, 0, []),
  (107, .iload_n 2, 1, 2, 0, 0, []),
  (108, .ireturn, 1, 0, 0, 0, [])]
/-- NamedToWedModel.weddsOut()Z -/
def cd_264 : Cod := [(0, .iconst 0, 1, 0, 0, 0, []),
  (1, .istore_n 1, 1, 1, 0, 0, []),
  (2, .iload_n 1, 1, 1, 0, 0, []),
  (3, .aload_n 0, 1, 0, 0, 0, []),
  (4, .getfield 181, 3, 11, 5, 0, [(0, 1063)]),
  (7, .if_icmp .ge 21, 3, 28, 0, 0, []),
  (10, .aload_n 0, 1, 0, 0, 0, []),
  (11, .getfield 19, 3, 11, 3, 0, [(0, 1061)]),
  (14, .iload_n 1, 1, 1, 0, 0, []),
  (15, .iaload, 1, 0, 0, 0, []),
  (16, .iload_n 1, 1, 1, 0, 0, []),
  (17, .if_icmp .ne 5, 3, 22, 0, 0, []),
  (20, .iconst 0, 1, 0, 0, 0, []),
  (21, .ireturn, 1, 1, 0, 0, []),
  (22, .iinc 1 1, 3, 1, 0, 1, []),
  (25, .goto (-23), 3, 2, 0, 0, []),
  (28, .iconst 1, 1, 0, 0, 1, []),
  (29, .ireturn, 1, 1, 0, 0, [])]
/-- NamedToWedModel.isEvenAndOne()Z -/
def cd_265 : Cod := [(0, .aload_n 0, 1, 0, 0, 0, []),
  (1, .invokevirtual 414, 3, 239, 1, 0, [(0, 1306)]),
  (4, .aload_n 0, 1, 0, 0, 0, []),
  (5, .getfield 392, 3, 11, 46, 0, [(0, 1104)]),
  (8, .aload_n 0, 1, 0, 0, 0, []),
  (9, .getfield 181, 3, 11, 5, 0, [(0, 1063)]),
  (12, .if_icmp .ne 22, 3, 34, 0, 0, []),
  (15, .aload_n 0, 1, 0, 0, 0, []),
  (16, .invokevirtual 417, 3, 244, 1, 0, [(0, 1321)]),
  (19, .iconst 1, 1, 0, 0, 1, []),
  (20, .if_icmp .ne 14, 3, 34, 0, 0, []),
  (23, .aload_n 0, 1, 0, 0, 0, []),
  (24, .invokevirtual 420, 3, 248, 1, 0, [(0, 1333)]),
  (27, .ifCond .eq 7, 3, 34, 0, 0, []),
  (30, .iconst 1, 1, 0, 0, 1, []),
  (31, .goto 4, 3, 35, 0, 0, []),
  (34, .iconst 0, 1, 0, 0, 0, []),
  (35, .ireturn, 1, 1, 0, 0, [])]
/-- NamedToWedModel.nextRow([I)Z -/
def cd_266 : Cod := [(0, .aload_n 0, 1, 0, 0, 0, []),
  (1, .getfield 181, 3, 11, 5, 0, [(0, 1063)]),
  (4, .iconst 2, 1, 0, 0, 2, []),
  (5, .isub, 1, 0, 0, 0, []),
  (6, .istore_n 2, 1, 2, 0, 0, []),
  (7, .iload_n 2, 1, 2, 0, 0, []),
  (8, .ifCond .lt 21, 3, 29, 0, 0, []),
  (11, .aload_n 1, 1, 1, 0, 0, []),
  (12, .iload_n 2, 1, 2, 0, 0, []),
  (13, .iaload, 1, 0, 0, 0, []),
  (14, .aload_n 1, 1, 1, 0, 0, []),
  (15, .iload_n 2, 1, 2, 0, 0, []),
  (16, .iconst 1, 1, 0, 0, 1, []),
  (17, .iadd, 1, 0, 0, 0, []),
  (18, .iaload, 1, 0, 0, 0, []),
  (19, .if_icmp .le 10, 3, 29, 0, 0, []),
  (22, .iload_n 2, 1, 2, 0, 0, []),
  (23, .iconst 1, 1, 0, 0, 1, []),
  (24, .isub, 1, 0, 0, 0, []),
  (25, .istore_n 2, 1, 2, 0, 0, []),
  (26, .goto (-19), 3, 7, 0, 0, []),
  (29, .iload_n 2, 1, 2, 0, 0, []),
  (30, .ifCond .ge 25, 3, 55, 0, 0, []),
  (33, .iconst 0, 1, 0, 0, 0, []),
  (34, .istore_n 3, 1, 3, 0, 0, []),
  (35, .iload_n 3, 1, 3, 0, 0, []),
  (36, .aload_n 0, 1, 0, 0, 0, []),
  (37, .getfield 181, 3, 11, 5, 0, [(0, 1063)]),
  (40, .if_icmp .ge 13, 3, 53, 0, 0, []),
  (43, .aload_n 1, 1, 1, 0, 0, []),
  (44, .iload_n 3, 1, 3, 0, 0, []),
  (45, .iload_n 3, 1, 3, 0, 0, []),
  (46, .iastore, 1, 0, 0, 0, []),
  (47, .iinc 3 1, 3, 3, 0, 1, []),
  (50, .goto (-15), 3, 35, 0, 0, []),
  (53, .iconst 0, 1, 0, 0, 0, []),
  (54, .ireturn, 1, 1, 0, 0, []),
  (55, .aload_n 0, 1, 0, 0, 0, []),
  (56, .getfield 181, 3, 11, 5, 0, [(0, 1063)]),
  (59, .iconst 1, 1, 0, 0, 1, []),
  (60, .isub, 1, 0, 0, 0, []),
  (61, .istore_n 3, 1, 3, 0, 0, []),
  (62, .aload_n 1, 1, 1, 0, 0, []),
  (63, .iload_n 3, 1, 3, 0, 0, []),
  (64, .iaload, 1, 0, 0, 0, []),
  (65, .aload_n 1, 1, 1, 0, 0, []),
  (66, .iload_n 2, 1, 2, 0, 0, []),
  (67, .iaload, 1, 0, 0, 0, []),
  (68, .if_icmp .ge 10, 3, 78, 0, 0, []),
  (71, .iload_n 3, 1, 3, 0, 0, []),
  (72, .iconst 1, 1, 0, 0, 1, []),
  (73, .isub, 1, 0, 0, 0, []),
  (74, .istore_n 3, 1, 3, 0, 0, []),
  (75, .goto (-13), 3, 62, 0, 0, []),
  (78, .aload_n 0, 1, 0, 0, 0, []),
  (79, .aload_n 1, 1, 1, 0, 0, []),
  (80, .iload_n 2, 1, 2, 0, 0, []),
  (81, .iload_n 3, 1, 3, 0, 0, []),
  (82, .invokevirtual 457, 3, 267, 4, 0, [(0, 1395)]),
  (85, .iload_n 2, 1, 2, 0, 0, []),
  (86, .iconst 1, 1, 0, 0, 1, []),
  (87, .iadd, 1, 0, 0, 0, []),
  (88, .istore 4, 2, 4, 0, 0, []),
  (90, .aload_n 0, 1, 0, 0, 0, []),
  (91, .getfield 181, 3, 11, 5, 0, [(0, 1063)]),
  (94, .iconst 1, 1, 0, 0, 1, []),
  (95, .isub, 1, 0, 0, 0, []),
  (96, .istore 5, 2, 5, 0, 0, []),
  (98, .iload 4, 2, 4, 0, 0, []),
  (100, .iload 5, 2, 5, 0, 0, []),
  (102, .if_icmp .ge 21, 3, 123, 0, 0, []),
  (105, .aload_n 0, 1, 0, 0, 0, []),
  (106, .aload_n 1, 1, 1, 0, 0, []),
  (107, .iload 4, 2, 4, 0, 0, []),
  (109, .iload 5, 2, 5, 0, 0, []),
  (111, .invokevirtual 457, 3, 267, 4, 0, [(0, 1395)]),
  (114, .iinc 4 1, 3, 4, 0, 1, []),
  (117, .iinc 5 (-1), 3, 5, 0, (-1), []),
  (120, .goto (-22), 3, 98, 0, 0, []),
  (123, .iconst 1, 1, 0, 0, 1, []),
  (124, .ireturn, 1, 1, 0, 0, [])]
/-- NamedToWedModel.changesRow([III)V -/
def cd_267 : Cod := [(0, .aload_n 1, 1, 1, 0, 0, []),
  (1, .iload_n 2, 1, 2, 0, 0, []),
  (2, .iaload, 1, 0, 0, 0, []),
  (3, .istore 4, 2, 4, 0, 0, []),
  (5, .aload_n 1, 1, 1, 0, 0, []),
  (6, .iload_n 2, 1, 2, 0, 0, []),
  (7, .aload_n 1, 1, 1, 0, 0, []),
  (8, .iload_n 3, 1, 3, 0, 0, []),
  (9, .iaload, 1, 0, 0, 0, []),
  (10, .iastore, 1, 0, 0, 0, []),
  (11, .aload_n 1, 1, 1, 0, 0, []),
  (12, .iload_n 3, 1, 3, 0, 0, []),
  (13, .iload 4, 2, 4, 0, 0, []),
  (15, .iastore, 1, 0, 0, 0, []),
  (16, .return_, 1, 0, 0, 0, [])]
/-- NamedToWedModel.putsRuleBack()V -/
def cd_268 : Cod := [(0, .aload_n 0, 1, 0, 0, 0, []),
  (1, .aload_n 0, 1, 0, 0, 0, []),
  (2, .getfield 454, 3, 11, 58, 0, [(0, 1116)]),
  (5, .putfield 181, 3, 11, 5, 0, [(0, 1063)]),
  (8, .iconst 0, 1, 0, 0, 0, []),
  (9, .istore_n 1, 1, 1, 0, 0, []),
  (10, .iload_n 1, 1, 1, 0, 0, []),
  (11, .bipush 6, 2, 0, 0, 6, []),
  (13, .if_icmp .ge 33, 3, 46, 0, 0, []),
  (16, .aload_n 0, 1, 0, 0, 0, []),
  (17, .getfield 19, 3, 11, 3, 0, [(0, 1061)]),
  (20, .iload_n 1, 1, 1, 0, 0, []),
  (21, .aload_n 0, 1, 0, 0, 0, []),
  (22, .getfield 123, 3, 11, 56, 0, [(0, 1114)]),
  (25, .iload_n 1, 1, 1, 0, 0, []),
  (26, .iaload, 1, 0, 0, 0, []),
  (27, .iastore, 1, 0, 0, 0, []),
  (28, .aload_n 0, 1, 0, 0, 0, []),
  (29, .getfield 22, 3, 11, 4, 0, [(0, 1062)]),
  (32, .iload_n 1, 1, 1, 0, 0, []),
  (33, .aload_n 0, 1, 0, 0, 0, []),
  (34, .getfield 126, 3, 11, 57, 0, [(0, 1115)]),
  (37, .iload_n 1, 1, 1, 0, 0, []),
  (38, .iaload, 1, 0, 0, 0, []),
  (39, .iastore, 1, 0, 0, 0, []),
  (40, .iinc 1 1, 3, 1, 0, 1, []),
  (43, .goto (-33), 3, 10, 0, 0, []),
  (46, .return_, 1, 0, 0, 0, [])]
/-- NamedToWedModel.roll(I)I -/
def cd_269 : Cod := [(0, .iload_n 1, 1, 1, 0, 0, []),
  (1, .iconst 1, 1, 0, 0, 1, []),
  (2, .sipush 240, 3, 0, 0, 240, []),
  (5, .invokestatic 185, 3, 190, 3, 0, [(0, 1151)]),
  (8, .ifCond .eq 18, 3, 26, 0, 0, []),
  (11, .aload_n 0, 1, 0, 0, 0, []),
  (12, .getfield 181, 3, 11, 5, 0, [(0, 1063)]),
  (15, .ifCond .eq 11, 3, 26, 0, 0, []),
  (18, .iload_n 1, 1, 1, 0, 0, []),
  (19, .aload_n 0, 1, 0, 0, 0, []),
  (20, .getfield 193, 3, 11, 7, 0, [(0, 1065)]),
  (23, .if_icmp .le 5, 3, 28, 0, 0, []),
  (26, .iconst (-1), 1, 0, 0, (-1), []),
  (27, .ireturn, 1, 0, 0, 0, []),
  (28, .aload_n 0, 1, 0, 0, 0, []),
  (29, .iconst 0, 1, 0, 0, 0, []),
  (30, .iload_n 1, 1, 1, 0, 0, []),
  (31, .invokevirtual 284, 3, 194, 3, 0, [(0, 1165)]),
  (34, .aload_n 0, 1, 0, 0, 0, []),
  (35, .iconst 0, 1, 0, 0, 0, []),
  (36, .putfield 480, 3, 11, 70, 0, [(0, 1128)]),
  (39, .aload_n 0, 1, 0, 0, 0, []),
  (40, .invokevirtual 495, 3, 270, 1, 0, [(0, 1405)]),
  (43, .istore_n 2, 1, 2, 0, 0, []),
  (44, .iload_n 2, 1, 2, 0, 0, []),
  (45, .ifCond .eq 39, 3, 84, 0, 0, []),
  (48, .aload_n 0, 1, 0, 0, 0, []),
  (49, .getfield 200, 3, 11, 8, 0, [(0, 1066)]),
  (52, .aload_n 0, 1, 0, 0, 0, []),
  (53, .getfield 203, 3, 11, 9, 0, [(0, 1067)]),
  (56, .if_icmp .ge 28, 3, 84, 0, 0, []),
  (59, .aload_n 0, 1, 0, 0, 0, []),
  (60, .bipush 59, 2, 0, 0, 59, []),
  (62, .invokevirtual 290, 3, 214, 2, 0, [(0, 1226)]),
  (65, .ifCond .eq 14, 3, 79, 0, 0, []),
  (68, .aload_n 0, 1, 0, 0, 0, []),
  (69, .invokevirtual 495, 3, 270, 1, 0, [(0, 1405)]),
  (72, .ifCond .eq 7, 3, 79, 0, 0, []),
  (75, .iconst 1, 1, 0, 0, 1, []),
  (76, .goto 4, 3, 80, 0, 0, []),
  (79, .iconst 0, 1, 0, 0, 0, []),
  (80, .istore_n 2, 1, 2, 0, 0, []),
  (81, .goto (-37), 3, 44, 0, 0, []),
  (84, .aload_n 0, 1, 0, 0, 0, []),
  (85, .iconst 0, 1, 0, 0, 0, []),
  (86, .putfield 193, 3, 11, 7, 0, [(0, 1065)]),
  (89, .iload_n 2, 1, 2, 0, 0, []),
  (90, .ifCond .ne 8, 3, 98, 0, 0, []),
  (93, .aload_n 0, 1, 0, 0, 0, []),
  (94, .getfield 210, 3, 11, 10, 0, [(0, 1068)]),
  (97, .ireturn, 1, 0, 0, 0, []),
  (98, .aload_n 0, 1, 0, 0, 0, []),
  (99, .aload_n 0, 1, 0, 0, 0, []),
  (100, .getfield 480, 3, 11, 70, 0, [(0, 1128)]),
  (103, .putfield 317, 3, 11, 69, 0, [(0, 1127)]),
  (106, .iconst 0, 1, 0, 0, 0, []),
  (107, .istore_n 3, 1, 3, 0, 0, []),
  (108, .iload_n 3, 1, 3, 0, 0, []),
  (109, .aload_n 0, 1, 0, 0, 0, []),
  (110, .getfield 317, 3, 11, 69, 0, [(0, 1127)]),
  (113, .if_icmp .ge 69, 3, 182, 0, 0, []),
  (116, .aload_n 0, 1, 0, 0, 0, []),
  (117, .getfield 129, 3, 11, 59, 0, [(0, 1117)]),
  (120, .iload_n 3, 1, 3, 0, 0, []),
  (121, .aload_n 0, 1, 0, 0, 0, []),
  (122, .getfield 144, 3, 11, 64, 0, [(0, 1122)]),
  (125, .iload_n 3, 1, 3, 0, 0, []),
  (126, .iaload, 1, 0, 0, 0, []),
  (127, .iastore, 1, 0, 0, 0, []),
  (128, .aload_n 0, 1, 0, 0, 0, []),
  (129, .getfield 132, 3, 11, 60, 0, [(0, 1118)]),
  (132, .iload_n 3, 1, 3, 0, 0, []),
  (133, .aload_n 0, 1, 0, 0, 0, []),
  (134, .getfield 147, 3, 11, 65, 0, [(0, 1123)]),
  (137, .iload_n 3, 1, 3, 0, 0, []),
  (138, .iaload, 1, 0, 0, 0, []),
  (139, .iastore, 1, 0, 0, 0, []),
  (140, .aload_n 0, 1, 0, 0, 0, []),
  (141, .getfield 135, 3, 11, 61, 0, [(0, 1119)]),
  (144, .iload_n 3, 1, 3, 0, 0, []),
  (145, .aload_n 0, 1, 0, 0, 0, []),
  (146, .getfield 150, 3, 11, 66, 0, [(0, 1124)]),
  (149, .iload_n 3, 1, 3, 0, 0, []),
  (150, .iaload, 1, 0, 0, 0, []),
  (151, .iastore, 1, 0, 0, 0, []),
  (152, .aload_n 0, 1, 0, 0, 0, []),
  (153, .getfield 138, 3, 11, 62, 0, [(0, 1120)]),
  (156, .iload_n 3, 1, 3, 0, 0, []),
  (157, .aload_n 0, 1, 0, 0, 0, []),
  (158, .getfield 153, 3, 11, 67, 0, [(0, 1125)]),
  (161, .iload_n 3, 1, 3, 0, 0, []),
  (162, .iaload, 1, 0, 0, 0, []),
  (163, .iastore, 1, 0, 0, 0, []),
  (164, .aload_n 0, 1, 0, 0, 0, []),
  (165, .getfield 141, 3, 11, 63, 0, [(0, 1121)]),
  (168, .iload_n 3, 1, 3, 0, 0, []),
  (169, .aload_n 0, 1, 0, 0, 0, []),
  (170, .getfield 156, 3, 11, 68, 0, [(0, 1126)]),
  (173, .iload_n 3, 1, 3, 0, 0, []),
  (174, .iaload, 1, 0, 0, 0, []),
  (175, .iastore, 1, 0, 0, 0, []),
  (176, .iinc 3 1, 3, 3, 0, 1, []),
  (179, .goto (-71), 3, 108, 0, 0, []),
  (182, .aload_n 0, 1, 0, 0, 0, []),
  (183, .getfield 317, 3, 11, 69, 0, [(0, 1127)]),
  (186, .ireturn, 1, 0, 0, 0, [])]
/-- NamedToWedModel.readsPerson()Z -/
def cd_270 : Cod := [(0, .aload_n 0, 1, 0, 0, 0, []),
  (1, .invokevirtual 206, 3, 196, 1, 0, [(0, 1171)]),
  (4, .istore_n 1, 1, 1, 0, 0, []),
  (5, .iload_n 1, 1, 1, 0, 0, []),
  (6, .bipush 77, 2, 0, 0, 77, []),
  (8, .if_icmp .eq 19, 3, 27, 0, 0, []),
  (11, .iload_n 1, 1, 1, 0, 0, []),
  (12, .bipush 70, 2, 0, 0, 70, []),
  (14, .if_icmp .eq 13, 3, 27, 0, 0, []),
  (17, .aload_n 0, 1, 0, 0, 0, []),
  (18, .iconst 1, 1, 0, 0, 1, []),
  (19, .aload_n 0, 1, 0, 0, 0, []),
  (20, .getfield 200, 3, 11, 8, 0, [(0, 1066)]),
  (23, .invokevirtual 213, 3, 197, 3, 0, [(0, 1174)]),
  (26, .ireturn, 1, 1, 0, 0, []),
  (27, .aload_n 0, 1, 0, 0, 0, []),
  (28, .getfield 480, 3, 11, 70, 0, [(0, 1128)]),
  (31, .bipush 24, 2, 0, 0, 24, []),
  (33, .if_icmp .ne 13, 3, 46, 0, 0, []),
  (36, .aload_n 0, 1, 0, 0, 0, []),
  (37, .iconst 4, 1, 0, 0, 4, []),
  (38, .aload_n 0, 1, 0, 0, 0, []),
  (39, .getfield 200, 3, 11, 8, 0, [(0, 1066)]),
  (42, .invokevirtual 213, 3, 197, 3, 0, [(0, 1174)]),
  (45, .ireturn, 1, 1, 0, 0, []),
  (46, .aload_n 0, 1, 0, 0, 0, []),
  (47, .getfield 144, 3, 11, 64, 0, [(0, 1122)]),
  (50, .aload_n 0, 1, 0, 0, 0, []),
  (51, .getfield 480, 3, 11, 70, 0, [(0, 1128)]),
  (54, .iload_n 1, 1, 1, 0, 0, []),
  (55, .bipush 77, 2, 0, 0, 77, []),
  (57, .if_icmp .ne 7, 3, 64, 0, 0, []),
  (60, .iconst 0, 1, 0, 0, 0, []),
  (61, .goto 4, 3, 65, 0, 0, []),
  (64, .iconst 1, 1, 0, 0, 1, []),
  (65, .iastore, 1, 0, 0, 0, []),
  (66, .aload_n 0, 1, 0, 0, 0, []),
  (67, .getfield 147, 3, 11, 65, 0, [(0, 1123)]),
  (70, .aload_n 0, 1, 0, 0, 0, []),
  (71, .getfield 480, 3, 11, 70, 0, [(0, 1128)]),
  (74, .iconst (-1), 1, 0, 0, (-1), []),
  (75, .iastore, 1, 0, 0, 0, []),
  (76, .aload_n 0, 1, 0, 0, 0, []),
  (77, .getfield 150, 3, 11, 66, 0, [(0, 1124)]),
  (80, .aload_n 0, 1, 0, 0, 0, []),
  (81, .getfield 480, 3, 11, 70, 0, [(0, 1128)]),
  (84, .iconst (-1), 1, 0, 0, (-1), []),
  (85, .iastore, 1, 0, 0, 0, []),
  (86, .aload_n 0, 1, 0, 0, 0, []),
  (87, .getfield 153, 3, 11, 67, 0, [(0, 1125)]),
  (90, .aload_n 0, 1, 0, 0, 0, []),
  (91, .getfield 480, 3, 11, 70, 0, [(0, 1128)]),
  (94, .iconst (-1), 1, 0, 0, (-1), []),
  (95, .iastore, 1, 0, 0, 0, []),
  (96, .aload_n 0, 1, 0, 0, 0, []),
  (97, .getfield 156, 3, 11, 68, 0, [(0, 1126)]),
  (100, .aload_n 0, 1, 0, 0, 0, []),
  (101, .getfield 480, 3, 11, 70, 0, [(0, 1128)]),
  (104, .iconst (-1), 1, 0, 0, (-1), []),
  (105, .iastore, 1, 0, 0, 0, []),
  (106, .aload_n 0, 1, 0, 0, 0, []),
  (107, .aload_n 0, 1, 0, 0, 0, []),
  (108, .getfield 200, 3, 11, 8, 0, [(0, 1066)]),
  (111, .iconst 1, 1, 0, 0, 1, []),
  (112, .iadd, 1, 0, 0, 0, []),
  (113, .putfield 200, 3, 11, 8, 0, [(0, 1066)]),
  (116, .aload_n 0, 1, 0, 0, 0, []),
  (117, .invokevirtual 206, 3, 196, 1, 0, [(0, 1171)]),
  (120, .bipush 97, 2, 0, 0, 97, []),
  (122, .isub, 1, 0, 0, 0, []),
  (123, .istore_n 2, 1, 2, 0, 0, []),
  (124, .iload_n 2, 1, 2, 0, 0, []),
  (125, .iconst 0, 1, 0, 0, 0, []),
  (126, .iconst 5, 1, 0, 0, 5, []),
  (127, .invokestatic 185, 3, 190, 3, 0, [(0, 1151)]),
  (130, .ifCond .eq 42, 3, 172, 0, 0, []),
  (133, .iload_n 2, 1, 2, 0, 0, []),
  (134, .aload_n 0, 1, 0, 0, 0, []),
  (135, .getfield 181, 3, 11, 5, 0, [(0, 1063)]),
  (138, .if_icmp .lt 14, 3, 152, 0, 0, []),
  (141, .aload_n 0, 1, 0, 0, 0, []),
  (142, .bipush 6, 2, 0, 0, 6, []),
  (144, .aload_n 0, 1, 0, 0, 0, []),
  (145, .getfield 200, 3, 11, 8, 0, [(0, 1066)]),
  (148, .invokevirtual 213, 3, 197, 3, 0, [(0, 1174)]),
  (151, .ireturn, 1, 1, 0, 0, []),
  (152, .aload_n 0, 1, 0, 0, 0, []),
  (153, .getfield 147, 3, 11, 65, 0, [(0, 1123)]),
  (156, .aload_n 0, 1, 0, 0, 0, []),
  (157, .getfield 480, 3, 11, 70, 0, [(0, 1128)]),
  (160, .iload_n 2, 1, 2, 0, 0, []),
  (161, .iastore, 1, 0, 0, 0, []),
  (162, .aload_n 0, 1, 0, 0, 0, []),
  (163, .aload_n 0, 1, 0, 0, 0, []),
  (164, .getfield 200, 3, 11, 8, 0, [(0, 1066)]),
  (167, .iconst 1, 1, 0, 0, 1, []),
  (168, .iadd, 1, 0, 0, 0, []),
  (169, .putfield 200, 3, 11, 8, 0, [(0, 1066)]),
  (172, .aload_n 0, 1, 0, 0, 0, []),
  (173, .invokevirtual 206, 3, 196, 1, 0, [(0, 1171)]),
  (176, .bipush 60, 2, 0, 0, 60, []),
  (178, .if_icmp .ne 12, 3, 190, 0, 0, []),
  (181, .aload_n 0, 1, 0, 0, 0, []),
  (182, .invokevirtual 489, 3, 271, 1, 0, [(0, 1408)]),
  (185, .ifCond .ne 5, 3, 190, 0, 0, []),
  (188, .iconst 0, 1, 0, 0, 0, []),
  (189, .ireturn, 1, 1, 0, 0, []),
  (190, .aload_n 0, 1, 0, 0, 0, []),
  (191, .invokevirtual 206, 3, 196, 1, 0, [(0, 1171)]),
  (194, .bipush 38, 2, 0, 0, 38, []),
  (196, .if_icmp .ne 12, 3, 208, 0, 0, []),
  (199, .aload_n 0, 1, 0, 0, 0, []),
  (200, .invokevirtual 492, 3, 274, 1, 0, [(0, 1417)]),
  (203, .ifCond .ne 5, 3, 208, 0, 0, []),
  (206, .iconst 0, 1, 0, 0, 0, []),
  (207, .ireturn, 1, 1, 0, 0, []),
  (208, .aload_n 0, 1, 0, 0, 0, []),
  (209, .aload_n 0, 1, 0, 0, 0, []),
  (210, .getfield 480, 3, 11, 70, 0, [(0, 1128)]),
  (213, .iconst 1, 1, 0, 0, 1, []),
  (214, .iadd, 1, 0, 0, 0, []),
  (215, .putfield 480, 3, 11, 70, 0, [(0, 1128)]),
  (218, .iconst 1, 1, 0, 0, 1, []),
  (219, .ireturn, 1, 1, 0, 0, [])]
/-- NamedToWedModel.readsParents()Z -/
def cd_271 : Cod := [(0, .aload_n 0, 1, 0, 0, 0, []),
  (1, .aload_n 0, 1, 0, 0, 0, []),
  (2, .getfield 200, 3, 11, 8, 0, [(0, 1066)]),
  (5, .iconst 1, 1, 0, 0, 1, []),
  (6, .iadd, 1, 0, 0, 0, []),
  (7, .putfield 200, 3, 11, 8, 0, [(0, 1066)]),
  (10, .aload_n 0, 1, 0, 0, 0, []),
  (11, .iconst 0, 1, 0, 0, 0, []),
  (12, .invokevirtual 486, 3, 272, 2, 0, [(0, 1411)]),
  (15, .ifCond .ne 5, 3, 20, 0, 0, []),
  (18, .iconst 0, 1, 0, 0, 0, []),
  (19, .ireturn, 1, 1, 0, 0, []),
  (20, .aload_n 0, 1, 0, 0, 0, []),
  (21, .getfield 150, 3, 11, 66, 0, [(0, 1124)]),
  (24, .aload_n 0, 1, 0, 0, 0, []),
  (25, .getfield 480, 3, 11, 70, 0, [(0, 1128)]),
  (28, .aload_n 0, 1, 0, 0, 0, []),
  (29, .getfield 216, 3, 11, 11, 0, [(0, 1069)]),
  (32, .iastore, 1, 0, 0, 0, []),
  (33, .aload_n 0, 1, 0, 0, 0, []),
  (34, .bipush 44, 2, 0, 0, 44, []),
  (36, .invokevirtual 290, 3, 214, 2, 0, [(0, 1226)]),
  (39, .ifCond .eq 11, 3, 50, 0, 0, []),
  (42, .aload_n 0, 1, 0, 0, 0, []),
  (43, .iconst 1, 1, 0, 0, 1, []),
  (44, .invokevirtual 486, 3, 272, 2, 0, [(0, 1411)]),
  (47, .ifCond .ne 5, 3, 52, 0, 0, []),
  (50, .iconst 0, 1, 0, 0, 0, []),
  (51, .ireturn, 1, 1, 0, 0, []),
  (52, .aload_n 0, 1, 0, 0, 0, []),
  (53, .getfield 153, 3, 11, 67, 0, [(0, 1125)]),
  (56, .aload_n 0, 1, 0, 0, 0, []),
  (57, .getfield 480, 3, 11, 70, 0, [(0, 1128)]),
  (60, .aload_n 0, 1, 0, 0, 0, []),
  (61, .getfield 216, 3, 11, 11, 0, [(0, 1069)]),
  (64, .iastore, 1, 0, 0, 0, []),
  (65, .iconst 1, 1, 0, 0, 1, []),
  (66, .ireturn, 1, 1, 0, 0, [])]
/-- NamedToWedModel.readsParent(I)Z -/
def cd_272 : Cod := [(0, .aload_n 0, 1, 0, 0, 0, []),
  (1, .getfield 200, 3, 11, 8, 0, [(0, 1066)]),
  (4, .istore_n 2, 1, 2, 0, 0, []),
  (5, .aload_n 0, 1, 0, 0, 0, []),
  (6, .invokevirtual 206, 3, 196, 1, 0, [(0, 1171)]),
  (9, .bipush 45, 2, 0, 0, 45, []),
  (11, .if_icmp .ne 20, 3, 31, 0, 0, []),
  (14, .aload_n 0, 1, 0, 0, 0, []),
  (15, .aload_n 0, 1, 0, 0, 0, []),
  (16, .getfield 200, 3, 11, 8, 0, [(0, 1066)]),
  (19, .iconst 1, 1, 0, 0, 1, []),
  (20, .iadd, 1, 0, 0, 0, []),
  (21, .putfield 200, 3, 11, 8, 0, [(0, 1066)]),
  (24, .aload_n 0, 1, 0, 0, 0, []),
  (25, .iconst (-1), 1, 0, 0, (-1), []),
  (26, .putfield 216, 3, 11, 11, 0, [(0, 1069)]),
  (29, .iconst 1, 1, 0, 0, 1, []),
  (30, .ireturn, 1, 1, 0, 0, []),
  (31, .aload_n 0, 1, 0, 0, 0, []),
  (32, .invokevirtual 483, 3, 273, 1, 0, [(0, 1414)]),
  (35, .ifCond .eq 30, 3, 65, 0, 0, []),
  (38, .aload_n 0, 1, 0, 0, 0, []),
  (39, .getfield 144, 3, 11, 64, 0, [(0, 1122)]),
  (42, .aload_n 0, 1, 0, 0, 0, []),
  (43, .getfield 216, 3, 11, 11, 0, [(0, 1069)]),
  (46, .iaload, 1, 0, 0, 0, []),
  (47, .iload_n 1, 1, 1, 0, 0, []),
  (48, .if_icmp .eq 13, 3, 61, 0, 0, []),
  (51, .aload_n 0, 1, 0, 0, 0, []),
  (52, .bipush 7, 2, 0, 0, 7, []),
  (54, .iload_n 2, 1, 2, 0, 0, []),
  (55, .invokevirtual 213, 3, 197, 3, 0, [(0, 1174)]),
  (58, .ifCond .eq 7, 3, 65, 0, 0, []),
  (61, .iconst 1, 1, 0, 0, 1, []),
  (62, .goto 4, 3, 66, 0, 0, []),
  (65, .iconst 0, 1, 0, 0, 0, []),
  (66, .ireturn, 1, 1, 0, 0, [])]
/-- NamedToWedModel.readsLower()Z -/
def cd_273 : Cod := [(0, .aload_n 0, 1, 0, 0, 0, []),
  (1, .getfield 200, 3, 11, 8, 0, [(0, 1066)]),
  (4, .istore_n 1, 1, 1, 0, 0, []),
  (5, .aload_n 0, 1, 0, 0, 0, []),
  (6, .invokevirtual 219, 3, 201, 1, 0, [(0, 1187)]),
  (9, .ifCond .ne 13, 3, 22, 0, 0, []),
  (12, .aload_n 0, 1, 0, 0, 0, []),
  (13, .iconst 1, 1, 0, 0, 1, []),
  (14, .aload_n 0, 1, 0, 0, 0, []),
  (15, .getfield 200, 3, 11, 8, 0, [(0, 1066)]),
  (18, .invokevirtual 213, 3, 197, 3, 0, [(0, 1174)]),
  (21, .ireturn, 1, 1, 0, 0, []),
  (22, .aload_n 0, 1, 0, 0, 0, []),
  (23, .iconst 0, 1, 0, 0, 0, []),
  (24, .putfield 216, 3, 11, 11, 0, [(0, 1069)]),
  (27, .aload_n 0, 1, 0, 0, 0, []),
  (28, .invokevirtual 219, 3, 201, 1, 0, [(0, 1187)]),
  (31, .ifCond .eq 55, 3, 86, 0, 0, []),
  (34, .aload_n 0, 1, 0, 0, 0, []),
  (35, .getfield 200, 3, 11, 8, 0, [(0, 1066)]),
  (38, .iload_n 1, 1, 1, 0, 0, []),
  (39, .iconst 2, 1, 0, 0, 2, []),
  (40, .iadd, 1, 0, 0, 0, []),
  (41, .if_icmp .ne 13, 3, 54, 0, 0, []),
  (44, .aload_n 0, 1, 0, 0, 0, []),
  (45, .iconst 2, 1, 0, 0, 2, []),
  (46, .aload_n 0, 1, 0, 0, 0, []),
  (47, .getfield 200, 3, 11, 8, 0, [(0, 1066)]),
  (50, .invokevirtual 213, 3, 197, 3, 0, [(0, 1174)]),
  (53, .ireturn, 1, 1, 0, 0, []),
  (54, .aload_n 0, 1, 0, 0, 0, []),
  (55, .bipush 10, 2, 0, 0, 10, []),
  (57, .aload_n 0, 1, 0, 0, 0, []),
  (58, .getfield 216, 3, 11, 11, 0, [(0, 1069)]),
  (61, .imul, 1, 0, 0, 0, []),
  (62, .aload_n 0, 1, 0, 0, 0, []),
  (63, .invokevirtual 206, 3, 196, 1, 0, [(0, 1171)]),
  (66, .iadd, 1, 0, 0, 0, []),
  (67, .bipush 48, 2, 0, 0, 48, []),
  (69, .isub, 1, 0, 0, 0, []),
  (70, .putfield 216, 3, 11, 11, 0, [(0, 1069)]),
  (73, .aload_n 0, 1, 0, 0, 0, []),
  (74, .aload_n 0, 1, 0, 0, 0, []),
  (75, .getfield 200, 3, 11, 8, 0, [(0, 1066)]),
  (78, .iconst 1, 1, 0, 0, 1, []),
  (79, .iadd, 1, 0, 0, 0, []),
  (80, .putfield 200, 3, 11, 8, 0, [(0, 1066)]),
  (83, .goto (-56), 3, 27, 0, 0, []),
  (86, .aload_n 0, 1, 0, 0, 0, []),
  (87, .getfield 216, 3, 11, 11, 0, [(0, 1069)]),
  (90, .aload_n 0, 1, 0, 0, 0, []),
  (91, .getfield 480, 3, 11, 70, 0, [(0, 1128)]),
  (94, .if_icmp .lt 12, 3, 106, 0, 0, []),
  (97, .aload_n 0, 1, 0, 0, 0, []),
  (98, .iconst 3, 1, 0, 0, 3, []),
  (99, .iload_n 1, 1, 1, 0, 0, []),
  (100, .invokevirtual 213, 3, 197, 3, 0, [(0, 1174)]),
  (103, .ifCond .eq 7, 3, 110, 0, 0, []),
  (106, .iconst 1, 1, 0, 0, 1, []),
  (107, .goto 4, 3, 111, 0, 0, []),
  (110, .iconst 0, 1, 0, 0, 0, []),
  (111, .ireturn, 1, 1, 0, 0, [])]
/-- NamedToWedModel.readsWedding()Z -/
def cd_274 : Cod := [(0, .aload_n 0, 1, 0, 0, 0, []),
  (1, .aload_n 0, 1, 0, 0, 0, []),
  (2, .getfield 200, 3, 11, 8, 0, [(0, 1066)]),
  (5, .iconst 1, 1, 0, 0, 1, []),
  (6, .iadd, 1, 0, 0, 0, []),
  (7, .putfield 200, 3, 11, 8, 0, [(0, 1066)]),
  (10, .aload_n 0, 1, 0, 0, 0, []),
  (11, .getfield 200, 3, 11, 8, 0, [(0, 1066)]),
  (14, .istore_n 1, 1, 1, 0, 0, []),
  (15, .aload_n 0, 1, 0, 0, 0, []),
  (16, .invokevirtual 483, 3, 273, 1, 0, [(0, 1414)]),
  (19, .ifCond .ne 5, 3, 24, 0, 0, []),
  (22, .iconst 0, 1, 0, 0, 0, []),
  (23, .ireturn, 1, 1, 0, 0, []),
  (24, .aload_n 0, 1, 0, 0, 0, []),
  (25, .getfield 144, 3, 11, 64, 0, [(0, 1122)]),
  (28, .aload_n 0, 1, 0, 0, 0, []),
  (29, .getfield 216, 3, 11, 11, 0, [(0, 1069)]),
  (32, .iaload, 1, 0, 0, 0, []),
  (33, .aload_n 0, 1, 0, 0, 0, []),
  (34, .getfield 144, 3, 11, 64, 0, [(0, 1122)]),
  (37, .aload_n 0, 1, 0, 0, 0, []),
  (38, .getfield 480, 3, 11, 70, 0, [(0, 1128)]),
  (41, .iaload, 1, 0, 0, 0, []),
  (42, .if_icmp .eq 16, 3, 58, 0, 0, []),
  (45, .aload_n 0, 1, 0, 0, 0, []),
  (46, .getfield 156, 3, 11, 68, 0, [(0, 1126)]),
  (49, .aload_n 0, 1, 0, 0, 0, []),
  (50, .getfield 216, 3, 11, 11, 0, [(0, 1069)]),
  (53, .iaload, 1, 0, 0, 0, []),
  (54, .iconst (-1), 1, 0, 0, (-1), []),
  (55, .if_icmp .eq 11, 3, 66, 0, 0, []),
  (58, .aload_n 0, 1, 0, 0, 0, []),
  (59, .bipush 8, 2, 0, 0, 8, []),
  (61, .iload_n 1, 1, 1, 0, 0, []),
  (62, .invokevirtual 213, 3, 197, 3, 0, [(0, 1174)]),
  (65, .ireturn, 1, 1, 0, 0, []),
  (66, .aload_n 0, 1, 0, 0, 0, []),
  (67, .getfield 156, 3, 11, 68, 0, [(0, 1126)]),
  (70, .aload_n 0, 1, 0, 0, 0, []),
  (71, .getfield 480, 3, 11, 70, 0, [(0, 1128)]),
  (74, .aload_n 0, 1, 0, 0, 0, []),
  (75, .getfield 216, 3, 11, 11, 0, [(0, 1069)]),
  (78, .iastore, 1, 0, 0, 0, []),
  (79, .aload_n 0, 1, 0, 0, 0, []),
  (80, .getfield 156, 3, 11, 68, 0, [(0, 1126)]),
  (83, .aload_n 0, 1, 0, 0, 0, []),
  (84, .getfield 216, 3, 11, 11, 0, [(0, 1069)]),
  (87, .aload_n 0, 1, 0, 0, 0, []),
  (88, .getfield 480, 3, 11, 70, 0, [(0, 1128)]),
  (91, .iastore, 1, 0, 0, 0, []),
  (92, .iconst 1, 1, 0, 0, 1, []),
  (93, .ireturn, 1, 1, 0, 0, [])]
/-- NamedToWedModel.personIs(II)I -/
def cd_275 : Cod := [(0, .aload_n 0, 1, 0, 0, 0, []),
  (1, .iload_n 1, 1, 1, 0, 0, []),
  (2, .invokevirtual 529, 3, 276, 2, 0, [(0, 1424)]),
  (5, .ifCond .ne 5, 3, 10, 0, 0, []),
  (8, .iconst (-1), 1, 0, 0, (-1), []),
  (9, .ireturn, 1, 0, 0, 0, []),
  (10, .iload_n 2, 1, 2, 0, 0, []),
  (11, .tableswitch 120 0 8 #[49, 56, 66, 76, 86, 96, 102, 108, 114], 49, 131, 0, 0, [(0, 60), (1, 67), (2, 77), (3, 87), (4, 97), (5, 107), (6, 113), (7, 119), (8, 125)]),
  (60, .aload_n 0, 1, 0, 0, 0, []),
  (61, .getfield 129, 3, 11, 59, 0, [(0, 1117)]),
  (64, .iload_n 1, 1, 1, 0, 0, []),
  (65, .iaload, 1, 0, 0, 0, []),
  (66, .ireturn, 1, 0, 0, 0, []),
  (67, .aload_n 0, 1, 0, 0, 0, []),
  (68, .getfield 132, 3, 11, 60, 0, [(0, 1118)]),
  (71, .iload_n 1, 1, 1, 0, 0, []),
  (72, .iaload, 1, 0, 0, 0, []),
  (73, .invokestatic 532, 3, 277, 1, 0, [(0, 1427)]),
  (76, .ireturn, 1, 0, 0, 0, []),
  (77, .aload_n 0, 1, 0, 0, 0, []),
  (78, .getfield 135, 3, 11, 61, 0, [(0, 1119)]),
  (81, .iload_n 1, 1, 1, 0, 0, []),
  (82, .iaload, 1, 0, 0, 0, []),
  (83, .invokestatic 532, 3, 277, 1, 0, [(0, 1427)]),
  (86, .ireturn, 1, 0, 0, 0, []),
  (87, .aload_n 0, 1, 0, 0, 0, []),
  (88, .getfield 138, 3, 11, 62, 0, [(0, 1120)]),
  (91, .iload_n 1, 1, 1, 0, 0, []),
  (92, .iaload, 1, 0, 0, 0, []),
  (93, .invokestatic 532, 3, 277, 1, 0, [(0, 1427)]),
  (96, .ireturn, 1, 0, 0, 0, []),
  (97, .aload_n 0, 1, 0, 0, 0, []),
  (98, .getfield 141, 3, 11, 63, 0, [(0, 1121)]),
  (101, .iload_n 1, 1, 1, 0, 0, []),
  (102, .iaload, 1, 0, 0, 0, []),
  (103, .invokestatic 532, 3, 277, 1, 0, [(0, 1427)]),
  (106, .ireturn, 1, 0, 0, 0, []),
  (107, .aload_n 0, 1, 0, 0, 0, []),
  (108, .iload_n 1, 1, 1, 0, 0, []),
  (109, .invokevirtual 501, 3, 278, 2, 0, [(0, 1430)]),
  (112, .ireturn, 1, 0, 0, 0, []),
  (113, .aload_n 0, 1, 0, 0, 0, []),
  (114, .iload_n 1, 1, 1, 0, 0, []),
  (115, .invokevirtual 535, 3, 279, 2, 0, [(0, 1433)]),
  (118, .ireturn, 1, 0, 0, 0, []),
  (119, .aload_n 0, 1, 0, 0, 0, []),
  (120, .iload_n 1, 1, 1, 0, 0, []),
  (121, .invokevirtual 526, 3, 280, 2, 0, [(0, 1436)]),
  (124, .ireturn, 1, 0, 0, 0, []),
  (125, .aload_n 0, 1, 0, 0, 0, []),
  (126, .iload_n 1, 1, 1, 0, 0, []),
  (127, .invokevirtual 538, 3, 287, 2, 0, [(0, 1457)]),
  (130, .ireturn, 1, 0, 0, 0, []),
  (131, .iconst (-1), 1, 0, 0, (-1), []),
  (132, .ireturn, 1, 0, 0, 0, [])]
/-- NamedToWedModel.isPerson(I)Z -/
def cd_276 : Cod := [(0, .iload_n 1, 1, 1, 0, 0, []),
  (1, .iconst 0, 1, 0, 0, 0, []),
  (2, .aload_n 0, 1, 0, 0, 0, []),
  (3, .getfield 317, 3, 11, 69, 0, [(0, 1127)]),
  (6, .iconst 1, 1, 0, 0, 1, []),
  (7, .isub, 1, 0, 0, 0, []),
  (8, .invokestatic 185, 3, 190, 3, 0, [(0, 1151)]),
  (11, .ireturn, 1, 1, 0, 0, [])]
/-- NamedToWedModel.orNone(I)I -/
def cd_277 : Cod := [(0, .iload_n 0, 1, 0, 0, 0, []),
  (1, .iconst (-1), 1, 0, 0, (-1), []),
  (2, .if_icmp .ne 8, 3, 10, 0, 0, []),
  (5, .bipush (-2), 2, 0, 0, (-2), []),
  (7, .goto 4, 3, 11, 0, 0, []),
  (10, .iload_n 0, 1, 0, 0, 0, []),
  (11, .ireturn, 1, 0, 0, 0, [])]
/-- NamedToWedModel.childrenOf(I)I -/
def cd_278 : Cod := [(0, .iconst 0, 1, 0, 0, 0, []),
  (1, .istore_n 2, 1, 2, 0, 0, []),
  (2, .iconst 0, 1, 0, 0, 0, []),
  (3, .istore_n 3, 1, 3, 0, 0, []),
  (4, .iload_n 3, 1, 3, 0, 0, []),
  (5, .aload_n 0, 1, 0, 0, 0, []),
  (6, .getfield 317, 3, 11, 69, 0, [(0, 1127)]),
  (9, .if_icmp .ge 35, 3, 44, 0, 0, []),
  (12, .aload_n 0, 1, 0, 0, 0, []),
  (13, .getfield 135, 3, 11, 61, 0, [(0, 1119)]),
  (16, .iload_n 3, 1, 3, 0, 0, []),
  (17, .iaload, 1, 0, 0, 0, []),
  (18, .iload_n 1, 1, 1, 0, 0, []),
  (19, .if_icmp .eq 13, 3, 32, 0, 0, []),
  (22, .aload_n 0, 1, 0, 0, 0, []),
  (23, .getfield 138, 3, 11, 62, 0, [(0, 1120)]),
  (26, .iload_n 3, 1, 3, 0, 0, []),
  (27, .iaload, 1, 0, 0, 0, []),
  (28, .iload_n 1, 1, 1, 0, 0, []),
  (29, .if_icmp .ne 9, 3, 38, 0, 0, []),
  (32, .iload_n 2, 1, 2, 0, 0, []),
  (33, .iconst 1, 1, 0, 0, 1, []),
  (34, .iload_n 3, 1, 3, 0, 0, []),
  (35, .ishl, 1, 0, 0, 0, []),
  (36, .ior, 1, 0, 0, 0, []),
  (37, .istore_n 2, 1, 2, 0, 0, []),
  (38, .iinc 3 1, 3, 3, 0, 1, []),
  (41, .goto (-37), 3, 4, 0, 0, []),
  (44, .iload_n 2, 1, 2, 0, 0, []),
  (45, .ireturn, 1, 0, 0, 0, [])]
/-- NamedToWedModel.siblingsOf(I)I -/
def cd_279 : Cod := [(0, .iconst 0, 1, 0, 0, 0, []),
  (1, .istore_n 2, 1, 2, 0, 0, []),
  (2, .iconst 0, 1, 0, 0, 0, []),
  (3, .istore_n 3, 1, 3, 0, 0, []),
  (4, .iload_n 3, 1, 3, 0, 0, []),
  (5, .aload_n 0, 1, 0, 0, 0, []),
  (6, .getfield 317, 3, 11, 69, 0, [(0, 1127)]),
  (9, .if_icmp .ge 94, 3, 103, 0, 0, []),
  (12, .aload_n 0, 1, 0, 0, 0, []),
  (13, .getfield 135, 3, 11, 61, 0, [(0, 1119)]),
  (16, .iload_n 3, 1, 3, 0, 0, []),
  (17, .iaload, 1, 0, 0, 0, []),
  (18, .iconst (-1), 1, 0, 0, (-1), []),
  (19, .if_icmp .eq 22, 3, 41, 0, 0, []),
  (22, .aload_n 0, 1, 0, 0, 0, []),
  (23, .getfield 135, 3, 11, 61, 0, [(0, 1119)]),
  (26, .iload_n 3, 1, 3, 0, 0, []),
  (27, .iaload, 1, 0, 0, 0, []),
  (28, .aload_n 0, 1, 0, 0, 0, []),
  (29, .getfield 135, 3, 11, 61, 0, [(0, 1119)]),
  (32, .iload_n 1, 1, 1, 0, 0, []),
  (33, .iaload, 1, 0, 0, 0, []),
  (34, .if_icmp .ne 7, 3, 41, 0, 0, []),
  (37, .iconst 1, 1, 0, 0, 1, []),
  (38, .goto 4, 3, 42, 0, 0, []),
  (41, .iconst 0, 1, 0, 0, 0, []),
  (42, .istore 4, 2, 4, 0, 0, []),
  (44, .aload_n 0, 1, 0, 0, 0, []),
  (45, .getfield 138, 3, 11, 62, 0, [(0, 1120)]),
  (48, .iload_n 3, 1, 3, 0, 0, []),
  (49, .iaload, 1, 0, 0, 0, []),
  (50, .iconst (-1), 1, 0, 0, (-1), []),
  (51, .if_icmp .eq 22, 3, 73, 0, 0, []),
  (54, .aload_n 0, 1, 0, 0, 0, []),
  (55, .getfield 138, 3, 11, 62, 0, [(0, 1120)]),
  (58, .iload_n 3, 1, 3, 0, 0, []),
  (59, .iaload, 1, 0, 0, 0, []),
  (60, .aload_n 0, 1, 0, 0, 0, []),
  (61, .getfield 138, 3, 11, 62, 0, [(0, 1120)]),
  (64, .iload_n 1, 1, 1, 0, 0, []),
  (65, .iaload, 1, 0, 0, 0, []),
  (66, .if_icmp .ne 7, 3, 73, 0, 0, []),
  (69, .iconst 1, 1, 0, 0, 1, []),
  (70, .goto 4, 3, 74, 0, 0, []),
  (73, .iconst 0, 1, 0, 0, 0, []),
  (74, .istore 5, 2, 5, 0, 0, []),
  (76, .iload_n 3, 1, 3, 0, 0, []),
  (77, .iload_n 1, 1, 1, 0, 0, []),
  (78, .if_icmp .eq 19, 3, 97, 0, 0, []),
  (81, .iload 4, 2, 4, 0, 0, []),
  (83, .ifCond .ne 8, 3, 91, 0, 0, []),
  (86, .iload 5, 2, 5, 0, 0, []),
  (88, .ifCond .eq 9, 3, 97, 0, 0, []),
  (91, .iload_n 2, 1, 2, 0, 0, []),
  (92, .iconst 1, 1, 0, 0, 1, []),
  (93, .iload_n 3, 1, 3, 0, 0, []),
  (94, .ishl, 1, 0, 0, 0, []),
  (95, .ior, 1, 0, 0, 0, []),
  (96, .istore_n 2, 1, 2, 0, 0, []),
  (97, .iinc 3 1, 3, 3, 0, 1, []),
  (100, .goto (-96), 3, 4, 0, 0, []),
  (103, .iload_n 2, 1, 2, 0, 0, []),
  (104, .ireturn, 1, 0, 0, 0, [])]
/-- NamedToWedModel.mayBe(I)I -/
def cd_280 : Cod := [(0, .aload_n 0, 1, 0, 0, 0, []),
  (1, .iload_n 1, 1, 1, 0, 0, []),
  (2, .invokevirtual 517, 3, 281, 2, 0, [(0, 1439)]),
  (5, .istore_n 2, 1, 2, 0, 0, []),
  (6, .iconst 0, 1, 0, 0, 0, []),
  (7, .istore_n 3, 1, 3, 0, 0, []),
  (8, .iconst 0, 1, 0, 0, 0, []),
  (9, .istore 4, 2, 4, 0, 0, []),
  (11, .iload 4, 2, 4, 0, 0, []),
  (13, .aload_n 0, 1, 0, 0, 0, []),
  (14, .getfield 181, 3, 11, 5, 0, [(0, 1063)]),
  (17, .if_icmp .ge 41, 3, 58, 0, 0, []),
  (20, .aload_n 0, 1, 0, 0, 0, []),
  (21, .iload_n 2, 1, 2, 0, 0, []),
  (22, .invokestatic 408, 3, 246, 1, 0, [(0, 1327)]),
  (25, .iload 4, 2, 4, 0, 0, []),
  (27, .invokevirtual 520, 3, 283, 3, 0, [(0, 1445)]),
  (30, .ifCond .eq 22, 3, 52, 0, 0, []),
  (33, .aload_n 0, 1, 0, 0, 0, []),
  (34, .iload_n 2, 1, 2, 0, 0, []),
  (35, .invokevirtual 523, 3, 286, 2, 0, [(0, 1454)]),
  (38, .ifCond .ne 14, 3, 52, 0, 0, []),
  (41, .iload_n 3, 1, 3, 0, 0, []),
  (42, .iconst 1, 1, 0, 0, 1, []),
  (43, .aload_n 0, 1, 0, 0, 0, []),
  (44, .getfield 159, 3, 11, 71, 0, [(0, 1129)]),
  (47, .iload_n 1, 1, 1, 0, 0, []),
  (48, .iaload, 1, 0, 0, 0, []),
  (49, .ishl, 1, 0, 0, 0, []),
  (50, .ior, 1, 0, 0, 0, []),
  (51, .istore_n 3, 1, 3, 0, 0, []),
  (52, .iinc 4 1, 3, 4, 0, 1, []),
  (55, .goto (-44), 3, 11, 0, 0, []),
  (58, .iload_n 3, 1, 3, 0, 0, []),
  (59, .ireturn, 1, 0, 0, 0, [])]
/-- NamedToWedModel.houseOf(I)I -/
def cd_281 : Cod := [(0, .iconst 1, 1, 0, 0, 1, []),
  (1, .iload_n 1, 1, 1, 0, 0, []),
  (2, .ishl, 1, 0, 0, 0, []),
  (3, .istore_n 2, 1, 2, 0, 0, []),
  (4, .iconst 0, 1, 0, 0, 0, []),
  (5, .istore_n 3, 1, 3, 0, 0, []),
  (6, .iload_n 2, 1, 2, 0, 0, []),
  (7, .iload_n 3, 1, 3, 0, 0, []),
  (8, .if_icmp .eq 77, 3, 85, 0, 0, []),
  (11, .iload_n 2, 1, 2, 0, 0, []),
  (12, .istore_n 3, 1, 3, 0, 0, []),
  (13, .iconst 0, 1, 0, 0, 0, []),
  (14, .istore 4, 2, 4, 0, 0, []),
  (16, .iload 4, 2, 4, 0, 0, []),
  (18, .aload_n 0, 1, 0, 0, 0, []),
  (19, .getfield 317, 3, 11, 69, 0, [(0, 1127)]),
  (22, .if_icmp .ge 60, 3, 82, 0, 0, []),
  (25, .iload_n 3, 1, 3, 0, 0, []),
  (26, .iload 4, 2, 4, 0, 0, []),
  (28, .invokestatic 177, 3, 247, 2, 0, [(0, 1330)]),
  (31, .ifCond .eq 45, 3, 76, 0, 0, []),
  (34, .iload_n 2, 1, 2, 0, 0, []),
  (35, .aload_n 0, 1, 0, 0, 0, []),
  (36, .getfield 135, 3, 11, 61, 0, [(0, 1119)]),
  (39, .iload 4, 2, 4, 0, 0, []),
  (41, .iaload, 1, 0, 0, 0, []),
  (42, .invokestatic 498, 3, 282, 1, 0, [(0, 1442)]),
  (45, .ior, 1, 0, 0, 0, []),
  (46, .aload_n 0, 1, 0, 0, 0, []),
  (47, .getfield 138, 3, 11, 62, 0, [(0, 1120)]),
  (50, .iload 4, 2, 4, 0, 0, []),
  (52, .iaload, 1, 0, 0, 0, []),
  (53, .invokestatic 498, 3, 282, 1, 0, [(0, 1442)]),
  (56, .ior, 1, 0, 0, 0, []),
  (57, .aload_n 0, 1, 0, 0, 0, []),
  (58, .getfield 141, 3, 11, 63, 0, [(0, 1121)]),
  (61, .iload 4, 2, 4, 0, 0, []),
  (63, .iaload, 1, 0, 0, 0, []),
  (64, .invokestatic 498, 3, 282, 1, 0, [(0, 1442)]),
  (67, .ior, 1, 0, 0, 0, []),
  (68, .aload_n 0, 1, 0, 0, 0, []),
  (69, .iload 4, 2, 4, 0, 0, []),
  (71, .invokevirtual 501, 3, 278, 2, 0, [(0, 1430)]),
  (74, .ior, 1, 0, 0, 0, []),
  (75, .istore_n 2, 1, 2, 0, 0, []),
  (76, .iinc 4 1, 3, 4, 0, 1, []),
  (79, .goto (-63), 3, 16, 0, 0, []),
  (82, .goto (-76), 3, 6, 0, 0, []),
  (85, .iload_n 2, 1, 2, 0, 0, []),
  (86, .ireturn, 1, 0, 0, 0, [])]
/-- NamedToWedModel.bit(I)I -/
def cd_282 : Cod := [(0, .iload_n 0, 1, 0, 0, 0, []),
  (1, .iconst (-1), 1, 0, 0, (-1), []),
  (2, .if_icmp .ne 7, 3, 9, 0, 0, []),
  (5, .iconst 0, 1, 0, 0, 0, []),
  (6, .goto 6, 3, 12, 0, 0, []),
  (9, .iconst 1, 1, 0, 0, 1, []),
  (10, .iload_n 0, 1, 0, 0, 0, []),
  (11, .ishl, 1, 0, 0, 0, []),
  (12, .ireturn, 1, 0, 0, 0, [])]
/-- NamedToWedModel.canBeBy(II)Z -/
def cd_283 : Cod := [(0, .iconst 0, 1, 0, 0, 0, []),
  (1, .istore_n 3, 1, 3, 0, 0, []),
  (2, .iload_n 3, 1, 3, 0, 0, []),
  (3, .aload_n 0, 1, 0, 0, 0, []),
  (4, .getfield 317, 3, 11, 69, 0, [(0, 1127)]),
  (7, .if_icmp .ge 16, 3, 23, 0, 0, []),
  (10, .aload_n 0, 1, 0, 0, 0, []),
  (11, .getfield 159, 3, 11, 71, 0, [(0, 1129)]),
  (14, .iload_n 3, 1, 3, 0, 0, []),
  (15, .iconst (-1), 1, 0, 0, (-1), []),
  (16, .iastore, 1, 0, 0, 0, []),
  (17, .iinc 3 1, 3, 3, 0, 1, []),
  (20, .goto (-18), 3, 2, 0, 0, []),
  (23, .aload_n 0, 1, 0, 0, 0, []),
  (24, .iconst 0, 1, 0, 0, 0, []),
  (25, .putfield 508, 3, 11, 72, 0, [(0, 1130)]),
  (28, .aload_n 0, 1, 0, 0, 0, []),
  (29, .iload_n 1, 1, 1, 0, 0, []),
  (30, .iload_n 2, 1, 2, 0, 0, []),
  (31, .invokevirtual 511, 3, 284, 3, 0, [(0, 1448)]),
  (34, .aload_n 0, 1, 0, 0, 0, []),
  (35, .iconst 1, 1, 0, 0, 1, []),
  (36, .putfield 504, 3, 11, 73, 0, [(0, 1131)]),
  (39, .aload_n 0, 1, 0, 0, 0, []),
  (40, .getfield 504, 3, 11, 73, 0, [(0, 1131)]),
  (43, .ifCond .eq 49, 3, 92, 0, 0, []),
  (46, .aload_n 0, 1, 0, 0, 0, []),
  (47, .getfield 508, 3, 11, 72, 0, [(0, 1130)]),
  (50, .ifCond .ne 42, 3, 92, 0, 0, []),
  (53, .aload_n 0, 1, 0, 0, 0, []),
  (54, .iconst 0, 1, 0, 0, 0, []),
  (55, .putfield 504, 3, 11, 73, 0, [(0, 1131)]),
  (58, .iconst 0, 1, 0, 0, 0, []),
  (59, .istore_n 3, 1, 3, 0, 0, []),
  (60, .iload_n 3, 1, 3, 0, 0, []),
  (61, .aload_n 0, 1, 0, 0, 0, []),
  (62, .getfield 317, 3, 11, 69, 0, [(0, 1127)]),
  (65, .if_icmp .ge 24, 3, 89, 0, 0, []),
  (68, .aload_n 0, 1, 0, 0, 0, []),
  (69, .getfield 159, 3, 11, 71, 0, [(0, 1129)]),
  (72, .iload_n 3, 1, 3, 0, 0, []),
  (73, .iaload, 1, 0, 0, 0, []),
  (74, .iconst (-1), 1, 0, 0, (-1), []),
  (75, .if_icmp .eq 8, 3, 83, 0, 0, []),
  (78, .aload_n 0, 1, 0, 0, 0, []),
  (79, .iload_n 3, 1, 3, 0, 0, []),
  (80, .invokevirtual 514, 3, 285, 2, 0, [(0, 1451)]),
  (83, .iinc 3 1, 3, 3, 0, 1, []),
  (86, .goto (-26), 3, 60, 0, 0, []),
  (89, .goto (-50), 3, 39, 0, 0, []),
  (92, .aload_n 0, 1, 0, 0, 0, []),
  (93, .getfield 508, 3, 11, 72, 0, [(0, 1130)]),
  (96, .ifCond .ne 7, 3, 103, 0, 0, []),
  (99, .iconst 1, 1, 0, 0, 1, []),
  (100, .goto 4, 3, 104, 0, 0, []),
  (103, .iconst 0, 1, 0, 0, 0, []),
  (104, .ireturn, 1, 1, 0, 0, [])]
/-- NamedToWedModel.isNamed(II)V -/
def cd_284 : Cod := [(0, .iload_n 1, 1, 1, 0, 0, []),
  (1, .iconst (-1), 1, 0, 0, (-1), []),
  (2, .if_icmp .ne 4, 3, 6, 0, 0, []),
  (5, .return_, 1, 0, 0, 0, []),
  (6, .aload_n 0, 1, 0, 0, 0, []),
  (7, .getfield 159, 3, 11, 71, 0, [(0, 1129)]),
  (10, .iload_n 1, 1, 1, 0, 0, []),
  (11, .iaload, 1, 0, 0, 0, []),
  (12, .iconst (-1), 1, 0, 0, (-1), []),
  (13, .if_icmp .ne 15, 3, 28, 0, 0, []),
  (16, .aload_n 0, 1, 0, 0, 0, []),
  (17, .getfield 159, 3, 11, 71, 0, [(0, 1129)]),
  (20, .iload_n 1, 1, 1, 0, 0, []),
  (21, .iload_n 2, 1, 2, 0, 0, []),
  (22, .iastore, 1, 0, 0, 0, []),
  (23, .aload_n 0, 1, 0, 0, 0, []),
  (24, .iconst 1, 1, 0, 0, 1, []),
  (25, .putfield 504, 3, 11, 73, 0, [(0, 1131)]),
  (28, .aload_n 0, 1, 0, 0, 0, []),
  (29, .getfield 159, 3, 11, 71, 0, [(0, 1129)]),
  (32, .iload_n 1, 1, 1, 0, 0, []),
  (33, .iaload, 1, 0, 0, 0, []),
  (34, .iload_n 2, 1, 2, 0, 0, []),
  (35, .if_icmp .eq 8, 3, 43, 0, 0, []),
  (38, .aload_n 0, 1, 0, 0, 0, []),
  (39, .iconst 1, 1, 0, 0, 1, []),
  (40, .putfield 508, 3, 11, 72, 0, [(0, 1130)]),
  (43, .return_, 1, 0, 0, 0, [])]
/-- NamedToWedModel.namesKin(I)V -/
def cd_285 : Cod := [(0, .aload_n 0, 1, 0, 0, 0, []),
  (1, .getfield 159, 3, 11, 71, 0, [(0, 1129)]),
  (4, .iload_n 1, 1, 1, 0, 0, []),
  (5, .iaload, 1, 0, 0, 0, []),
  (6, .istore_n 2, 1, 2, 0, 0, []),
  (7, .aload_n 0, 1, 0, 0, 0, []),
  (8, .aload_n 0, 1, 0, 0, 0, []),
  (9, .getfield 138, 3, 11, 62, 0, [(0, 1120)]),
  (12, .iload_n 1, 1, 1, 0, 0, []),
  (13, .iaload, 1, 0, 0, 0, []),
  (14, .aload_n 0, 1, 0, 0, 0, []),
  (15, .getfield 22, 3, 11, 4, 0, [(0, 1062)]),
  (18, .iload_n 2, 1, 2, 0, 0, []),
  (19, .invokestatic 356, 3, 232, 2, 0, [(0, 1282)]),
  (22, .invokevirtual 511, 3, 284, 3, 0, [(0, 1448)]),
  (25, .aload_n 0, 1, 0, 0, 0, []),
  (26, .aload_n 0, 1, 0, 0, 0, []),
  (27, .getfield 135, 3, 11, 61, 0, [(0, 1119)]),
  (30, .iload_n 1, 1, 1, 0, 0, []),
  (31, .iaload, 1, 0, 0, 0, []),
  (32, .aload_n 0, 1, 0, 0, 0, []),
  (33, .getfield 19, 3, 11, 3, 0, [(0, 1061)]),
  (36, .aload_n 0, 1, 0, 0, 0, []),
  (37, .getfield 22, 3, 11, 4, 0, [(0, 1062)]),
  (40, .iload_n 2, 1, 2, 0, 0, []),
  (41, .invokestatic 356, 3, 232, 2, 0, [(0, 1282)]),
  (44, .invokestatic 356, 3, 232, 2, 0, [(0, 1282)]),
  (47, .invokevirtual 511, 3, 284, 3, 0, [(0, 1448)]),
  (50, .aload_n 0, 1, 0, 0, 0, []),
  (51, .aload_n 0, 1, 0, 0, 0, []),
  (52, .getfield 141, 3, 11, 63, 0, [(0, 1121)]),
  (55, .iload_n 1, 1, 1, 0, 0, []),
  (56, .iaload, 1, 0, 0, 0, []),
  (57, .aload_n 0, 1, 0, 0, 0, []),
  (58, .iload_n 2, 1, 2, 0, 0, []),
  (59, .aload_n 0, 1, 0, 0, 0, []),
  (60, .getfield 129, 3, 11, 59, 0, [(0, 1117)]),
  (63, .iload_n 1, 1, 1, 0, 0, []),
  (64, .iaload, 1, 0, 0, 0, []),
  (65, .invokevirtual 369, 3, 236, 3, 0, [(0, 1294)]),
  (68, .invokevirtual 511, 3, 284, 3, 0, [(0, 1448)]),
  (71, .aload_n 0, 1, 0, 0, 0, []),
  (72, .iload_n 1, 1, 1, 0, 0, []),
  (73, .invokevirtual 501, 3, 278, 2, 0, [(0, 1430)]),
  (76, .istore_n 3, 1, 3, 0, 0, []),
  (77, .iconst 0, 1, 0, 0, 0, []),
  (78, .istore 4, 2, 4, 0, 0, []),
  (80, .iload 4, 2, 4, 0, 0, []),
  (82, .aload_n 0, 1, 0, 0, 0, []),
  (83, .getfield 317, 3, 11, 69, 0, [(0, 1127)]),
  (86, .if_icmp .ge 49, 3, 135, 0, 0, []),
  (89, .iload_n 3, 1, 3, 0, 0, []),
  (90, .iload 4, 2, 4, 0, 0, []),
  (92, .invokestatic 177, 3, 247, 2, 0, [(0, 1330)]),
  (95, .ifCond .eq 34, 3, 129, 0, 0, []),
  (98, .aload_n 0, 1, 0, 0, 0, []),
  (99, .iload 4, 2, 4, 0, 0, []),
  (101, .aload_n 0, 1, 0, 0, 0, []),
  (102, .getfield 22, 3, 11, 4, 0, [(0, 1062)]),
  (105, .aload_n 0, 1, 0, 0, 0, []),
  (106, .getfield 129, 3, 11, 59, 0, [(0, 1117)]),
  (109, .iload_n 1, 1, 1, 0, 0, []),
  (110, .iaload, 1, 0, 0, 0, []),
  (111, .iconst 1, 1, 0, 0, 1, []),
  (112, .if_icmp .ne 7, 3, 119, 0, 0, []),
  (115, .iload_n 2, 1, 2, 0, 0, []),
  (116, .goto 9, 3, 125, 0, 0, []),
  (119, .aload_n 0, 1, 0, 0, 0, []),
  (120, .getfield 19, 3, 11, 3, 0, [(0, 1061)]),
  (123, .iload_n 2, 1, 2, 0, 0, []),
  (124, .iaload, 1, 0, 0, 0, []),
  (125, .iaload, 1, 0, 0, 0, []),
  (126, .invokevirtual 511, 3, 284, 3, 0, [(0, 1448)]),
  (129, .iinc 4 1, 3, 4, 0, 1, []),
  (132, .goto (-52), 3, 80, 0, 0, []),
  (135, .return_, 1, 0, 0, 0, [])]
/-- NamedToWedModel.mismatched(I)I -/
def cd_286 : Cod := [(0, .iconst 0, 1, 0, 0, 0, []),
  (1, .istore_n 2, 1, 2, 0, 0, []),
  (2, .iconst 0, 1, 0, 0, 0, []),
  (3, .istore_n 3, 1, 3, 0, 0, []),
  (4, .iload_n 3, 1, 3, 0, 0, []),
  (5, .aload_n 0, 1, 0, 0, 0, []),
  (6, .getfield 317, 3, 11, 69, 0, [(0, 1127)]),
  (9, .if_icmp .ge 48, 3, 57, 0, 0, []),
  (12, .iload_n 1, 1, 1, 0, 0, []),
  (13, .iload_n 3, 1, 3, 0, 0, []),
  (14, .invokestatic 177, 3, 247, 2, 0, [(0, 1330)]),
  (17, .ifCond .eq 34, 3, 51, 0, 0, []),
  (20, .aload_n 0, 1, 0, 0, 0, []),
  (21, .getfield 132, 3, 11, 60, 0, [(0, 1118)]),
  (24, .iload_n 3, 1, 3, 0, 0, []),
  (25, .iaload, 1, 0, 0, 0, []),
  (26, .iconst (-1), 1, 0, 0, (-1), []),
  (27, .if_icmp .eq 24, 3, 51, 0, 0, []),
  (30, .aload_n 0, 1, 0, 0, 0, []),
  (31, .getfield 132, 3, 11, 60, 0, [(0, 1118)]),
  (34, .iload_n 3, 1, 3, 0, 0, []),
  (35, .iaload, 1, 0, 0, 0, []),
  (36, .aload_n 0, 1, 0, 0, 0, []),
  (37, .getfield 159, 3, 11, 71, 0, [(0, 1129)]),
  (40, .iload_n 3, 1, 3, 0, 0, []),
  (41, .iaload, 1, 0, 0, 0, []),
  (42, .if_icmp .eq 9, 3, 51, 0, 0, []),
  (45, .iload_n 2, 1, 2, 0, 0, []),
  (46, .iconst 1, 1, 0, 0, 1, []),
  (47, .iload_n 3, 1, 3, 0, 0, []),
  (48, .ishl, 1, 0, 0, 0, []),
  (49, .ior, 1, 0, 0, 0, []),
  (50, .istore_n 2, 1, 2, 0, 0, []),
  (51, .iinc 3 1, 3, 3, 0, 1, []),
  (54, .goto (-50), 3, 4, 0, 0, []),
  (57, .iload_n 2, 1, 2, 0, 0, []),
  (58, .ireturn, 1, 0, 0, 0, [])]
/-- NamedToWedModel.sureOf(I)I -/
def cd_287 : Cod := [(0, .aload_n 0, 1, 0, 0, 0, []),
  (1, .iload_n 1, 1, 1, 0, 0, []),
  (2, .invokevirtual 526, 3, 280, 2, 0, [(0, 1436)]),
  (5, .istore_n 2, 1, 2, 0, 0, []),
  (6, .iload_n 2, 1, 2, 0, 0, []),
  (7, .ifCond .ne 8, 3, 15, 0, 0, []),
  (10, .bipush (-3), 2, 0, 0, (-3), []),
  (12, .goto 20, 3, 32, 0, 0, []),
  (15, .iload_n 2, 1, 2, 0, 0, []),
  (16, .invokestatic 411, 3, 249, 1, 0, [(0, 1336)]),
  (19, .iconst 1, 1, 0, 0, 1, []),
  (20, .if_icmp .le 8, 3, 28, 0, 0, []),
  (23, .bipush (-2), 2, 0, 0, (-2), []),
  (25, .goto 7, 3, 32, 0, 0, []),
  (28, .iload_n 2, 1, 2, 0, 0, []),
  (29, .invokestatic 408, 3, 246, 1, 0, [(0, 1327)]),
  (32, .ireturn, 1, 0, 0, 0, [])]
/-- NamedToWedModel.houses(I)I -/
def cd_288 : Cod := [(0, .iload_n 1, 1, 1, 0, 0, []),
  (1, .iconst 0, 1, 0, 0, 0, []),
  (2, .iconst 2, 1, 0, 0, 2, []),
  (3, .invokestatic 185, 3, 190, 3, 0, [(0, 1151)]),
  (6, .ifCond .ne 5, 3, 11, 0, 0, []),
  (9, .iconst (-1), 1, 0, 0, (-1), []),
  (10, .ireturn, 1, 0, 0, 0, []),
  (11, .iconst 0, 1, 0, 0, 0, []),
  (12, .istore_n 2, 1, 2, 0, 0, []),
  (13, .iconst 0, 1, 0, 0, 0, []),
  (14, .istore_n 3, 1, 3, 0, 0, []),
  (15, .iconst 0, 1, 0, 0, 0, []),
  (16, .istore 4, 2, 4, 0, 0, []),
  (18, .iconst 0, 1, 0, 0, 0, []),
  (19, .istore 5, 2, 5, 0, 0, []),
  (21, .iload 5, 2, 5, 0, 0, []),
  (23, .aload_n 0, 1, 0, 0, 0, []),
  (24, .getfield 317, 3, 11, 69, 0, [(0, 1127)]),
  (27, .if_icmp .ge 52, 3, 79, 0, 0, []),
  (30, .aload_n 0, 1, 0, 0, 0, []),
  (31, .iload 5, 2, 5, 0, 0, []),
  (33, .invokevirtual 541, 3, 289, 2, 0, [(0, 1464)]),
  (36, .ifCond .ne 6, 3, 42, 0, 0, []),
  (39, .goto 34, 3, 73, 0, 0, []),
  (42, .iload_n 2, 1, 2, 0, 0, []),
  (43, .iconst 1, 1, 0, 0, 1, []),
  (44, .iadd, 1, 0, 0, 0, []),
  (45, .istore_n 2, 1, 2, 0, 0, []),
  (46, .aload_n 0, 1, 0, 0, 0, []),
  (47, .iload 5, 2, 5, 0, 0, []),
  (49, .invokevirtual 526, 3, 280, 2, 0, [(0, 1436)]),
  (52, .ifCond .eq 6, 3, 58, 0, 0, []),
  (55, .goto 18, 3, 73, 0, 0, []),
  (58, .iload_n 3, 1, 3, 0, 0, []),
  (59, .iconst 1, 1, 0, 0, 1, []),
  (60, .iadd, 1, 0, 0, 0, []),
  (61, .istore_n 3, 1, 3, 0, 0, []),
  (62, .iload 4, 2, 4, 0, 0, []),
  (64, .aload_n 0, 1, 0, 0, 0, []),
  (65, .iload 5, 2, 5, 0, 0, []),
  (67, .invokevirtual 517, 3, 281, 2, 0, [(0, 1439)]),
  (70, .ior, 1, 0, 0, 0, []),
  (71, .istore 4, 2, 4, 0, 0, []),
  (73, .iinc 5 1, 3, 5, 0, 1, []),
  (76, .goto (-55), 3, 21, 0, 0, []),
  (79, .iload_n 1, 1, 1, 0, 0, []),
  (80, .ifCond .ne 7, 3, 87, 0, 0, []),
  (83, .iload_n 2, 1, 2, 0, 0, []),
  (84, .goto 14, 3, 98, 0, 0, []),
  (87, .iload_n 1, 1, 1, 0, 0, []),
  (88, .iconst 1, 1, 0, 0, 1, []),
  (89, .if_icmp .ne 7, 3, 96, 0, 0, []),
  (92, .iload_n 3, 1, 3, 0, 0, []),
  (93, .goto 5, 3, 98, 0, 0, []),
  (96, .iload 4, 2, 4, 0, 0, []),
  (98, .ireturn, 1, 0, 0, 0, [])]
/-- NamedToWedModel.isFirst(I)Z -/
def cd_289 : Cod := [(0, .aload_n 0, 1, 0, 0, 0, []),
  (1, .iload_n 1, 1, 1, 0, 0, []),
  (2, .invokevirtual 517, 3, 281, 2, 0, [(0, 1439)]),
  (5, .invokestatic 408, 3, 246, 1, 0, [(0, 1327)]),
  (8, .iload_n 1, 1, 1, 0, 0, []),
  (9, .if_icmp .ne 7, 3, 16, 0, 0, []),
  (12, .iconst 1, 1, 0, 0, 1, []),
  (13, .goto 4, 3, 17, 0, 0, []),
  (16, .iconst 0, 1, 0, 0, 0, []),
  (17, .ireturn, 1, 1, 0, 0, [])]
/-- NamedToWedModel.mended(I)I -/
def cd_290 : Cod := [(0, .iload_n 1, 1, 1, 0, 0, []),
  (1, .iconst 0, 1, 0, 0, 0, []),
  (2, .iconst 1, 1, 0, 0, 1, []),
  (3, .invokestatic 185, 3, 190, 3, 0, [(0, 1151)]),
  (6, .ifCond .ne 5, 3, 11, 0, 0, []),
  (9, .iconst (-1), 1, 0, 0, (-1), []),
  (10, .ireturn, 1, 0, 0, 0, []),
  (11, .iconst 0, 1, 0, 0, 0, []),
  (12, .istore_n 2, 1, 2, 0, 0, []),
  (13, .iconst 0, 1, 0, 0, 0, []),
  (14, .istore_n 3, 1, 3, 0, 0, []),
  (15, .iload_n 3, 1, 3, 0, 0, []),
  (16, .aload_n 0, 1, 0, 0, 0, []),
  (17, .getfield 317, 3, 11, 69, 0, [(0, 1127)]),
  (20, .if_icmp .ge 41, 3, 61, 0, 0, []),
  (23, .aload_n 0, 1, 0, 0, 0, []),
  (24, .iload_n 3, 1, 3, 0, 0, []),
  (25, .invokevirtual 541, 3, 289, 2, 0, [(0, 1464)]),
  (28, .ifCond .ne 6, 3, 34, 0, 0, []),
  (31, .goto 24, 3, 55, 0, 0, []),
  (34, .aload_n 0, 1, 0, 0, 0, []),
  (35, .iload_n 3, 1, 3, 0, 0, []),
  (36, .invokevirtual 544, 3, 291, 2, 0, [(0, 1471)]),
  (39, .istore 4, 2, 4, 0, 0, []),
  (41, .iload 4, 2, 4, 0, 0, []),
  (43, .iconst (-1), 1, 0, 0, (-1), []),
  (44, .if_icmp .ne 6, 3, 50, 0, 0, []),
  (47, .bipush (-2), 2, 0, 0, (-2), []),
  (49, .ireturn, 1, 0, 0, 0, []),
  (50, .iload_n 2, 1, 2, 0, 0, []),
  (51, .iload 4, 2, 4, 0, 0, []),
  (53, .ior, 1, 0, 0, 0, []),
  (54, .istore_n 2, 1, 2, 0, 0, []),
  (55, .iinc 3 1, 3, 3, 0, 1, []),
  (58, .goto (-43), 3, 15, 0, 0, []),
  (61, .iload_n 1, 1, 1, 0, 0, []),
  (62, .ifCond .ne 10, 3, 72, 0, 0, []),
  (65, .iload_n 2, 1, 2, 0, 0, []),
  (66, .invokestatic 411, 3, 249, 1, 0, [(0, 1336)]),
  (69, .goto 4, 3, 73, 0, 0, []),
  (72, .iload_n 2, 1, 2, 0, 0, []),
  (73, .ireturn, 1, 0, 0, 0, [])]
/-- NamedToWedModel.mendedAt(I)I -/
def cd_291 : Cod := [(0, .aload_n 0, 1, 0, 0, 0, []),
  (1, .iload_n 1, 1, 1, 0, 0, []),
  (2, .invokevirtual 517, 3, 281, 2, 0, [(0, 1439)]),
  (5, .istore_n 2, 1, 2, 0, 0, []),
  (6, .iconst (-1), 1, 0, 0, (-1), []),
  (7, .istore_n 3, 1, 3, 0, 0, []),
  (8, .iconst 0, 1, 0, 0, 0, []),
  (9, .istore 4, 2, 4, 0, 0, []),
  (11, .iload 4, 2, 4, 0, 0, []),
  (13, .aload_n 0, 1, 0, 0, 0, []),
  (14, .getfield 181, 3, 11, 5, 0, [(0, 1063)]),
  (17, .if_icmp .ge 49, 3, 66, 0, 0, []),
  (20, .aload_n 0, 1, 0, 0, 0, []),
  (21, .iload_n 1, 1, 1, 0, 0, []),
  (22, .iload 4, 2, 4, 0, 0, []),
  (24, .invokevirtual 520, 3, 283, 3, 0, [(0, 1445)]),
  (27, .ifCond .ne 6, 3, 33, 0, 0, []),
  (30, .goto 30, 3, 60, 0, 0, []),
  (33, .aload_n 0, 1, 0, 0, 0, []),
  (34, .iload_n 2, 1, 2, 0, 0, []),
  (35, .invokevirtual 523, 3, 286, 2, 0, [(0, 1454)]),
  (38, .istore 5, 2, 5, 0, 0, []),
  (40, .iload_n 3, 1, 3, 0, 0, []),
  (41, .iconst (-1), 1, 0, 0, (-1), []),
  (42, .if_icmp .eq 15, 3, 57, 0, 0, []),
  (45, .iload 5, 2, 5, 0, 0, []),
  (47, .invokestatic 411, 3, 249, 1, 0, [(0, 1336)]),
  (50, .iload_n 3, 1, 3, 0, 0, []),
  (51, .invokestatic 411, 3, 249, 1, 0, [(0, 1336)]),
  (54, .if_icmp .ge 6, 3, 60, 0, 0, []),
  (57, .iload 5, 2, 5, 0, 0, []),
  (59, .istore_n 3, 1, 3, 0, 0, []),
  (60, .iinc 4 1, 3, 4, 0, 1, []),
  (63, .goto (-52), 3, 11, 0, 0, []),
  (66, .iload_n 3, 1, 3, 0, 0, []),
  (67, .ireturn, 1, 0, 0, 0, [])]
/-- NamedToWedModel.byTold(I)I -/
def cd_292 : Cod := [(0, .iload_n 1, 1, 1, 0, 0, []),
  (1, .iconst 0, 1, 0, 0, 0, []),
  (2, .iconst 3, 1, 0, 0, 3, []),
  (3, .invokestatic 185, 3, 190, 3, 0, [(0, 1151)]),
  (6, .ifCond .ne 5, 3, 11, 0, 0, []),
  (9, .iconst (-1), 1, 0, 0, (-1), []),
  (10, .ireturn, 1, 0, 0, 0, []),
  (11, .iconst 0, 1, 0, 0, 0, []),
  (12, .istore_n 2, 1, 2, 0, 0, []),
  (13, .bipush (-2), 2, 0, 0, (-2), []),
  (15, .istore_n 3, 1, 3, 0, 0, []),
  (16, .aload_n 0, 1, 0, 0, 0, []),
  (17, .getfield 317, 3, 11, 69, 0, [(0, 1127)]),
  (20, .iconst 1, 1, 0, 0, 1, []),
  (21, .isub, 1, 0, 0, 0, []),
  (22, .istore 4, 2, 4, 0, 0, []),
  (24, .iload 4, 2, 4, 0, 0, []),
  (26, .ifCond .lt 45, 3, 71, 0, 0, []),
  (29, .iload_n 1, 1, 1, 0, 0, []),
  (30, .iconst 2, 1, 0, 0, 2, []),
  (31, .if_icmp .ge 15, 3, 46, 0, 0, []),
  (34, .aload_n 0, 1, 0, 0, 0, []),
  (35, .iload 4, 2, 4, 0, 0, []),
  (37, .invokevirtual 547, 3, 293, 2, 0, [(0, 1478)]),
  (40, .ifCond .ne 18, 3, 58, 0, 0, []),
  (43, .goto 22, 3, 65, 0, 0, []),
  (46, .aload_n 0, 1, 0, 0, 0, []),
  (47, .iload 4, 2, 4, 0, 0, []),
  (49, .invokevirtual 550, 3, 294, 2, 0, [(0, 1481)]),
  (52, .ifCond .ne 6, 3, 58, 0, 0, []),
  (55, .goto 10, 3, 65, 0, 0, []),
  (58, .iload_n 2, 1, 2, 0, 0, []),
  (59, .iconst 1, 1, 0, 0, 1, []),
  (60, .iadd, 1, 0, 0, 0, []),
  (61, .istore_n 2, 1, 2, 0, 0, []),
  (62, .iload 4, 2, 4, 0, 0, []),
  (64, .istore_n 3, 1, 3, 0, 0, []),
  (65, .iinc 4 (-1), 3, 4, 0, (-1), []),
  (68, .goto (-44), 3, 24, 0, 0, []),
  (71, .iload_n 1, 1, 1, 0, 0, []),
  (72, .iconst 2, 1, 0, 0, 2, []),
  (73, .irem, 1, 0, 0, 0, []),
  (74, .ifCond .ne 7, 3, 81, 0, 0, []),
  (77, .iload_n 2, 1, 2, 0, 0, []),
  (78, .goto 4, 3, 82, 0, 0, []),
  (81, .iload_n 3, 1, 3, 0, 0, []),
  (82, .ireturn, 1, 0, 0, 0, [])]
/-- NamedToWedModel.isWrongWedding(I)Z -/
def cd_293 : Cod := [(0, .aload_n 0, 1, 0, 0, 0, []),
  (1, .getfield 141, 3, 11, 63, 0, [(0, 1121)]),
  (4, .iload_n 1, 1, 1, 0, 0, []),
  (5, .iaload, 1, 0, 0, 0, []),
  (6, .istore_n 2, 1, 2, 0, 0, []),
  (7, .iload_n 2, 1, 2, 0, 0, []),
  (8, .iload_n 1, 1, 1, 0, 0, []),
  (9, .if_icmp .le 52, 3, 61, 0, 0, []),
  (12, .aload_n 0, 1, 0, 0, 0, []),
  (13, .getfield 132, 3, 11, 60, 0, [(0, 1118)]),
  (16, .iload_n 1, 1, 1, 0, 0, []),
  (17, .iaload, 1, 0, 0, 0, []),
  (18, .iconst (-1), 1, 0, 0, (-1), []),
  (19, .if_icmp .eq 42, 3, 61, 0, 0, []),
  (22, .aload_n 0, 1, 0, 0, 0, []),
  (23, .getfield 132, 3, 11, 60, 0, [(0, 1118)]),
  (26, .iload_n 2, 1, 2, 0, 0, []),
  (27, .iaload, 1, 0, 0, 0, []),
  (28, .iconst (-1), 1, 0, 0, (-1), []),
  (29, .if_icmp .eq 32, 3, 61, 0, 0, []),
  (32, .aload_n 0, 1, 0, 0, 0, []),
  (33, .getfield 132, 3, 11, 60, 0, [(0, 1118)]),
  (36, .iload_n 2, 1, 2, 0, 0, []),
  (37, .iaload, 1, 0, 0, 0, []),
  (38, .aload_n 0, 1, 0, 0, 0, []),
  (39, .aload_n 0, 1, 0, 0, 0, []),
  (40, .getfield 132, 3, 11, 60, 0, [(0, 1118)]),
  (43, .iload_n 1, 1, 1, 0, 0, []),
  (44, .iaload, 1, 0, 0, 0, []),
  (45, .aload_n 0, 1, 0, 0, 0, []),
  (46, .getfield 129, 3, 11, 59, 0, [(0, 1117)]),
  (49, .iload_n 1, 1, 1, 0, 0, []),
  (50, .iaload, 1, 0, 0, 0, []),
  (51, .invokevirtual 369, 3, 236, 3, 0, [(0, 1294)]),
  (54, .if_icmp .eq 7, 3, 61, 0, 0, []),
  (57, .iconst 1, 1, 0, 0, 1, []),
  (58, .goto 4, 3, 62, 0, 0, []),
  (61, .iconst 0, 1, 0, 0, 0, []),
  (62, .ireturn, 1, 1, 0, 0, [])]
/-- NamedToWedModel.isWrongChild(I)Z -/
def cd_294 : Cod := [(0, .aload_n 0, 1, 0, 0, 0, []),
  (1, .getfield 138, 3, 11, 62, 0, [(0, 1120)]),
  (4, .iload_n 1, 1, 1, 0, 0, []),
  (5, .iaload, 1, 0, 0, 0, []),
  (6, .istore_n 2, 1, 2, 0, 0, []),
  (7, .iload_n 2, 1, 2, 0, 0, []),
  (8, .iconst (-1), 1, 0, 0, (-1), []),
  (9, .if_icmp .eq 47, 3, 56, 0, 0, []),
  (12, .aload_n 0, 1, 0, 0, 0, []),
  (13, .getfield 132, 3, 11, 60, 0, [(0, 1118)]),
  (16, .iload_n 1, 1, 1, 0, 0, []),
  (17, .iaload, 1, 0, 0, 0, []),
  (18, .iconst (-1), 1, 0, 0, (-1), []),
  (19, .if_icmp .eq 37, 3, 56, 0, 0, []),
  (22, .aload_n 0, 1, 0, 0, 0, []),
  (23, .getfield 132, 3, 11, 60, 0, [(0, 1118)]),
  (26, .iload_n 2, 1, 2, 0, 0, []),
  (27, .iaload, 1, 0, 0, 0, []),
  (28, .iconst (-1), 1, 0, 0, (-1), []),
  (29, .if_icmp .eq 27, 3, 56, 0, 0, []),
  (32, .aload_n 0, 1, 0, 0, 0, []),
  (33, .getfield 132, 3, 11, 60, 0, [(0, 1118)]),
  (36, .iload_n 1, 1, 1, 0, 0, []),
  (37, .iaload, 1, 0, 0, 0, []),
  (38, .aload_n 0, 1, 0, 0, 0, []),
  (39, .getfield 22, 3, 11, 4, 0, [(0, 1062)]),
  (42, .aload_n 0, 1, 0, 0, 0, []),
  (43, .getfield 132, 3, 11, 60, 0, [(0, 1118)]),
  (46, .iload_n 2, 1, 2, 0, 0, []),
  (47, .iaload, 1, 0, 0, 0, []),
  (48, .iaload, 1, 0, 0, 0, []),
  (49, .if_icmp .eq 7, 3, 56, 0, 0, []),
  (52, .iconst 1, 1, 0, 0, 1, []),
  (53, .goto 4, 3, 57, 0, 0, []),
  (56, .iconst 0, 1, 0, 0, 0, []),
  (57, .ireturn, 1, 1, 0, 0, [])]
/-- NamedToWedModel.whatIs(III)I -/
def cd_295 : Cod := [(0, .aload_n 0, 1, 0, 0, 0, []),
  (1, .iload_n 1, 1, 1, 0, 0, []),
  (2, .invokevirtual 529, 3, 276, 2, 0, [(0, 1424)]),
  (5, .ifCond .eq 20, 3, 25, 0, 0, []),
  (8, .aload_n 0, 1, 0, 0, 0, []),
  (9, .iload_n 2, 1, 2, 0, 0, []),
  (10, .invokevirtual 529, 3, 276, 2, 0, [(0, 1424)]),
  (13, .ifCond .eq 12, 3, 25, 0, 0, []),
  (16, .iload_n 3, 1, 3, 0, 0, []),
  (17, .bipush 23, 2, 0, 0, 23, []),
  (19, .invokestatic 430, 3, 251, 2, 0, [(0, 1343)]),
  (22, .ifCond .ne 5, 3, 27, 0, 0, []),
  (25, .iconst (-1), 1, 0, 0, (-1), []),
  (26, .ireturn, 1, 0, 0, 0, []),
  (27, .aload_n 0, 1, 0, 0, 0, []),
  (28, .iload_n 2, 1, 2, 0, 0, []),
  (29, .invokevirtual 562, 3, 296, 2, 0, [(0, 1488)]),
  (32, .aload_n 0, 1, 0, 0, 0, []),
  (33, .getfield 162, 3, 11, 74, 0, [(0, 1132)]),
  (36, .iload_n 1, 1, 1, 0, 0, []),
  (37, .iaload, 1, 0, 0, 0, []),
  (38, .istore 4, 2, 4, 0, 0, []),
  (40, .iload 4, 2, 4, 0, 0, []),
  (42, .ldc_w 423, 3, 0, 1, 1000000, [(4, 1349)]),
  (45, .if_icmp .ne 6, 3, 51, 0, 0, []),
  (48, .bipush (-2), 2, 0, 0, (-2), []),
  (50, .ireturn, 1, 0, 0, 0, []),
  (51, .iload_n 3, 1, 3, 0, 0, []),
  (52, .bipush 100, 2, 0, 0, 100, []),
  (54, .if_icmp .ne 6, 3, 60, 0, 0, []),
  (57, .iload 4, 2, 4, 0, 0, []),
  (59, .ireturn, 1, 0, 0, 0, []),
  (60, .iload_n 3, 1, 3, 0, 0, []),
  (61, .iload 4, 2, 4, 0, 0, []),
  (63, .if_icmp .lt 6, 3, 69, 0, 0, []),
  (66, .bipush (-4), 2, 0, 0, (-4), []),
  (68, .ireturn, 1, 0, 0, 0, []),
  (69, .iconst 1, 1, 0, 0, 1, []),
  (70, .iload_n 1, 1, 1, 0, 0, []),
  (71, .ishl, 1, 0, 0, 0, []),
  (72, .istore 5, 2, 5, 0, 0, []),
  (74, .iconst (-1), 1, 0, 0, (-1), []),
  (75, .istore 6, 2, 6, 0, 0, []),
  (77, .iconst 0, 1, 0, 0, 0, []),
  (78, .istore 7, 2, 7, 0, 0, []),
  (80, .iload 7, 2, 7, 0, 0, []),
  (82, .iload_n 3, 1, 3, 0, 0, []),
  (83, .if_icmp .gt 62, 3, 145, 0, 0, []),
  (86, .iload 4, 2, 4, 0, 0, []),
  (88, .iconst 1, 1, 0, 0, 1, []),
  (89, .isub, 1, 0, 0, 0, []),
  (90, .istore 4, 2, 4, 0, 0, []),
  (92, .iconst 0, 1, 0, 0, 0, []),
  (93, .istore 6, 2, 6, 0, 0, []),
  (95, .aload_n 0, 1, 0, 0, 0, []),
  (96, .iload 5, 2, 5, 0, 0, []),
  (98, .iload 6, 2, 6, 0, 0, []),
  (100, .invokevirtual 565, 3, 300, 3, 0, [(0, 1500)]),
  (103, .aload_n 0, 1, 0, 0, 0, []),
  (104, .iload 4, 2, 4, 0, 0, []),
  (106, .invokevirtual 559, 3, 299, 2, 0, [(0, 1497)]),
  (109, .iand, 1, 0, 0, 0, []),
  (110, .ifCond .ne 12, 3, 122, 0, 0, []),
  (113, .iload 6, 2, 6, 0, 0, []),
  (115, .iconst 1, 1, 0, 0, 1, []),
  (116, .iadd, 1, 0, 0, 0, []),
  (117, .istore 6, 2, 6, 0, 0, []),
  (119, .goto (-24), 3, 95, 0, 0, []),
  (122, .aload_n 0, 1, 0, 0, 0, []),
  (123, .iload 5, 2, 5, 0, 0, []),
  (125, .iload 6, 2, 6, 0, 0, []),
  (127, .invokevirtual 565, 3, 300, 3, 0, [(0, 1500)]),
  (130, .aload_n 0, 1, 0, 0, 0, []),
  (131, .iload 4, 2, 4, 0, 0, []),
  (133, .invokevirtual 559, 3, 299, 2, 0, [(0, 1497)]),
  (136, .iand, 1, 0, 0, 0, []),
  (137, .istore 5, 2, 5, 0, 0, []),
  (139, .iinc 7 1, 3, 7, 0, 1, []),
  (142, .goto (-62), 3, 80, 0, 0, []),
  (145, .iload 6, 2, 6, 0, 0, []),
  (147, .invokestatic 329, 3, 224, 1, 0, [(0, 1258)]),
  (150, .ireturn, 1, 0, 0, 0, [])]
/-- NamedToWedModel.laysLevels(I)V -/
def cd_296 : Cod := [(0, .iconst 0, 1, 0, 0, 0, []),
  (1, .istore_n 2, 1, 2, 0, 0, []),
  (2, .iload_n 2, 1, 2, 0, 0, []),
  (3, .aload_n 0, 1, 0, 0, 0, []),
  (4, .getfield 317, 3, 11, 69, 0, [(0, 1127)]),
  (7, .if_icmp .ge 27, 3, 34, 0, 0, []),
  (10, .aload_n 0, 1, 0, 0, 0, []),
  (11, .getfield 162, 3, 11, 74, 0, [(0, 1132)]),
  (14, .iload_n 2, 1, 2, 0, 0, []),
  (15, .iload_n 2, 1, 2, 0, 0, []),
  (16, .iload_n 1, 1, 1, 0, 0, []),
  (17, .if_icmp .ne 7, 3, 24, 0, 0, []),
  (20, .iconst 0, 1, 0, 0, 0, []),
  (21, .goto 6, 3, 27, 0, 0, []),
  (24, .ldc_w 423, 3, 0, 1, 1000000, [(4, 1349)]),
  (27, .iastore, 1, 0, 0, 0, []),
  (28, .iinc 2 1, 3, 2, 0, 1, []),
  (31, .goto (-29), 3, 2, 0, 0, []),
  (34, .iconst 1, 1, 0, 0, 1, []),
  (35, .istore_n 2, 1, 2, 0, 0, []),
  (36, .iload_n 2, 1, 2, 0, 0, []),
  (37, .bipush 24, 2, 0, 0, 24, []),
  (39, .if_icmp .ge 76, 3, 115, 0, 0, []),
  (42, .iconst 0, 1, 0, 0, 0, []),
  (43, .istore_n 3, 1, 3, 0, 0, []),
  (44, .iload_n 3, 1, 3, 0, 0, []),
  (45, .aload_n 0, 1, 0, 0, 0, []),
  (46, .getfield 317, 3, 11, 69, 0, [(0, 1127)]),
  (49, .bipush 8, 2, 0, 0, 8, []),
  (51, .imul, 1, 0, 0, 0, []),
  (52, .if_icmp .ge 57, 3, 109, 0, 0, []),
  (55, .iload_n 3, 1, 3, 0, 0, []),
  (56, .bipush 8, 2, 0, 0, 8, []),
  (58, .idiv, 1, 0, 0, 0, []),
  (59, .istore 4, 2, 4, 0, 0, []),
  (61, .aload_n 0, 1, 0, 0, 0, []),
  (62, .getfield 162, 3, 11, 74, 0, [(0, 1132)]),
  (65, .iload 4, 2, 4, 0, 0, []),
  (67, .iaload, 1, 0, 0, 0, []),
  (68, .ldc_w 423, 3, 0, 1, 1000000, [(4, 1349)]),
  (71, .if_icmp .ne 32, 3, 103, 0, 0, []),
  (74, .aload_n 0, 1, 0, 0, 0, []),
  (75, .iload 4, 2, 4, 0, 0, []),
  (77, .iload_n 3, 1, 3, 0, 0, []),
  (78, .bipush 8, 2, 0, 0, 8, []),
  (80, .irem, 1, 0, 0, 0, []),
  (81, .invokevirtual 556, 3, 297, 3, 0, [(0, 1491)]),
  (84, .aload_n 0, 1, 0, 0, 0, []),
  (85, .iload_n 2, 1, 2, 0, 0, []),
  (86, .iconst 1, 1, 0, 0, 1, []),
  (87, .isub, 1, 0, 0, 0, []),
  (88, .invokevirtual 559, 3, 299, 2, 0, [(0, 1497)]),
  (91, .iand, 1, 0, 0, 0, []),
  (92, .ifCond .eq 11, 3, 103, 0, 0, []),
  (95, .aload_n 0, 1, 0, 0, 0, []),
  (96, .getfield 162, 3, 11, 74, 0, [(0, 1132)]),
  (99, .iload 4, 2, 4, 0, 0, []),
  (101, .iload_n 2, 1, 2, 0, 0, []),
  (102, .iastore, 1, 0, 0, 0, []),
  (103, .iinc 3 1, 3, 3, 0, 1, []),
  (106, .goto (-62), 3, 44, 0, 0, []),
  (109, .iinc 2 1, 3, 2, 0, 1, []),
  (112, .goto (-76), 3, 36, 0, 0, []),
  (115, .return_, 1, 0, 0, 0, [])]
/-- NamedToWedModel.thoseOf(II)I -/
def cd_297 : Cod := [(0, .iload_n 2, 1, 2, 0, 0, []),
  (1, .tableswitch 146 0 6 #[43, 53, 63, 87, 110, 122, 134], 43, 147, 0, 0, [(0, 44), (1, 54), (2, 64), (3, 88), (4, 111), (5, 123), (6, 135)]),
  (44, .aload_n 0, 1, 0, 0, 0, []),
  (45, .getfield 135, 3, 11, 61, 0, [(0, 1119)]),
  (48, .iload_n 1, 1, 1, 0, 0, []),
  (49, .iaload, 1, 0, 0, 0, []),
  (50, .invokestatic 498, 3, 282, 1, 0, [(0, 1442)]),
  (53, .ireturn, 1, 0, 0, 0, []),
  (54, .aload_n 0, 1, 0, 0, 0, []),
  (55, .getfield 138, 3, 11, 62, 0, [(0, 1120)]),
  (58, .iload_n 1, 1, 1, 0, 0, []),
  (59, .iaload, 1, 0, 0, 0, []),
  (60, .invokestatic 498, 3, 282, 1, 0, [(0, 1442)]),
  (63, .ireturn, 1, 0, 0, 0, []),
  (64, .aload_n 0, 1, 0, 0, 0, []),
  (65, .getfield 129, 3, 11, 59, 0, [(0, 1117)]),
  (68, .iload_n 1, 1, 1, 0, 0, []),
  (69, .iaload, 1, 0, 0, 0, []),
  (70, .iconst 1, 1, 0, 0, 1, []),
  (71, .if_icmp .ne 15, 3, 86, 0, 0, []),
  (74, .aload_n 0, 1, 0, 0, 0, []),
  (75, .getfield 141, 3, 11, 63, 0, [(0, 1121)]),
  (78, .iload_n 1, 1, 1, 0, 0, []),
  (79, .iaload, 1, 0, 0, 0, []),
  (80, .invokestatic 498, 3, 282, 1, 0, [(0, 1442)]),
  (83, .goto 4, 3, 87, 0, 0, []),
  (86, .iconst 0, 1, 0, 0, 0, []),
  (87, .ireturn, 1, 0, 0, 0, []),
  (88, .aload_n 0, 1, 0, 0, 0, []),
  (89, .getfield 129, 3, 11, 59, 0, [(0, 1117)]),
  (92, .iload_n 1, 1, 1, 0, 0, []),
  (93, .iaload, 1, 0, 0, 0, []),
  (94, .ifCond .ne 15, 3, 109, 0, 0, []),
  (97, .aload_n 0, 1, 0, 0, 0, []),
  (98, .getfield 141, 3, 11, 63, 0, [(0, 1121)]),
  (101, .iload_n 1, 1, 1, 0, 0, []),
  (102, .iaload, 1, 0, 0, 0, []),
  (103, .invokestatic 498, 3, 282, 1, 0, [(0, 1442)]),
  (106, .goto 4, 3, 110, 0, 0, []),
  (109, .iconst 0, 1, 0, 0, 0, []),
  (110, .ireturn, 1, 0, 0, 0, []),
  (111, .aload_n 0, 1, 0, 0, 0, []),
  (112, .iload_n 1, 1, 1, 0, 0, []),
  (113, .invokevirtual 501, 3, 278, 2, 0, [(0, 1430)]),
  (116, .aload_n 0, 1, 0, 0, 0, []),
  (117, .iconst 0, 1, 0, 0, 0, []),
  (118, .invokevirtual 553, 3, 298, 2, 0, [(0, 1494)]),
  (121, .iand, 1, 0, 0, 0, []),
  (122, .ireturn, 1, 0, 0, 0, []),
  (123, .aload_n 0, 1, 0, 0, 0, []),
  (124, .iload_n 1, 1, 1, 0, 0, []),
  (125, .invokevirtual 501, 3, 278, 2, 0, [(0, 1430)]),
  (128, .aload_n 0, 1, 0, 0, 0, []),
  (129, .iconst 1, 1, 0, 0, 1, []),
  (130, .invokevirtual 553, 3, 298, 2, 0, [(0, 1494)]),
  (133, .iand, 1, 0, 0, 0, []),
  (134, .ireturn, 1, 0, 0, 0, []),
  (135, .aload_n 0, 1, 0, 0, 0, []),
  (136, .iload_n 1, 1, 1, 0, 0, []),
  (137, .invokevirtual 535, 3, 279, 2, 0, [(0, 1433)]),
  (140, .aload_n 0, 1, 0, 0, 0, []),
  (141, .iconst 0, 1, 0, 0, 0, []),
  (142, .invokevirtual 553, 3, 298, 2, 0, [(0, 1494)]),
  (145, .iand, 1, 0, 0, 0, []),
  (146, .ireturn, 1, 0, 0, 0, []),
  (147, .aload_n 0, 1, 0, 0, 0, []),
  (148, .iload_n 1, 1, 1, 0, 0, []),
  (149, .invokevirtual 535, 3, 279, 2, 0, [(0, 1433)]),
  (152, .aload_n 0, 1, 0, 0, 0, []),
  (153, .iconst 1, 1, 0, 0, 1, []),
  (154, .invokevirtual 553, 3, 298, 2, 0, [(0, 1494)]),
  (157, .iand, 1, 0, 0, 0, []),
  (158, .ireturn, 1, 0, 0, 0, [])]
/-- NamedToWedModel.ofSort(I)I -/
def cd_298 : Cod := [(0, .iconst 0, 1, 0, 0, 0, []),
  (1, .istore_n 2, 1, 2, 0, 0, []),
  (2, .iconst 0, 1, 0, 0, 0, []),
  (3, .istore_n 3, 1, 3, 0, 0, []),
  (4, .iload_n 3, 1, 3, 0, 0, []),
  (5, .aload_n 0, 1, 0, 0, 0, []),
  (6, .getfield 317, 3, 11, 69, 0, [(0, 1127)]),
  (9, .if_icmp .ge 25, 3, 34, 0, 0, []),
  (12, .aload_n 0, 1, 0, 0, 0, []),
  (13, .getfield 129, 3, 11, 59, 0, [(0, 1117)]),
  (16, .iload_n 3, 1, 3, 0, 0, []),
  (17, .iaload, 1, 0, 0, 0, []),
  (18, .iload_n 1, 1, 1, 0, 0, []),
  (19, .if_icmp .ne 9, 3, 28, 0, 0, []),
  (22, .iload_n 2, 1, 2, 0, 0, []),
  (23, .iconst 1, 1, 0, 0, 1, []),
  (24, .iload_n 3, 1, 3, 0, 0, []),
  (25, .ishl, 1, 0, 0, 0, []),
  (26, .ior, 1, 0, 0, 0, []),
  (27, .istore_n 2, 1, 2, 0, 0, []),
  (28, .iinc 3 1, 3, 3, 0, 1, []),
  (31, .goto (-27), 3, 4, 0, 0, []),
  (34, .iload_n 2, 1, 2, 0, 0, []),
  (35, .ireturn, 1, 0, 0, 0, [])]
/-- NamedToWedModel.atLevel(I)I -/
def cd_299 : Cod := [(0, .iconst 0, 1, 0, 0, 0, []),
  (1, .istore_n 2, 1, 2, 0, 0, []),
  (2, .iconst 0, 1, 0, 0, 0, []),
  (3, .istore_n 3, 1, 3, 0, 0, []),
  (4, .iload_n 3, 1, 3, 0, 0, []),
  (5, .aload_n 0, 1, 0, 0, 0, []),
  (6, .getfield 317, 3, 11, 69, 0, [(0, 1127)]),
  (9, .if_icmp .ge 25, 3, 34, 0, 0, []),
  (12, .aload_n 0, 1, 0, 0, 0, []),
  (13, .getfield 162, 3, 11, 74, 0, [(0, 1132)]),
  (16, .iload_n 3, 1, 3, 0, 0, []),
  (17, .iaload, 1, 0, 0, 0, []),
  (18, .iload_n 1, 1, 1, 0, 0, []),
  (19, .if_icmp .ne 9, 3, 28, 0, 0, []),
  (22, .iload_n 2, 1, 2, 0, 0, []),
  (23, .iconst 1, 1, 0, 0, 1, []),
  (24, .iload_n 3, 1, 3, 0, 0, []),
  (25, .ishl, 1, 0, 0, 0, []),
  (26, .ior, 1, 0, 0, 0, []),
  (27, .istore_n 2, 1, 2, 0, 0, []),
  (28, .iinc 3 1, 3, 3, 0, 1, []),
  (31, .goto (-27), 3, 4, 0, 0, []),
  (34, .iload_n 2, 1, 2, 0, 0, []),
  (35, .ireturn, 1, 0, 0, 0, [])]
/-- NamedToWedModel.allOf(II)I -/
def cd_300 : Cod := [(0, .iconst 0, 1, 0, 0, 0, []),
  (1, .istore_n 3, 1, 3, 0, 0, []),
  (2, .iconst 0, 1, 0, 0, 0, []),
  (3, .istore 4, 2, 4, 0, 0, []),
  (5, .iload 4, 2, 4, 0, 0, []),
  (7, .aload_n 0, 1, 0, 0, 0, []),
  (8, .getfield 317, 3, 11, 69, 0, [(0, 1127)]),
  (11, .if_icmp .ge 28, 3, 39, 0, 0, []),
  (14, .iload_n 1, 1, 1, 0, 0, []),
  (15, .iload 4, 2, 4, 0, 0, []),
  (17, .invokestatic 177, 3, 247, 2, 0, [(0, 1330)]),
  (20, .ifCond .eq 13, 3, 33, 0, 0, []),
  (23, .iload_n 3, 1, 3, 0, 0, []),
  (24, .aload_n 0, 1, 0, 0, 0, []),
  (25, .iload 4, 2, 4, 0, 0, []),
  (27, .iload_n 2, 1, 2, 0, 0, []),
  (28, .invokevirtual 556, 3, 297, 3, 0, [(0, 1491)]),
  (31, .ior, 1, 0, 0, 0, []),
  (32, .istore_n 3, 1, 3, 0, 0, []),
  (33, .iinc 4 1, 3, 4, 0, 1, []),
  (36, .goto (-31), 3, 5, 0, 0, []),
  (39, .iload_n 3, 1, 3, 0, 0, []),
  (40, .ireturn, 1, 0, 0, 0, [])]
/-- NamedToWedModel.those(II)I -/
def cd_301 : Cod := [(0, .aload_n 0, 1, 0, 0, 0, []),
  (1, .iload_n 1, 1, 1, 0, 0, []),
  (2, .invokevirtual 529, 3, 276, 2, 0, [(0, 1424)]),
  (5, .ifCond .eq 21, 3, 26, 0, 0, []),
  (8, .iload_n 2, 1, 2, 0, 0, []),
  (9, .iconst 1, 1, 0, 0, 1, []),
  (10, .bipush 40, 2, 0, 0, 40, []),
  (12, .invokestatic 185, 3, 190, 3, 0, [(0, 1151)]),
  (15, .ifCond .eq 11, 3, 26, 0, 0, []),
  (18, .iload_n 2, 1, 2, 0, 0, []),
  (19, .aload_n 0, 1, 0, 0, 0, []),
  (20, .getfield 193, 3, 11, 7, 0, [(0, 1065)]),
  (23, .if_icmp .le 5, 3, 28, 0, 0, []),
  (26, .iconst (-1), 1, 0, 0, (-1), []),
  (27, .ireturn, 1, 0, 0, 0, []),
  (28, .aload_n 0, 1, 0, 0, 0, []),
  (29, .iconst 0, 1, 0, 0, 0, []),
  (30, .iload_n 2, 1, 2, 0, 0, []),
  (31, .aload_n 0, 1, 0, 0, 0, []),
  (32, .getfield 129, 3, 11, 59, 0, [(0, 1117)]),
  (35, .iload_n 1, 1, 1, 0, 0, []),
  (36, .iaload, 1, 0, 0, 0, []),
  (37, .invokevirtual 376, 3, 220, 4, 0, [(0, 1246)]),
  (40, .istore_n 3, 1, 3, 0, 0, []),
  (41, .aload_n 0, 1, 0, 0, 0, []),
  (42, .iconst 0, 1, 0, 0, 0, []),
  (43, .putfield 193, 3, 11, 7, 0, [(0, 1065)]),
  (46, .iload_n 3, 1, 3, 0, 0, []),
  (47, .ifCond .ge 5, 3, 52, 0, 0, []),
  (50, .iload_n 3, 1, 3, 0, 0, []),
  (51, .ireturn, 1, 0, 0, 0, []),
  (52, .iconst 1, 1, 0, 0, 1, []),
  (53, .iload_n 1, 1, 1, 0, 0, []),
  (54, .ishl, 1, 0, 0, 0, []),
  (55, .istore 4, 2, 4, 0, 0, []),
  (57, .iconst 0, 1, 0, 0, 0, []),
  (58, .istore 5, 2, 5, 0, 0, []),
  (60, .iload 5, 2, 5, 0, 0, []),
  (62, .aload_n 0, 1, 0, 0, 0, []),
  (63, .getfield 326, 3, 11, 38, 0, [(0, 1096)]),
  (66, .if_icmp .ge 24, 3, 90, 0, 0, []),
  (69, .aload_n 0, 1, 0, 0, 0, []),
  (70, .iload 4, 2, 4, 0, 0, []),
  (72, .aload_n 0, 1, 0, 0, 0, []),
  (73, .getfield 74, 3, 11, 33, 0, [(0, 1091)]),
  (76, .iload 5, 2, 5, 0, 0, []),
  (78, .iaload, 1, 0, 0, 0, []),
  (79, .invokevirtual 565, 3, 300, 3, 0, [(0, 1500)]),
  (82, .istore 4, 2, 4, 0, 0, []),
  (84, .iinc 5 1, 3, 5, 0, 1, []),
  (87, .goto (-27), 3, 60, 0, 0, []),
  (90, .iload 4, 2, 4, 0, 0, []),
  (92, .ireturn, 1, 0, 0, 0, [])]
/-- NamedToWedModel.mayWed(I)I -/
def cd_302 : Cod := [(0, .aload_n 0, 1, 0, 0, 0, []),
  (1, .iload_n 1, 1, 1, 0, 0, []),
  (2, .invokevirtual 529, 3, 276, 2, 0, [(0, 1424)]),
  (5, .ifCond .ne 5, 3, 10, 0, 0, []),
  (8, .iconst (-1), 1, 0, 0, (-1), []),
  (9, .ireturn, 1, 0, 0, 0, []),
  (10, .aload_n 0, 1, 0, 0, 0, []),
  (11, .invokevirtual 571, 3, 303, 1, 0, [(0, 1511)]),
  (14, .aload_n 0, 1, 0, 0, 0, []),
  (15, .iload_n 1, 1, 1, 0, 0, []),
  (16, .invokevirtual 574, 3, 304, 2, 0, [(0, 1514)]),
  (19, .ireturn, 1, 0, 0, 0, [])]
/-- NamedToWedModel.laysMayBe()V -/
def cd_303 : Cod := [(0, .iconst 0, 1, 0, 0, 0, []),
  (1, .istore_n 1, 1, 1, 0, 0, []),
  (2, .iload_n 1, 1, 1, 0, 0, []),
  (3, .aload_n 0, 1, 0, 0, 0, []),
  (4, .getfield 317, 3, 11, 69, 0, [(0, 1127)]),
  (7, .if_icmp .ge 20, 3, 27, 0, 0, []),
  (10, .aload_n 0, 1, 0, 0, 0, []),
  (11, .getfield 165, 3, 11, 75, 0, [(0, 1133)]),
  (14, .iload_n 1, 1, 1, 0, 0, []),
  (15, .aload_n 0, 1, 0, 0, 0, []),
  (16, .iload_n 1, 1, 1, 0, 0, []),
  (17, .invokevirtual 526, 3, 280, 2, 0, [(0, 1436)]),
  (20, .iastore, 1, 0, 0, 0, []),
  (21, .iinc 1 1, 3, 1, 0, 1, []),
  (24, .goto (-22), 3, 2, 0, 0, []),
  (27, .return_, 1, 0, 0, 0, [])]
/-- NamedToWedModel.whoMayWed(I)I -/
def cd_304 : Cod := [(0, .aload_n 0, 1, 0, 0, 0, []),
  (1, .getfield 141, 3, 11, 63, 0, [(0, 1121)]),
  (4, .iload_n 1, 1, 1, 0, 0, []),
  (5, .iaload, 1, 0, 0, 0, []),
  (6, .iconst (-1), 1, 0, 0, (-1), []),
  (7, .if_icmp .eq 5, 3, 12, 0, 0, []),
  (10, .iconst 0, 1, 0, 0, 0, []),
  (11, .ireturn, 1, 0, 0, 0, []),
  (12, .aload_n 0, 1, 0, 0, 0, []),
  (13, .iload_n 1, 1, 1, 0, 0, []),
  (14, .invokevirtual 501, 3, 278, 2, 0, [(0, 1430)]),
  (17, .aload_n 0, 1, 0, 0, 0, []),
  (18, .iload_n 1, 1, 1, 0, 0, []),
  (19, .invokevirtual 535, 3, 279, 2, 0, [(0, 1433)]),
  (22, .ior, 1, 0, 0, 0, []),
  (23, .aload_n 0, 1, 0, 0, 0, []),
  (24, .getfield 135, 3, 11, 61, 0, [(0, 1119)]),
  (27, .iload_n 1, 1, 1, 0, 0, []),
  (28, .iaload, 1, 0, 0, 0, []),
  (29, .invokestatic 498, 3, 282, 1, 0, [(0, 1442)]),
  (32, .ior, 1, 0, 0, 0, []),
  (33, .aload_n 0, 1, 0, 0, 0, []),
  (34, .getfield 138, 3, 11, 62, 0, [(0, 1120)]),
  (37, .iload_n 1, 1, 1, 0, 0, []),
  (38, .iaload, 1, 0, 0, 0, []),
  (39, .invokestatic 498, 3, 282, 1, 0, [(0, 1442)]),
  (42, .ior, 1, 0, 0, 0, []),
  (43, .istore_n 2, 1, 2, 0, 0, []),
  (44, .iconst 0, 1, 0, 0, 0, []),
  (45, .istore_n 3, 1, 3, 0, 0, []),
  (46, .iconst 0, 1, 0, 0, 0, []),
  (47, .istore 4, 2, 4, 0, 0, []),
  (49, .iload 4, 2, 4, 0, 0, []),
  (51, .aload_n 0, 1, 0, 0, 0, []),
  (52, .getfield 317, 3, 11, 69, 0, [(0, 1127)]),
  (55, .if_icmp .ge 62, 3, 117, 0, 0, []),
  (58, .aload_n 0, 1, 0, 0, 0, []),
  (59, .getfield 129, 3, 11, 59, 0, [(0, 1117)]),
  (62, .iload 4, 2, 4, 0, 0, []),
  (64, .iaload, 1, 0, 0, 0, []),
  (65, .aload_n 0, 1, 0, 0, 0, []),
  (66, .getfield 129, 3, 11, 59, 0, [(0, 1117)]),
  (69, .iload_n 1, 1, 1, 0, 0, []),
  (70, .iaload, 1, 0, 0, 0, []),
  (71, .if_icmp .eq 40, 3, 111, 0, 0, []),
  (74, .aload_n 0, 1, 0, 0, 0, []),
  (75, .getfield 141, 3, 11, 63, 0, [(0, 1121)]),
  (78, .iload 4, 2, 4, 0, 0, []),
  (80, .iaload, 1, 0, 0, 0, []),
  (81, .iconst (-1), 1, 0, 0, (-1), []),
  (82, .if_icmp .ne 29, 3, 111, 0, 0, []),
  (85, .iload_n 2, 1, 2, 0, 0, []),
  (86, .iload 4, 2, 4, 0, 0, []),
  (88, .invokestatic 177, 3, 247, 2, 0, [(0, 1330)]),
  (91, .ifCond .ne 20, 3, 111, 0, 0, []),
  (94, .aload_n 0, 1, 0, 0, 0, []),
  (95, .iload_n 1, 1, 1, 0, 0, []),
  (96, .iload 4, 2, 4, 0, 0, []),
  (98, .invokevirtual 568, 3, 305, 3, 0, [(0, 1517)]),
  (101, .ifCond .eq 10, 3, 111, 0, 0, []),
  (104, .iload_n 3, 1, 3, 0, 0, []),
  (105, .iconst 1, 1, 0, 0, 1, []),
  (106, .iload 4, 2, 4, 0, 0, []),
  (108, .ishl, 1, 0, 0, 0, []),
  (109, .ior, 1, 0, 0, 0, []),
  (110, .istore_n 3, 1, 3, 0, 0, []),
  (111, .iinc 4 1, 3, 4, 0, 1, []),
  (114, .goto (-65), 3, 49, 0, 0, []),
  (117, .iload_n 3, 1, 3, 0, 0, []),
  (118, .ireturn, 1, 0, 0, 0, [])]
/-- NamedToWedModel.goTogether(II)Z -/
def cd_305 : Cod := [(0, .iconst 0, 1, 0, 0, 0, []),
  (1, .istore_n 3, 1, 3, 0, 0, []),
  (2, .iload_n 3, 1, 3, 0, 0, []),
  (3, .aload_n 0, 1, 0, 0, 0, []),
  (4, .getfield 181, 3, 11, 5, 0, [(0, 1063)]),
  (7, .if_icmp .ge 47, 3, 54, 0, 0, []),
  (10, .aload_n 0, 1, 0, 0, 0, []),
  (11, .getfield 165, 3, 11, 75, 0, [(0, 1133)]),
  (14, .iload_n 1, 1, 1, 0, 0, []),
  (15, .iaload, 1, 0, 0, 0, []),
  (16, .iload_n 3, 1, 3, 0, 0, []),
  (17, .invokestatic 177, 3, 247, 2, 0, [(0, 1330)]),
  (20, .ifCond .eq 28, 3, 48, 0, 0, []),
  (23, .aload_n 0, 1, 0, 0, 0, []),
  (24, .getfield 165, 3, 11, 75, 0, [(0, 1133)]),
  (27, .iload_n 2, 1, 2, 0, 0, []),
  (28, .iaload, 1, 0, 0, 0, []),
  (29, .aload_n 0, 1, 0, 0, 0, []),
  (30, .iload_n 3, 1, 3, 0, 0, []),
  (31, .aload_n 0, 1, 0, 0, 0, []),
  (32, .getfield 129, 3, 11, 59, 0, [(0, 1117)]),
  (35, .iload_n 1, 1, 1, 0, 0, []),
  (36, .iaload, 1, 0, 0, 0, []),
  (37, .invokevirtual 369, 3, 236, 3, 0, [(0, 1294)]),
  (40, .invokestatic 177, 3, 247, 2, 0, [(0, 1330)]),
  (43, .ifCond .eq 5, 3, 48, 0, 0, []),
  (46, .iconst 1, 1, 0, 0, 1, []),
  (47, .ireturn, 1, 1, 0, 0, []),
  (48, .iinc 3 1, 3, 3, 0, 1, []),
  (51, .goto (-49), 3, 2, 0, 0, []),
  (54, .iconst 0, 1, 0, 0, 0, []),
  (55, .ireturn, 1, 1, 0, 0, [])]
/-- NamedToWedModel.weddings()I -/
def cd_306 : Cod := [(0, .aload_n 0, 1, 0, 0, 0, []),
  (1, .invokevirtual 571, 3, 303, 1, 0, [(0, 1511)]),
  (4, .iconst 0, 1, 0, 0, 0, []),
  (5, .istore_n 1, 1, 1, 0, 0, []),
  (6, .iload_n 1, 1, 1, 0, 0, []),
  (7, .aload_n 0, 1, 0, 0, 0, []),
  (8, .getfield 317, 3, 11, 69, 0, [(0, 1127)]),
  (11, .if_icmp .ge 16, 3, 27, 0, 0, []),
  (14, .aload_n 0, 1, 0, 0, 0, []),
  (15, .getfield 168, 3, 11, 76, 0, [(0, 1134)]),
  (18, .iload_n 1, 1, 1, 0, 0, []),
  (19, .iconst (-1), 1, 0, 0, (-1), []),
  (20, .iastore, 1, 0, 0, 0, []),
  (21, .iinc 1 1, 3, 1, 0, 1, []),
  (24, .goto (-18), 3, 6, 0, 0, []),
  (27, .iconst 0, 1, 0, 0, 0, []),
  (28, .istore_n 1, 1, 1, 0, 0, []),
  (29, .iconst 0, 1, 0, 0, 0, []),
  (30, .istore_n 2, 1, 2, 0, 0, []),
  (31, .iload_n 2, 1, 2, 0, 0, []),
  (32, .aload_n 0, 1, 0, 0, 0, []),
  (33, .getfield 317, 3, 11, 69, 0, [(0, 1127)]),
  (36, .if_icmp .ge 30, 3, 66, 0, 0, []),
  (39, .aload_n 0, 1, 0, 0, 0, []),
  (40, .getfield 129, 3, 11, 59, 0, [(0, 1117)]),
  (43, .iload_n 2, 1, 2, 0, 0, []),
  (44, .iaload, 1, 0, 0, 0, []),
  (45, .ifCond .ne 15, 3, 60, 0, 0, []),
  (48, .aload_n 0, 1, 0, 0, 0, []),
  (49, .iload_n 2, 1, 2, 0, 0, []),
  (50, .invokevirtual 580, 3, 307, 2, 0, [(0, 1524)]),
  (53, .ifCond .eq 7, 3, 60, 0, 0, []),
  (56, .iload_n 1, 1, 1, 0, 0, []),
  (57, .iconst 1, 1, 0, 0, 1, []),
  (58, .iadd, 1, 0, 0, 0, []),
  (59, .istore_n 1, 1, 1, 0, 0, []),
  (60, .iinc 2 1, 3, 2, 0, 1, []),
  (63, .goto (-32), 3, 31, 0, 0, []),
  (66, .iload_n 1, 1, 1, 0, 0, []),
  (67, .ireturn, 1, 0, 0, 0, [])]
/-- NamedToWedModel.wedsOneMore(I)Z -/
def cd_307 : Cod := [(0, .iconst 0, 1, 0, 0, 0, []),
  (1, .istore_n 2, 1, 2, 0, 0, []),
  (2, .iconst 1, 1, 0, 0, 1, []),
  (3, .istore_n 3, 1, 3, 0, 0, []),
  (4, .aload_n 0, 1, 0, 0, 0, []),
  (5, .getfield 174, 3, 11, 78, 0, [(0, 1136)]),
  (8, .iconst 0, 1, 0, 0, 0, []),
  (9, .iload_n 1, 1, 1, 0, 0, []),
  (10, .iastore, 1, 0, 0, 0, []),
  (11, .iconst 0, 1, 0, 0, 0, []),
  (12, .istore 4, 2, 4, 0, 0, []),
  (14, .iload 4, 2, 4, 0, 0, []),
  (16, .iload_n 3, 1, 3, 0, 0, []),
  (17, .if_icmp .ge 113, 3, 130, 0, 0, []),
  (20, .aload_n 0, 1, 0, 0, 0, []),
  (21, .aload_n 0, 1, 0, 0, 0, []),
  (22, .getfield 174, 3, 11, 78, 0, [(0, 1136)]),
  (25, .iload 4, 2, 4, 0, 0, []),
  (27, .iaload, 1, 0, 0, 0, []),
  (28, .invokevirtual 574, 3, 304, 2, 0, [(0, 1514)]),
  (31, .iload_n 2, 1, 2, 0, 0, []),
  (32, .iconst (-1), 1, 0, 0, (-1), []),
  (33, .ixor, 1, 0, 0, 0, []),
  (34, .iand, 1, 0, 0, 0, []),
  (35, .istore 5, 2, 5, 0, 0, []),
  (37, .iload_n 2, 1, 2, 0, 0, []),
  (38, .iload 5, 2, 5, 0, 0, []),
  (40, .ior, 1, 0, 0, 0, []),
  (41, .istore_n 2, 1, 2, 0, 0, []),
  (42, .iconst 0, 1, 0, 0, 0, []),
  (43, .istore 6, 2, 6, 0, 0, []),
  (45, .iload 6, 2, 6, 0, 0, []),
  (47, .aload_n 0, 1, 0, 0, 0, []),
  (48, .getfield 317, 3, 11, 69, 0, [(0, 1127)]),
  (51, .if_icmp .ge 73, 3, 124, 0, 0, []),
  (54, .iload 5, 2, 5, 0, 0, []),
  (56, .iload 6, 2, 6, 0, 0, []),
  (58, .invokestatic 177, 3, 247, 2, 0, [(0, 1330)]),
  (61, .ifCond .ne 6, 3, 67, 0, 0, []),
  (64, .goto 54, 3, 118, 0, 0, []),
  (67, .aload_n 0, 1, 0, 0, 0, []),
  (68, .getfield 171, 3, 11, 77, 0, [(0, 1135)]),
  (71, .iload 6, 2, 6, 0, 0, []),
  (73, .aload_n 0, 1, 0, 0, 0, []),
  (74, .getfield 174, 3, 11, 78, 0, [(0, 1136)]),
  (77, .iload 4, 2, 4, 0, 0, []),
  (79, .iaload, 1, 0, 0, 0, []),
  (80, .iastore, 1, 0, 0, 0, []),
  (81, .aload_n 0, 1, 0, 0, 0, []),
  (82, .getfield 168, 3, 11, 76, 0, [(0, 1134)]),
  (85, .iload 6, 2, 6, 0, 0, []),
  (87, .iaload, 1, 0, 0, 0, []),
  (88, .iconst (-1), 1, 0, 0, (-1), []),
  (89, .if_icmp .ne 12, 3, 101, 0, 0, []),
  (92, .aload_n 0, 1, 0, 0, 0, []),
  (93, .iload_n 1, 1, 1, 0, 0, []),
  (94, .iload 6, 2, 6, 0, 0, []),
  (96, .invokevirtual 577, 3, 308, 3, 0, [(0, 1527)]),
  (99, .iconst 1, 1, 0, 0, 1, []),
  (100, .ireturn, 1, 1, 0, 0, []),
  (101, .aload_n 0, 1, 0, 0, 0, []),
  (102, .getfield 174, 3, 11, 78, 0, [(0, 1136)]),
  (105, .iload_n 3, 1, 3, 0, 0, []),
  (106, .aload_n 0, 1, 0, 0, 0, []),
  (107, .getfield 168, 3, 11, 76, 0, [(0, 1134)]),
  (110, .iload 6, 2, 6, 0, 0, []),
  (112, .iaload, 1, 0, 0, 0, []),
  (113, .iastore, 1, 0, 0, 0, []),
  (114, .iload_n 3, 1, 3, 0, 0, []),
  (115, .iconst 1, 1, 0, 0, 1, []),
  (116, .iadd, 1, 0, 0, 0, []),
  (117, .istore_n 3, 1, 3, 0, 0, []),
  (118, .iinc 6 1, 3, 6, 0, 1, []),
  (121, .goto (-76), 3, 45, 0, 0, []),
  (124, .iinc 4 1, 3, 4, 0, 1, []),
  (127, .goto (-113), 3, 14, 0, 0, []),
  (130, .iconst 0, 1, 0, 0, 0, []),
  (131, .ireturn, 1, 1, 0, 0, [])]
/-- NamedToWedModel.wedsBack(II)V -/
def cd_308 : Cod := [(0, .iload_n 2, 1, 2, 0, 0, []),
  (1, .istore_n 3, 1, 3, 0, 0, []),
  (2, .iload_n 3, 1, 3, 0, 0, []),
  (3, .iconst (-1), 1, 0, 0, (-1), []),
  (4, .if_icmp .eq 52, 3, 56, 0, 0, []),
  (7, .aload_n 0, 1, 0, 0, 0, []),
  (8, .getfield 171, 3, 11, 77, 0, [(0, 1135)]),
  (11, .iload_n 3, 1, 3, 0, 0, []),
  (12, .iaload, 1, 0, 0, 0, []),
  (13, .istore 4, 2, 4, 0, 0, []),
  (15, .iload 4, 2, 4, 0, 0, []),
  (17, .iload_n 1, 1, 1, 0, 0, []),
  (18, .if_icmp .ne 7, 3, 25, 0, 0, []),
  (21, .iconst (-1), 1, 0, 0, (-1), []),
  (22, .goto 10, 3, 32, 0, 0, []),
  (25, .aload_n 0, 1, 0, 0, 0, []),
  (26, .getfield 168, 3, 11, 76, 0, [(0, 1134)]),
  (29, .iload 4, 2, 4, 0, 0, []),
  (31, .iaload, 1, 0, 0, 0, []),
  (32, .istore 5, 2, 5, 0, 0, []),
  (34, .aload_n 0, 1, 0, 0, 0, []),
  (35, .getfield 168, 3, 11, 76, 0, [(0, 1134)]),
  (38, .iload 4, 2, 4, 0, 0, []),
  (40, .iload_n 3, 1, 3, 0, 0, []),
  (41, .iastore, 1, 0, 0, 0, []),
  (42, .aload_n 0, 1, 0, 0, 0, []),
  (43, .getfield 168, 3, 11, 76, 0, [(0, 1134)]),
  (46, .iload_n 3, 1, 3, 0, 0, []),
  (47, .iload 4, 2, 4, 0, 0, []),
  (49, .iastore, 1, 0, 0, 0, []),
  (50, .iload 5, 2, 5, 0, 0, []),
  (52, .istore_n 3, 1, 3, 0, 0, []),
  (53, .goto (-51), 3, 2, 0, 0, []),
  (56, .return_, 1, 0, 0, 0, [])]
/-- NamedToWedModel.line(II)I -/
def cd_309 : Cod := [(0, .aload_n 0, 1, 0, 0, 0, []),
  (1, .iload_n 1, 1, 1, 0, 0, []),
  (2, .invokevirtual 529, 3, 276, 2, 0, [(0, 1424)]),
  (5, .ifCond .ne 5, 3, 10, 0, 0, []),
  (8, .iconst (-1), 1, 0, 0, (-1), []),
  (9, .ireturn, 1, 0, 0, 0, []),
  (10, .iload_n 2, 1, 2, 0, 0, []),
  (11, .tableswitch 51 0 2 #[25, 35, 45], 25, 62, 0, 0, [(0, 36), (1, 46), (2, 56)]),
  (36, .aload_n 0, 1, 0, 0, 0, []),
  (37, .iload_n 1, 1, 1, 0, 0, []),
  (38, .iconst 1, 1, 0, 0, 1, []),
  (39, .invokevirtual 586, 3, 310, 3, 0, [(0, 1534)]),
  (42, .invokestatic 411, 3, 249, 1, 0, [(0, 1336)]),
  (45, .ireturn, 1, 0, 0, 0, []),
  (46, .aload_n 0, 1, 0, 0, 0, []),
  (47, .iload_n 1, 1, 1, 0, 0, []),
  (48, .iconst 0, 1, 0, 0, 0, []),
  (49, .invokevirtual 586, 3, 310, 3, 0, [(0, 1534)]),
  (52, .invokestatic 411, 3, 249, 1, 0, [(0, 1336)]),
  (55, .ireturn, 1, 0, 0, 0, []),
  (56, .aload_n 0, 1, 0, 0, 0, []),
  (57, .iload_n 1, 1, 1, 0, 0, []),
  (58, .invokevirtual 590, 3, 311, 2, 0, [(0, 1537)]),
  (61, .ireturn, 1, 0, 0, 0, []),
  (62, .iconst (-1), 1, 0, 0, (-1), []),
  (63, .ireturn, 1, 0, 0, 0, [])]
/-- NamedToWedModel.comeFrom(IZ)I -/
def cd_310 : Cod := [(0, .iconst 0, 1, 0, 0, 0, []),
  (1, .istore_n 3, 1, 3, 0, 0, []),
  (2, .iconst (-1), 1, 0, 0, (-1), []),
  (3, .istore 4, 2, 4, 0, 0, []),
  (5, .iload_n 3, 1, 3, 0, 0, []),
  (6, .iload 4, 2, 4, 0, 0, []),
  (8, .if_icmp .eq 80, 3, 88, 0, 0, []),
  (11, .iload_n 3, 1, 3, 0, 0, []),
  (12, .istore 4, 2, 4, 0, 0, []),
  (14, .iconst 0, 1, 0, 0, 0, []),
  (15, .istore 5, 2, 5, 0, 0, []),
  (17, .iload 5, 2, 5, 0, 0, []),
  (19, .aload_n 0, 1, 0, 0, 0, []),
  (20, .getfield 317, 3, 11, 69, 0, [(0, 1127)]),
  (23, .if_icmp .ge 62, 3, 85, 0, 0, []),
  (26, .iload 5, 2, 5, 0, 0, []),
  (28, .iload_n 1, 1, 1, 0, 0, []),
  (29, .if_icmp .eq 13, 3, 42, 0, 0, []),
  (32, .iload 4, 2, 4, 0, 0, []),
  (34, .iload 5, 2, 5, 0, 0, []),
  (36, .invokestatic 177, 3, 247, 2, 0, [(0, 1330)]),
  (39, .ifCond .eq 40, 3, 79, 0, 0, []),
  (42, .iload_n 3, 1, 3, 0, 0, []),
  (43, .iload_n 2, 1, 2, 0, 0, []),
  (44, .ifCond .eq 12, 3, 56, 0, 0, []),
  (47, .aload_n 0, 1, 0, 0, 0, []),
  (48, .iload 5, 2, 5, 0, 0, []),
  (50, .invokevirtual 501, 3, 278, 2, 0, [(0, 1430)]),
  (53, .goto 24, 3, 77, 0, 0, []),
  (56, .aload_n 0, 1, 0, 0, 0, []),
  (57, .getfield 135, 3, 11, 61, 0, [(0, 1119)]),
  (60, .iload 5, 2, 5, 0, 0, []),
  (62, .iaload, 1, 0, 0, 0, []),
  (63, .invokestatic 498, 3, 282, 1, 0, [(0, 1442)]),
  (66, .aload_n 0, 1, 0, 0, 0, []),
  (67, .getfield 138, 3, 11, 62, 0, [(0, 1120)]),
  (70, .iload 5, 2, 5, 0, 0, []),
  (72, .iaload, 1, 0, 0, 0, []),
  (73, .invokestatic 498, 3, 282, 1, 0, [(0, 1442)]),
  (76, .ior, 1, 0, 0, 0, []),
  (77, .ior, 1, 0, 0, 0, []),
  (78, .istore_n 3, 1, 3, 0, 0, []),
  (79, .iinc 5 1, 3, 5, 0, 1, []),
  (82, .goto (-65), 3, 17, 0, 0, []),
  (85, .goto (-80), 3, 5, 0, 0, []),
  (88, .iload_n 3, 1, 3, 0, 0, []),
  (89, .ireturn, 1, 0, 0, 0, [])]
/-- NamedToWedModel.generationOf(I)I -/
def cd_311 : Cod := [(0, .iconst 0, 1, 0, 0, 0, []),
  (1, .istore_n 2, 1, 2, 0, 0, []),
  (2, .iload_n 2, 1, 2, 0, 0, []),
  (3, .iload_n 1, 1, 1, 0, 0, []),
  (4, .if_icmp .gt 74, 3, 78, 0, 0, []),
  (7, .iconst 0, 1, 0, 0, 0, []),
  (8, .istore_n 3, 1, 3, 0, 0, []),
  (9, .aload_n 0, 1, 0, 0, 0, []),
  (10, .getfield 135, 3, 11, 61, 0, [(0, 1119)]),
  (13, .iload_n 2, 1, 2, 0, 0, []),
  (14, .iaload, 1, 0, 0, 0, []),
  (15, .iconst (-1), 1, 0, 0, (-1), []),
  (16, .if_icmp .eq 21, 3, 37, 0, 0, []),
  (19, .iload_n 3, 1, 3, 0, 0, []),
  (20, .aload_n 0, 1, 0, 0, 0, []),
  (21, .getfield 162, 3, 11, 74, 0, [(0, 1132)]),
  (24, .aload_n 0, 1, 0, 0, 0, []),
  (25, .getfield 135, 3, 11, 61, 0, [(0, 1119)]),
  (28, .iload_n 2, 1, 2, 0, 0, []),
  (29, .iaload, 1, 0, 0, 0, []),
  (30, .iaload, 1, 0, 0, 0, []),
  (31, .iconst 1, 1, 0, 0, 1, []),
  (32, .iadd, 1, 0, 0, 0, []),
  (33, .invokestatic 583, 3, 312, 2, 0, [(0, 1540)]),
  (36, .istore_n 3, 1, 3, 0, 0, []),
  (37, .aload_n 0, 1, 0, 0, 0, []),
  (38, .getfield 138, 3, 11, 62, 0, [(0, 1120)]),
  (41, .iload_n 2, 1, 2, 0, 0, []),
  (42, .iaload, 1, 0, 0, 0, []),
  (43, .iconst (-1), 1, 0, 0, (-1), []),
  (44, .if_icmp .eq 21, 3, 65, 0, 0, []),
  (47, .iload_n 3, 1, 3, 0, 0, []),
  (48, .aload_n 0, 1, 0, 0, 0, []),
  (49, .getfield 162, 3, 11, 74, 0, [(0, 1132)]),
  (52, .aload_n 0, 1, 0, 0, 0, []),
  (53, .getfield 138, 3, 11, 62, 0, [(0, 1120)]),
  (56, .iload_n 2, 1, 2, 0, 0, []),
  (57, .iaload, 1, 0, 0, 0, []),
  (58, .iaload, 1, 0, 0, 0, []),
  (59, .iconst 1, 1, 0, 0, 1, []),
  (60, .iadd, 1, 0, 0, 0, []),
  (61, .invokestatic 583, 3, 312, 2, 0, [(0, 1540)]),
  (64, .istore_n 3, 1, 3, 0, 0, []),
  (65, .aload_n 0, 1, 0, 0, 0, []),
  (66, .getfield 162, 3, 11, 74, 0, [(0, 1132)]),
  (69, .iload_n 2, 1, 2, 0, 0, []),
  (70, .iload_n 3, 1, 3, 0, 0, []),
  (71, .iastore, 1, 0, 0, 0, []),
  (72, .iinc 2 1, 3, 2, 0, 1, []),
  (75, .goto (-73), 3, 2, 0, 0, []),
  (78, .aload_n 0, 1, 0, 0, 0, []),
  (79, .getfield 162, 3, 11, 74, 0, [(0, 1132)]),
  (82, .iload_n 1, 1, 1, 0, 0, []),
  (83, .iaload, 1, 0, 0, 0, []),
  (84, .ireturn, 1, 0, 0, 0, [])]
/-- NamedToWedModel.max(II)I -/
def cd_312 : Cod := [(0, .iload_n 0, 1, 0, 0, 0, []),
  (1, .iload_n 1, 1, 1, 0, 0, []),
  (2, .if_icmp .le 7, 3, 9, 0, 0, []),
  (5, .iload_n 0, 1, 0, 0, 0, []),
  (6, .goto 4, 3, 10, 0, 0, []),
  (9, .iload_n 1, 1, 1, 0, 0, []),
  (10, .ireturn, 1, 0, 0, 0, [])]
/-- NamedToWedModel.years(I)I -/
def cd_313 : Cod := [(0, .iload_n 1, 1, 1, 0, 0, []),
  (1, .iconst 1, 1, 0, 0, 1, []),
  (2, .bipush 100, 2, 0, 0, 100, []),
  (4, .invokestatic 185, 3, 190, 3, 0, [(0, 1151)]),
  (7, .ifCond .ne 5, 3, 12, 0, 0, []),
  (10, .iconst (-1), 1, 0, 0, (-1), []),
  (11, .ireturn, 1, 0, 0, 0, []),
  (12, .aload_n 0, 1, 0, 0, 0, []),
  (13, .iload_n 1, 1, 1, 0, 0, []),
  (14, .invokevirtual 636, 3, 314, 2, 0, [(0, 1547)]),
  (17, .aload_n 0, 1, 0, 0, 0, []),
  (18, .getfield 615, 3, 11, 79, 0, [(0, 1137)]),
  (21, .ireturn, 1, 0, 0, 0, [])]
/-- NamedToWedModel.yearsGo(I)V -/
def cd_314 : Cod := [(0, .aload_n 0, 1, 0, 0, 0, []),
  (1, .iconst 0, 1, 0, 0, 0, []),
  (2, .putfield 615, 3, 11, 79, 0, [(0, 1137)]),
  (5, .aload_n 0, 1, 0, 0, 0, []),
  (6, .iconst 0, 1, 0, 0, 0, []),
  (7, .putfield 618, 3, 11, 80, 0, [(0, 1138)]),
  (10, .aload_n 0, 1, 0, 0, 0, []),
  (11, .iconst 0, 1, 0, 0, 0, []),
  (12, .putfield 621, 3, 11, 81, 0, [(0, 1139)]),
  (15, .iconst 0, 1, 0, 0, 0, []),
  (16, .istore_n 2, 1, 2, 0, 0, []),
  (17, .iload_n 2, 1, 2, 0, 0, []),
  (18, .iload_n 1, 1, 1, 0, 0, []),
  (19, .if_icmp .ge 26, 3, 45, 0, 0, []),
  (22, .aload_n 0, 1, 0, 0, 0, []),
  (23, .getfield 7, 3, 11, 0, 0, [(0, 1058)]),
  (26, .bipush 18, 2, 0, 0, 18, []),
  (28, .iaload, 1, 0, 0, 0, []),
  (29, .sipush 9999, 3, 0, 0, 9999, []),
  (32, .if_icmp .ge 13, 3, 45, 0, 0, []),
  (35, .aload_n 0, 1, 0, 0, 0, []),
  (36, .invokevirtual 633, 3, 315, 1, 0, [(0, 1550)]),
  (39, .iinc 2 1, 3, 2, 0, 1, []),
  (42, .goto (-25), 3, 17, 0, 0, []),
  (45, .return_, 1, 0, 0, 0, [])]
/-- NamedToWedModel.yearGoes()V -/
def cd_315 : Cod := [(0, .iconst 0, 1, 0, 0, 0, []),
  (1, .istore_n 1, 1, 1, 0, 0, []),
  (2, .iload_n 1, 1, 1, 0, 0, []),
  (3, .aload_n 0, 1, 0, 0, 0, []),
  (4, .getfield 181, 3, 11, 5, 0, [(0, 1063)]),
  (7, .if_icmp .ge 14, 3, 21, 0, 0, []),
  (10, .aload_n 0, 1, 0, 0, 0, []),
  (11, .iload_n 1, 1, 1, 0, 0, []),
  (12, .invokevirtual 624, 3, 316, 2, 0, [(0, 1553)]),
  (15, .iinc 1 1, 3, 1, 0, 1, []),
  (18, .goto (-16), 3, 2, 0, 0, []),
  (21, .iconst 0, 1, 0, 0, 0, []),
  (22, .istore_n 1, 1, 1, 0, 0, []),
  (23, .iload_n 1, 1, 1, 0, 0, []),
  (24, .aload_n 0, 1, 0, 0, 0, []),
  (25, .getfield 181, 3, 11, 5, 0, [(0, 1063)]),
  (28, .if_icmp .ge 14, 3, 42, 0, 0, []),
  (31, .aload_n 0, 1, 0, 0, 0, []),
  (32, .iload_n 1, 1, 1, 0, 0, []),
  (33, .invokevirtual 627, 3, 325, 2, 0, [(0, 1581)]),
  (36, .iinc 1 1, 3, 1, 0, 1, []),
  (39, .goto (-16), 3, 23, 0, 0, []),
  (42, .iconst 0, 1, 0, 0, 0, []),
  (43, .istore_n 1, 1, 1, 0, 0, []),
  (44, .iload_n 1, 1, 1, 0, 0, []),
  (45, .aload_n 0, 1, 0, 0, 0, []),
  (46, .getfield 181, 3, 11, 5, 0, [(0, 1063)]),
  (49, .if_icmp .ge 14, 3, 63, 0, 0, []),
  (52, .aload_n 0, 1, 0, 0, 0, []),
  (53, .iload_n 1, 1, 1, 0, 0, []),
  (54, .invokevirtual 630, 3, 326, 2, 0, [(0, 1584)]),
  (57, .iinc 1 1, 3, 1, 0, 1, []),
  (60, .goto (-16), 3, 44, 0, 0, []),
  (63, .aload_n 0, 1, 0, 0, 0, []),
  (64, .getfield 7, 3, 11, 0, 0, [(0, 1058)]),
  (67, .bipush 18, 2, 0, 0, 18, []),
  (69, .aload_n 0, 1, 0, 0, 0, []),
  (70, .getfield 7, 3, 11, 0, 0, [(0, 1058)]),
  (73, .bipush 18, 2, 0, 0, 18, []),
  (75, .iaload, 1, 0, 0, 0, []),
  (76, .iconst 1, 1, 0, 0, 1, []),
  (77, .iadd, 1, 0, 0, 0, []),
  (78, .iastore, 1, 0, 0, 0, []),
  (79, .return_, 1, 0, 0, 0, [])]
/-- NamedToWedModel.weds(I)V -/
def cd_316 : Cod := [(0, .aload_n 0, 1, 0, 0, 0, []),
  (1, .iload_n 1, 1, 1, 0, 0, []),
  (2, .invokevirtual 606, 3, 317, 2, 0, [(0, 1556)]),
  (5, .aload_n 0, 1, 0, 0, 0, []),
  (6, .bipush 120, 2, 0, 0, 120, []),
  (8, .invokevirtual 609, 3, 321, 2, 0, [(0, 1569)]),
  (11, .ifCond .eq 4, 3, 15, 0, 0, []),
  (14, .return_, 1, 0, 0, 0, []),
  (15, .aload_n 0, 1, 0, 0, 0, []),
  (16, .getfield 7, 3, 11, 0, 0, [(0, 1058)]),
  (19, .iconst 0, 1, 0, 0, 0, []),
  (20, .iload_n 1, 1, 1, 0, 0, []),
  (21, .iadd, 1, 0, 0, 0, []),
  (22, .iaload, 1, 0, 0, 0, []),
  (23, .aload_n 0, 1, 0, 0, 0, []),
  (24, .getfield 7, 3, 11, 0, 0, [(0, 1058)]),
  (27, .bipush 6, 2, 0, 0, 6, []),
  (29, .aload_n 0, 1, 0, 0, 0, []),
  (30, .getfield 19, 3, 11, 3, 0, [(0, 1061)]),
  (33, .iload_n 1, 1, 1, 0, 0, []),
  (34, .iaload, 1, 0, 0, 0, []),
  (35, .iadd, 1, 0, 0, 0, []),
  (36, .iaload, 1, 0, 0, 0, []),
  (37, .invokestatic 427, 3, 254, 2, 0, [(0, 1353)]),
  (40, .istore_n 2, 1, 2, 0, 0, []),
  (41, .iload_n 2, 1, 2, 0, 0, []),
  (42, .aload_n 0, 1, 0, 0, 0, []),
  (43, .bipush 119, 2, 0, 0, 119, []),
  (45, .bipush 100, 2, 0, 0, 100, []),
  (47, .bipush 50, 2, 0, 0, 50, []),
  (49, .invokevirtual 612, 3, 324, 4, 0, [(0, 1578)]),
  (52, .imul, 1, 0, 0, 0, []),
  (53, .bipush 100, 2, 0, 0, 100, []),
  (55, .idiv, 1, 0, 0, 0, []),
  (56, .sipush 9999, 3, 0, 0, 9999, []),
  (59, .aload_n 0, 1, 0, 0, 0, []),
  (60, .getfield 7, 3, 11, 0, 0, [(0, 1058)]),
  (63, .bipush 12, 2, 0, 0, 12, []),
  (65, .iload_n 1, 1, 1, 0, 0, []),
  (66, .iadd, 1, 0, 0, 0, []),
  (67, .iaload, 1, 0, 0, 0, []),
  (68, .isub, 1, 0, 0, 0, []),
  (69, .invokestatic 427, 3, 254, 2, 0, [(0, 1353)]),
  (72, .istore_n 3, 1, 3, 0, 0, []),
  (73, .aload_n 0, 1, 0, 0, 0, []),
  (74, .getfield 7, 3, 11, 0, 0, [(0, 1058)]),
  (77, .iconst 0, 1, 0, 0, 0, []),
  (78, .iload_n 1, 1, 1, 0, 0, []),
  (79, .iadd, 1, 0, 0, 0, []),
  (80, .aload_n 0, 1, 0, 0, 0, []),
  (81, .getfield 7, 3, 11, 0, 0, [(0, 1058)]),
  (84, .iconst 0, 1, 0, 0, 0, []),
  (85, .iload_n 1, 1, 1, 0, 0, []),
  (86, .iadd, 1, 0, 0, 0, []),
  (87, .iaload, 1, 0, 0, 0, []),
  (88, .iload_n 3, 1, 3, 0, 0, []),
  (89, .isub, 1, 0, 0, 0, []),
  (90, .iastore, 1, 0, 0, 0, []),
  (91, .aload_n 0, 1, 0, 0, 0, []),
  (92, .getfield 7, 3, 11, 0, 0, [(0, 1058)]),
  (95, .bipush 6, 2, 0, 0, 6, []),
  (97, .aload_n 0, 1, 0, 0, 0, []),
  (98, .getfield 19, 3, 11, 3, 0, [(0, 1061)]),
  (101, .iload_n 1, 1, 1, 0, 0, []),
  (102, .iaload, 1, 0, 0, 0, []),
  (103, .iadd, 1, 0, 0, 0, []),
  (104, .aload_n 0, 1, 0, 0, 0, []),
  (105, .getfield 7, 3, 11, 0, 0, [(0, 1058)]),
  (108, .bipush 6, 2, 0, 0, 6, []),
  (110, .aload_n 0, 1, 0, 0, 0, []),
  (111, .getfield 19, 3, 11, 3, 0, [(0, 1061)]),
  (114, .iload_n 1, 1, 1, 0, 0, []),
  (115, .iaload, 1, 0, 0, 0, []),
  (116, .iadd, 1, 0, 0, 0, []),
  (117, .iaload, 1, 0, 0, 0, []),
  (118, .iload_n 3, 1, 3, 0, 0, []),
  (119, .isub, 1, 0, 0, 0, []),
  (120, .iastore, 1, 0, 0, 0, []),
  (121, .aload_n 0, 1, 0, 0, 0, []),
  (122, .getfield 7, 3, 11, 0, 0, [(0, 1058)]),
  (125, .bipush 12, 2, 0, 0, 12, []),
  (127, .iload_n 1, 1, 1, 0, 0, []),
  (128, .iadd, 1, 0, 0, 0, []),
  (129, .aload_n 0, 1, 0, 0, 0, []),
  (130, .getfield 7, 3, 11, 0, 0, [(0, 1058)]),
  (133, .bipush 12, 2, 0, 0, 12, []),
  (135, .iload_n 1, 1, 1, 0, 0, []),
  (136, .iadd, 1, 0, 0, 0, []),
  (137, .iaload, 1, 0, 0, 0, []),
  (138, .iload_n 3, 1, 3, 0, 0, []),
  (139, .iadd, 1, 0, 0, 0, []),
  (140, .iastore, 1, 0, 0, 0, []),
  (141, .aload_n 0, 1, 0, 0, 0, []),
  (142, .aload_n 0, 1, 0, 0, 0, []),
  (143, .getfield 615, 3, 11, 79, 0, [(0, 1137)]),
  (146, .iload_n 3, 1, 3, 0, 0, []),
  (147, .iadd, 1, 0, 0, 0, []),
  (148, .putfield 615, 3, 11, 79, 0, [(0, 1137)]),
  (151, .return_, 1, 0, 0, 0, [])]
/-- NamedToWedModel.feels(I)V -/
def cd_317 : Cod := [(0, .aload_n 0, 1, 0, 0, 0, []),
  (1, .aload_n 0, 1, 0, 0, 0, []),
  (2, .invokevirtual 594, 3, 318, 1, 0, [(0, 1559)]),
  (5, .putfield 597, 3, 11, 82, 0, [(0, 1140)]),
  (8, .aload_n 0, 1, 0, 0, 0, []),
  (9, .getfield 65, 3, 11, 29, 0, [(0, 1087)]),
  (12, .iconst 0, 1, 0, 0, 0, []),
  (13, .iload_n 1, 1, 1, 0, 0, []),
  (14, .iastore, 1, 0, 0, 0, []),
  (15, .aload_n 0, 1, 0, 0, 0, []),
  (16, .getfield 65, 3, 11, 29, 0, [(0, 1087)]),
  (19, .iconst 1, 1, 0, 0, 1, []),
  (20, .aload_n 0, 1, 0, 0, 0, []),
  (21, .getfield 7, 3, 11, 0, 0, [(0, 1058)]),
  (24, .iconst 0, 1, 0, 0, 0, []),
  (25, .iload_n 1, 1, 1, 0, 0, []),
  (26, .iadd, 1, 0, 0, 0, []),
  (27, .iaload, 1, 0, 0, 0, []),
  (28, .iastore, 1, 0, 0, 0, []),
  (29, .aload_n 0, 1, 0, 0, 0, []),
  (30, .getfield 65, 3, 11, 29, 0, [(0, 1087)]),
  (33, .iconst 2, 1, 0, 0, 2, []),
  (34, .aload_n 0, 1, 0, 0, 0, []),
  (35, .getfield 7, 3, 11, 0, 0, [(0, 1058)]),
  (38, .bipush 6, 2, 0, 0, 6, []),
  (40, .aload_n 0, 1, 0, 0, 0, []),
  (41, .getfield 19, 3, 11, 3, 0, [(0, 1061)]),
  (44, .iload_n 1, 1, 1, 0, 0, []),
  (45, .iaload, 1, 0, 0, 0, []),
  (46, .iadd, 1, 0, 0, 0, []),
  (47, .iaload, 1, 0, 0, 0, []),
  (48, .iastore, 1, 0, 0, 0, []),
  (49, .aload_n 0, 1, 0, 0, 0, []),
  (50, .getfield 65, 3, 11, 29, 0, [(0, 1087)]),
  (53, .iconst 3, 1, 0, 0, 3, []),
  (54, .aload_n 0, 1, 0, 0, 0, []),
  (55, .getfield 7, 3, 11, 0, 0, [(0, 1058)]),
  (58, .bipush 12, 2, 0, 0, 12, []),
  (60, .iload_n 1, 1, 1, 0, 0, []),
  (61, .iadd, 1, 0, 0, 0, []),
  (62, .iaload, 1, 0, 0, 0, []),
  (63, .iastore, 1, 0, 0, 0, []),
  (64, .aload_n 0, 1, 0, 0, 0, []),
  (65, .getfield 65, 3, 11, 29, 0, [(0, 1087)]),
  (68, .iconst 4, 1, 0, 0, 4, []),
  (69, .aload_n 0, 1, 0, 0, 0, []),
  (70, .iload_n 1, 1, 1, 0, 0, []),
  (71, .invokevirtual 600, 3, 319, 2, 0, [(0, 1563)]),
  (74, .iastore, 1, 0, 0, 0, []),
  (75, .aload_n 0, 1, 0, 0, 0, []),
  (76, .getfield 65, 3, 11, 29, 0, [(0, 1087)]),
  (79, .iconst 5, 1, 0, 0, 5, []),
  (80, .aload_n 0, 1, 0, 0, 0, []),
  (81, .invokevirtual 603, 3, 320, 1, 0, [(0, 1566)]),
  (84, .iastore, 1, 0, 0, 0, []),
  (85, .aload_n 0, 1, 0, 0, 0, []),
  (86, .getfield 65, 3, 11, 29, 0, [(0, 1087)]),
  (89, .bipush 6, 2, 0, 0, 6, []),
  (91, .aload_n 0, 1, 0, 0, 0, []),
  (92, .getfield 7, 3, 11, 0, 0, [(0, 1058)]),
  (95, .bipush 18, 2, 0, 0, 18, []),
  (97, .iaload, 1, 0, 0, 0, []),
  (98, .bipush 100, 2, 0, 0, 100, []),
  (100, .irem, 1, 0, 0, 0, []),
  (101, .iastore, 1, 0, 0, 0, []),
  (102, .aload_n 0, 1, 0, 0, 0, []),
  (103, .getfield 65, 3, 11, 29, 0, [(0, 1087)]),
  (106, .bipush 7, 2, 0, 0, 7, []),
  (108, .aload_n 0, 1, 0, 0, 0, []),
  (109, .getfield 597, 3, 11, 82, 0, [(0, 1140)]),
  (112, .iastore, 1, 0, 0, 0, []),
  (113, .return_, 1, 0, 0, 0, [])]
/-- NamedToWedModel.draws()I -/
def cd_318 : Cod := [(0, .aload_n 0, 1, 0, 0, 0, []),
  (1, .getfield 7, 3, 11, 0, 0, [(0, 1058)]),
  (4, .bipush 19, 2, 0, 0, 19, []),
  (6, .sipush 25173, 3, 0, 0, 25173, []),
  (9, .aload_n 0, 1, 0, 0, 0, []),
  (10, .getfield 7, 3, 11, 0, 0, [(0, 1058)]),
  (13, .bipush 19, 2, 0, 0, 19, []),
  (15, .iaload, 1, 0, 0, 0, []),
  (16, .imul, 1, 0, 0, 0, []),
  (17, .sipush 13849, 3, 0, 0, 13849, []),
  (20, .iadd, 1, 0, 0, 0, []),
  (21, .ldc_w 593, 3, 0, 1, 65536, [(2, 1562)]),
  (24, .irem, 1, 0, 0, 0, []),
  (25, .iastore, 1, 0, 0, 0, []),
  (26, .aload_n 0, 1, 0, 0, 0, []),
  (27, .getfield 7, 3, 11, 0, 0, [(0, 1058)]),
  (30, .bipush 19, 2, 0, 0, 19, []),
  (32, .iaload, 1, 0, 0, 0, []),
  (33, .bipush 10, 2, 0, 0, 10, []),
  (35, .irem, 1, 0, 0, 0, []),
  (36, .ireturn, 1, 0, 0, 0, [])]
/-- NamedToWedModel.allOfName(I)I -/
def cd_319 : Cod := [(0, .aload_n 0, 1, 0, 0, 0, []),
  (1, .getfield 7, 3, 11, 0, 0, [(0, 1058)]),
  (4, .iconst 0, 1, 0, 0, 0, []),
  (5, .iload_n 1, 1, 1, 0, 0, []),
  (6, .iadd, 1, 0, 0, 0, []),
  (7, .iaload, 1, 0, 0, 0, []),
  (8, .aload_n 0, 1, 0, 0, 0, []),
  (9, .getfield 7, 3, 11, 0, 0, [(0, 1058)]),
  (12, .bipush 6, 2, 0, 0, 6, []),
  (14, .iload_n 1, 1, 1, 0, 0, []),
  (15, .iadd, 1, 0, 0, 0, []),
  (16, .iaload, 1, 0, 0, 0, []),
  (17, .iadd, 1, 0, 0, 0, []),
  (18, .aload_n 0, 1, 0, 0, 0, []),
  (19, .getfield 7, 3, 11, 0, 0, [(0, 1058)]),
  (22, .bipush 12, 2, 0, 0, 12, []),
  (24, .iload_n 1, 1, 1, 0, 0, []),
  (25, .iadd, 1, 0, 0, 0, []),
  (26, .iaload, 1, 0, 0, 0, []),
  (27, .iadd, 1, 0, 0, 0, []),
  (28, .aload_n 0, 1, 0, 0, 0, []),
  (29, .getfield 7, 3, 11, 0, 0, [(0, 1058)]),
  (32, .bipush 12, 2, 0, 0, 12, []),
  (34, .aload_n 0, 1, 0, 0, 0, []),
  (35, .getfield 19, 3, 11, 3, 0, [(0, 1061)]),
  (38, .iload_n 1, 1, 1, 0, 0, []),
  (39, .invokestatic 356, 3, 232, 2, 0, [(0, 1282)]),
  (42, .iadd, 1, 0, 0, 0, []),
  (43, .iaload, 1, 0, 0, 0, []),
  (44, .iadd, 1, 0, 0, 0, []),
  (45, .ireturn, 1, 0, 0, 0, [])]
/-- NamedToWedModel.allOfVillage()I -/
def cd_320 : Cod := [(0, .iconst 0, 1, 0, 0, 0, []),
  (1, .istore_n 1, 1, 1, 0, 0, []),
  (2, .iconst 0, 1, 0, 0, 0, []),
  (3, .istore_n 2, 1, 2, 0, 0, []),
  (4, .iload_n 2, 1, 2, 0, 0, []),
  (5, .aload_n 0, 1, 0, 0, 0, []),
  (6, .getfield 181, 3, 11, 5, 0, [(0, 1063)]),
  (9, .if_icmp .ge 42, 3, 51, 0, 0, []),
  (12, .iload_n 1, 1, 1, 0, 0, []),
  (13, .aload_n 0, 1, 0, 0, 0, []),
  (14, .getfield 7, 3, 11, 0, 0, [(0, 1058)]),
  (17, .iconst 0, 1, 0, 0, 0, []),
  (18, .iload_n 2, 1, 2, 0, 0, []),
  (19, .iadd, 1, 0, 0, 0, []),
  (20, .iaload, 1, 0, 0, 0, []),
  (21, .iadd, 1, 0, 0, 0, []),
  (22, .aload_n 0, 1, 0, 0, 0, []),
  (23, .getfield 7, 3, 11, 0, 0, [(0, 1058)]),
  (26, .bipush 6, 2, 0, 0, 6, []),
  (28, .iload_n 2, 1, 2, 0, 0, []),
  (29, .iadd, 1, 0, 0, 0, []),
  (30, .iaload, 1, 0, 0, 0, []),
  (31, .iadd, 1, 0, 0, 0, []),
  (32, .iconst 2, 1, 0, 0, 2, []),
  (33, .aload_n 0, 1, 0, 0, 0, []),
  (34, .getfield 7, 3, 11, 0, 0, [(0, 1058)]),
  (37, .bipush 12, 2, 0, 0, 12, []),
  (39, .iload_n 2, 1, 2, 0, 0, []),
  (40, .iadd, 1, 0, 0, 0, []),
  (41, .iaload, 1, 0, 0, 0, []),
  (42, .imul, 1, 0, 0, 0, []),
  (43, .iadd, 1, 0, 0, 0, []),
  (44, .istore_n 1, 1, 1, 0, 0, []),
  (45, .iinc 2 1, 3, 2, 0, 1, []),
  (48, .goto (-44), 3, 4, 0, 0, []),
  (51, .iload_n 1, 1, 1, 0, 0, []),
  (52, .ireturn, 1, 0, 0, 0, [])]
/-- NamedToWedModel.holdsAny(I)Z -/
def cd_321 : Cod := [(0, .iconst 0, 1, 0, 0, 0, []),
  (1, .istore_n 2, 1, 2, 0, 0, []),
  (2, .iload_n 2, 1, 2, 0, 0, []),
  (3, .aload_n 0, 1, 0, 0, 0, []),
  (4, .getfield 293, 3, 11, 16, 0, [(0, 1074)]),
  (7, .if_icmp .ge 41, 3, 48, 0, 0, []),
  (10, .aload_n 0, 1, 0, 0, 0, []),
  (11, .getfield 50, 3, 11, 24, 0, [(0, 1082)]),
  (14, .iload_n 2, 1, 2, 0, 0, []),
  (15, .iaload, 1, 0, 0, 0, []),
  (16, .iload_n 1, 1, 1, 0, 0, []),
  (17, .if_icmp .ne 25, 3, 42, 0, 0, []),
  (20, .aload_n 0, 1, 0, 0, 0, []),
  (21, .aload_n 0, 1, 0, 0, 0, []),
  (22, .getfield 56, 3, 11, 26, 0, [(0, 1084)]),
  (25, .iload_n 2, 1, 2, 0, 0, []),
  (26, .iaload, 1, 0, 0, 0, []),
  (27, .aload_n 0, 1, 0, 0, 0, []),
  (28, .getfield 59, 3, 11, 27, 0, [(0, 1085)]),
  (31, .iload_n 2, 1, 2, 0, 0, []),
  (32, .iaload, 1, 0, 0, 0, []),
  (33, .invokevirtual 300, 3, 322, 3, 0, [(0, 1572)]),
  (36, .iconst 1, 1, 0, 0, 1, []),
  (37, .if_icmp .ne 5, 3, 42, 0, 0, []),
  (40, .iconst 1, 1, 0, 0, 1, []),
  (41, .ireturn, 1, 1, 0, 0, []),
  (42, .iinc 2 1, 3, 2, 0, 1, []),
  (45, .goto (-43), 3, 2, 0, 0, []),
  (48, .iconst 0, 1, 0, 0, 0, []),
  (49, .ireturn, 1, 1, 0, 0, [])]
/-- NamedToWedModel.reckonsTo(II)I -/
def cd_322 : Cod := [(0, .iconst 0, 1, 0, 0, 0, []),
  (1, .istore_n 3, 1, 3, 0, 0, []),
  (2, .sipush 260, 3, 0, 0, 260, []),
  (5, .iload_n 1, 1, 1, 0, 0, []),
  (6, .sipush 260, 3, 0, 0, 260, []),
  (9, .idiv, 1, 0, 0, 0, []),
  (10, .imul, 1, 0, 0, 0, []),
  (11, .istore 4, 2, 4, 0, 0, []),
  (13, .iload_n 1, 1, 1, 0, 0, []),
  (14, .istore 5, 2, 5, 0, 0, []),
  (16, .iload 5, 2, 5, 0, 0, []),
  (18, .iload_n 2, 1, 2, 0, 0, []),
  (19, .if_icmp .ge 214, 3, 233, 0, 0, []),
  (22, .aload_n 0, 1, 0, 0, 0, []),
  (23, .getfield 47, 3, 11, 23, 0, [(0, 1081)]),
  (26, .iload 5, 2, 5, 0, 0, []),
  (28, .iaload, 1, 0, 0, 0, []),
  (29, .ldc 226, 2, 0, 1, 1048576, [(5, 1186)]),
  (31, .idiv, 1, 0, 0, 0, []),
  (32, .istore 6, 2, 6, 0, 0, []),
  (34, .aload_n 0, 1, 0, 0, 0, []),
  (35, .getfield 47, 3, 11, 23, 0, [(0, 1081)]),
  (38, .iload 5, 2, 5, 0, 0, []),
  (40, .iaload, 1, 0, 0, 0, []),
  (41, .ldc 226, 2, 0, 1, 1048576, [(5, 1186)]),
  (43, .irem, 1, 0, 0, 0, []),
  (44, .istore 7, 2, 7, 0, 0, []),
  (46, .iload 5, 2, 5, 0, 0, []),
  (48, .iconst 1, 1, 0, 0, 1, []),
  (49, .iadd, 1, 0, 0, 0, []),
  (50, .istore 5, 2, 5, 0, 0, []),
  (52, .iload 6, 2, 6, 0, 0, []),
  (54, .ifCond .eq 9, 3, 63, 0, 0, []),
  (57, .iload 6, 2, 6, 0, 0, []),
  (59, .iconst 1, 1, 0, 0, 1, []),
  (60, .if_icmp .ne 33, 3, 93, 0, 0, []),
  (63, .aload_n 0, 1, 0, 0, 0, []),
  (64, .getfield 62, 3, 11, 28, 0, [(0, 1086)]),
  (67, .iload_n 3, 1, 3, 0, 0, []),
  (68, .iload 6, 2, 6, 0, 0, []),
  (70, .ifCond .ne 8, 3, 78, 0, 0, []),
  (73, .iload 7, 2, 7, 0, 0, []),
  (75, .goto 10, 3, 85, 0, 0, []),
  (78, .aload_n 0, 1, 0, 0, 0, []),
  (79, .getfield 65, 3, 11, 29, 0, [(0, 1087)]),
  (82, .iload 7, 2, 7, 0, 0, []),
  (84, .iaload, 1, 0, 0, 0, []),
  (85, .iastore, 1, 0, 0, 0, []),
  (86, .iload_n 3, 1, 3, 0, 0, []),
  (87, .iconst 1, 1, 0, 0, 1, []),
  (88, .iadd, 1, 0, 0, 0, []),
  (89, .istore_n 3, 1, 3, 0, 0, []),
  (90, .goto 140, 3, 230, 0, 0, []),
  (93, .iload 6, 2, 6, 0, 0, []),
  (95, .bipush 10, 2, 0, 0, 10, []),
  (97, .if_icmp .ne 24, 3, 121, 0, 0, []),
  (100, .aload_n 0, 1, 0, 0, 0, []),
  (101, .getfield 62, 3, 11, 28, 0, [(0, 1086)]),
  (104, .iload_n 3, 1, 3, 0, 0, []),
  (105, .iconst 1, 1, 0, 0, 1, []),
  (106, .isub, 1, 0, 0, 0, []),
  (107, .iconst 1, 1, 0, 0, 1, []),
  (108, .aload_n 0, 1, 0, 0, 0, []),
  (109, .getfield 62, 3, 11, 28, 0, [(0, 1086)]),
  (112, .iload_n 3, 1, 3, 0, 0, []),
  (113, .iconst 1, 1, 0, 0, 1, []),
  (114, .isub, 1, 0, 0, 0, []),
  (115, .iaload, 1, 0, 0, 0, []),
  (116, .isub, 1, 0, 0, 0, []),
  (117, .iastore, 1, 0, 0, 0, []),
  (118, .goto 112, 3, 230, 0, 0, []),
  (121, .iload 6, 2, 6, 0, 0, []),
  (123, .bipush 11, 2, 0, 0, 11, []),
  (125, .if_icmp .eq 10, 3, 135, 0, 0, []),
  (128, .iload 6, 2, 6, 0, 0, []),
  (130, .bipush 12, 2, 0, 0, 12, []),
  (132, .if_icmp .ne 43, 3, 175, 0, 0, []),
  (135, .aload_n 0, 1, 0, 0, 0, []),
  (136, .getfield 62, 3, 11, 28, 0, [(0, 1086)]),
  (139, .iload_n 3, 1, 3, 0, 0, []),
  (140, .iconst 1, 1, 0, 0, 1, []),
  (141, .isub, 1, 0, 0, 0, []),
  (142, .iaload, 1, 0, 0, 0, []),
  (143, .iload 6, 2, 6, 0, 0, []),
  (145, .bipush 12, 2, 0, 0, 12, []),
  (147, .if_icmp .ne 7, 3, 154, 0, 0, []),
  (150, .iconst 1, 1, 0, 0, 1, []),
  (151, .goto 4, 3, 155, 0, 0, []),
  (154, .iconst 0, 1, 0, 0, 0, []),
  (155, .if_icmp .ne 13, 3, 168, 0, 0, []),
  (158, .iload 4, 2, 4, 0, 0, []),
  (160, .iload 7, 2, 7, 0, 0, []),
  (162, .iadd, 1, 0, 0, 0, []),
  (163, .istore 5, 2, 5, 0, 0, []),
  (165, .goto 65, 3, 230, 0, 0, []),
  (168, .iload_n 3, 1, 3, 0, 0, []),
  (169, .iconst 1, 1, 0, 0, 1, []),
  (170, .isub, 1, 0, 0, 0, []),
  (171, .istore_n 3, 1, 3, 0, 0, []),
  (172, .goto 58, 3, 230, 0, 0, []),
  (175, .iload_n 3, 1, 3, 0, 0, []),
  (176, .iconst 1, 1, 0, 0, 1, []),
  (177, .isub, 1, 0, 0, 0, []),
  (178, .istore_n 3, 1, 3, 0, 0, []),
  (179, .iload 6, 2, 6, 0, 0, []),
  (181, .iconst 5, 1, 0, 0, 5, []),
  (182, .if_icmp .eq 10, 3, 192, 0, 0, []),
  (185, .iload 6, 2, 6, 0, 0, []),
  (187, .bipush 6, 2, 0, 0, 6, []),
  (189, .if_icmp .ne 14, 3, 203, 0, 0, []),
  (192, .aload_n 0, 1, 0, 0, 0, []),
  (193, .getfield 62, 3, 11, 28, 0, [(0, 1086)]),
  (196, .iload_n 3, 1, 3, 0, 0, []),
  (197, .iaload, 1, 0, 0, 0, []),
  (198, .ifCond .ne 5, 3, 203, 0, 0, []),
  (201, .iconst 0, 1, 0, 0, 0, []),
  (202, .ireturn, 1, 0, 0, 0, []),
  (203, .aload_n 0, 1, 0, 0, 0, []),
  (204, .getfield 62, 3, 11, 28, 0, [(0, 1086)]),
  (207, .iload_n 3, 1, 3, 0, 0, []),
  (208, .iconst 1, 1, 0, 0, 1, []),
  (209, .isub, 1, 0, 0, 0, []),
  (210, .iload 6, 2, 6, 0, 0, []),
  (212, .aload_n 0, 1, 0, 0, 0, []),
  (213, .getfield 62, 3, 11, 28, 0, [(0, 1086)]),
  (216, .iload_n 3, 1, 3, 0, 0, []),
  (217, .iconst 1, 1, 0, 0, 1, []),
  (218, .isub, 1, 0, 0, 0, []),
  (219, .iaload, 1, 0, 0, 0, []),
  (220, .aload_n 0, 1, 0, 0, 0, []),
  (221, .getfield 62, 3, 11, 28, 0, [(0, 1086)]),
  (224, .iload_n 3, 1, 3, 0, 0, []),
  (225, .iaload, 1, 0, 0, 0, []),
  (226, .invokestatic 296, 3, 323, 3, 0, [(0, 1575)]),
  (229, .iastore, 1, 0, 0, 0, []),
  (230, .goto (-214), 3, 16, 0, 0, []),
  (233, .aload_n 0, 1, 0, 0, 0, []),
  (234, .getfield 62, 3, 11, 28, 0, [(0, 1086)]),
  (237, .iconst 0, 1, 0, 0, 0, []),
  (238, .iaload, 1, 0, 0, 0, []),
  (239, .ireturn, 1, 0, 0, 0, [])]
/-- NamedToWedModel.reckon(III)I -/
def cd_323 : Cod := [(0, .iload_n 0, 1, 0, 0, 0, []),
  (1, .tableswitch 85 2 8 #[43, 47, 51, 55, 59, 63, 74], 43, 86, 0, 0, [(2, 44), (3, 48), (4, 52), (5, 56), (6, 60), (7, 64), (8, 75)]),
  (44, .iload_n 1, 1, 1, 0, 0, []),
  (45, .iload_n 2, 1, 2, 0, 0, []),
  (46, .iadd, 1, 0, 0, 0, []),
  (47, .ireturn, 1, 0, 0, 0, []),
  (48, .iload_n 1, 1, 1, 0, 0, []),
  (49, .iload_n 2, 1, 2, 0, 0, []),
  (50, .isub, 1, 0, 0, 0, []),
  (51, .ireturn, 1, 0, 0, 0, []),
  (52, .iload_n 1, 1, 1, 0, 0, []),
  (53, .iload_n 2, 1, 2, 0, 0, []),
  (54, .imul, 1, 0, 0, 0, []),
  (55, .ireturn, 1, 0, 0, 0, []),
  (56, .iload_n 1, 1, 1, 0, 0, []),
  (57, .iload_n 2, 1, 2, 0, 0, []),
  (58, .idiv, 1, 0, 0, 0, []),
  (59, .ireturn, 1, 0, 0, 0, []),
  (60, .iload_n 1, 1, 1, 0, 0, []),
  (61, .iload_n 2, 1, 2, 0, 0, []),
  (62, .irem, 1, 0, 0, 0, []),
  (63, .ireturn, 1, 0, 0, 0, []),
  (64, .iload_n 1, 1, 1, 0, 0, []),
  (65, .iload_n 2, 1, 2, 0, 0, []),
  (66, .if_icmp .ge 7, 3, 73, 0, 0, []),
  (69, .iconst 1, 1, 0, 0, 1, []),
  (70, .goto 4, 3, 74, 0, 0, []),
  (73, .iconst 0, 1, 0, 0, 0, []),
  (74, .ireturn, 1, 0, 0, 0, []),
  (75, .iload_n 1, 1, 1, 0, 0, []),
  (76, .iload_n 2, 1, 2, 0, 0, []),
  (77, .if_icmp .le 7, 3, 84, 0, 0, []),
  (80, .iconst 1, 1, 0, 0, 1, []),
  (81, .goto 4, 3, 85, 0, 0, []),
  (84, .iconst 0, 1, 0, 0, 0, []),
  (85, .ireturn, 1, 0, 0, 0, []),
  (86, .iload_n 1, 1, 1, 0, 0, []),
  (87, .iload_n 2, 1, 2, 0, 0, []),
  (88, .if_icmp .ne 7, 3, 95, 0, 0, []),
  (91, .iconst 1, 1, 0, 0, 1, []),
  (92, .goto 4, 3, 96, 0, 0, []),
  (95, .iconst 0, 1, 0, 0, 0, []),
  (96, .ireturn, 1, 0, 0, 0, [])]
/-- NamedToWedModel.byLaw(III)I -/
def cd_324 : Cod := [(0, .iconst 0, 1, 0, 0, 0, []),
  (1, .istore 4, 2, 4, 0, 0, []),
  (3, .iload 4, 2, 4, 0, 0, []),
  (5, .aload_n 0, 1, 0, 0, 0, []),
  (6, .getfield 293, 3, 11, 16, 0, [(0, 1074)]),
  (9, .if_icmp .ge 87, 3, 96, 0, 0, []),
  (12, .aload_n 0, 1, 0, 0, 0, []),
  (13, .getfield 50, 3, 11, 24, 0, [(0, 1082)]),
  (16, .iload 4, 2, 4, 0, 0, []),
  (18, .iaload, 1, 0, 0, 0, []),
  (19, .iload_n 1, 1, 1, 0, 0, []),
  (20, .if_icmp .ne 70, 3, 90, 0, 0, []),
  (23, .aload_n 0, 1, 0, 0, 0, []),
  (24, .aload_n 0, 1, 0, 0, 0, []),
  (25, .getfield 56, 3, 11, 26, 0, [(0, 1084)]),
  (28, .iload 4, 2, 4, 0, 0, []),
  (30, .iaload, 1, 0, 0, 0, []),
  (31, .aload_n 0, 1, 0, 0, 0, []),
  (32, .getfield 59, 3, 11, 27, 0, [(0, 1085)]),
  (35, .iload 4, 2, 4, 0, 0, []),
  (37, .iaload, 1, 0, 0, 0, []),
  (38, .invokevirtual 300, 3, 322, 3, 0, [(0, 1572)]),
  (41, .iconst 1, 1, 0, 0, 1, []),
  (42, .if_icmp .eq 6, 3, 48, 0, 0, []),
  (45, .goto 45, 3, 90, 0, 0, []),
  (48, .aload_n 0, 1, 0, 0, 0, []),
  (49, .aload_n 0, 1, 0, 0, 0, []),
  (50, .getfield 53, 3, 11, 25, 0, [(0, 1083)]),
  (53, .iload 4, 2, 4, 0, 0, []),
  (55, .iaload, 1, 0, 0, 0, []),
  (56, .aload_n 0, 1, 0, 0, 0, []),
  (57, .getfield 56, 3, 11, 26, 0, [(0, 1084)]),
  (60, .iload 4, 2, 4, 0, 0, []),
  (62, .iaload, 1, 0, 0, 0, []),
  (63, .invokevirtual 300, 3, 322, 3, 0, [(0, 1572)]),
  (66, .istore 5, 2, 5, 0, 0, []),
  (68, .iload 5, 2, 5, 0, 0, []),
  (70, .ifCond .ge 7, 3, 77, 0, 0, []),
  (73, .iconst 0, 1, 0, 0, 0, []),
  (74, .goto 15, 3, 89, 0, 0, []),
  (77, .iload 5, 2, 5, 0, 0, []),
  (79, .iload_n 2, 1, 2, 0, 0, []),
  (80, .if_icmp .le 7, 3, 87, 0, 0, []),
  (83, .iload_n 2, 1, 2, 0, 0, []),
  (84, .goto 5, 3, 89, 0, 0, []),
  (87, .iload 5, 2, 5, 0, 0, []),
  (89, .ireturn, 1, 0, 0, 0, []),
  (90, .iinc 4 1, 3, 4, 0, 1, []),
  (93, .goto (-90), 3, 3, 0, 0, []),
  (96, .iload_n 3, 1, 3, 0, 0, []),
  (97, .ireturn, 1, 0, 0, 0, [])]
/-- NamedToWedModel.bears(I)V -/
def cd_325 : Cod := [(0, .aload_n 0, 1, 0, 0, 0, []),
  (1, .iload_n 1, 1, 1, 0, 0, []),
  (2, .invokevirtual 606, 3, 317, 2, 0, [(0, 1556)]),
  (5, .aload_n 0, 1, 0, 0, 0, []),
  (6, .getfield 7, 3, 11, 0, 0, [(0, 1058)]),
  (9, .bipush 12, 2, 0, 0, 12, []),
  (11, .iload_n 1, 1, 1, 0, 0, []),
  (12, .iadd, 1, 0, 0, 0, []),
  (13, .iaload, 1, 0, 0, 0, []),
  (14, .aload_n 0, 1, 0, 0, 0, []),
  (15, .bipush 98, 2, 0, 0, 98, []),
  (17, .sipush 300, 3, 0, 0, 300, []),
  (20, .bipush 40, 2, 0, 0, 40, []),
  (22, .invokevirtual 612, 3, 324, 4, 0, [(0, 1578)]),
  (25, .imul, 1, 0, 0, 0, []),
  (26, .bipush 100, 2, 0, 0, 100, []),
  (28, .idiv, 1, 0, 0, 0, []),
  (29, .istore_n 2, 1, 2, 0, 0, []),
  (30, .aload_n 0, 1, 0, 0, 0, []),
  (31, .getfield 22, 3, 11, 4, 0, [(0, 1062)]),
  (34, .aload_n 0, 1, 0, 0, 0, []),
  (35, .getfield 19, 3, 11, 3, 0, [(0, 1061)]),
  (38, .iload_n 1, 1, 1, 0, 0, []),
  (39, .iaload, 1, 0, 0, 0, []),
  (40, .iaload, 1, 0, 0, 0, []),
  (41, .istore_n 3, 1, 3, 0, 0, []),
  (42, .iload_n 2, 1, 2, 0, 0, []),
  (43, .iconst 2, 1, 0, 0, 2, []),
  (44, .idiv, 1, 0, 0, 0, []),
  (45, .iload_n 2, 1, 2, 0, 0, []),
  (46, .iconst 2, 1, 0, 0, 2, []),
  (47, .irem, 1, 0, 0, 0, []),
  (48, .iconst 1, 1, 0, 0, 1, []),
  (49, .if_icmp .ne 16, 3, 65, 0, 0, []),
  (52, .aload_n 0, 1, 0, 0, 0, []),
  (53, .getfield 597, 3, 11, 82, 0, [(0, 1140)]),
  (56, .iconst 2, 1, 0, 0, 2, []),
  (57, .irem, 1, 0, 0, 0, []),
  (58, .ifCond .ne 7, 3, 65, 0, 0, []),
  (61, .iconst 1, 1, 0, 0, 1, []),
  (62, .goto 4, 3, 66, 0, 0, []),
  (65, .iconst 0, 1, 0, 0, 0, []),
  (66, .iadd, 1, 0, 0, 0, []),
  (67, .istore 4, 2, 4, 0, 0, []),
  (69, .aload_n 0, 1, 0, 0, 0, []),
  (70, .getfield 7, 3, 11, 0, 0, [(0, 1058)]),
  (73, .iconst 0, 1, 0, 0, 0, []),
  (74, .iload_n 3, 1, 3, 0, 0, []),
  (75, .iadd, 1, 0, 0, 0, []),
  (76, .sipush 9999, 3, 0, 0, 9999, []),
  (79, .aload_n 0, 1, 0, 0, 0, []),
  (80, .getfield 7, 3, 11, 0, 0, [(0, 1058)]),
  (83, .iconst 0, 1, 0, 0, 0, []),
  (84, .iload_n 3, 1, 3, 0, 0, []),
  (85, .iadd, 1, 0, 0, 0, []),
  (86, .iaload, 1, 0, 0, 0, []),
  (87, .iload 4, 2, 4, 0, 0, []),
  (89, .iadd, 1, 0, 0, 0, []),
  (90, .invokestatic 427, 3, 254, 2, 0, [(0, 1353)]),
  (93, .iastore, 1, 0, 0, 0, []),
  (94, .aload_n 0, 1, 0, 0, 0, []),
  (95, .getfield 7, 3, 11, 0, 0, [(0, 1058)]),
  (98, .bipush 6, 2, 0, 0, 6, []),
  (100, .iload_n 3, 1, 3, 0, 0, []),
  (101, .iadd, 1, 0, 0, 0, []),
  (102, .sipush 9999, 3, 0, 0, 9999, []),
  (105, .aload_n 0, 1, 0, 0, 0, []),
  (106, .getfield 7, 3, 11, 0, 0, [(0, 1058)]),
  (109, .bipush 6, 2, 0, 0, 6, []),
  (111, .iload_n 3, 1, 3, 0, 0, []),
  (112, .iadd, 1, 0, 0, 0, []),
  (113, .iaload, 1, 0, 0, 0, []),
  (114, .iload_n 2, 1, 2, 0, 0, []),
  (115, .iadd, 1, 0, 0, 0, []),
  (116, .iload 4, 2, 4, 0, 0, []),
  (118, .isub, 1, 0, 0, 0, []),
  (119, .invokestatic 427, 3, 254, 2, 0, [(0, 1353)]),
  (122, .iastore, 1, 0, 0, 0, []),
  (123, .aload_n 0, 1, 0, 0, 0, []),
  (124, .aload_n 0, 1, 0, 0, 0, []),
  (125, .getfield 618, 3, 11, 80, 0, [(0, 1138)]),
  (128, .iload_n 2, 1, 2, 0, 0, []),
  (129, .iadd, 1, 0, 0, 0, []),
  (130, .putfield 618, 3, 11, 80, 0, [(0, 1138)]),
  (133, .return_, 1, 0, 0, 0, [])]
/-- NamedToWedModel.dies(I)V -/
def cd_326 : Cod := [(0, .aload_n 0, 1, 0, 0, 0, []),
  (1, .iload_n 1, 1, 1, 0, 0, []),
  (2, .invokevirtual 606, 3, 317, 2, 0, [(0, 1556)]),
  (5, .aload_n 0, 1, 0, 0, 0, []),
  (6, .bipush 100, 2, 0, 0, 100, []),
  (8, .bipush 100, 2, 0, 0, 100, []),
  (10, .iconst 2, 1, 0, 0, 2, []),
  (11, .invokevirtual 612, 3, 324, 4, 0, [(0, 1578)]),
  (14, .istore_n 2, 1, 2, 0, 0, []),
  (15, .aload_n 0, 1, 0, 0, 0, []),
  (16, .getfield 7, 3, 11, 0, 0, [(0, 1058)]),
  (19, .iconst 0, 1, 0, 0, 0, []),
  (20, .iload_n 1, 1, 1, 0, 0, []),
  (21, .iadd, 1, 0, 0, 0, []),
  (22, .iaload, 1, 0, 0, 0, []),
  (23, .iload_n 2, 1, 2, 0, 0, []),
  (24, .imul, 1, 0, 0, 0, []),
  (25, .bipush 100, 2, 0, 0, 100, []),
  (27, .idiv, 1, 0, 0, 0, []),
  (28, .istore_n 3, 1, 3, 0, 0, []),
  (29, .aload_n 0, 1, 0, 0, 0, []),
  (30, .getfield 7, 3, 11, 0, 0, [(0, 1058)]),
  (33, .bipush 6, 2, 0, 0, 6, []),
  (35, .iload_n 1, 1, 1, 0, 0, []),
  (36, .iadd, 1, 0, 0, 0, []),
  (37, .iaload, 1, 0, 0, 0, []),
  (38, .iload_n 2, 1, 2, 0, 0, []),
  (39, .imul, 1, 0, 0, 0, []),
  (40, .bipush 100, 2, 0, 0, 100, []),
  (42, .idiv, 1, 0, 0, 0, []),
  (43, .istore 4, 2, 4, 0, 0, []),
  (45, .aload_n 0, 1, 0, 0, 0, []),
  (46, .getfield 7, 3, 11, 0, 0, [(0, 1058)]),
  (49, .bipush 12, 2, 0, 0, 12, []),
  (51, .iload_n 1, 1, 1, 0, 0, []),
  (52, .iadd, 1, 0, 0, 0, []),
  (53, .iaload, 1, 0, 0, 0, []),
  (54, .iload_n 2, 1, 2, 0, 0, []),
  (55, .imul, 1, 0, 0, 0, []),
  (56, .bipush 100, 2, 0, 0, 100, []),
  (58, .idiv, 1, 0, 0, 0, []),
  (59, .istore 5, 2, 5, 0, 0, []),
  (61, .aload_n 0, 1, 0, 0, 0, []),
  (62, .getfield 7, 3, 11, 0, 0, [(0, 1058)]),
  (65, .iconst 0, 1, 0, 0, 0, []),
  (66, .iload_n 1, 1, 1, 0, 0, []),
  (67, .iadd, 1, 0, 0, 0, []),
  (68, .aload_n 0, 1, 0, 0, 0, []),
  (69, .getfield 7, 3, 11, 0, 0, [(0, 1058)]),
  (72, .iconst 0, 1, 0, 0, 0, []),
  (73, .iload_n 1, 1, 1, 0, 0, []),
  (74, .iadd, 1, 0, 0, 0, []),
  (75, .iaload, 1, 0, 0, 0, []),
  (76, .iload_n 3, 1, 3, 0, 0, []),
  (77, .isub, 1, 0, 0, 0, []),
  (78, .iastore, 1, 0, 0, 0, []),
  (79, .aload_n 0, 1, 0, 0, 0, []),
  (80, .getfield 7, 3, 11, 0, 0, [(0, 1058)]),
  (83, .bipush 6, 2, 0, 0, 6, []),
  (85, .iload_n 1, 1, 1, 0, 0, []),
  (86, .iadd, 1, 0, 0, 0, []),
  (87, .aload_n 0, 1, 0, 0, 0, []),
  (88, .getfield 7, 3, 11, 0, 0, [(0, 1058)]),
  (91, .bipush 6, 2, 0, 0, 6, []),
  (93, .iload_n 1, 1, 1, 0, 0, []),
  (94, .iadd, 1, 0, 0, 0, []),
  (95, .iaload, 1, 0, 0, 0, []),
  (96, .iload 4, 2, 4, 0, 0, []),
  (98, .isub, 1, 0, 0, 0, []),
  (99, .iastore, 1, 0, 0, 0, []),
  (100, .aload_n 0, 1, 0, 0, 0, []),
  (101, .getfield 7, 3, 11, 0, 0, [(0, 1058)]),
  (104, .bipush 12, 2, 0, 0, 12, []),
  (106, .iload_n 1, 1, 1, 0, 0, []),
  (107, .iadd, 1, 0, 0, 0, []),
  (108, .aload_n 0, 1, 0, 0, 0, []),
  (109, .getfield 7, 3, 11, 0, 0, [(0, 1058)]),
  (112, .bipush 12, 2, 0, 0, 12, []),
  (114, .iload_n 1, 1, 1, 0, 0, []),
  (115, .iadd, 1, 0, 0, 0, []),
  (116, .iaload, 1, 0, 0, 0, []),
  (117, .iload 5, 2, 5, 0, 0, []),
  (119, .isub, 1, 0, 0, 0, []),
  (120, .iastore, 1, 0, 0, 0, []),
  (121, .aload_n 0, 1, 0, 0, 0, []),
  (122, .aload_n 0, 1, 0, 0, 0, []),
  (123, .getfield 621, 3, 11, 81, 0, [(0, 1139)]),
  (126, .iload_n 3, 1, 3, 0, 0, []),
  (127, .iadd, 1, 0, 0, 0, []),
  (128, .iload 4, 2, 4, 0, 0, []),
  (130, .iadd, 1, 0, 0, 0, []),
  (131, .iconst 2, 1, 0, 0, 2, []),
  (132, .iload 5, 2, 5, 0, 0, []),
  (134, .imul, 1, 0, 0, 0, []),
  (135, .iadd, 1, 0, 0, 0, []),
  (136, .putfield 621, 3, 11, 81, 0, [(0, 1139)]),
  (139, .return_, 1, 0, 0, 0, [])]
/-- NamedToWedModel.tried(II)I -/
def cd_327 : Cod := [(0, .iload_n 1, 1, 1, 0, 0, []),
  (1, .iconst 1, 1, 0, 0, 1, []),
  (2, .bipush 100, 2, 0, 0, 100, []),
  (4, .invokestatic 185, 3, 190, 3, 0, [(0, 1151)]),
  (7, .ifCond .eq 45, 3, 52, 0, 0, []),
  (10, .iload_n 2, 1, 2, 0, 0, []),
  (11, .iconst 0, 1, 0, 0, 0, []),
  (12, .iconst 3, 1, 0, 0, 3, []),
  (13, .invokestatic 185, 3, 190, 3, 0, [(0, 1151)]),
  (16, .ifCond .ne 38, 3, 54, 0, 0, []),
  (19, .aload_n 0, 1, 0, 0, 0, []),
  (20, .iload_n 2, 1, 2, 0, 0, []),
  (21, .bipush 10, 2, 0, 0, 10, []),
  (23, .isub, 1, 0, 0, 0, []),
  (24, .invokevirtual 189, 3, 189, 2, 0, [(0, 1148)]),
  (27, .ifCond .ne 27, 3, 54, 0, 0, []),
  (30, .aload_n 0, 1, 0, 0, 0, []),
  (31, .iload_n 2, 1, 2, 0, 0, []),
  (32, .bipush 20, 2, 0, 0, 20, []),
  (34, .isub, 1, 0, 0, 0, []),
  (35, .invokevirtual 189, 3, 189, 2, 0, [(0, 1148)]),
  (38, .ifCond .ne 16, 3, 54, 0, 0, []),
  (41, .aload_n 0, 1, 0, 0, 0, []),
  (42, .iload_n 2, 1, 2, 0, 0, []),
  (43, .bipush 30, 2, 0, 0, 30, []),
  (45, .isub, 1, 0, 0, 0, []),
  (46, .invokevirtual 189, 3, 189, 2, 0, [(0, 1148)]),
  (49, .ifCond .ne 5, 3, 54, 0, 0, []),
  (52, .iconst (-1), 1, 0, 0, (-1), []),
  (53, .ireturn, 1, 0, 0, 0, []),
  (54, .aload_n 0, 1, 0, 0, 0, []),
  (55, .getfield 7, 3, 11, 0, 0, [(0, 1058)]),
  (58, .aload_n 0, 1, 0, 0, 0, []),
  (59, .getfield 13, 3, 11, 1, 0, [(0, 1059)]),
  (62, .invokestatic 639, 3, 328, 2, 0, [(0, 1591)]),
  (65, .aload_n 0, 1, 0, 0, 0, []),
  (66, .iload_n 1, 1, 1, 0, 0, []),
  (67, .invokevirtual 636, 3, 314, 2, 0, [(0, 1547)]),
  (70, .iload_n 2, 1, 2, 0, 0, []),
  (71, .tableswitch 61 0 3 #[29, 37, 45, 53], 29, 132, 0, 0, [(0, 100), (1, 108), (2, 116), (3, 124)]),
  (100, .aload_n 0, 1, 0, 0, 0, []),
  (101, .getfield 615, 3, 11, 79, 0, [(0, 1137)]),
  (104, .istore_n 3, 1, 3, 0, 0, []),
  (105, .goto 81, 3, 186, 0, 0, []),
  (108, .aload_n 0, 1, 0, 0, 0, []),
  (109, .getfield 618, 3, 11, 80, 0, [(0, 1138)]),
  (112, .istore_n 3, 1, 3, 0, 0, []),
  (113, .goto 73, 3, 186, 0, 0, []),
  (116, .aload_n 0, 1, 0, 0, 0, []),
  (117, .getfield 621, 3, 11, 81, 0, [(0, 1139)]),
  (120, .istore_n 3, 1, 3, 0, 0, []),
  (121, .goto 65, 3, 186, 0, 0, []),
  (124, .aload_n 0, 1, 0, 0, 0, []),
  (125, .invokevirtual 603, 3, 320, 1, 0, [(0, 1566)]),
  (128, .istore_n 3, 1, 3, 0, 0, []),
  (129, .goto 57, 3, 186, 0, 0, []),
  (132, .iload_n 2, 1, 2, 0, 0, []),
  (133, .bipush 20, 2, 0, 0, 20, []),
  (135, .if_icmp .ge 17, 3, 152, 0, 0, []),
  (138, .aload_n 0, 1, 0, 0, 0, []),
  (139, .getfield 7, 3, 11, 0, 0, [(0, 1058)]),
  (142, .iconst 0, 1, 0, 0, 0, []),
  (143, .iload_n 2, 1, 2, 0, 0, []),
  (144, .iadd, 1, 0, 0, 0, []),
  (145, .bipush 10, 2, 0, 0, 10, []),
  (147, .isub, 1, 0, 0, 0, []),
  (148, .iaload, 1, 0, 0, 0, []),
  (149, .goto 36, 3, 185, 0, 0, []),
  (152, .iload_n 2, 1, 2, 0, 0, []),
  (153, .bipush 30, 2, 0, 0, 30, []),
  (155, .if_icmp .ge 18, 3, 173, 0, 0, []),
  (158, .aload_n 0, 1, 0, 0, 0, []),
  (159, .getfield 7, 3, 11, 0, 0, [(0, 1058)]),
  (162, .bipush 6, 2, 0, 0, 6, []),
  (164, .iload_n 2, 1, 2, 0, 0, []),
  (165, .iadd, 1, 0, 0, 0, []),
  (166, .bipush 20, 2, 0, 0, 20, []),
  (168, .isub, 1, 0, 0, 0, []),
  (169, .iaload, 1, 0, 0, 0, []),
  (170, .goto 15, 3, 185, 0, 0, []),
  (173, .aload_n 0, 1, 0, 0, 0, []),
  (174, .getfield 7, 3, 11, 0, 0, [(0, 1058)]),
  (177, .bipush 12, 2, 0, 0, 12, []),
  (179, .iload_n 2, 1, 2, 0, 0, []),
  (180, .iadd, 1, 0, 0, 0, []),
  (181, .bipush 30, 2, 0, 0, 30, []),
  (183, .isub, 1, 0, 0, 0, []),
  (184, .iaload, 1, 0, 0, 0, []),
  (185, .istore_n 3, 1, 3, 0, 0, []),
  (186, .aload_n 0, 1, 0, 0, 0, []),
  (187, .getfield 13, 3, 11, 1, 0, [(0, 1059)]),
  (190, .aload_n 0, 1, 0, 0, 0, []),
  (191, .getfield 7, 3, 11, 0, 0, [(0, 1058)]),
  (194, .invokestatic 639, 3, 328, 2, 0, [(0, 1591)]),
  (197, .iload_n 3, 1, 3, 0, 0, []),
  (198, .ireturn, 1, 0, 0, 0, [])]
/-- NamedToWedModel.copies([I[I)V -/
def cd_328 : Cod := [(0, .iconst 0, 1, 0, 0, 0, []),
  (1, .istore_n 2, 1, 2, 0, 0, []),
  (2, .iload_n 2, 1, 2, 0, 0, []),
  (3, .bipush 20, 2, 0, 0, 20, []),
  (5, .if_icmp .ge 15, 3, 20, 0, 0, []),
  (8, .aload_n 1, 1, 1, 0, 0, []),
  (9, .iload_n 2, 1, 2, 0, 0, []),
  (10, .aload_n 0, 1, 0, 0, 0, []),
  (11, .iload_n 2, 1, 2, 0, 0, []),
  (12, .iaload, 1, 0, 0, 0, []),
  (13, .iastore, 1, 0, 0, 0, []),
  (14, .iinc 2 1, 3, 2, 0, 1, []),
  (17, .goto (-15), 3, 2, 0, 0, []),
  (20, .return_, 1, 0, 0, 0, [])]
/-- NamedToWedModel.nameIs(II)I -/
def cd_329 : Cod := [(0, .aload_n 0, 1, 0, 0, 0, []),
  (1, .iload_n 1, 1, 1, 0, 0, []),
  (2, .invokevirtual 189, 3, 189, 2, 0, [(0, 1148)]),
  (5, .ifCond .ne 5, 3, 10, 0, 0, []),
  (8, .iconst (-1), 1, 0, 0, (-1), []),
  (9, .ireturn, 1, 0, 0, 0, []),
  (10, .iload_n 2, 1, 2, 0, 0, []),
  (11, .tableswitch 86 0 5 #[37, 46, 56, 66, 72, 79], 37, 97, 0, 0, [(0, 48), (1, 57), (2, 67), (3, 77), (4, 83), (5, 90)]),
  (48, .aload_n 0, 1, 0, 0, 0, []),
  (49, .getfield 7, 3, 11, 0, 0, [(0, 1058)]),
  (52, .iconst 0, 1, 0, 0, 0, []),
  (53, .iload_n 1, 1, 1, 0, 0, []),
  (54, .iadd, 1, 0, 0, 0, []),
  (55, .iaload, 1, 0, 0, 0, []),
  (56, .ireturn, 1, 0, 0, 0, []),
  (57, .aload_n 0, 1, 0, 0, 0, []),
  (58, .getfield 7, 3, 11, 0, 0, [(0, 1058)]),
  (61, .bipush 6, 2, 0, 0, 6, []),
  (63, .iload_n 1, 1, 1, 0, 0, []),
  (64, .iadd, 1, 0, 0, 0, []),
  (65, .iaload, 1, 0, 0, 0, []),
  (66, .ireturn, 1, 0, 0, 0, []),
  (67, .aload_n 0, 1, 0, 0, 0, []),
  (68, .getfield 7, 3, 11, 0, 0, [(0, 1058)]),
  (71, .bipush 12, 2, 0, 0, 12, []),
  (73, .iload_n 1, 1, 1, 0, 0, []),
  (74, .iadd, 1, 0, 0, 0, []),
  (75, .iaload, 1, 0, 0, 0, []),
  (76, .ireturn, 1, 0, 0, 0, []),
  (77, .aload_n 0, 1, 0, 0, 0, []),
  (78, .iload_n 1, 1, 1, 0, 0, []),
  (79, .invokevirtual 600, 3, 319, 2, 0, [(0, 1563)]),
  (82, .ireturn, 1, 0, 0, 0, []),
  (83, .aload_n 0, 1, 0, 0, 0, []),
  (84, .getfield 19, 3, 11, 3, 0, [(0, 1061)]),
  (87, .iload_n 1, 1, 1, 0, 0, []),
  (88, .iaload, 1, 0, 0, 0, []),
  (89, .ireturn, 1, 0, 0, 0, []),
  (90, .aload_n 0, 1, 0, 0, 0, []),
  (91, .getfield 22, 3, 11, 4, 0, [(0, 1062)]),
  (94, .iload_n 1, 1, 1, 0, 0, []),
  (95, .iaload, 1, 0, 0, 0, []),
  (96, .ireturn, 1, 0, 0, 0, []),
  (97, .iconst (-1), 1, 0, 0, (-1), []),
  (98, .ireturn, 1, 0, 0, 0, [])]
/-- NamedToWedModel.diesOut(II)I -/
def cd_330 : Cod := [(0, .aload_n 0, 1, 0, 0, 0, []),
  (1, .iload_n 1, 1, 1, 0, 0, []),
  (2, .invokevirtual 189, 3, 189, 2, 0, [(0, 1148)]),
  (5, .ifCond .eq 13, 3, 18, 0, 0, []),
  (8, .iload_n 2, 1, 2, 0, 0, []),
  (9, .iconst 1, 1, 0, 0, 1, []),
  (10, .bipush 100, 2, 0, 0, 100, []),
  (12, .invokestatic 185, 3, 190, 3, 0, [(0, 1151)]),
  (15, .ifCond .ne 5, 3, 20, 0, 0, []),
  (18, .iconst (-1), 1, 0, 0, (-1), []),
  (19, .ireturn, 1, 0, 0, 0, []),
  (20, .aload_n 0, 1, 0, 0, 0, []),
  (21, .getfield 7, 3, 11, 0, 0, [(0, 1058)]),
  (24, .aload_n 0, 1, 0, 0, 0, []),
  (25, .getfield 13, 3, 11, 1, 0, [(0, 1059)]),
  (28, .invokestatic 639, 3, 328, 2, 0, [(0, 1591)]),
  (31, .iconst 0, 1, 0, 0, 0, []),
  (32, .istore_n 3, 1, 3, 0, 0, []),
  (33, .aload_n 0, 1, 0, 0, 0, []),
  (34, .iload_n 1, 1, 1, 0, 0, []),
  (35, .invokevirtual 600, 3, 319, 2, 0, [(0, 1563)]),
  (38, .ifCond .le 32, 3, 70, 0, 0, []),
  (41, .iload_n 3, 1, 3, 0, 0, []),
  (42, .iload_n 2, 1, 2, 0, 0, []),
  (43, .if_icmp .ge 27, 3, 70, 0, 0, []),
  (46, .aload_n 0, 1, 0, 0, 0, []),
  (47, .getfield 7, 3, 11, 0, 0, [(0, 1058)]),
  (50, .bipush 18, 2, 0, 0, 18, []),
  (52, .iaload, 1, 0, 0, 0, []),
  (53, .sipush 9999, 3, 0, 0, 9999, []),
  (56, .if_icmp .ge 14, 3, 70, 0, 0, []),
  (59, .aload_n 0, 1, 0, 0, 0, []),
  (60, .invokevirtual 633, 3, 315, 1, 0, [(0, 1550)]),
  (63, .iload_n 3, 1, 3, 0, 0, []),
  (64, .iconst 1, 1, 0, 0, 1, []),
  (65, .iadd, 1, 0, 0, 0, []),
  (66, .istore_n 3, 1, 3, 0, 0, []),
  (67, .goto (-34), 3, 33, 0, 0, []),
  (70, .aload_n 0, 1, 0, 0, 0, []),
  (71, .iload_n 1, 1, 1, 0, 0, []),
  (72, .invokevirtual 600, 3, 319, 2, 0, [(0, 1563)]),
  (75, .ifCond .ne 7, 3, 82, 0, 0, []),
  (78, .iconst 1, 1, 0, 0, 1, []),
  (79, .goto 4, 3, 83, 0, 0, []),
  (82, .iconst 0, 1, 0, 0, 0, []),
  (83, .istore 4, 2, 4, 0, 0, []),
  (85, .aload_n 0, 1, 0, 0, 0, []),
  (86, .getfield 13, 3, 11, 1, 0, [(0, 1059)]),
  (89, .aload_n 0, 1, 0, 0, 0, []),
  (90, .getfield 7, 3, 11, 0, 0, [(0, 1058)]),
  (93, .invokestatic 639, 3, 328, 2, 0, [(0, 1591)]),
  (96, .iload 4, 2, 4, 0, 0, []),
  (98, .ifCond .eq 7, 3, 105, 0, 0, []),
  (101, .iload_n 3, 1, 3, 0, 0, []),
  (102, .goto 5, 3, 107, 0, 0, []),
  (105, .bipush (-2), 2, 0, 0, (-2), []),
  (107, .ireturn, 1, 0, 0, 0, [])]
/-- NamedToWedModel.left(I)I -/
def cd_331 : Cod := [(0, .iload_n 1, 1, 1, 0, 0, []),
  (1, .iconst 0, 1, 0, 0, 0, []),
  (2, .iconst 1, 1, 0, 0, 1, []),
  (3, .invokestatic 185, 3, 190, 3, 0, [(0, 1151)]),
  (6, .ifCond .eq 10, 3, 16, 0, 0, []),
  (9, .aload_n 0, 1, 0, 0, 0, []),
  (10, .getfield 181, 3, 11, 5, 0, [(0, 1063)]),
  (13, .ifCond .ne 7, 3, 20, 0, 0, []),
  (16, .ldc_w 643, 3, 0, 1, (-100000), [(0, 1606)]),
  (19, .ireturn, 1, 0, 0, 0, []),
  (20, .iconst 0, 1, 0, 0, 0, []),
  (21, .istore_n 2, 1, 2, 0, 0, []),
  (22, .iconst 1, 1, 0, 0, 1, []),
  (23, .istore_n 3, 1, 3, 0, 0, []),
  (24, .iload_n 3, 1, 3, 0, 0, []),
  (25, .aload_n 0, 1, 0, 0, 0, []),
  (26, .getfield 181, 3, 11, 5, 0, [(0, 1063)]),
  (29, .if_icmp .ge 24, 3, 53, 0, 0, []),
  (32, .aload_n 0, 1, 0, 0, 0, []),
  (33, .iload_n 3, 1, 3, 0, 0, []),
  (34, .invokevirtual 644, 3, 332, 2, 0, [(0, 1607)]),
  (37, .aload_n 0, 1, 0, 0, 0, []),
  (38, .iload_n 2, 1, 2, 0, 0, []),
  (39, .invokevirtual 644, 3, 332, 2, 0, [(0, 1607)]),
  (42, .if_icmp .le 5, 3, 47, 0, 0, []),
  (45, .iload_n 3, 1, 3, 0, 0, []),
  (46, .istore_n 2, 1, 2, 0, 0, []),
  (47, .iinc 3 1, 3, 3, 0, 1, []),
  (50, .goto (-26), 3, 24, 0, 0, []),
  (53, .iload_n 1, 1, 1, 0, 0, []),
  (54, .ifCond .ne 7, 3, 61, 0, 0, []),
  (57, .iload_n 2, 1, 2, 0, 0, []),
  (58, .goto 8, 3, 66, 0, 0, []),
  (61, .aload_n 0, 1, 0, 0, 0, []),
  (62, .iload_n 2, 1, 2, 0, 0, []),
  (63, .invokevirtual 644, 3, 332, 2, 0, [(0, 1607)]),
  (66, .ireturn, 1, 0, 0, 0, [])]
/-- NamedToWedModel.leftOf(I)I -/
def cd_332 : Cod := [(0, .aload_n 0, 1, 0, 0, 0, []),
  (1, .getfield 7, 3, 11, 0, 0, [(0, 1058)]),
  (4, .iconst 0, 1, 0, 0, 0, []),
  (5, .iload_n 1, 1, 1, 0, 0, []),
  (6, .iadd, 1, 0, 0, 0, []),
  (7, .iaload, 1, 0, 0, 0, []),
  (8, .aload_n 0, 1, 0, 0, 0, []),
  (9, .getfield 7, 3, 11, 0, 0, [(0, 1058)]),
  (12, .bipush 6, 2, 0, 0, 6, []),
  (14, .aload_n 0, 1, 0, 0, 0, []),
  (15, .getfield 19, 3, 11, 3, 0, [(0, 1061)]),
  (18, .iload_n 1, 1, 1, 0, 0, []),
  (19, .iaload, 1, 0, 0, 0, []),
  (20, .iadd, 1, 0, 0, 0, []),
  (21, .iaload, 1, 0, 0, 0, []),
  (22, .isub, 1, 0, 0, 0, []),
  (23, .ireturn, 1, 0, 0, 0, [])]
/-- NamedToWedModel.seed(I)Z -/
def cd_333 : Cod := [(0, .iload_n 1, 1, 1, 0, 0, []),
  (1, .iconst 0, 1, 0, 0, 0, []),
  (2, .ldc_w 647, 3, 0, 1, 65535, [(1, 1614)]),
  (5, .invokestatic 185, 3, 190, 3, 0, [(0, 1151)]),
  (8, .ifCond .ne 5, 3, 13, 0, 0, []),
  (11, .iconst 0, 1, 0, 0, 0, []),
  (12, .ireturn, 1, 1, 0, 0, []),
  (13, .aload_n 0, 1, 0, 0, 0, []),
  (14, .getfield 7, 3, 11, 0, 0, [(0, 1058)]),
  (17, .bipush 19, 2, 0, 0, 19, []),
  (19, .iload_n 1, 1, 1, 0, 0, []),
  (20, .iastore, 1, 0, 0, 0, []),
  (21, .iconst 1, 1, 0, 0, 1, []),
  (22, .ireturn, 1, 1, 0, 0, [])]
/-- NamedToWedModel.keep()I -/
def cd_334 : Cod := [(0, .aload_n 0, 1, 0, 0, 0, []),
  (1, .iconst 1, 1, 0, 0, 1, []),
  (2, .putfield 648, 3, 11, 83, 0, [(0, 1141)]),
  (5, .aload_n 0, 1, 0, 0, 0, []),
  (6, .aload_n 0, 1, 0, 0, 0, []),
  (7, .getfield 181, 3, 11, 5, 0, [(0, 1063)]),
  (10, .putfield 651, 3, 11, 84, 0, [(0, 1142)]),
  (13, .aload_n 0, 1, 0, 0, 0, []),
  (14, .getfield 7, 3, 11, 0, 0, [(0, 1058)]),
  (17, .aload_n 0, 1, 0, 0, 0, []),
  (18, .getfield 16, 3, 11, 2, 0, [(0, 1060)]),
  (21, .invokestatic 639, 3, 328, 2, 0, [(0, 1591)]),
  (24, .aload_n 0, 1, 0, 0, 0, []),
  (25, .getfield 7, 3, 11, 0, 0, [(0, 1058)]),
  (28, .bipush 18, 2, 0, 0, 18, []),
  (30, .iaload, 1, 0, 0, 0, []),
  (31, .ireturn, 1, 0, 0, 0, [])]
/-- NamedToWedModel.undo()Z -/
def cd_335 : Cod := [(0, .aload_n 0, 1, 0, 0, 0, []),
  (1, .getfield 648, 3, 11, 83, 0, [(0, 1141)]),
  (4, .ifCond .ne 5, 3, 9, 0, 0, []),
  (7, .iconst 0, 1, 0, 0, 0, []),
  (8, .ireturn, 1, 1, 0, 0, []),
  (9, .aload_n 0, 1, 0, 0, 0, []),
  (10, .getfield 16, 3, 11, 2, 0, [(0, 1060)]),
  (13, .aload_n 0, 1, 0, 0, 0, []),
  (14, .getfield 7, 3, 11, 0, 0, [(0, 1058)]),
  (17, .invokestatic 639, 3, 328, 2, 0, [(0, 1591)]),
  (20, .iconst 0, 1, 0, 0, 0, []),
  (21, .istore_n 1, 1, 1, 0, 0, []),
  (22, .iload_n 1, 1, 1, 0, 0, []),
  (23, .bipush 18, 2, 0, 0, 18, []),
  (25, .if_icmp .ge 34, 3, 59, 0, 0, []),
  (28, .iload_n 1, 1, 1, 0, 0, []),
  (29, .bipush 6, 2, 0, 0, 6, []),
  (31, .irem, 1, 0, 0, 0, []),
  (32, .aload_n 0, 1, 0, 0, 0, []),
  (33, .getfield 181, 3, 11, 5, 0, [(0, 1063)]),
  (36, .aload_n 0, 1, 0, 0, 0, []),
  (37, .getfield 651, 3, 11, 84, 0, [(0, 1142)]),
  (40, .invokestatic 427, 3, 254, 2, 0, [(0, 1353)]),
  (43, .if_icmp .lt 10, 3, 53, 0, 0, []),
  (46, .aload_n 0, 1, 0, 0, 0, []),
  (47, .getfield 7, 3, 11, 0, 0, [(0, 1058)]),
  (50, .iload_n 1, 1, 1, 0, 0, []),
  (51, .iconst 0, 1, 0, 0, 0, []),
  (52, .iastore, 1, 0, 0, 0, []),
  (53, .iinc 1 1, 3, 1, 0, 1, []),
  (56, .goto (-34), 3, 22, 0, 0, []),
  (59, .iconst 1, 1, 0, 0, 1, []),
  (60, .ireturn, 1, 1, 0, 0, [])]
/-- NamedToWedModel.check(I)I -/
def cd_336 : Cod := [(0, .iload_n 1, 1, 1, 0, 0, []),
  (1, .iconst 0, 1, 0, 0, 0, []),
  (2, .bipush 6, 2, 0, 0, 6, []),
  (4, .invokestatic 185, 3, 190, 3, 0, [(0, 1151)]),
  (7, .ifCond .eq 11, 3, 18, 0, 0, []),
  (10, .iload_n 1, 1, 1, 0, 0, []),
  (11, .aload_n 0, 1, 0, 0, 0, []),
  (12, .getfield 193, 3, 11, 7, 0, [(0, 1065)]),
  (15, .if_icmp .le 6, 3, 21, 0, 0, []),
  (18, .bipush (-2), 2, 0, 0, (-2), []),
  (20, .ireturn, 1, 0, 0, 0, []),
  (21, .aload_n 0, 1, 0, 0, 0, []),
  (22, .iconst 0, 1, 0, 0, 0, []),
  (23, .putfield 193, 3, 11, 7, 0, [(0, 1065)]),
  (26, .iconst 0, 1, 0, 0, 0, []),
  (27, .istore_n 2, 1, 2, 0, 0, []),
  (28, .iload_n 2, 1, 2, 0, 0, []),
  (29, .iload_n 1, 1, 1, 0, 0, []),
  (30, .if_icmp .ge 40, 3, 70, 0, 0, []),
  (33, .aload_n 0, 1, 0, 0, 0, []),
  (34, .iload_n 2, 1, 2, 0, 0, []),
  (35, .invokevirtual 654, 3, 337, 2, 0, [(0, 1627)]),
  (38, .aload_n 0, 1, 0, 0, 0, []),
  (39, .iload_n 2, 1, 2, 0, 0, []),
  (40, .invokevirtual 189, 3, 189, 2, 0, [(0, 1148)]),
  (43, .ifCond .eq 15, 3, 58, 0, 0, []),
  (46, .aload_n 0, 1, 0, 0, 0, []),
  (47, .iload_n 2, 1, 2, 0, 0, []),
  (48, .invokevirtual 600, 3, 319, 2, 0, [(0, 1563)]),
  (51, .sipush 256, 3, 0, 0, 256, []),
  (54, .irem, 1, 0, 0, 0, []),
  (55, .goto 4, 3, 59, 0, 0, []),
  (58, .iconst 0, 1, 0, 0, 0, []),
  (59, .if_icmp .eq 5, 3, 64, 0, 0, []),
  (62, .iload_n 2, 1, 2, 0, 0, []),
  (63, .ireturn, 1, 0, 0, 0, []),
  (64, .iinc 2 1, 3, 2, 0, 1, []),
  (67, .goto (-39), 3, 28, 0, 0, []),
  (70, .iconst (-1), 1, 0, 0, (-1), []),
  (71, .ireturn, 1, 0, 0, 0, [])]
/-- NamedToWedModel.octet(I)I -/
def cd_337 : Cod := [(0, .aload_n 0, 1, 0, 0, 0, []),
  (1, .getfield 25, 3, 11, 6, 0, [(0, 1064)]),
  (4, .iload_n 1, 1, 1, 0, 0, []),
  (5, .baload, 1, 0, 0, 0, []),
  (6, .sipush 255, 3, 0, 0, 255, []),
  (9, .iand, 1, 0, 0, 0, []),
  (10, .ireturn, 1, 0, 0, 0, [])]
/-- NamedToWedModel.count(I)I -/
def cd_338 : Cod := [(0, .iload_n 1, 1, 1, 0, 0, []),
  (1, .tableswitch 103 0 8 #[51, 59, 64, 69, 75, 80, 85, 90, 98], 51, 104, 0, 0, [(0, 52), (1, 60), (2, 65), (3, 70), (4, 76), (5, 81), (6, 86), (7, 91), (8, 99)]),
  (52, .aload_n 0, 1, 0, 0, 0, []),
  (53, .getfield 7, 3, 11, 0, 0, [(0, 1058)]),
  (56, .bipush 18, 2, 0, 0, 18, []),
  (58, .iaload, 1, 0, 0, 0, []),
  (59, .ireturn, 1, 0, 0, 0, []),
  (60, .aload_n 0, 1, 0, 0, 0, []),
  (61, .getfield 181, 3, 11, 5, 0, [(0, 1063)]),
  (64, .ireturn, 1, 0, 0, 0, []),
  (65, .aload_n 0, 1, 0, 0, 0, []),
  (66, .getfield 317, 3, 11, 69, 0, [(0, 1127)]),
  (69, .ireturn, 1, 0, 0, 0, []),
  (70, .aload_n 0, 1, 0, 0, 0, []),
  (71, .iconst 0, 1, 0, 0, 0, []),
  (72, .invokevirtual 553, 3, 298, 2, 0, [(0, 1494)]),
  (75, .ireturn, 1, 0, 0, 0, []),
  (76, .aload_n 0, 1, 0, 0, 0, []),
  (77, .invokevirtual 657, 3, 339, 1, 0, [(0, 1634)]),
  (80, .ireturn, 1, 0, 0, 0, []),
  (81, .aload_n 0, 1, 0, 0, 0, []),
  (82, .getfield 293, 3, 11, 16, 0, [(0, 1074)]),
  (85, .ireturn, 1, 0, 0, 0, []),
  (86, .aload_n 0, 1, 0, 0, 0, []),
  (87, .getfield 193, 3, 11, 7, 0, [(0, 1065)]),
  (90, .ireturn, 1, 0, 0, 0, []),
  (91, .aload_n 0, 1, 0, 0, 0, []),
  (92, .getfield 7, 3, 11, 0, 0, [(0, 1058)]),
  (95, .bipush 19, 2, 0, 0, 19, []),
  (97, .iaload, 1, 0, 0, 0, []),
  (98, .ireturn, 1, 0, 0, 0, []),
  (99, .aload_n 0, 1, 0, 0, 0, []),
  (100, .invokevirtual 603, 3, 320, 1, 0, [(0, 1566)]),
  (103, .ireturn, 1, 0, 0, 0, []),
  (104, .iconst (-1), 1, 0, 0, (-1), []),
  (105, .ireturn, 1, 0, 0, 0, [])]
/-- NamedToWedModel.wedSet()I -/
def cd_339 : Cod := [(0, .iconst 0, 1, 0, 0, 0, []),
  (1, .istore_n 1, 1, 1, 0, 0, []),
  (2, .iconst 0, 1, 0, 0, 0, []),
  (3, .istore_n 2, 1, 2, 0, 0, []),
  (4, .iload_n 2, 1, 2, 0, 0, []),
  (5, .aload_n 0, 1, 0, 0, 0, []),
  (6, .getfield 317, 3, 11, 69, 0, [(0, 1127)]),
  (9, .if_icmp .ge 25, 3, 34, 0, 0, []),
  (12, .aload_n 0, 1, 0, 0, 0, []),
  (13, .getfield 141, 3, 11, 63, 0, [(0, 1121)]),
  (16, .iload_n 2, 1, 2, 0, 0, []),
  (17, .iaload, 1, 0, 0, 0, []),
  (18, .iconst (-1), 1, 0, 0, (-1), []),
  (19, .if_icmp .eq 9, 3, 28, 0, 0, []),
  (22, .iload_n 1, 1, 1, 0, 0, []),
  (23, .iconst 1, 1, 0, 0, 1, []),
  (24, .iload_n 2, 1, 2, 0, 0, []),
  (25, .ishl, 1, 0, 0, 0, []),
  (26, .ior, 1, 0, 0, 0, []),
  (27, .istore_n 1, 1, 1, 0, 0, []),
  (28, .iinc 2 1, 3, 2, 0, 1, []),
  (31, .goto (-27), 3, 4, 0, 0, []),
  (34, .iload_n 1, 1, 1, 0, 0, []),
  (35, .ireturn, 1, 0, 0, 0, [])]
/-- NamedToWedLaw.law -/
def cd_L : Cod := [(0, .new 7, 3, 10, 0, 0, [(0, 166)]),
  (3, .dup, 1, 0, 0, 0, []),
  (4, .invokespecial 9, 3, 0, 1, 0, [(0, 168)]),
  (7, .astore_n 1, 1, 1, 0, 0, []),
  (8, .new 10, 3, 11, 0, 0, [(0, 1052)]),
  (11, .dup, 1, 0, 0, 0, []),
  (12, .invokespecial 12, 3, 187, 1, 0, [(0, 1054)]),
  (15, .astore_n 2, 1, 2, 0, 0, []),
  (16, .iconst 0, 1, 0, 0, 0, []),
  (17, .istore_n 3, 1, 3, 0, 0, []),
  (18, .iload_n 3, 1, 3, 0, 0, []),
  (19, .aload_n 0, 1, 0, 0, 0, []),
  (20, .arraylength, 1, 0, 0, 0, []),
  (21, .bipush 6, 2, 0, 0, 6, []),
  (23, .isub, 1, 0, 0, 0, []),
  (24, .if_icmp .gt 1128, 3, 1152, 0, 0, []),
  (27, .aload_n 0, 1, 0, 0, 0, []),
  (28, .iload_n 3, 1, 3, 0, 0, []),
  (29, .iaload, 1, 0, 0, 0, []),
  (30, .bipush 31, 2, 0, 0, 31, []),
  (32, .iand, 1, 0, 0, 0, []),
  (33, .tableswitch 1113 0 30 #[139, 192, 255, 278, 301, 324, 367, 410, 433, 496, 519, 583, 626, 659, 682, 705, 728, 771, 804, 827, 840, 873, 896, 929, 962, 995, 1018, 1041, 1054, 1067, 1090], 139, 1146, 0, 0, [(0, 172), (1, 225), (2, 288), (3, 311), (4, 334), (5, 357), (6, 400), (7, 443), (8, 466), (9, 529), (10, 552), (11, 616), (12, 659), (13, 692), (14, 715), (15, 738), (16, 761), (17, 804), (18, 837), (19, 860), (20, 873), (21, 906), (22, 929), (23, 962), (24, 995), (25, 1028), (26, 1051), (27, 1074), (28, 1087), (29, 1100), (30, 1123)]),
  (172, .aload_n 1, 1, 1, 0, 0, []),
  (173, .aload_n 0, 1, 0, 0, 0, []),
  (174, .iload_n 3, 1, 3, 0, 0, []),
  (175, .iconst 1, 1, 0, 0, 1, []),
  (176, .iadd, 1, 0, 0, 0, []),
  (177, .iaload, 1, 0, 0, 0, []),
  (178, .aload_n 0, 1, 0, 0, 0, []),
  (179, .iload_n 3, 1, 3, 0, 0, []),
  (180, .iconst 2, 1, 0, 0, 2, []),
  (181, .iadd, 1, 0, 0, 0, []),
  (182, .iaload, 1, 0, 0, 0, []),
  (183, .aload_n 0, 1, 0, 0, 0, []),
  (184, .iload_n 3, 1, 3, 0, 0, []),
  (185, .iconst 3, 1, 0, 0, 3, []),
  (186, .iadd, 1, 0, 0, 0, []),
  (187, .iaload, 1, 0, 0, 0, []),
  (188, .aload_n 0, 1, 0, 0, 0, []),
  (189, .iload_n 3, 1, 3, 0, 0, []),
  (190, .iconst 4, 1, 0, 0, 4, []),
  (191, .iadd, 1, 0, 0, 0, []),
  (192, .iaload, 1, 0, 0, 0, []),
  (193, .invokevirtual 13, 3, 12, 5, 0, [(0, 391)]),
  (196, .aload_n 2, 1, 2, 0, 0, []),
  (197, .aload_n 0, 1, 0, 0, 0, []),
  (198, .iload_n 3, 1, 3, 0, 0, []),
  (199, .iconst 1, 1, 0, 0, 1, []),
  (200, .iadd, 1, 0, 0, 0, []),
  (201, .iaload, 1, 0, 0, 0, []),
  (202, .aload_n 0, 1, 0, 0, 0, []),
  (203, .iload_n 3, 1, 3, 0, 0, []),
  (204, .iconst 2, 1, 0, 0, 2, []),
  (205, .iadd, 1, 0, 0, 0, []),
  (206, .iaload, 1, 0, 0, 0, []),
  (207, .aload_n 0, 1, 0, 0, 0, []),
  (208, .iload_n 3, 1, 3, 0, 0, []),
  (209, .iconst 3, 1, 0, 0, 3, []),
  (210, .iadd, 1, 0, 0, 0, []),
  (211, .iaload, 1, 0, 0, 0, []),
  (212, .aload_n 0, 1, 0, 0, 0, []),
  (213, .iload_n 3, 1, 3, 0, 0, []),
  (214, .iconst 4, 1, 0, 0, 4, []),
  (215, .iadd, 1, 0, 0, 0, []),
  (216, .iaload, 1, 0, 0, 0, []),
  (217, .invokevirtual 17, 3, 188, 5, 0, [(0, 1144)]),
  (220, .if_icmp .eq 926, 3, 1146, 0, 0, []),
  (223, .iconst 0, 1, 0, 0, 0, []),
  (224, .ireturn, 1, 1, 0, 0, []),
  (225, .aload_n 1, 1, 1, 0, 0, []),
  (226, .aload_n 0, 1, 0, 0, 0, []),
  (227, .iload_n 3, 1, 3, 0, 0, []),
  (228, .iconst 1, 1, 0, 0, 1, []),
  (229, .iadd, 1, 0, 0, 0, []),
  (230, .iaload, 1, 0, 0, 0, []),
  (231, .aload_n 0, 1, 0, 0, 0, []),
  (232, .iload_n 3, 1, 3, 0, 0, []),
  (233, .iconst 2, 1, 0, 0, 2, []),
  (234, .iadd, 1, 0, 0, 0, []),
  (235, .iaload, 1, 0, 0, 0, []),
  (236, .aload_n 0, 1, 0, 0, 0, []),
  (237, .iload_n 3, 1, 3, 0, 0, []),
  (238, .iconst 3, 1, 0, 0, 3, []),
  (239, .iadd, 1, 0, 0, 0, []),
  (240, .iaload, 1, 0, 0, 0, []),
  (241, .aload_n 0, 1, 0, 0, 0, []),
  (242, .iload_n 3, 1, 3, 0, 0, []),
  (243, .iconst 4, 1, 0, 0, 4, []),
  (244, .iadd, 1, 0, 0, 0, []),
  (245, .iaload, 1, 0, 0, 0, []),
  (246, .aload_n 0, 1, 0, 0, 0, []),
  (247, .iload_n 3, 1, 3, 0, 0, []),
  (248, .iconst 5, 1, 0, 0, 5, []),
  (249, .iadd, 1, 0, 0, 0, []),
  (250, .iaload, 1, 0, 0, 0, []),
  (251, .invokevirtual 18, 3, 15, 6, 0, [(0, 401)]),
  (254, .aload_n 2, 1, 2, 0, 0, []),
  (255, .aload_n 0, 1, 0, 0, 0, []),
  (256, .iload_n 3, 1, 3, 0, 0, []),
  (257, .iconst 1, 1, 0, 0, 1, []),
  (258, .iadd, 1, 0, 0, 0, []),
  (259, .iaload, 1, 0, 0, 0, []),
  (260, .aload_n 0, 1, 0, 0, 0, []),
  (261, .iload_n 3, 1, 3, 0, 0, []),
  (262, .iconst 2, 1, 0, 0, 2, []),
  (263, .iadd, 1, 0, 0, 0, []),
  (264, .iaload, 1, 0, 0, 0, []),
  (265, .aload_n 0, 1, 0, 0, 0, []),
  (266, .iload_n 3, 1, 3, 0, 0, []),
  (267, .iconst 3, 1, 0, 0, 3, []),
  (268, .iadd, 1, 0, 0, 0, []),
  (269, .iaload, 1, 0, 0, 0, []),
  (270, .aload_n 0, 1, 0, 0, 0, []),
  (271, .iload_n 3, 1, 3, 0, 0, []),
  (272, .iconst 4, 1, 0, 0, 4, []),
  (273, .iadd, 1, 0, 0, 0, []),
  (274, .iaload, 1, 0, 0, 0, []),
  (275, .aload_n 0, 1, 0, 0, 0, []),
  (276, .iload_n 3, 1, 3, 0, 0, []),
  (277, .iconst 5, 1, 0, 0, 5, []),
  (278, .iadd, 1, 0, 0, 0, []),
  (279, .iaload, 1, 0, 0, 0, []),
  (280, .invokevirtual 22, 3, 191, 6, 0, [(0, 1154)]),
  (283, .if_icmp .eq 863, 3, 1146, 0, 0, []),
  (286, .iconst 0, 1, 0, 0, 0, []),
  (287, .ireturn, 1, 1, 0, 0, []),
  (288, .aload_n 1, 1, 1, 0, 0, []),
  (289, .aload_n 0, 1, 0, 0, 0, []),
  (290, .iload_n 3, 1, 3, 0, 0, []),
  (291, .iconst 1, 1, 0, 0, 1, []),
  (292, .iadd, 1, 0, 0, 0, []),
  (293, .iaload, 1, 0, 0, 0, []),
  (294, .invokevirtual 23, 3, 18, 2, 0, [(0, 414)]),
  (297, .aload_n 2, 1, 2, 0, 0, []),
  (298, .aload_n 0, 1, 0, 0, 0, []),
  (299, .iload_n 3, 1, 3, 0, 0, []),
  (300, .iconst 1, 1, 0, 0, 1, []),
  (301, .iadd, 1, 0, 0, 0, []),
  (302, .iaload, 1, 0, 0, 0, []),
  (303, .invokevirtual 27, 3, 193, 2, 0, [(0, 1161)]),
  (306, .if_icmp .eq 840, 3, 1146, 0, 0, []),
  (309, .iconst 0, 1, 0, 0, 0, []),
  (310, .ireturn, 1, 1, 0, 0, []),
  (311, .aload_n 1, 1, 1, 0, 0, []),
  (312, .aload_n 0, 1, 0, 0, 0, []),
  (313, .iload_n 3, 1, 3, 0, 0, []),
  (314, .iconst 1, 1, 0, 0, 1, []),
  (315, .iadd, 1, 0, 0, 0, []),
  (316, .iaload, 1, 0, 0, 0, []),
  (317, .invokevirtual 28, 3, 40, 2, 0, [(0, 491)]),
  (320, .aload_n 2, 1, 2, 0, 0, []),
  (321, .aload_n 0, 1, 0, 0, 0, []),
  (322, .iload_n 3, 1, 3, 0, 0, []),
  (323, .iconst 1, 1, 0, 0, 1, []),
  (324, .iadd, 1, 0, 0, 0, []),
  (325, .iaload, 1, 0, 0, 0, []),
  (326, .invokevirtual 31, 3, 215, 2, 0, [(0, 1229)]),
  (329, .if_icmp .eq 817, 3, 1146, 0, 0, []),
  (332, .iconst 0, 1, 0, 0, 0, []),
  (333, .ireturn, 1, 1, 0, 0, []),
  (334, .aload_n 1, 1, 1, 0, 0, []),
  (335, .aload_n 0, 1, 0, 0, 0, []),
  (336, .iload_n 3, 1, 3, 0, 0, []),
  (337, .iconst 1, 1, 0, 0, 1, []),
  (338, .iadd, 1, 0, 0, 0, []),
  (339, .iaload, 1, 0, 0, 0, []),
  (340, .invokevirtual 32, 3, 65, 2, 0, [(0, 582)]),
  (343, .aload_n 2, 1, 2, 0, 0, []),
  (344, .aload_n 0, 1, 0, 0, 0, []),
  (345, .iload_n 3, 1, 3, 0, 0, []),
  (346, .iconst 1, 1, 0, 0, 1, []),
  (347, .iadd, 1, 0, 0, 0, []),
  (348, .iaload, 1, 0, 0, 0, []),
  (349, .invokevirtual 35, 3, 269, 2, 0, [(0, 1401)]),
  (352, .if_icmp .eq 794, 3, 1146, 0, 0, []),
  (355, .iconst 0, 1, 0, 0, 0, []),
  (356, .ireturn, 1, 1, 0, 0, []),
  (357, .aload_n 1, 1, 1, 0, 0, []),
  (358, .aload_n 0, 1, 0, 0, 0, []),
  (359, .iload_n 3, 1, 3, 0, 0, []),
  (360, .iconst 1, 1, 0, 0, 1, []),
  (361, .iadd, 1, 0, 0, 0, []),
  (362, .iaload, 1, 0, 0, 0, []),
  (363, .aload_n 0, 1, 0, 0, 0, []),
  (364, .iload_n 3, 1, 3, 0, 0, []),
  (365, .iconst 2, 1, 0, 0, 2, []),
  (366, .iadd, 1, 0, 0, 0, []),
  (367, .iaload, 1, 0, 0, 0, []),
  (368, .aload_n 0, 1, 0, 0, 0, []),
  (369, .iload_n 3, 1, 3, 0, 0, []),
  (370, .iconst 3, 1, 0, 0, 3, []),
  (371, .iadd, 1, 0, 0, 0, []),
  (372, .iaload, 1, 0, 0, 0, []),
  (373, .invokevirtual 36, 3, 75, 4, 0, [(0, 621)]),
  (376, .aload_n 2, 1, 2, 0, 0, []),
  (377, .aload_n 0, 1, 0, 0, 0, []),
  (378, .iload_n 3, 1, 3, 0, 0, []),
  (379, .iconst 1, 1, 0, 0, 1, []),
  (380, .iadd, 1, 0, 0, 0, []),
  (381, .iaload, 1, 0, 0, 0, []),
  (382, .aload_n 0, 1, 0, 0, 0, []),
  (383, .iload_n 3, 1, 3, 0, 0, []),
  (384, .iconst 2, 1, 0, 0, 2, []),
  (385, .iadd, 1, 0, 0, 0, []),
  (386, .iaload, 1, 0, 0, 0, []),
  (387, .aload_n 0, 1, 0, 0, 0, []),
  (388, .iload_n 3, 1, 3, 0, 0, []),
  (389, .iconst 3, 1, 0, 0, 3, []),
  (390, .iadd, 1, 0, 0, 0, []),
  (391, .iaload, 1, 0, 0, 0, []),
  (392, .invokevirtual 40, 3, 219, 4, 0, [(0, 1242)]),
  (395, .if_icmp .eq 751, 3, 1146, 0, 0, []),
  (398, .iconst 0, 1, 0, 0, 0, []),
  (399, .ireturn, 1, 1, 0, 0, []),
  (400, .aload_n 1, 1, 1, 0, 0, []),
  (401, .aload_n 0, 1, 0, 0, 0, []),
  (402, .iload_n 3, 1, 3, 0, 0, []),
  (403, .iconst 1, 1, 0, 0, 1, []),
  (404, .iadd, 1, 0, 0, 0, []),
  (405, .iaload, 1, 0, 0, 0, []),
  (406, .aload_n 0, 1, 0, 0, 0, []),
  (407, .iload_n 3, 1, 3, 0, 0, []),
  (408, .iconst 2, 1, 0, 0, 2, []),
  (409, .iadd, 1, 0, 0, 0, []),
  (410, .iaload, 1, 0, 0, 0, []),
  (411, .aload_n 0, 1, 0, 0, 0, []),
  (412, .iload_n 3, 1, 3, 0, 0, []),
  (413, .iconst 3, 1, 0, 0, 3, []),
  (414, .iadd, 1, 0, 0, 0, []),
  (415, .iaload, 1, 0, 0, 0, []),
  (416, .invokevirtual 41, 3, 95, 4, 0, [(0, 696)]),
  (419, .aload_n 2, 1, 2, 0, 0, []),
  (420, .aload_n 0, 1, 0, 0, 0, []),
  (421, .iload_n 3, 1, 3, 0, 0, []),
  (422, .iconst 1, 1, 0, 0, 1, []),
  (423, .iadd, 1, 0, 0, 0, []),
  (424, .iaload, 1, 0, 0, 0, []),
  (425, .aload_n 0, 1, 0, 0, 0, []),
  (426, .iload_n 3, 1, 3, 0, 0, []),
  (427, .iconst 2, 1, 0, 0, 2, []),
  (428, .iadd, 1, 0, 0, 0, []),
  (429, .iaload, 1, 0, 0, 0, []),
  (430, .aload_n 0, 1, 0, 0, 0, []),
  (431, .iload_n 3, 1, 3, 0, 0, []),
  (432, .iconst 3, 1, 0, 0, 3, []),
  (433, .iadd, 1, 0, 0, 0, []),
  (434, .iaload, 1, 0, 0, 0, []),
  (435, .invokevirtual 44, 3, 237, 4, 0, [(0, 1297)]),
  (438, .if_icmp .eq 708, 3, 1146, 0, 0, []),
  (441, .iconst 0, 1, 0, 0, 0, []),
  (442, .ireturn, 1, 1, 0, 0, []),
  (443, .aload_n 1, 1, 1, 0, 0, []),
  (444, .aload_n 0, 1, 0, 0, 0, []),
  (445, .iload_n 3, 1, 3, 0, 0, []),
  (446, .iconst 1, 1, 0, 0, 1, []),
  (447, .iadd, 1, 0, 0, 0, []),
  (448, .iaload, 1, 0, 0, 0, []),
  (449, .invokevirtual 45, 3, 96, 2, 0, [(0, 701)]),
  (452, .aload_n 2, 1, 2, 0, 0, []),
  (453, .aload_n 0, 1, 0, 0, 0, []),
  (454, .iload_n 3, 1, 3, 0, 0, []),
  (455, .iconst 1, 1, 0, 0, 1, []),
  (456, .iadd, 1, 0, 0, 0, []),
  (457, .iaload, 1, 0, 0, 0, []),
  (458, .invokevirtual 48, 3, 238, 2, 0, [(0, 1302)]),
  (461, .if_icmp .eq 685, 3, 1146, 0, 0, []),
  (464, .iconst 0, 1, 0, 0, 0, []),
  (465, .ireturn, 1, 1, 0, 0, []),
  (466, .aload_n 1, 1, 1, 0, 0, []),
  (467, .aload_n 0, 1, 0, 0, 0, []),
  (468, .iload_n 3, 1, 3, 0, 0, []),
  (469, .iconst 1, 1, 0, 0, 1, []),
  (470, .iadd, 1, 0, 0, 0, []),
  (471, .iaload, 1, 0, 0, 0, []),
  (472, .aload_n 0, 1, 0, 0, 0, []),
  (473, .iload_n 3, 1, 3, 0, 0, []),
  (474, .iconst 2, 1, 0, 0, 2, []),
  (475, .iadd, 1, 0, 0, 0, []),
  (476, .iaload, 1, 0, 0, 0, []),
  (477, .aload_n 0, 1, 0, 0, 0, []),
  (478, .iload_n 3, 1, 3, 0, 0, []),
  (479, .iconst 3, 1, 0, 0, 3, []),
  (480, .iadd, 1, 0, 0, 0, []),
  (481, .iaload, 1, 0, 0, 0, []),
  (482, .aload_n 0, 1, 0, 0, 0, []),
  (483, .iload_n 3, 1, 3, 0, 0, []),
  (484, .iconst 4, 1, 0, 0, 4, []),
  (485, .iadd, 1, 0, 0, 0, []),
  (486, .iaload, 1, 0, 0, 0, []),
  (487, .aload_n 0, 1, 0, 0, 0, []),
  (488, .iload_n 3, 1, 3, 0, 0, []),
  (489, .iconst 5, 1, 0, 0, 5, []),
  (490, .iadd, 1, 0, 0, 0, []),
  (491, .iaload, 1, 0, 0, 0, []),
  (492, .invokevirtual 49, 3, 105, 6, 0, [(0, 732)]),
  (495, .aload_n 2, 1, 2, 0, 0, []),
  (496, .aload_n 0, 1, 0, 0, 0, []),
  (497, .iload_n 3, 1, 3, 0, 0, []),
  (498, .iconst 1, 1, 0, 0, 1, []),
  (499, .iadd, 1, 0, 0, 0, []),
  (500, .iaload, 1, 0, 0, 0, []),
  (501, .aload_n 0, 1, 0, 0, 0, []),
  (502, .iload_n 3, 1, 3, 0, 0, []),
  (503, .iconst 2, 1, 0, 0, 2, []),
  (504, .iadd, 1, 0, 0, 0, []),
  (505, .iaload, 1, 0, 0, 0, []),
  (506, .aload_n 0, 1, 0, 0, 0, []),
  (507, .iload_n 3, 1, 3, 0, 0, []),
  (508, .iconst 3, 1, 0, 0, 3, []),
  (509, .iadd, 1, 0, 0, 0, []),
  (510, .iaload, 1, 0, 0, 0, []),
  (511, .aload_n 0, 1, 0, 0, 0, []),
  (512, .iload_n 3, 1, 3, 0, 0, []),
  (513, .iconst 4, 1, 0, 0, 4, []),
  (514, .iadd, 1, 0, 0, 0, []),
  (515, .iaload, 1, 0, 0, 0, []),
  (516, .aload_n 0, 1, 0, 0, 0, []),
  (517, .iload_n 3, 1, 3, 0, 0, []),
  (518, .iconst 5, 1, 0, 0, 5, []),
  (519, .iadd, 1, 0, 0, 0, []),
  (520, .iaload, 1, 0, 0, 0, []),
  (521, .invokevirtual 52, 3, 250, 6, 0, [(0, 1339)]),
  (524, .if_icmp .eq 622, 3, 1146, 0, 0, []),
  (527, .iconst 0, 1, 0, 0, 0, []),
  (528, .ireturn, 1, 1, 0, 0, []),
  (529, .aload_n 1, 1, 1, 0, 0, []),
  (530, .aload_n 0, 1, 0, 0, 0, []),
  (531, .iload_n 3, 1, 3, 0, 0, []),
  (532, .iconst 1, 1, 0, 0, 1, []),
  (533, .iadd, 1, 0, 0, 0, []),
  (534, .iaload, 1, 0, 0, 0, []),
  (535, .invokevirtual 53, 3, 112, 2, 0, [(0, 760)]),
  (538, .aload_n 2, 1, 2, 0, 0, []),
  (539, .aload_n 0, 1, 0, 0, 0, []),
  (540, .iload_n 3, 1, 3, 0, 0, []),
  (541, .iconst 1, 1, 0, 0, 1, []),
  (542, .iadd, 1, 0, 0, 0, []),
  (543, .iaload, 1, 0, 0, 0, []),
  (544, .invokevirtual 56, 3, 256, 2, 0, [(0, 1359)]),
  (547, .if_icmp .eq 599, 3, 1146, 0, 0, []),
  (550, .iconst 0, 1, 0, 0, 0, []),
  (551, .ireturn, 1, 1, 0, 0, []),
  (552, .aload_n 1, 1, 1, 0, 0, []),
  (553, .aload_n 0, 1, 0, 0, 0, []),
  (554, .iload_n 3, 1, 3, 0, 0, []),
  (555, .iconst 1, 1, 0, 0, 1, []),
  (556, .iadd, 1, 0, 0, 0, []),
  (557, .iaload, 1, 0, 0, 0, []),
  (558, .aload_n 0, 1, 0, 0, 0, []),
  (559, .iload_n 3, 1, 3, 0, 0, []),
  (560, .iconst 2, 1, 0, 0, 2, []),
  (561, .iadd, 1, 0, 0, 0, []),
  (562, .iaload, 1, 0, 0, 0, []),
  (563, .aload_n 0, 1, 0, 0, 0, []),
  (564, .iload_n 3, 1, 3, 0, 0, []),
  (565, .iconst 3, 1, 0, 0, 3, []),
  (566, .iadd, 1, 0, 0, 0, []),
  (567, .iaload, 1, 0, 0, 0, []),
  (568, .aload_n 0, 1, 0, 0, 0, []),
  (569, .iload_n 3, 1, 3, 0, 0, []),
  (570, .iconst 4, 1, 0, 0, 4, []),
  (571, .iadd, 1, 0, 0, 0, []),
  (572, .iaload, 1, 0, 0, 0, []),
  (573, .aload_n 0, 1, 0, 0, 0, []),
  (574, .iload_n 3, 1, 3, 0, 0, []),
  (575, .iconst 5, 1, 0, 0, 5, []),
  (576, .iadd, 1, 0, 0, 0, []),
  (577, .iaload, 1, 0, 0, 0, []),
  (578, .invokevirtual 57, 3, 116, 6, 0, [(0, 774)]),
  (581, .aload_n 2, 1, 2, 0, 0, []),
  (582, .aload_n 0, 1, 0, 0, 0, []),
  (583, .iload_n 3, 1, 3, 0, 0, []),
  (584, .iconst 1, 1, 0, 0, 1, []),
  (585, .iadd, 1, 0, 0, 0, []),
  (586, .iaload, 1, 0, 0, 0, []),
  (587, .aload_n 0, 1, 0, 0, 0, []),
  (588, .iload_n 3, 1, 3, 0, 0, []),
  (589, .iconst 2, 1, 0, 0, 2, []),
  (590, .iadd, 1, 0, 0, 0, []),
  (591, .iaload, 1, 0, 0, 0, []),
  (592, .aload_n 0, 1, 0, 0, 0, []),
  (593, .iload_n 3, 1, 3, 0, 0, []),
  (594, .iconst 3, 1, 0, 0, 3, []),
  (595, .iadd, 1, 0, 0, 0, []),
  (596, .iaload, 1, 0, 0, 0, []),
  (597, .aload_n 0, 1, 0, 0, 0, []),
  (598, .iload_n 3, 1, 3, 0, 0, []),
  (599, .iconst 4, 1, 0, 0, 4, []),
  (600, .iadd, 1, 0, 0, 0, []),
  (601, .iaload, 1, 0, 0, 0, []),
  (602, .aload_n 0, 1, 0, 0, 0, []),
  (603, .iload_n 3, 1, 3, 0, 0, []),
  (604, .iconst 5, 1, 0, 0, 5, []),
  (605, .iadd, 1, 0, 0, 0, []),
  (606, .iaload, 1, 0, 0, 0, []),
  (607, .invokevirtual 61, 3, 260, 6, 0, [(0, 1372)]),
  (610, .lcmp, 1, 0, 0, 0, []),
  (611, .ifCond .eq 535, 3, 1146, 0, 0, []),
  (614, .iconst 0, 1, 0, 0, 0, []),
  (615, .ireturn, 1, 1, 0, 0, []),
  (616, .aload_n 1, 1, 1, 0, 0, []),
  (617, .aload_n 0, 1, 0, 0, 0, []),
  (618, .iload_n 3, 1, 3, 0, 0, []),
  (619, .iconst 1, 1, 0, 0, 1, []),
  (620, .iadd, 1, 0, 0, 0, []),
  (621, .iaload, 1, 0, 0, 0, []),
  (622, .aload_n 0, 1, 0, 0, 0, []),
  (623, .iload_n 3, 1, 3, 0, 0, []),
  (624, .iconst 2, 1, 0, 0, 2, []),
  (625, .iadd, 1, 0, 0, 0, []),
  (626, .iaload, 1, 0, 0, 0, []),
  (627, .aload_n 0, 1, 0, 0, 0, []),
  (628, .iload_n 3, 1, 3, 0, 0, []),
  (629, .iconst 3, 1, 0, 0, 3, []),
  (630, .iadd, 1, 0, 0, 0, []),
  (631, .iaload, 1, 0, 0, 0, []),
  (632, .invokevirtual 62, 3, 120, 4, 0, [(0, 788)]),
  (635, .aload_n 2, 1, 2, 0, 0, []),
  (636, .aload_n 0, 1, 0, 0, 0, []),
  (637, .iload_n 3, 1, 3, 0, 0, []),
  (638, .iconst 1, 1, 0, 0, 1, []),
  (639, .iadd, 1, 0, 0, 0, []),
  (640, .iaload, 1, 0, 0, 0, []),
  (641, .aload_n 0, 1, 0, 0, 0, []),
  (642, .iload_n 3, 1, 3, 0, 0, []),
  (643, .iconst 2, 1, 0, 0, 2, []),
  (644, .iadd, 1, 0, 0, 0, []),
  (645, .iaload, 1, 0, 0, 0, []),
  (646, .aload_n 0, 1, 0, 0, 0, []),
  (647, .iload_n 3, 1, 3, 0, 0, []),
  (648, .iconst 3, 1, 0, 0, 3, []),
  (649, .iadd, 1, 0, 0, 0, []),
  (650, .iaload, 1, 0, 0, 0, []),
  (651, .invokevirtual 65, 3, 261, 4, 0, [(0, 1376)]),
  (654, .if_icmp .eq 492, 3, 1146, 0, 0, []),
  (657, .iconst 0, 1, 0, 0, 0, []),
  (658, .ireturn, 1, 1, 0, 0, []),
  (659, .aload_n 1, 1, 1, 0, 0, []),
  (660, .aload_n 0, 1, 0, 0, 0, []),
  (661, .iload_n 3, 1, 3, 0, 0, []),
  (662, .iconst 1, 1, 0, 0, 1, []),
  (663, .iadd, 1, 0, 0, 0, []),
  (664, .iaload, 1, 0, 0, 0, []),
  (665, .aload_n 0, 1, 0, 0, 0, []),
  (666, .iload_n 3, 1, 3, 0, 0, []),
  (667, .iconst 2, 1, 0, 0, 2, []),
  (668, .iadd, 1, 0, 0, 0, []),
  (669, .iaload, 1, 0, 0, 0, []),
  (670, .invokevirtual 66, 3, 125, 3, 0, [(0, 808)]),
  (673, .aload_n 2, 1, 2, 0, 0, []),
  (674, .aload_n 0, 1, 0, 0, 0, []),
  (675, .iload_n 3, 1, 3, 0, 0, []),
  (676, .iconst 1, 1, 0, 0, 1, []),
  (677, .iadd, 1, 0, 0, 0, []),
  (678, .iaload, 1, 0, 0, 0, []),
  (679, .aload_n 0, 1, 0, 0, 0, []),
  (680, .iload_n 3, 1, 3, 0, 0, []),
  (681, .iconst 2, 1, 0, 0, 2, []),
  (682, .iadd, 1, 0, 0, 0, []),
  (683, .iaload, 1, 0, 0, 0, []),
  (684, .invokevirtual 70, 3, 275, 3, 0, [(0, 1420)]),
  (687, .if_icmp .eq 459, 3, 1146, 0, 0, []),
  (690, .iconst 0, 1, 0, 0, 0, []),
  (691, .ireturn, 1, 1, 0, 0, []),
  (692, .aload_n 1, 1, 1, 0, 0, []),
  (693, .aload_n 0, 1, 0, 0, 0, []),
  (694, .iload_n 3, 1, 3, 0, 0, []),
  (695, .iconst 1, 1, 0, 0, 1, []),
  (696, .iadd, 1, 0, 0, 0, []),
  (697, .iaload, 1, 0, 0, 0, []),
  (698, .invokevirtual 71, 3, 129, 2, 0, [(0, 823)]),
  (701, .aload_n 2, 1, 2, 0, 0, []),
  (702, .aload_n 0, 1, 0, 0, 0, []),
  (703, .iload_n 3, 1, 3, 0, 0, []),
  (704, .iconst 1, 1, 0, 0, 1, []),
  (705, .iadd, 1, 0, 0, 0, []),
  (706, .iaload, 1, 0, 0, 0, []),
  (707, .invokevirtual 74, 3, 288, 2, 0, [(0, 1460)]),
  (710, .if_icmp .eq 436, 3, 1146, 0, 0, []),
  (713, .iconst 0, 1, 0, 0, 0, []),
  (714, .ireturn, 1, 1, 0, 0, []),
  (715, .aload_n 1, 1, 1, 0, 0, []),
  (716, .aload_n 0, 1, 0, 0, 0, []),
  (717, .iload_n 3, 1, 3, 0, 0, []),
  (718, .iconst 1, 1, 0, 0, 1, []),
  (719, .iadd, 1, 0, 0, 0, []),
  (720, .iaload, 1, 0, 0, 0, []),
  (721, .invokevirtual 75, 3, 132, 2, 0, [(0, 835)]),
  (724, .aload_n 2, 1, 2, 0, 0, []),
  (725, .aload_n 0, 1, 0, 0, 0, []),
  (726, .iload_n 3, 1, 3, 0, 0, []),
  (727, .iconst 1, 1, 0, 0, 1, []),
  (728, .iadd, 1, 0, 0, 0, []),
  (729, .iaload, 1, 0, 0, 0, []),
  (730, .invokevirtual 78, 3, 290, 2, 0, [(0, 1467)]),
  (733, .if_icmp .eq 413, 3, 1146, 0, 0, []),
  (736, .iconst 0, 1, 0, 0, 0, []),
  (737, .ireturn, 1, 1, 0, 0, []),
  (738, .aload_n 1, 1, 1, 0, 0, []),
  (739, .aload_n 0, 1, 0, 0, 0, []),
  (740, .iload_n 3, 1, 3, 0, 0, []),
  (741, .iconst 1, 1, 0, 0, 1, []),
  (742, .iadd, 1, 0, 0, 0, []),
  (743, .iaload, 1, 0, 0, 0, []),
  (744, .invokevirtual 79, 3, 135, 2, 0, [(0, 848)]),
  (747, .aload_n 2, 1, 2, 0, 0, []),
  (748, .aload_n 0, 1, 0, 0, 0, []),
  (749, .iload_n 3, 1, 3, 0, 0, []),
  (750, .iconst 1, 1, 0, 0, 1, []),
  (751, .iadd, 1, 0, 0, 0, []),
  (752, .iaload, 1, 0, 0, 0, []),
  (753, .invokevirtual 82, 3, 292, 2, 0, [(0, 1474)]),
  (756, .if_icmp .eq 390, 3, 1146, 0, 0, []),
  (759, .iconst 0, 1, 0, 0, 0, []),
  (760, .ireturn, 1, 1, 0, 0, []),
  (761, .aload_n 1, 1, 1, 0, 0, []),
  (762, .aload_n 0, 1, 0, 0, 0, []),
  (763, .iload_n 3, 1, 3, 0, 0, []),
  (764, .iconst 1, 1, 0, 0, 1, []),
  (765, .iadd, 1, 0, 0, 0, []),
  (766, .iaload, 1, 0, 0, 0, []),
  (767, .aload_n 0, 1, 0, 0, 0, []),
  (768, .iload_n 3, 1, 3, 0, 0, []),
  (769, .iconst 2, 1, 0, 0, 2, []),
  (770, .iadd, 1, 0, 0, 0, []),
  (771, .iaload, 1, 0, 0, 0, []),
  (772, .aload_n 0, 1, 0, 0, 0, []),
  (773, .iload_n 3, 1, 3, 0, 0, []),
  (774, .iconst 3, 1, 0, 0, 3, []),
  (775, .iadd, 1, 0, 0, 0, []),
  (776, .iaload, 1, 0, 0, 0, []),
  (777, .invokevirtual 83, 3, 138, 4, 0, [(0, 862)]),
  (780, .aload_n 2, 1, 2, 0, 0, []),
  (781, .aload_n 0, 1, 0, 0, 0, []),
  (782, .iload_n 3, 1, 3, 0, 0, []),
  (783, .iconst 1, 1, 0, 0, 1, []),
  (784, .iadd, 1, 0, 0, 0, []),
  (785, .iaload, 1, 0, 0, 0, []),
  (786, .aload_n 0, 1, 0, 0, 0, []),
  (787, .iload_n 3, 1, 3, 0, 0, []),
  (788, .iconst 2, 1, 0, 0, 2, []),
  (789, .iadd, 1, 0, 0, 0, []),
  (790, .iaload, 1, 0, 0, 0, []),
  (791, .aload_n 0, 1, 0, 0, 0, []),
  (792, .iload_n 3, 1, 3, 0, 0, []),
  (793, .iconst 3, 1, 0, 0, 3, []),
  (794, .iadd, 1, 0, 0, 0, []),
  (795, .iaload, 1, 0, 0, 0, []),
  (796, .invokevirtual 86, 3, 295, 4, 0, [(0, 1484)]),
  (799, .if_icmp .eq 347, 3, 1146, 0, 0, []),
  (802, .iconst 0, 1, 0, 0, 0, []),
  (803, .ireturn, 1, 1, 0, 0, []),
  (804, .aload_n 1, 1, 1, 0, 0, []),
  (805, .aload_n 0, 1, 0, 0, 0, []),
  (806, .iload_n 3, 1, 3, 0, 0, []),
  (807, .iconst 1, 1, 0, 0, 1, []),
  (808, .iadd, 1, 0, 0, 0, []),
  (809, .iaload, 1, 0, 0, 0, []),
  (810, .aload_n 0, 1, 0, 0, 0, []),
  (811, .iload_n 3, 1, 3, 0, 0, []),
  (812, .iconst 2, 1, 0, 0, 2, []),
  (813, .iadd, 1, 0, 0, 0, []),
  (814, .iaload, 1, 0, 0, 0, []),
  (815, .invokevirtual 87, 3, 144, 3, 0, [(0, 883)]),
  (818, .aload_n 2, 1, 2, 0, 0, []),
  (819, .aload_n 0, 1, 0, 0, 0, []),
  (820, .iload_n 3, 1, 3, 0, 0, []),
  (821, .iconst 1, 1, 0, 0, 1, []),
  (822, .iadd, 1, 0, 0, 0, []),
  (823, .iaload, 1, 0, 0, 0, []),
  (824, .aload_n 0, 1, 0, 0, 0, []),
  (825, .iload_n 3, 1, 3, 0, 0, []),
  (826, .iconst 2, 1, 0, 0, 2, []),
  (827, .iadd, 1, 0, 0, 0, []),
  (828, .iaload, 1, 0, 0, 0, []),
  (829, .invokevirtual 90, 3, 301, 3, 0, [(0, 1503)]),
  (832, .if_icmp .eq 314, 3, 1146, 0, 0, []),
  (835, .iconst 0, 1, 0, 0, 0, []),
  (836, .ireturn, 1, 1, 0, 0, []),
  (837, .aload_n 1, 1, 1, 0, 0, []),
  (838, .aload_n 0, 1, 0, 0, 0, []),
  (839, .iload_n 3, 1, 3, 0, 0, []),
  (840, .iconst 1, 1, 0, 0, 1, []),
  (841, .iadd, 1, 0, 0, 0, []),
  (842, .iaload, 1, 0, 0, 0, []),
  (843, .invokevirtual 91, 3, 146, 2, 0, [(0, 892)]),
  (846, .aload_n 2, 1, 2, 0, 0, []),
  (847, .aload_n 0, 1, 0, 0, 0, []),
  (848, .iload_n 3, 1, 3, 0, 0, []),
  (849, .iconst 1, 1, 0, 0, 1, []),
  (850, .iadd, 1, 0, 0, 0, []),
  (851, .iaload, 1, 0, 0, 0, []),
  (852, .invokevirtual 94, 3, 302, 2, 0, [(0, 1507)]),
  (855, .if_icmp .eq 291, 3, 1146, 0, 0, []),
  (858, .iconst 0, 1, 0, 0, 0, []),
  (859, .ireturn, 1, 1, 0, 0, []),
  (860, .aload_n 1, 1, 1, 0, 0, []),
  (861, .invokevirtual 95, 3, 150, 1, 0, [(0, 907)]),
  (864, .aload_n 2, 1, 2, 0, 0, []),
  (865, .invokevirtual 99, 3, 306, 1, 0, [(0, 1520)]),
  (868, .if_icmp .eq 278, 3, 1146, 0, 0, []),
  (871, .iconst 0, 1, 0, 0, 0, []),
  (872, .ireturn, 1, 1, 0, 0, []),
  (873, .aload_n 1, 1, 1, 0, 0, []),
  (874, .aload_n 0, 1, 0, 0, 0, []),
  (875, .iload_n 3, 1, 3, 0, 0, []),
  (876, .iconst 1, 1, 0, 0, 1, []),
  (877, .iadd, 1, 0, 0, 0, []),
  (878, .iaload, 1, 0, 0, 0, []),
  (879, .aload_n 0, 1, 0, 0, 0, []),
  (880, .iload_n 3, 1, 3, 0, 0, []),
  (881, .iconst 2, 1, 0, 0, 2, []),
  (882, .iadd, 1, 0, 0, 0, []),
  (883, .iaload, 1, 0, 0, 0, []),
  (884, .invokevirtual 100, 3, 154, 3, 0, [(0, 922)]),
  (887, .aload_n 2, 1, 2, 0, 0, []),
  (888, .aload_n 0, 1, 0, 0, 0, []),
  (889, .iload_n 3, 1, 3, 0, 0, []),
  (890, .iconst 1, 1, 0, 0, 1, []),
  (891, .iadd, 1, 0, 0, 0, []),
  (892, .iaload, 1, 0, 0, 0, []),
  (893, .aload_n 0, 1, 0, 0, 0, []),
  (894, .iload_n 3, 1, 3, 0, 0, []),
  (895, .iconst 2, 1, 0, 0, 2, []),
  (896, .iadd, 1, 0, 0, 0, []),
  (897, .iaload, 1, 0, 0, 0, []),
  (898, .invokevirtual 103, 3, 309, 3, 0, [(0, 1530)]),
  (901, .if_icmp .eq 245, 3, 1146, 0, 0, []),
  (904, .iconst 0, 1, 0, 0, 0, []),
  (905, .ireturn, 1, 1, 0, 0, []),
  (906, .aload_n 1, 1, 1, 0, 0, []),
  (907, .aload_n 0, 1, 0, 0, 0, []),
  (908, .iload_n 3, 1, 3, 0, 0, []),
  (909, .iconst 1, 1, 0, 0, 1, []),
  (910, .iadd, 1, 0, 0, 0, []),
  (911, .iaload, 1, 0, 0, 0, []),
  (912, .invokevirtual 104, 3, 158, 2, 0, [(0, 939)]),
  (915, .aload_n 2, 1, 2, 0, 0, []),
  (916, .aload_n 0, 1, 0, 0, 0, []),
  (917, .iload_n 3, 1, 3, 0, 0, []),
  (918, .iconst 1, 1, 0, 0, 1, []),
  (919, .iadd, 1, 0, 0, 0, []),
  (920, .iaload, 1, 0, 0, 0, []),
  (921, .invokevirtual 107, 3, 313, 2, 0, [(0, 1543)]),
  (924, .if_icmp .eq 222, 3, 1146, 0, 0, []),
  (927, .iconst 0, 1, 0, 0, 0, []),
  (928, .ireturn, 1, 1, 0, 0, []),
  (929, .aload_n 1, 1, 1, 0, 0, []),
  (930, .aload_n 0, 1, 0, 0, 0, []),
  (931, .iload_n 3, 1, 3, 0, 0, []),
  (932, .iconst 1, 1, 0, 0, 1, []),
  (933, .iadd, 1, 0, 0, 0, []),
  (934, .iaload, 1, 0, 0, 0, []),
  (935, .aload_n 0, 1, 0, 0, 0, []),
  (936, .iload_n 3, 1, 3, 0, 0, []),
  (937, .iconst 2, 1, 0, 0, 2, []),
  (938, .iadd, 1, 0, 0, 0, []),
  (939, .iaload, 1, 0, 0, 0, []),
  (940, .invokevirtual 108, 3, 174, 3, 0, [(0, 997)]),
  (943, .aload_n 2, 1, 2, 0, 0, []),
  (944, .aload_n 0, 1, 0, 0, 0, []),
  (945, .iload_n 3, 1, 3, 0, 0, []),
  (946, .iconst 1, 1, 0, 0, 1, []),
  (947, .iadd, 1, 0, 0, 0, []),
  (948, .iaload, 1, 0, 0, 0, []),
  (949, .aload_n 0, 1, 0, 0, 0, []),
  (950, .iload_n 3, 1, 3, 0, 0, []),
  (951, .iconst 2, 1, 0, 0, 2, []),
  (952, .iadd, 1, 0, 0, 0, []),
  (953, .iaload, 1, 0, 0, 0, []),
  (954, .invokevirtual 111, 3, 327, 3, 0, [(0, 1587)]),
  (957, .if_icmp .eq 189, 3, 1146, 0, 0, []),
  (960, .iconst 0, 1, 0, 0, 0, []),
  (961, .ireturn, 1, 1, 0, 0, []),
  (962, .aload_n 1, 1, 1, 0, 0, []),
  (963, .aload_n 0, 1, 0, 0, 0, []),
  (964, .iload_n 3, 1, 3, 0, 0, []),
  (965, .iconst 1, 1, 0, 0, 1, []),
  (966, .iadd, 1, 0, 0, 0, []),
  (967, .iaload, 1, 0, 0, 0, []),
  (968, .aload_n 0, 1, 0, 0, 0, []),
  (969, .iload_n 3, 1, 3, 0, 0, []),
  (970, .iconst 2, 1, 0, 0, 2, []),
  (971, .iadd, 1, 0, 0, 0, []),
  (972, .iaload, 1, 0, 0, 0, []),
  (973, .invokevirtual 112, 3, 178, 3, 0, [(0, 1014)]),
  (976, .aload_n 2, 1, 2, 0, 0, []),
  (977, .aload_n 0, 1, 0, 0, 0, []),
  (978, .iload_n 3, 1, 3, 0, 0, []),
  (979, .iconst 1, 1, 0, 0, 1, []),
  (980, .iadd, 1, 0, 0, 0, []),
  (981, .iaload, 1, 0, 0, 0, []),
  (982, .aload_n 0, 1, 0, 0, 0, []),
  (983, .iload_n 3, 1, 3, 0, 0, []),
  (984, .iconst 2, 1, 0, 0, 2, []),
  (985, .iadd, 1, 0, 0, 0, []),
  (986, .iaload, 1, 0, 0, 0, []),
  (987, .invokevirtual 115, 3, 329, 3, 0, [(0, 1594)]),
  (990, .if_icmp .eq 156, 3, 1146, 0, 0, []),
  (993, .iconst 0, 1, 0, 0, 0, []),
  (994, .ireturn, 1, 1, 0, 0, []),
  (995, .aload_n 1, 1, 1, 0, 0, []),
  (996, .aload_n 0, 1, 0, 0, 0, []),
  (997, .iload_n 3, 1, 3, 0, 0, []),
  (998, .iconst 1, 1, 0, 0, 1, []),
  (999, .iadd, 1, 0, 0, 0, []),
  (1000, .iaload, 1, 0, 0, 0, []),
  (1001, .aload_n 0, 1, 0, 0, 0, []),
  (1002, .iload_n 3, 1, 3, 0, 0, []),
  (1003, .iconst 2, 1, 0, 0, 2, []),
  (1004, .iadd, 1, 0, 0, 0, []),
  (1005, .iaload, 1, 0, 0, 0, []),
  (1006, .invokevirtual 116, 3, 179, 3, 0, [(0, 1019)]),
  (1009, .aload_n 2, 1, 2, 0, 0, []),
  (1010, .aload_n 0, 1, 0, 0, 0, []),
  (1011, .iload_n 3, 1, 3, 0, 0, []),
  (1012, .iconst 1, 1, 0, 0, 1, []),
  (1013, .iadd, 1, 0, 0, 0, []),
  (1014, .iaload, 1, 0, 0, 0, []),
  (1015, .aload_n 0, 1, 0, 0, 0, []),
  (1016, .iload_n 3, 1, 3, 0, 0, []),
  (1017, .iconst 2, 1, 0, 0, 2, []),
  (1018, .iadd, 1, 0, 0, 0, []),
  (1019, .iaload, 1, 0, 0, 0, []),
  (1020, .invokevirtual 119, 3, 330, 3, 0, [(0, 1598)]),
  (1023, .if_icmp .eq 123, 3, 1146, 0, 0, []),
  (1026, .iconst 0, 1, 0, 0, 0, []),
  (1027, .ireturn, 1, 1, 0, 0, []),
  (1028, .aload_n 1, 1, 1, 0, 0, []),
  (1029, .aload_n 0, 1, 0, 0, 0, []),
  (1030, .iload_n 3, 1, 3, 0, 0, []),
  (1031, .iconst 1, 1, 0, 0, 1, []),
  (1032, .iadd, 1, 0, 0, 0, []),
  (1033, .iaload, 1, 0, 0, 0, []),
  (1034, .invokevirtual 120, 3, 180, 2, 0, [(0, 1023)]),
  (1037, .aload_n 2, 1, 2, 0, 0, []),
  (1038, .aload_n 0, 1, 0, 0, 0, []),
  (1039, .iload_n 3, 1, 3, 0, 0, []),
  (1040, .iconst 1, 1, 0, 0, 1, []),
  (1041, .iadd, 1, 0, 0, 0, []),
  (1042, .iaload, 1, 0, 0, 0, []),
  (1043, .invokevirtual 123, 3, 331, 2, 0, [(0, 1602)]),
  (1046, .if_icmp .eq 100, 3, 1146, 0, 0, []),
  (1049, .iconst 0, 1, 0, 0, 0, []),
  (1050, .ireturn, 1, 1, 0, 0, []),
  (1051, .aload_n 1, 1, 1, 0, 0, []),
  (1052, .aload_n 0, 1, 0, 0, 0, []),
  (1053, .iload_n 3, 1, 3, 0, 0, []),
  (1054, .iconst 1, 1, 0, 0, 1, []),
  (1055, .iadd, 1, 0, 0, 0, []),
  (1056, .iaload, 1, 0, 0, 0, []),
  (1057, .invokevirtual 124, 3, 182, 2, 0, [(0, 1031)]),
  (1060, .aload_n 2, 1, 2, 0, 0, []),
  (1061, .aload_n 0, 1, 0, 0, 0, []),
  (1062, .iload_n 3, 1, 3, 0, 0, []),
  (1063, .iconst 1, 1, 0, 0, 1, []),
  (1064, .iadd, 1, 0, 0, 0, []),
  (1065, .iaload, 1, 0, 0, 0, []),
  (1066, .invokevirtual 128, 3, 333, 2, 0, [(0, 1610)]),
  (1069, .if_icmp .eq 77, 3, 1146, 0, 0, []),
  (1072, .iconst 0, 1, 0, 0, 0, []),
  (1073, .ireturn, 1, 1, 0, 0, []),
  (1074, .aload_n 1, 1, 1, 0, 0, []),
  (1075, .invokevirtual 129, 3, 183, 1, 0, [(0, 1036)]),
  (1078, .aload_n 2, 1, 2, 0, 0, []),
  (1079, .invokevirtual 132, 3, 334, 1, 0, [(0, 1615)]),
  (1082, .if_icmp .eq 64, 3, 1146, 0, 0, []),
  (1085, .iconst 0, 1, 0, 0, 0, []),
  (1086, .ireturn, 1, 1, 0, 0, []),
  (1087, .aload_n 1, 1, 1, 0, 0, []),
  (1088, .invokevirtual 133, 3, 184, 1, 0, [(0, 1040)]),
  (1091, .aload_n 2, 1, 2, 0, 0, []),
  (1092, .invokevirtual 137, 3, 335, 1, 0, [(0, 1619)]),
  (1095, .if_icmp .eq 51, 3, 1146, 0, 0, []),
  (1098, .iconst 0, 1, 0, 0, 0, []),
  (1099, .ireturn, 1, 1, 0, 0, []),
  (1100, .aload_n 1, 1, 1, 0, 0, []),
  (1101, .aload_n 0, 1, 0, 0, 0, []),
  (1102, .iload_n 3, 1, 3, 0, 0, []),
  (1103, .iconst 1, 1, 0, 0, 1, []),
  (1104, .iadd, 1, 0, 0, 0, []),
  (1105, .iaload, 1, 0, 0, 0, []),
  (1106, .invokevirtual 138, 3, 185, 2, 0, [(0, 1044)]),
  (1109, .aload_n 2, 1, 2, 0, 0, []),
  (1110, .aload_n 0, 1, 0, 0, 0, []),
  (1111, .iload_n 3, 1, 3, 0, 0, []),
  (1112, .iconst 1, 1, 0, 0, 1, []),
  (1113, .iadd, 1, 0, 0, 0, []),
  (1114, .iaload, 1, 0, 0, 0, []),
  (1115, .invokevirtual 141, 3, 336, 2, 0, [(0, 1623)]),
  (1118, .if_icmp .eq 28, 3, 1146, 0, 0, []),
  (1121, .iconst 0, 1, 0, 0, 0, []),
  (1122, .ireturn, 1, 1, 0, 0, []),
  (1123, .aload_n 1, 1, 1, 0, 0, []),
  (1124, .aload_n 0, 1, 0, 0, 0, []),
  (1125, .iload_n 3, 1, 3, 0, 0, []),
  (1126, .iconst 1, 1, 0, 0, 1, []),
  (1127, .iadd, 1, 0, 0, 0, []),
  (1128, .iaload, 1, 0, 0, 0, []),
  (1129, .invokevirtual 142, 3, 186, 2, 0, [(0, 1048)]),
  (1132, .aload_n 2, 1, 2, 0, 0, []),
  (1133, .aload_n 0, 1, 0, 0, 0, []),
  (1134, .iload_n 3, 1, 3, 0, 0, []),
  (1135, .iconst 1, 1, 0, 0, 1, []),
  (1136, .iadd, 1, 0, 0, 0, []),
  (1137, .iaload, 1, 0, 0, 0, []),
  (1138, .invokevirtual 145, 3, 338, 2, 0, [(0, 1630)]),
  (1141, .if_icmp .eq 5, 3, 1146, 0, 0, []),
  (1144, .iconst 0, 1, 0, 0, 0, []),
  (1145, .ireturn, 1, 1, 0, 0, []),
  (1146, .iinc 3 6, 3, 3, 0, 6, []),
  (1149, .goto (-1131), 3, 18, 0, 0, []),
  (1152, .iconst 1, 1, 0, 0, 1, []),
  (1153, .ireturn, 1, 1, 0, 0, [])]
def mcd (k : Nat) : Cod := bif Nat.blt k 170 then (bif Nat.blt k 85 then (bif Nat.blt k 42 then (bif Nat.blt k 21 then (bif Nat.blt k 10 then (bif Nat.blt k 5 then (bif Nat.blt k 2 then (bif Nat.blt k 1 then (cd_0) else (cd_1)) else (bif Nat.blt k 3 then (cd_2) else (bif Nat.blt k 4 then (cd_3) else (cd_4)))) else (bif Nat.blt k 7 then (bif Nat.blt k 6 then (cd_5) else (cd_6)) else (bif Nat.blt k 8 then (cd_7) else (bif Nat.blt k 9 then (cd_8) else (cd_9))))) else (bif Nat.blt k 15 then (bif Nat.blt k 12 then (bif Nat.blt k 11 then (cd_10) else (cd_11)) else (bif Nat.blt k 13 then (cd_12) else (bif Nat.blt k 14 then (cd_13) else (cd_14)))) else (bif Nat.blt k 18 then (bif Nat.blt k 16 then (cd_15) else (bif Nat.blt k 17 then (cd_16) else (cd_17))) else (bif Nat.blt k 19 then (cd_18) else (bif Nat.blt k 20 then (cd_19) else (cd_20)))))) else (bif Nat.blt k 31 then (bif Nat.blt k 26 then (bif Nat.blt k 23 then (bif Nat.blt k 22 then (cd_21) else (cd_22)) else (bif Nat.blt k 24 then (cd_23) else (bif Nat.blt k 25 then (cd_24) else (cd_25)))) else (bif Nat.blt k 28 then (bif Nat.blt k 27 then (cd_26) else (cd_27)) else (bif Nat.blt k 29 then (cd_28) else (bif Nat.blt k 30 then (cd_29) else (cd_30))))) else (bif Nat.blt k 36 then (bif Nat.blt k 33 then (bif Nat.blt k 32 then (cd_31) else (cd_32)) else (bif Nat.blt k 34 then (cd_33) else (bif Nat.blt k 35 then (cd_34) else (cd_35)))) else (bif Nat.blt k 39 then (bif Nat.blt k 37 then (cd_36) else (bif Nat.blt k 38 then (cd_37) else (cd_38))) else (bif Nat.blt k 40 then (cd_39) else (bif Nat.blt k 41 then (cd_40) else (cd_41))))))) else (bif Nat.blt k 63 then (bif Nat.blt k 52 then (bif Nat.blt k 47 then (bif Nat.blt k 44 then (bif Nat.blt k 43 then (cd_42) else (cd_43)) else (bif Nat.blt k 45 then (cd_44) else (bif Nat.blt k 46 then (cd_45) else (cd_46)))) else (bif Nat.blt k 49 then (bif Nat.blt k 48 then (cd_47) else (cd_48)) else (bif Nat.blt k 50 then (cd_49) else (bif Nat.blt k 51 then (cd_50) else (cd_51))))) else (bif Nat.blt k 57 then (bif Nat.blt k 54 then (bif Nat.blt k 53 then (cd_52) else (cd_53)) else (bif Nat.blt k 55 then (cd_54) else (bif Nat.blt k 56 then (cd_55) else (cd_56)))) else (bif Nat.blt k 60 then (bif Nat.blt k 58 then (cd_57) else (bif Nat.blt k 59 then (cd_58) else (cd_59))) else (bif Nat.blt k 61 then (cd_60) else (bif Nat.blt k 62 then (cd_61) else (cd_62)))))) else (bif Nat.blt k 74 then (bif Nat.blt k 68 then (bif Nat.blt k 65 then (bif Nat.blt k 64 then (cd_63) else (cd_64)) else (bif Nat.blt k 66 then (cd_65) else (bif Nat.blt k 67 then (cd_66) else (cd_67)))) else (bif Nat.blt k 71 then (bif Nat.blt k 69 then (cd_68) else (bif Nat.blt k 70 then (cd_69) else (cd_70))) else (bif Nat.blt k 72 then (cd_71) else (bif Nat.blt k 73 then (cd_72) else (cd_73))))) else (bif Nat.blt k 79 then (bif Nat.blt k 76 then (bif Nat.blt k 75 then (cd_74) else (cd_75)) else (bif Nat.blt k 77 then (cd_76) else (bif Nat.blt k 78 then (cd_77) else (cd_78)))) else (bif Nat.blt k 82 then (bif Nat.blt k 80 then (cd_79) else (bif Nat.blt k 81 then (cd_80) else (cd_81))) else (bif Nat.blt k 83 then (cd_82) else (bif Nat.blt k 84 then (cd_83) else (cd_84)))))))) else (bif Nat.blt k 127 then (bif Nat.blt k 106 then (bif Nat.blt k 95 then (bif Nat.blt k 90 then (bif Nat.blt k 87 then (bif Nat.blt k 86 then (cd_85) else (cd_86)) else (bif Nat.blt k 88 then (cd_87) else (bif Nat.blt k 89 then (cd_88) else (cd_89)))) else (bif Nat.blt k 92 then (bif Nat.blt k 91 then (cd_90) else (cd_91)) else (bif Nat.blt k 93 then (cd_92) else (bif Nat.blt k 94 then (cd_93) else (cd_94))))) else (bif Nat.blt k 100 then (bif Nat.blt k 97 then (bif Nat.blt k 96 then (cd_95) else (cd_96)) else (bif Nat.blt k 98 then (cd_97) else (bif Nat.blt k 99 then (cd_98) else (cd_99)))) else (bif Nat.blt k 103 then (bif Nat.blt k 101 then (cd_100) else (bif Nat.blt k 102 then (cd_101) else (cd_102))) else (bif Nat.blt k 104 then (cd_103) else (bif Nat.blt k 105 then (cd_104) else (cd_105)))))) else (bif Nat.blt k 116 then (bif Nat.blt k 111 then (bif Nat.blt k 108 then (bif Nat.blt k 107 then (cd_106) else (cd_107)) else (bif Nat.blt k 109 then (cd_108) else (bif Nat.blt k 110 then (cd_109) else (cd_110)))) else (bif Nat.blt k 113 then (bif Nat.blt k 112 then (cd_111) else (cd_112)) else (bif Nat.blt k 114 then (cd_113) else (bif Nat.blt k 115 then (cd_114) else (cd_115))))) else (bif Nat.blt k 121 then (bif Nat.blt k 118 then (bif Nat.blt k 117 then (cd_116) else (cd_117)) else (bif Nat.blt k 119 then (cd_118) else (bif Nat.blt k 120 then (cd_119) else (cd_120)))) else (bif Nat.blt k 124 then (bif Nat.blt k 122 then (cd_121) else (bif Nat.blt k 123 then (cd_122) else (cd_123))) else (bif Nat.blt k 125 then (cd_124) else (bif Nat.blt k 126 then (cd_125) else (cd_126))))))) else (bif Nat.blt k 148 then (bif Nat.blt k 137 then (bif Nat.blt k 132 then (bif Nat.blt k 129 then (bif Nat.blt k 128 then (cd_127) else (cd_128)) else (bif Nat.blt k 130 then (cd_129) else (bif Nat.blt k 131 then (cd_130) else (cd_131)))) else (bif Nat.blt k 134 then (bif Nat.blt k 133 then (cd_132) else (cd_133)) else (bif Nat.blt k 135 then (cd_134) else (bif Nat.blt k 136 then (cd_135) else (cd_136))))) else (bif Nat.blt k 142 then (bif Nat.blt k 139 then (bif Nat.blt k 138 then (cd_137) else (cd_138)) else (bif Nat.blt k 140 then (cd_139) else (bif Nat.blt k 141 then (cd_140) else (cd_141)))) else (bif Nat.blt k 145 then (bif Nat.blt k 143 then (cd_142) else (bif Nat.blt k 144 then (cd_143) else (cd_144))) else (bif Nat.blt k 146 then (cd_145) else (bif Nat.blt k 147 then (cd_146) else (cd_147)))))) else (bif Nat.blt k 159 then (bif Nat.blt k 153 then (bif Nat.blt k 150 then (bif Nat.blt k 149 then (cd_148) else (cd_149)) else (bif Nat.blt k 151 then (cd_150) else (bif Nat.blt k 152 then (cd_151) else (cd_152)))) else (bif Nat.blt k 156 then (bif Nat.blt k 154 then (cd_153) else (bif Nat.blt k 155 then (cd_154) else (cd_155))) else (bif Nat.blt k 157 then (cd_156) else (bif Nat.blt k 158 then (cd_157) else (cd_158))))) else (bif Nat.blt k 164 then (bif Nat.blt k 161 then (bif Nat.blt k 160 then (cd_159) else (cd_160)) else (bif Nat.blt k 162 then (cd_161) else (bif Nat.blt k 163 then (cd_162) else (cd_163)))) else (bif Nat.blt k 167 then (bif Nat.blt k 165 then (cd_164) else (bif Nat.blt k 166 then (cd_165) else (cd_166))) else (bif Nat.blt k 168 then (cd_167) else (bif Nat.blt k 169 then (cd_168) else (cd_169))))))))) else (bif Nat.blt k 255 then (bif Nat.blt k 212 then (bif Nat.blt k 191 then (bif Nat.blt k 180 then (bif Nat.blt k 175 then (bif Nat.blt k 172 then (bif Nat.blt k 171 then (cd_170) else (cd_171)) else (bif Nat.blt k 173 then (cd_172) else (bif Nat.blt k 174 then (cd_173) else (cd_174)))) else (bif Nat.blt k 177 then (bif Nat.blt k 176 then (cd_175) else (cd_176)) else (bif Nat.blt k 178 then (cd_177) else (bif Nat.blt k 179 then (cd_178) else (cd_179))))) else (bif Nat.blt k 185 then (bif Nat.blt k 182 then (bif Nat.blt k 181 then (cd_180) else (cd_181)) else (bif Nat.blt k 183 then (cd_182) else (bif Nat.blt k 184 then (cd_183) else (cd_184)))) else (bif Nat.blt k 188 then (bif Nat.blt k 186 then (cd_185) else (bif Nat.blt k 187 then (cd_186) else (cd_187))) else (bif Nat.blt k 189 then (cd_188) else (bif Nat.blt k 190 then (cd_189) else (cd_190)))))) else (bif Nat.blt k 201 then (bif Nat.blt k 196 then (bif Nat.blt k 193 then (bif Nat.blt k 192 then (cd_191) else (cd_192)) else (bif Nat.blt k 194 then (cd_193) else (bif Nat.blt k 195 then (cd_194) else (cd_195)))) else (bif Nat.blt k 198 then (bif Nat.blt k 197 then (cd_196) else (cd_197)) else (bif Nat.blt k 199 then (cd_198) else (bif Nat.blt k 200 then (cd_199) else (cd_200))))) else (bif Nat.blt k 206 then (bif Nat.blt k 203 then (bif Nat.blt k 202 then (cd_201) else (cd_202)) else (bif Nat.blt k 204 then (cd_203) else (bif Nat.blt k 205 then (cd_204) else (cd_205)))) else (bif Nat.blt k 209 then (bif Nat.blt k 207 then (cd_206) else (bif Nat.blt k 208 then (cd_207) else (cd_208))) else (bif Nat.blt k 210 then (cd_209) else (bif Nat.blt k 211 then (cd_210) else (cd_211))))))) else (bif Nat.blt k 233 then (bif Nat.blt k 222 then (bif Nat.blt k 217 then (bif Nat.blt k 214 then (bif Nat.blt k 213 then (cd_212) else (cd_213)) else (bif Nat.blt k 215 then (cd_214) else (bif Nat.blt k 216 then (cd_215) else (cd_216)))) else (bif Nat.blt k 219 then (bif Nat.blt k 218 then (cd_217) else (cd_218)) else (bif Nat.blt k 220 then (cd_219) else (bif Nat.blt k 221 then (cd_220) else (cd_221))))) else (bif Nat.blt k 227 then (bif Nat.blt k 224 then (bif Nat.blt k 223 then (cd_222) else (cd_223)) else (bif Nat.blt k 225 then (cd_224) else (bif Nat.blt k 226 then (cd_225) else (cd_226)))) else (bif Nat.blt k 230 then (bif Nat.blt k 228 then (cd_227) else (bif Nat.blt k 229 then (cd_228) else (cd_229))) else (bif Nat.blt k 231 then (cd_230) else (bif Nat.blt k 232 then (cd_231) else (cd_232)))))) else (bif Nat.blt k 244 then (bif Nat.blt k 238 then (bif Nat.blt k 235 then (bif Nat.blt k 234 then (cd_233) else (cd_234)) else (bif Nat.blt k 236 then (cd_235) else (bif Nat.blt k 237 then (cd_236) else (cd_237)))) else (bif Nat.blt k 241 then (bif Nat.blt k 239 then (cd_238) else (bif Nat.blt k 240 then (cd_239) else (cd_240))) else (bif Nat.blt k 242 then (cd_241) else (bif Nat.blt k 243 then (cd_242) else (cd_243))))) else (bif Nat.blt k 249 then (bif Nat.blt k 246 then (bif Nat.blt k 245 then (cd_244) else (cd_245)) else (bif Nat.blt k 247 then (cd_246) else (bif Nat.blt k 248 then (cd_247) else (cd_248)))) else (bif Nat.blt k 252 then (bif Nat.blt k 250 then (cd_249) else (bif Nat.blt k 251 then (cd_250) else (cd_251))) else (bif Nat.blt k 253 then (cd_252) else (bif Nat.blt k 254 then (cd_253) else (cd_254)))))))) else (bif Nat.blt k 297 then (bif Nat.blt k 276 then (bif Nat.blt k 265 then (bif Nat.blt k 260 then (bif Nat.blt k 257 then (bif Nat.blt k 256 then (cd_255) else (cd_256)) else (bif Nat.blt k 258 then (cd_257) else (bif Nat.blt k 259 then (cd_258) else (cd_259)))) else (bif Nat.blt k 262 then (bif Nat.blt k 261 then (cd_260) else (cd_261)) else (bif Nat.blt k 263 then (cd_262) else (bif Nat.blt k 264 then (cd_263) else (cd_264))))) else (bif Nat.blt k 270 then (bif Nat.blt k 267 then (bif Nat.blt k 266 then (cd_265) else (cd_266)) else (bif Nat.blt k 268 then (cd_267) else (bif Nat.blt k 269 then (cd_268) else (cd_269)))) else (bif Nat.blt k 273 then (bif Nat.blt k 271 then (cd_270) else (bif Nat.blt k 272 then (cd_271) else (cd_272))) else (bif Nat.blt k 274 then (cd_273) else (bif Nat.blt k 275 then (cd_274) else (cd_275)))))) else (bif Nat.blt k 286 then (bif Nat.blt k 281 then (bif Nat.blt k 278 then (bif Nat.blt k 277 then (cd_276) else (cd_277)) else (bif Nat.blt k 279 then (cd_278) else (bif Nat.blt k 280 then (cd_279) else (cd_280)))) else (bif Nat.blt k 283 then (bif Nat.blt k 282 then (cd_281) else (cd_282)) else (bif Nat.blt k 284 then (cd_283) else (bif Nat.blt k 285 then (cd_284) else (cd_285))))) else (bif Nat.blt k 291 then (bif Nat.blt k 288 then (bif Nat.blt k 287 then (cd_286) else (cd_287)) else (bif Nat.blt k 289 then (cd_288) else (bif Nat.blt k 290 then (cd_289) else (cd_290)))) else (bif Nat.blt k 294 then (bif Nat.blt k 292 then (cd_291) else (bif Nat.blt k 293 then (cd_292) else (cd_293))) else (bif Nat.blt k 295 then (cd_294) else (bif Nat.blt k 296 then (cd_295) else (cd_296))))))) else (bif Nat.blt k 318 then (bif Nat.blt k 307 then (bif Nat.blt k 302 then (bif Nat.blt k 299 then (bif Nat.blt k 298 then (cd_297) else (cd_298)) else (bif Nat.blt k 300 then (cd_299) else (bif Nat.blt k 301 then (cd_300) else (cd_301)))) else (bif Nat.blt k 304 then (bif Nat.blt k 303 then (cd_302) else (cd_303)) else (bif Nat.blt k 305 then (cd_304) else (bif Nat.blt k 306 then (cd_305) else (cd_306))))) else (bif Nat.blt k 312 then (bif Nat.blt k 309 then (bif Nat.blt k 308 then (cd_307) else (cd_308)) else (bif Nat.blt k 310 then (cd_309) else (bif Nat.blt k 311 then (cd_310) else (cd_311)))) else (bif Nat.blt k 315 then (bif Nat.blt k 313 then (cd_312) else (bif Nat.blt k 314 then (cd_313) else (cd_314))) else (bif Nat.blt k 316 then (cd_315) else (bif Nat.blt k 317 then (cd_316) else (cd_317)))))) else (bif Nat.blt k 329 then (bif Nat.blt k 323 then (bif Nat.blt k 320 then (bif Nat.blt k 319 then (cd_318) else (cd_319)) else (bif Nat.blt k 321 then (cd_320) else (bif Nat.blt k 322 then (cd_321) else (cd_322)))) else (bif Nat.blt k 326 then (bif Nat.blt k 324 then (cd_323) else (bif Nat.blt k 325 then (cd_324) else (cd_325))) else (bif Nat.blt k 327 then (cd_326) else (bif Nat.blt k 328 then (cd_327) else (cd_328))))) else (bif Nat.blt k 334 then (bif Nat.blt k 331 then (bif Nat.blt k 330 then (cd_329) else (cd_330)) else (bif Nat.blt k 332 then (cd_331) else (bif Nat.blt k 333 then (cd_332) else (cd_333)))) else (bif Nat.blt k 337 then (bif Nat.blt k 335 then (cd_334) else (bif Nat.blt k 336 then (cd_335) else (cd_336))) else (bif Nat.blt k 338 then (cd_337) else (bif Nat.blt k 339 then (cd_338) else (cd_339)))))))))
/-- the kind of a method's object (99: static, 98: none that is known) -/
def mkd (k : Nat) : Nat := bif Nat.blt k 170 then (bif Nat.blt k 85 then (bif Nat.blt k 42 then (bif Nat.blt k 21 then (bif Nat.blt k 10 then (bif Nat.blt k 5 then (bif Nat.blt k 2 then (bif Nat.blt k 1 then (10) else (98)) else (bif Nat.blt k 3 then (7) else (bif Nat.blt k 4 then (6) else (4)))) else (bif Nat.blt k 7 then (bif Nat.blt k 6 then (2) else (9)) else (bif Nat.blt k 8 then (5) else (bif Nat.blt k 9 then (0) else (1))))) else (bif Nat.blt k 15 then (bif Nat.blt k 12 then (bif Nat.blt k 11 then (3) else (8)) else (bif Nat.blt k 13 then (10) else (bif Nat.blt k 14 then (10) else (99)))) else (bif Nat.blt k 18 then (bif Nat.blt k 16 then (10) else (7)) else (bif Nat.blt k 19 then (10) else (7))))) else (bif Nat.blt k 31 then (bif Nat.blt k 26 then (bif Nat.blt k 23 then (bif Nat.blt k 22 then (99) else (2)) else (bif Nat.blt k 24 then (99) else (7))) else (99)) else (bif Nat.blt k 36 then (bif Nat.blt k 33 then (bif Nat.blt k 32 then (2) else (7)) else (99)) else (bif Nat.blt k 39 then (99) else (bif Nat.blt k 40 then (7) else (bif Nat.blt k 41 then (10) else (6))))))) else (bif Nat.blt k 63 then (bif Nat.blt k 52 then (bif Nat.blt k 47 then (bif Nat.blt k 44 then (bif Nat.blt k 43 then (6) else (99)) else (bif Nat.blt k 45 then (99) else (6))) else (bif Nat.blt k 49 then (bif Nat.blt k 48 then (8) else (99)) else (bif Nat.blt k 50 then (4) else (1)))) else (bif Nat.blt k 57 then (bif Nat.blt k 54 then (bif Nat.blt k 53 then (1) else (4)) else (99)) else (bif Nat.blt k 60 then (bif Nat.blt k 58 then (1) else (bif Nat.blt k 59 then (1) else (6))) else (bif Nat.blt k 61 then (6) else (1))))) else (bif Nat.blt k 74 then (bif Nat.blt k 68 then (bif Nat.blt k 65 then (bif Nat.blt k 64 then (1) else (99)) else (bif Nat.blt k 66 then (10) else (4))) else (bif Nat.blt k 71 then (4) else (bif Nat.blt k 72 then (4) else (bif Nat.blt k 73 then (4) else (99))))) else (bif Nat.blt k 79 then (bif Nat.blt k 76 then (bif Nat.blt k 75 then (99) else (10)) else (bif Nat.blt k 77 then (99) else (9))) else (bif Nat.blt k 82 then (9) else (bif Nat.blt k 83 then (9) else (bif Nat.blt k 84 then (99) else (9)))))))) else (bif Nat.blt k 127 then (bif Nat.blt k 106 then (bif Nat.blt k 95 then (bif Nat.blt k 90 then (bif Nat.blt k 87 then (bif Nat.blt k 86 then (9) else (99)) else (bif Nat.blt k 88 then (99) else (9))) else (9)) else (bif Nat.blt k 100 then (bif Nat.blt k 97 then (10) else (bif Nat.blt k 98 then (0) else (bif Nat.blt k 99 then (0) else (99)))) else (bif Nat.blt k 103 then (99) else (bif Nat.blt k 104 then (0) else (bif Nat.blt k 105 then (99) else (10)))))) else (bif Nat.blt k 116 then (bif Nat.blt k 111 then (bif Nat.blt k 108 then (bif Nat.blt k 107 then (99) else (5)) else (bif Nat.blt k 109 then (99) else (5))) else (bif Nat.blt k 113 then (bif Nat.blt k 112 then (5) else (10)) else (bif Nat.blt k 114 then (5) else (99)))) else (bif Nat.blt k 121 then (bif Nat.blt k 118 then (bif Nat.blt k 117 then (10) else (5)) else (bif Nat.blt k 119 then (99) else (bif Nat.blt k 120 then (5) else (10)))) else (bif Nat.blt k 124 then (bif Nat.blt k 122 then (10) else (bif Nat.blt k 123 then (6) else (9))) else (bif Nat.blt k 125 then (10) else (bif Nat.blt k 126 then (10) else (99))))))) else (bif Nat.blt k 148 then (bif Nat.blt k 137 then (bif Nat.blt k 132 then (bif Nat.blt k 129 then (bif Nat.blt k 128 then (1) else (99)) else (bif Nat.blt k 130 then (10) else (1))) else (bif Nat.blt k 134 then (bif Nat.blt k 133 then (10) else (1)) else (bif Nat.blt k 135 then (1) else (bif Nat.blt k 136 then (10) else (4))))) else (bif Nat.blt k 142 then (bif Nat.blt k 139 then (bif Nat.blt k 138 then (4) else (10)) else (bif Nat.blt k 140 then (5) else (bif Nat.blt k 141 then (5) else (4)))) else (bif Nat.blt k 145 then (bif Nat.blt k 143 then (4) else (bif Nat.blt k 144 then (5) else (10))) else (bif Nat.blt k 146 then (9) else (bif Nat.blt k 147 then (10) else (1)))))) else (bif Nat.blt k 159 then (bif Nat.blt k 153 then (bif Nat.blt k 150 then (bif Nat.blt k 149 then (99) else (4)) else (bif Nat.blt k 151 then (10) else (3))) else (bif Nat.blt k 156 then (bif Nat.blt k 154 then (3) else (bif Nat.blt k 155 then (10) else (4))) else (bif Nat.blt k 157 then (4) else (bif Nat.blt k 158 then (4) else (10))))) else (bif Nat.blt k 164 then (bif Nat.blt k 161 then (bif Nat.blt k 160 then (99) else (8)) else (8)) else (bif Nat.blt k 167 then (bif Nat.blt k 165 then (8) else (2)) else (2))))))) else (bif Nat.blt k 255 then (bif Nat.blt k 212 then (bif Nat.blt k 191 then (bif Nat.blt k 180 then (bif Nat.blt k 175 then (bif Nat.blt k 172 then (2) else (bif Nat.blt k 173 then (8) else (bif Nat.blt k 174 then (8) else (10)))) else (bif Nat.blt k 177 then (bif Nat.blt k 176 then (10) else (8)) else (bif Nat.blt k 178 then (8) else (10)))) else (bif Nat.blt k 185 then (bif Nat.blt k 182 then (bif Nat.blt k 181 then (10) else (8)) else (10)) else (bif Nat.blt k 188 then (bif Nat.blt k 186 then (10) else (bif Nat.blt k 187 then (10) else (11))) else (bif Nat.blt k 189 then (11) else (bif Nat.blt k 190 then (11) else (99)))))) else (bif Nat.blt k 201 then (11) else (bif Nat.blt k 206 then (bif Nat.blt k 203 then (11) else (bif Nat.blt k 204 then (11) else (99))) else (11)))) else (bif Nat.blt k 233 then (bif Nat.blt k 222 then (11) else (bif Nat.blt k 227 then (bif Nat.blt k 224 then (bif Nat.blt k 223 then (11) else (99)) else (bif Nat.blt k 225 then (99) else (bif Nat.blt k 226 then (11) else (99)))) else (bif Nat.blt k 230 then (bif Nat.blt k 228 then (99) else (11)) else (bif Nat.blt k 231 then (11) else (bif Nat.blt k 232 then (11) else (99)))))) else (bif Nat.blt k 244 then (bif Nat.blt k 238 then (11) else (bif Nat.blt k 241 then (11) else (bif Nat.blt k 242 then (11) else (bif Nat.blt k 243 then (11) else (99))))) else (bif Nat.blt k 249 then (bif Nat.blt k 246 then (11) else (bif Nat.blt k 247 then (99) else (bif Nat.blt k 248 then (99) else (11)))) else (bif Nat.blt k 252 then (bif Nat.blt k 250 then (99) else (bif Nat.blt k 251 then (11) else (99))) else (bif Nat.blt k 253 then (11) else (bif Nat.blt k 254 then (11) else (99)))))))) else (bif Nat.blt k 298 then (bif Nat.blt k 276 then (11) else (bif Nat.blt k 287 then (bif Nat.blt k 281 then (bif Nat.blt k 278 then (bif Nat.blt k 277 then (11) else (99)) else (11)) else (bif Nat.blt k 284 then (bif Nat.blt k 282 then (11) else (bif Nat.blt k 283 then (99) else (11))) else (11))) else (11))) else (bif Nat.blt k 319 then (bif Nat.blt k 308 then (11) else (bif Nat.blt k 313 then (bif Nat.blt k 310 then (11) else (bif Nat.blt k 311 then (11) else (bif Nat.blt k 312 then (11) else (99)))) else (11))) else (bif Nat.blt k 330 then (bif Nat.blt k 324 then (bif Nat.blt k 321 then (11) else (bif Nat.blt k 322 then (11) else (bif Nat.blt k 323 then (11) else (99)))) else (bif Nat.blt k 327 then (11) else (bif Nat.blt k 328 then (11) else (bif Nat.blt k 329 then (99) else (11))))) else (bif Nat.blt k 335 then (11) else (bif Nat.blt k 338 then (11) else (bif Nat.blt k 339 then (11) else (bif Nat.blt k 340 then (11) else (98)))))))))
/-- what a method gives back: 0 nothing, 1 an int, 2 a long -/
def mrk (k : Nat) : Nat := bif Nat.blt k 170 then (bif Nat.blt k 85 then (bif Nat.blt k 42 then (bif Nat.blt k 21 then (bif Nat.blt k 10 then (0) else (bif Nat.blt k 15 then (bif Nat.blt k 12 then (0) else (1)) else (bif Nat.blt k 18 then (bif Nat.blt k 16 then (1) else (bif Nat.blt k 17 then (1) else (0))) else (bif Nat.blt k 19 then (1) else (bif Nat.blt k 20 then (1) else (0)))))) else (bif Nat.blt k 31 then (bif Nat.blt k 26 then (bif Nat.blt k 23 then (bif Nat.blt k 22 then (1) else (0)) else (1)) else (1)) else (bif Nat.blt k 36 then (bif Nat.blt k 33 then (bif Nat.blt k 32 then (0) else (1)) else (1)) else (bif Nat.blt k 39 then (bif Nat.blt k 37 then (1) else (bif Nat.blt k 38 then (1) else (0))) else (1))))) else (bif Nat.blt k 63 then (bif Nat.blt k 52 then (bif Nat.blt k 47 then (bif Nat.blt k 44 then (1) else (bif Nat.blt k 45 then (1) else (bif Nat.blt k 46 then (1) else (0)))) else (0)) else (bif Nat.blt k 57 then (bif Nat.blt k 54 then (bif Nat.blt k 53 then (0) else (1)) else (bif Nat.blt k 55 then (0) else (1))) else (bif Nat.blt k 60 then (bif Nat.blt k 58 then (0) else (1)) else (bif Nat.blt k 61 then (1) else (bif Nat.blt k 62 then (0) else (1)))))) else (bif Nat.blt k 74 then (bif Nat.blt k 68 then (bif Nat.blt k 65 then (bif Nat.blt k 64 then (0) else (1)) else (1)) else (bif Nat.blt k 71 then (1) else (bif Nat.blt k 72 then (1) else (bif Nat.blt k 73 then (0) else (1))))) else (1)))) else (bif Nat.blt k 127 then (bif Nat.blt k 106 then (bif Nat.blt k 95 then (1) else (bif Nat.blt k 100 then (bif Nat.blt k 97 then (1) else (bif Nat.blt k 98 then (1) else (bif Nat.blt k 99 then (1) else (0)))) else (bif Nat.blt k 103 then (bif Nat.blt k 101 then (0) else (bif Nat.blt k 102 then (0) else (1))) else (bif Nat.blt k 104 then (0) else (1))))) else (bif Nat.blt k 116 then (bif Nat.blt k 111 then (bif Nat.blt k 108 then (1) else (bif Nat.blt k 109 then (1) else (0))) else (1)) else (bif Nat.blt k 121 then (bif Nat.blt k 118 then (2) else (bif Nat.blt k 119 then (0) else (bif Nat.blt k 120 then (0) else (1)))) else (1)))) else (bif Nat.blt k 148 then (1) else (bif Nat.blt k 159 then (bif Nat.blt k 153 then (1) else (bif Nat.blt k 156 then (bif Nat.blt k 154 then (0) else (1)) else (1))) else (bif Nat.blt k 164 then (bif Nat.blt k 161 then (bif Nat.blt k 160 then (1) else (0)) else (bif Nat.blt k 162 then (0) else (1))) else (bif Nat.blt k 167 then (bif Nat.blt k 165 then (0) else (1)) else (bif Nat.blt k 168 then (0) else (1)))))))) else (bif Nat.blt k 255 then (bif Nat.blt k 212 then (bif Nat.blt k 191 then (bif Nat.blt k 180 then (bif Nat.blt k 175 then (bif Nat.blt k 172 then (1) else (bif Nat.blt k 173 then (0) else (bif Nat.blt k 174 then (0) else (1)))) else (bif Nat.blt k 177 then (bif Nat.blt k 176 then (1) else (0)) else (1))) else (bif Nat.blt k 185 then (1) else (bif Nat.blt k 188 then (bif Nat.blt k 186 then (1) else (bif Nat.blt k 187 then (1) else (0))) else (1)))) else (bif Nat.blt k 201 then (bif Nat.blt k 196 then (bif Nat.blt k 193 then (bif Nat.blt k 192 then (1) else (0)) else (bif Nat.blt k 194 then (1) else (bif Nat.blt k 195 then (0) else (1)))) else (1)) else (bif Nat.blt k 206 then (bif Nat.blt k 203 then (1) else (bif Nat.blt k 204 then (0) else (1))) else (bif Nat.blt k 209 then (bif Nat.blt k 207 then (0) else (1)) else (bif Nat.blt k 210 then (1) else (bif Nat.blt k 211 then (1) else (0))))))) else (bif Nat.blt k 233 then (bif Nat.blt k 222 then (bif Nat.blt k 217 then (bif Nat.blt k 214 then (0) else (1)) else (1)) else (bif Nat.blt k 227 then (bif Nat.blt k 224 then (bif Nat.blt k 223 then (0) else (1)) else (1)) else (1))) else (bif Nat.blt k 244 then (bif Nat.blt k 238 then (1) else (bif Nat.blt k 241 then (bif Nat.blt k 239 then (1) else (bif Nat.blt k 240 then (0) else (1))) else (bif Nat.blt k 242 then (0) else (1)))) else (bif Nat.blt k 249 then (1) else (bif Nat.blt k 252 then (1) else (bif Nat.blt k 253 then (0) else (1))))))) else (bif Nat.blt k 297 then (bif Nat.blt k 276 then (bif Nat.blt k 265 then (bif Nat.blt k 260 then (bif Nat.blt k 257 then (1) else (bif Nat.blt k 258 then (1) else (bif Nat.blt k 259 then (0) else (1)))) else (bif Nat.blt k 262 then (bif Nat.blt k 261 then (2) else (1)) else (bif Nat.blt k 263 then (0) else (1)))) else (bif Nat.blt k 270 then (bif Nat.blt k 267 then (1) else (bif Nat.blt k 268 then (0) else (bif Nat.blt k 269 then (0) else (1)))) else (1))) else (bif Nat.blt k 286 then (bif Nat.blt k 281 then (1) else (bif Nat.blt k 283 then (1) else (bif Nat.blt k 284 then (1) else (0)))) else (bif Nat.blt k 291 then (1) else (bif Nat.blt k 294 then (1) else (bif Nat.blt k 295 then (1) else (bif Nat.blt k 296 then (1) else (0))))))) else (bif Nat.blt k 318 then (bif Nat.blt k 307 then (bif Nat.blt k 302 then (1) else (bif Nat.blt k 304 then (bif Nat.blt k 303 then (1) else (0)) else (1))) else (bif Nat.blt k 312 then (bif Nat.blt k 309 then (bif Nat.blt k 308 then (1) else (0)) else (1)) else (bif Nat.blt k 315 then (bif Nat.blt k 313 then (1) else (bif Nat.blt k 314 then (1) else (0))) else (0)))) else (bif Nat.blt k 329 then (bif Nat.blt k 323 then (1) else (bif Nat.blt k 326 then (bif Nat.blt k 324 then (1) else (bif Nat.blt k 325 then (1) else (0))) else (bif Nat.blt k 327 then (0) else (bif Nat.blt k 328 then (1) else (0))))) else (1)))))
def mmL (k : Nat) : Nat := bif Nat.blt k 170 then (bif Nat.blt k 85 then (bif Nat.blt k 42 then (bif Nat.blt k 21 then (bif Nat.blt k 10 then (1) else (bif Nat.blt k 15 then (bif Nat.blt k 12 then (1) else (bif Nat.blt k 13 then (5) else (bif Nat.blt k 14 then (2) else (1)))) else (bif Nat.blt k 18 then (bif Nat.blt k 16 then (6) else (bif Nat.blt k 17 then (2) else (3))) else (bif Nat.blt k 19 then (4) else (3))))) else (bif Nat.blt k 31 then (bif Nat.blt k 26 then (bif Nat.blt k 23 then (bif Nat.blt k 22 then (4) else (1)) else (bif Nat.blt k 24 then (5) else (2))) else (bif Nat.blt k 28 then (6) else (bif Nat.blt k 29 then (5) else (bif Nat.blt k 30 then (1) else (4))))) else (bif Nat.blt k 36 then (bif Nat.blt k 33 then (bif Nat.blt k 32 then (3) else (2)) else (bif Nat.blt k 34 then (4) else (6))) else (bif Nat.blt k 39 then (bif Nat.blt k 37 then (6) else (bif Nat.blt k 38 then (3) else (2))) else (bif Nat.blt k 40 then (1) else (bif Nat.blt k 41 then (4) else (3))))))) else (bif Nat.blt k 63 then (bif Nat.blt k 52 then (bif Nat.blt k 47 then (bif Nat.blt k 44 then (bif Nat.blt k 43 then (5) else (1)) else (bif Nat.blt k 45 then (2) else (bif Nat.blt k 46 then (5) else (2)))) else (bif Nat.blt k 49 then (bif Nat.blt k 48 then (1) else (4)) else (bif Nat.blt k 50 then (3) else (bif Nat.blt k 51 then (4) else (3))))) else (bif Nat.blt k 57 then (bif Nat.blt k 54 then (bif Nat.blt k 53 then (4) else (2)) else (bif Nat.blt k 55 then (7) else (2))) else (bif Nat.blt k 60 then (bif Nat.blt k 58 then (7) else (bif Nat.blt k 59 then (6) else (4))) else (bif Nat.blt k 61 then (3) else (bif Nat.blt k 62 then (5) else (6)))))) else (bif Nat.blt k 74 then (bif Nat.blt k 68 then (bif Nat.blt k 65 then (bif Nat.blt k 64 then (4) else (1)) else (bif Nat.blt k 66 then (4) else (5))) else (bif Nat.blt k 71 then (bif Nat.blt k 69 then (3) else (bif Nat.blt k 70 then (5) else (4))) else (bif Nat.blt k 72 then (4) else (bif Nat.blt k 73 then (3) else (1))))) else (bif Nat.blt k 79 then (bif Nat.blt k 76 then (bif Nat.blt k 75 then (2) else (6)) else (bif Nat.blt k 77 then (1) else (4))) else (bif Nat.blt k 82 then (2) else (bif Nat.blt k 83 then (5) else (bif Nat.blt k 84 then (2) else (6)))))))) else (bif Nat.blt k 127 then (bif Nat.blt k 106 then (bif Nat.blt k 95 then (bif Nat.blt k 90 then (bif Nat.blt k 87 then (bif Nat.blt k 86 then (4) else (2)) else (bif Nat.blt k 88 then (1) else (bif Nat.blt k 89 then (1) else (5)))) else (bif Nat.blt k 92 then (bif Nat.blt k 91 then (7) else (8)) else (bif Nat.blt k 93 then (6) else (bif Nat.blt k 94 then (5) else (4))))) else (bif Nat.blt k 100 then (bif Nat.blt k 97 then (bif Nat.blt k 96 then (8) else (3)) else (bif Nat.blt k 98 then (4) else (bif Nat.blt k 99 then (4) else (5)))) else (bif Nat.blt k 103 then (bif Nat.blt k 101 then (3) else (bif Nat.blt k 102 then (9) else (4))) else (bif Nat.blt k 104 then (4) else (bif Nat.blt k 105 then (6) else (8)))))) else (bif Nat.blt k 116 then (bif Nat.blt k 111 then (bif Nat.blt k 108 then (bif Nat.blt k 107 then (2) else (6)) else (bif Nat.blt k 109 then (3) else (bif Nat.blt k 110 then (4) else (5)))) else (bif Nat.blt k 113 then (2) else (bif Nat.blt k 114 then (3) else (bif Nat.blt k 115 then (6) else (1))))) else (bif Nat.blt k 121 then (bif Nat.blt k 118 then (bif Nat.blt k 117 then (7) else (6)) else (bif Nat.blt k 119 then (5) else (bif Nat.blt k 120 then (4) else (6)))) else (bif Nat.blt k 124 then (bif Nat.blt k 122 then (8) else (bif Nat.blt k 123 then (2) else (4))) else (bif Nat.blt k 125 then (2) else (bif Nat.blt k 126 then (3) else (1))))))) else (bif Nat.blt k 148 then (bif Nat.blt k 137 then (bif Nat.blt k 132 then (bif Nat.blt k 129 then (bif Nat.blt k 128 then (2) else (3)) else (bif Nat.blt k 130 then (2) else (bif Nat.blt k 131 then (5) else (4)))) else (bif Nat.blt k 134 then (3) else (bif Nat.blt k 135 then (4) else (bif Nat.blt k 136 then (3) else (5))))) else (bif Nat.blt k 142 then (bif Nat.blt k 139 then (bif Nat.blt k 138 then (5) else (4)) else (bif Nat.blt k 140 then (6) else (bif Nat.blt k 141 then (8) else (5)))) else (bif Nat.blt k 145 then (bif Nat.blt k 143 then (3) else (bif Nat.blt k 144 then (7) else (4))) else (bif Nat.blt k 146 then (5) else (bif Nat.blt k 147 then (2) else (9)))))) else (bif Nat.blt k 159 then (bif Nat.blt k 153 then (bif Nat.blt k 150 then (bif Nat.blt k 149 then (5) else (2)) else (bif Nat.blt k 151 then (1) else (bif Nat.blt k 152 then (6) else (8)))) else (bif Nat.blt k 156 then (bif Nat.blt k 154 then (6) else (bif Nat.blt k 155 then (3) else (4))) else (bif Nat.blt k 157 then (4) else (bif Nat.blt k 158 then (4) else (2))))) else (bif Nat.blt k 164 then (bif Nat.blt k 161 then (bif Nat.blt k 160 then (1) else (6)) else (3)) else (bif Nat.blt k 167 then (bif Nat.blt k 165 then (7) else (bif Nat.blt k 166 then (4) else (7))) else (bif Nat.blt k 168 then (2) else (bif Nat.blt k 169 then (2) else (1))))))))) else (bif Nat.blt k 255 then (bif Nat.blt k 212 then (bif Nat.blt k 191 then (bif Nat.blt k 180 then (bif Nat.blt k 175 then (bif Nat.blt k 172 then (bif Nat.blt k 171 then (4) else (7)) else (bif Nat.blt k 173 then (7) else (bif Nat.blt k 174 then (7) else (3)))) else (bif Nat.blt k 177 then (bif Nat.blt k 176 then (2) else (3)) else (bif Nat.blt k 178 then (3) else (bif Nat.blt k 179 then (3) else (5))))) else (bif Nat.blt k 185 then (bif Nat.blt k 182 then (bif Nat.blt k 181 then (4) else (3)) else (bif Nat.blt k 183 then (2) else (1))) else (bif Nat.blt k 188 then (bif Nat.blt k 186 then (4) else (bif Nat.blt k 187 then (2) else (1))) else (bif Nat.blt k 189 then (5) else (bif Nat.blt k 190 then (2) else (3)))))) else (bif Nat.blt k 201 then (bif Nat.blt k 196 then (bif Nat.blt k 193 then (bif Nat.blt k 192 then (6) else (3)) else (bif Nat.blt k 194 then (4) else (bif Nat.blt k 195 then (3) else (2)))) else (bif Nat.blt k 198 then (bif Nat.blt k 197 then (1) else (3)) else (bif Nat.blt k 199 then (3) else (2)))) else (bif Nat.blt k 206 then (bif Nat.blt k 203 then (bif Nat.blt k 202 then (1) else (2)) else (bif Nat.blt k 204 then (3) else (1))) else (bif Nat.blt k 209 then (bif Nat.blt k 207 then (2) else (bif Nat.blt k 208 then (1) else (3))) else (bif Nat.blt k 210 then (1) else (bif Nat.blt k 211 then (2) else (1))))))) else (bif Nat.blt k 233 then (bif Nat.blt k 222 then (bif Nat.blt k 217 then (bif Nat.blt k 214 then (bif Nat.blt k 213 then (3) else (2)) else (bif Nat.blt k 215 then (2) else (bif Nat.blt k 216 then (4) else (2)))) else (bif Nat.blt k 219 then (bif Nat.blt k 218 then (5) else (2)) else (bif Nat.blt k 220 then (5) else (bif Nat.blt k 221 then (7) else (4))))) else (bif Nat.blt k 227 then (bif Nat.blt k 224 then (bif Nat.blt k 223 then (1) else (2)) else (bif Nat.blt k 225 then (1) else (bif Nat.blt k 226 then (6) else (2)))) else (bif Nat.blt k 230 then (bif Nat.blt k 228 then (1) else (bif Nat.blt k 229 then (2) else (4))) else (bif Nat.blt k 231 then (6) else (bif Nat.blt k 232 then (4) else (3)))))) else (bif Nat.blt k 244 then (bif Nat.blt k 238 then (bif Nat.blt k 235 then (bif Nat.blt k 234 then (4) else (3)) else (bif Nat.blt k 236 then (4) else (bif Nat.blt k 237 then (3) else (9)))) else (bif Nat.blt k 241 then (bif Nat.blt k 239 then (2) else (bif Nat.blt k 240 then (2) else (3))) else (bif Nat.blt k 242 then (3) else (bif Nat.blt k 243 then (5) else (2))))) else (bif Nat.blt k 249 then (bif Nat.blt k 246 then (bif Nat.blt k 245 then (3) else (4)) else (2)) else (bif Nat.blt k 252 then (bif Nat.blt k 250 then (3) else (bif Nat.blt k 251 then (8) else (2))) else (bif Nat.blt k 253 then (5) else (bif Nat.blt k 254 then (3) else (2)))))))) else (bif Nat.blt k 297 then (bif Nat.blt k 276 then (bif Nat.blt k 265 then (bif Nat.blt k 260 then (bif Nat.blt k 257 then (3) else (bif Nat.blt k 258 then (4) else (6))) else (bif Nat.blt k 262 then (bif Nat.blt k 261 then (9) else (6)) else (bif Nat.blt k 263 then (2) else (bif Nat.blt k 264 then (4) else (2))))) else (bif Nat.blt k 270 then (bif Nat.blt k 267 then (bif Nat.blt k 266 then (1) else (6)) else (bif Nat.blt k 268 then (5) else (bif Nat.blt k 269 then (2) else (4)))) else (bif Nat.blt k 273 then (bif Nat.blt k 271 then (3) else (bif Nat.blt k 272 then (1) else (3))) else (bif Nat.blt k 274 then (2) else (bif Nat.blt k 275 then (2) else (3)))))) else (bif Nat.blt k 286 then (bif Nat.blt k 281 then (bif Nat.blt k 278 then (bif Nat.blt k 277 then (2) else (1)) else (bif Nat.blt k 279 then (4) else (bif Nat.blt k 280 then (6) else (5)))) else (bif Nat.blt k 283 then (bif Nat.blt k 282 then (5) else (1)) else (bif Nat.blt k 284 then (4) else (bif Nat.blt k 285 then (3) else (5))))) else (bif Nat.blt k 291 then (bif Nat.blt k 288 then (bif Nat.blt k 287 then (4) else (3)) else (bif Nat.blt k 289 then (6) else (bif Nat.blt k 290 then (2) else (5)))) else (bif Nat.blt k 294 then (bif Nat.blt k 292 then (6) else (bif Nat.blt k 293 then (5) else (3))) else (bif Nat.blt k 295 then (3) else (bif Nat.blt k 296 then (8) else (5))))))) else (bif Nat.blt k 318 then (bif Nat.blt k 307 then (bif Nat.blt k 302 then (bif Nat.blt k 299 then (bif Nat.blt k 298 then (3) else (4)) else (bif Nat.blt k 300 then (4) else (bif Nat.blt k 301 then (5) else (6)))) else (bif Nat.blt k 304 then (2) else (bif Nat.blt k 305 then (5) else (bif Nat.blt k 306 then (4) else (3))))) else (bif Nat.blt k 312 then (bif Nat.blt k 309 then (bif Nat.blt k 308 then (7) else (6)) else (bif Nat.blt k 310 then (3) else (bif Nat.blt k 311 then (6) else (4)))) else (bif Nat.blt k 315 then (bif Nat.blt k 313 then (2) else (bif Nat.blt k 314 then (2) else (3))) else (bif Nat.blt k 316 then (2) else (bif Nat.blt k 317 then (4) else (2)))))) else (bif Nat.blt k 329 then (bif Nat.blt k 323 then (bif Nat.blt k 320 then (bif Nat.blt k 319 then (1) else (2)) else (bif Nat.blt k 321 then (3) else (bif Nat.blt k 322 then (3) else (8)))) else (bif Nat.blt k 326 then (bif Nat.blt k 324 then (3) else (bif Nat.blt k 325 then (6) else (5))) else (bif Nat.blt k 327 then (6) else (bif Nat.blt k 328 then (4) else (3))))) else (bif Nat.blt k 334 then (bif Nat.blt k 331 then (bif Nat.blt k 330 then (3) else (5)) else (bif Nat.blt k 332 then (4) else (2))) else (bif Nat.blt k 337 then (bif Nat.blt k 335 then (1) else (bif Nat.blt k 336 then (2) else (3))) else (bif Nat.blt k 338 then (2) else (bif Nat.blt k 339 then (2) else (3)))))))))
/-- the cells: the kind of each (0 to 11 objects; 12 byte[], 13 char[], 14 int[], 15 long[]; 16 the script, 17, 18 arrays of statics), how many slots -/
def SH (k : Nat) : Nat × Nat := bif Nat.blt k 79 then (bif Nat.blt k 39 then (bif Nat.blt k 19 then (bif Nat.blt k 9 then (bif Nat.blt k 4 then (bif Nat.blt k 2 then (bif Nat.blt k 1 then ((16, 0)) else ((18, 8))) else (bif Nat.blt k 3 then ((17, 7)) else ((18, 8)))) else (bif Nat.blt k 6 then (bif Nat.blt k 5 then ((10, 18)) else ((7, 5))) else (bif Nat.blt k 7 then ((14, 260)) else (bif Nat.blt k 8 then ((6, 5)) else ((14, 6)))))) else (bif Nat.blt k 14 then (bif Nat.blt k 11 then ((14, 6)) else (bif Nat.blt k 12 then ((14, 6)) else (bif Nat.blt k 13 then ((6, 5)) else ((14, 6))))) else (bif Nat.blt k 16 then ((14, 6)) else (bif Nat.blt k 17 then ((14, 6)) else (bif Nat.blt k 18 then ((4, 11)) else ((14, 24))))))) else (bif Nat.blt k 29 then (bif Nat.blt k 24 then ((14, 24)) else (bif Nat.blt k 26 then (bif Nat.blt k 25 then ((14, 24)) else ((4, 11))) else ((14, 24)))) else (bif Nat.blt k 34 then (bif Nat.blt k 31 then ((14, 24)) else (bif Nat.blt k 32 then ((14, 24)) else (bif Nat.blt k 33 then ((14, 24)) else ((2, 11))))) else (bif Nat.blt k 36 then ((14, 16)) else (bif Nat.blt k 37 then ((14, 16)) else (bif Nat.blt k 38 then ((14, 16)) else ((13, 240)))))))) else (bif Nat.blt k 59 then (bif Nat.blt k 49 then (bif Nat.blt k 44 then (bif Nat.blt k 41 then (bif Nat.blt k 40 then ((14, 240)) else ((14, 64))) else (bif Nat.blt k 42 then ((2, 11)) else ((14, 16)))) else (bif Nat.blt k 46 then ((14, 16)) else (bif Nat.blt k 47 then ((13, 240)) else (bif Nat.blt k 48 then ((14, 240)) else ((14, 64)))))) else (bif Nat.blt k 54 then (bif Nat.blt k 51 then (bif Nat.blt k 50 then ((9, 9)) else ((14, 24))) else (bif Nat.blt k 52 then ((14, 24)) else ((14, 2)))) else (bif Nat.blt k 56 then (bif Nat.blt k 55 then ((14, 2)) else ((9, 9))) else (bif Nat.blt k 57 then ((14, 24)) else (bif Nat.blt k 58 then ((14, 24)) else ((14, 2))))))) else (bif Nat.blt k 69 then (bif Nat.blt k 64 then (bif Nat.blt k 61 then ((14, 2)) else (bif Nat.blt k 62 then ((5, 9)) else (bif Nat.blt k 63 then ((14, 24)) else ((14, 12))))) else (bif Nat.blt k 66 then ((14, 12)) else (bif Nat.blt k 67 then ((14, 25)) else ((15, 12))))) else (bif Nat.blt k 74 then (bif Nat.blt k 71 then (bif Nat.blt k 70 then ((0, 6)) else ((14, 720))) else (bif Nat.blt k 72 then ((14, 720)) else ((14, 6)))) else (bif Nat.blt k 76 then (bif Nat.blt k 75 then ((14, 6)) else ((1, 7))) else ((14, 24))))))) else (bif Nat.blt k 119 then (bif Nat.blt k 99 then (bif Nat.blt k 89 then (bif Nat.blt k 84 then (bif Nat.blt k 81 then ((14, 24)) else (bif Nat.blt k 82 then ((14, 24)) else (bif Nat.blt k 83 then ((3, 4)) else ((14, 24))))) else (bif Nat.blt k 86 then ((14, 24)) else (bif Nat.blt k 87 then ((14, 24)) else (bif Nat.blt k 88 then ((8, 9)) else ((14, 6)))))) else (bif Nat.blt k 94 then (bif Nat.blt k 91 then ((14, 6)) else (bif Nat.blt k 92 then ((14, 8)) else (bif Nat.blt k 93 then ((8, 9)) else ((14, 6))))) else (bif Nat.blt k 96 then ((14, 6)) else (bif Nat.blt k 97 then ((14, 8)) else (bif Nat.blt k 98 then ((8, 9)) else ((14, 6))))))) else (bif Nat.blt k 109 then (bif Nat.blt k 104 then (bif Nat.blt k 101 then ((14, 6)) else (bif Nat.blt k 102 then ((14, 8)) else (bif Nat.blt k 103 then ((11, 85)) else ((14, 20))))) else (bif Nat.blt k 106 then ((14, 20)) else (bif Nat.blt k 107 then ((14, 6)) else (bif Nat.blt k 108 then ((14, 6)) else ((12, 260)))))) else (bif Nat.blt k 114 then (bif Nat.blt k 111 then ((14, 260)) else ((14, 16))) else (bif Nat.blt k 116 then (bif Nat.blt k 115 then ((14, 16)) else ((14, 260))) else ((14, 16)))))) else (bif Nat.blt k 139 then (bif Nat.blt k 129 then (bif Nat.blt k 124 then (bif Nat.blt k 121 then (bif Nat.blt k 120 then ((14, 16)) else ((14, 260))) else (bif Nat.blt k 122 then ((14, 8)) else ((14, 6)))) else (bif Nat.blt k 126 then ((14, 24)) else ((14, 2)))) else (bif Nat.blt k 134 then (bif Nat.blt k 131 then ((14, 6)) else (bif Nat.blt k 132 then ((14, 720)) else (bif Nat.blt k 133 then ((14, 12)) else ((14, 1440))))) else (bif Nat.blt k 136 then ((14, 1440)) else (bif Nat.blt k 137 then ((14, 1440)) else (bif Nat.blt k 138 then ((14, 1440)) else ((15, 12))))))) else (bif Nat.blt k 149 then (bif Nat.blt k 144 then (bif Nat.blt k 141 then (bif Nat.blt k 140 then ((15, 12)) else ((14, 6))) else (bif Nat.blt k 142 then ((14, 6)) else ((14, 24)))) else ((14, 24))) else (bif Nat.blt k 154 then ((14, 24)) else (bif Nat.blt k 156 then ((14, 24)) else (bif Nat.blt k 157 then ((14, 24)) else (bif Nat.blt k 158 then ((14, 24)) else ((97, 0)))))))))
def NH : Nat := 158
/-- a field: 0 an int, 1 a reference that stays, 2 one that changes, 3 a boolean -/
def fk (k y : Nat) : Nat := bif Nat.blt k 6 then (bif Nat.blt k 3 then (bif Nat.blt k 1 then ((bif Nat.blt y 3 then (1) else (bif Nat.blt y 5 then (1) else (bif Nat.blt y 6 then (0) else (9))))) else (bif Nat.blt k 2 then ((bif Nat.blt y 4 then (1) else (bif Nat.blt y 6 then (1) else (bif Nat.blt y 7 then (0) else (9))))) else ((bif Nat.blt y 6 then (bif Nat.blt y 3 then (bif Nat.blt y 1 then (0) else (1)) else (bif Nat.blt y 4 then (1) else (bif Nat.blt y 5 then (1) else (0)))) else (bif Nat.blt y 9 then (1) else (bif Nat.blt y 10 then (0) else (bif Nat.blt y 11 then (3) else (9)))))))) else (bif Nat.blt k 4 then ((bif Nat.blt y 2 then (1) else (bif Nat.blt y 3 then (1) else (bif Nat.blt y 4 then (1) else (9))))) else (bif Nat.blt k 5 then ((bif Nat.blt y 6 then (bif Nat.blt y 3 then (bif Nat.blt y 1 then (0) else (1)) else (1)) else (bif Nat.blt y 9 then (bif Nat.blt y 7 then (1) else (bif Nat.blt y 8 then (1) else (0))) else (bif Nat.blt y 10 then (0) else (bif Nat.blt y 11 then (0) else (9)))))) else ((bif Nat.blt y 5 then (bif Nat.blt y 2 then (bif Nat.blt y 1 then (0) else (1)) else (1)) else (bif Nat.blt y 7 then (bif Nat.blt y 6 then (0) else (1)) else (bif Nat.blt y 8 then (2) else (bif Nat.blt y 9 then (2) else (9))))))))) else (bif Nat.blt k 9 then (bif Nat.blt k 7 then ((bif Nat.blt y 3 then (bif Nat.blt y 1 then (0) else (1)) else (bif Nat.blt y 4 then (1) else (bif Nat.blt y 5 then (1) else (9))))) else (bif Nat.blt k 8 then ((bif Nat.blt y 3 then (bif Nat.blt y 1 then (1) else (0)) else (bif Nat.blt y 4 then (0) else (bif Nat.blt y 5 then (0) else (9))))) else ((bif Nat.blt y 5 then (bif Nat.blt y 2 then (1) else (bif Nat.blt y 3 then (1) else (0))) else (bif Nat.blt y 7 then (0) else (bif Nat.blt y 8 then (0) else (bif Nat.blt y 9 then (1) else (9)))))))) else (bif Nat.blt k 11 then (bif Nat.blt k 10 then ((bif Nat.blt y 5 then (bif Nat.blt y 2 then (bif Nat.blt y 1 then (0) else (1)) else (bif Nat.blt y 3 then (1) else (bif Nat.blt y 4 then (0) else (1)))) else (bif Nat.blt y 7 then (1) else (bif Nat.blt y 8 then (0) else (bif Nat.blt y 9 then (3) else (9)))))) else ((bif Nat.blt y 9 then (bif Nat.blt y 4 then (bif Nat.blt y 2 then (bif Nat.blt y 1 then (1) else (2)) else (2)) else (bif Nat.blt y 6 then (2) else (bif Nat.blt y 7 then (2) else (1)))) else (bif Nat.blt y 14 then (1) else (bif Nat.blt y 16 then (1) else (bif Nat.blt y 17 then (0) else (bif Nat.blt y 18 then (3) else (9)))))))) else (bif Nat.blt k 12 then ((bif Nat.blt y 43 then (bif Nat.blt y 21 then (bif Nat.blt y 10 then (bif Nat.blt y 5 then (1) else (bif Nat.blt y 7 then (bif Nat.blt y 6 then (0) else (1)) else (0))) else (bif Nat.blt y 15 then (0) else (bif Nat.blt y 18 then (bif Nat.blt y 16 then (0) else (bif Nat.blt y 17 then (0) else (1))) else (1)))) else (bif Nat.blt y 32 then (1) else (bif Nat.blt y 37 then (bif Nat.blt y 34 then (bif Nat.blt y 33 then (0) else (1)) else (1)) else (bif Nat.blt y 40 then (bif Nat.blt y 38 then (1) else (0)) else (0))))) else (bif Nat.blt y 64 then (bif Nat.blt y 53 then (bif Nat.blt y 48 then (bif Nat.blt y 45 then (1) else (bif Nat.blt y 46 then (1) else (bif Nat.blt y 47 then (0) else (1)))) else (1)) else (bif Nat.blt y 58 then (bif Nat.blt y 55 then (bif Nat.blt y 54 then (0) else (1)) else (1)) else (bif Nat.blt y 61 then (bif Nat.blt y 59 then (0) else (1)) else (1)))) else (bif Nat.blt y 75 then (bif Nat.blt y 69 then (1) else (bif Nat.blt y 72 then (bif Nat.blt y 70 then (0) else (bif Nat.blt y 71 then (0) else (1))) else (bif Nat.blt y 73 then (3) else (bif Nat.blt y 74 then (3) else (1))))) else (bif Nat.blt y 80 then (bif Nat.blt y 77 then (1) else (bif Nat.blt y 78 then (1) else (bif Nat.blt y 79 then (1) else (0)))) else (bif Nat.blt y 83 then (0) else (bif Nat.blt y 84 then (3) else (bif Nat.blt y 85 then (0) else (9))))))))) else (9))))
def ofs (k y : Nat) : Nat := bif Nat.blt k 6 then (bif Nat.blt k 3 then (bif Nat.blt k 1 then ((bif Nat.blt y 3 then (bif Nat.blt y 1 then (1) else (bif Nat.blt y 2 then (2) else (3))) else (bif Nat.blt y 5 then (bif Nat.blt y 4 then (4) else (5)) else (0)))) else (bif Nat.blt k 2 then ((bif Nat.blt y 4 then (bif Nat.blt y 2 then (bif Nat.blt y 1 then (1) else (2)) else (bif Nat.blt y 3 then (3) else (4))) else (bif Nat.blt y 6 then (bif Nat.blt y 5 then (5) else (6)) else (0)))) else ((bif Nat.blt y 6 then (bif Nat.blt y 3 then (bif Nat.blt y 1 then (0) else (bif Nat.blt y 2 then (1) else (2))) else (bif Nat.blt y 4 then (3) else (bif Nat.blt y 5 then (4) else (0)))) else (bif Nat.blt y 9 then (bif Nat.blt y 7 then (5) else (bif Nat.blt y 8 then (6) else (7))) else (0)))))) else (bif Nat.blt k 4 then ((bif Nat.blt y 2 then (bif Nat.blt y 1 then (1) else (2)) else (bif Nat.blt y 3 then (3) else (bif Nat.blt y 4 then (4) else (0))))) else (bif Nat.blt k 5 then ((bif Nat.blt y 6 then (bif Nat.blt y 3 then (bif Nat.blt y 1 then (0) else (bif Nat.blt y 2 then (1) else (2))) else (bif Nat.blt y 4 then (3) else (bif Nat.blt y 5 then (4) else (5)))) else (bif Nat.blt y 9 then (bif Nat.blt y 7 then (6) else (bif Nat.blt y 8 then (7) else (0))) else (0)))) else ((bif Nat.blt y 5 then (bif Nat.blt y 2 then (bif Nat.blt y 1 then (0) else (1)) else (bif Nat.blt y 3 then (2) else (bif Nat.blt y 4 then (3) else (4)))) else (bif Nat.blt y 7 then (bif Nat.blt y 6 then (0) else (5)) else (0))))))) else (bif Nat.blt k 9 then (bif Nat.blt k 7 then ((bif Nat.blt y 3 then (bif Nat.blt y 1 then (0) else (bif Nat.blt y 2 then (1) else (2))) else (bif Nat.blt y 4 then (3) else (bif Nat.blt y 5 then (4) else (0))))) else (bif Nat.blt k 8 then ((bif Nat.blt y 3 then (bif Nat.blt y 1 then (1) else (0)) else (0))) else ((bif Nat.blt y 5 then (bif Nat.blt y 2 then (bif Nat.blt y 1 then (1) else (2)) else (bif Nat.blt y 3 then (3) else (0))) else (bif Nat.blt y 7 then (0) else (bif Nat.blt y 8 then (0) else (bif Nat.blt y 9 then (4) else (0)))))))) else (bif Nat.blt k 11 then (bif Nat.blt k 10 then ((bif Nat.blt y 5 then (bif Nat.blt y 2 then (bif Nat.blt y 1 then (0) else (1)) else (bif Nat.blt y 3 then (2) else (bif Nat.blt y 4 then (0) else (3)))) else (bif Nat.blt y 7 then (bif Nat.blt y 6 then (4) else (5)) else (0)))) else ((bif Nat.blt y 9 then (bif Nat.blt y 4 then (bif Nat.blt y 2 then (bif Nat.blt y 1 then (1) else (0)) else (0)) else (bif Nat.blt y 6 then (0) else (bif Nat.blt y 7 then (0) else (bif Nat.blt y 8 then (45) else (51))))) else (bif Nat.blt y 14 then (bif Nat.blt y 11 then (bif Nat.blt y 10 then (57) else (65)) else (bif Nat.blt y 12 then (71) else (bif Nat.blt y 13 then (78) else (83)))) else (bif Nat.blt y 16 then (bif Nat.blt y 15 then (88) else (93)) else (0)))))) else (bif Nat.blt k 12 then ((bif Nat.blt y 43 then (bif Nat.blt y 21 then (bif Nat.blt y 10 then (bif Nat.blt y 5 then (bif Nat.blt y 2 then (bif Nat.blt y 1 then (1) else (2)) else (bif Nat.blt y 3 then (3) else (bif Nat.blt y 4 then (4) else (5)))) else (bif Nat.blt y 7 then (bif Nat.blt y 6 then (0) else (6)) else (0))) else (bif Nat.blt y 15 then (0) else (bif Nat.blt y 18 then (bif Nat.blt y 16 then (0) else (bif Nat.blt y 17 then (0) else (7))) else (bif Nat.blt y 19 then (8) else (bif Nat.blt y 20 then (9) else (10)))))) else (bif Nat.blt y 32 then (bif Nat.blt y 26 then (bif Nat.blt y 23 then (bif Nat.blt y 22 then (11) else (12)) else (bif Nat.blt y 24 then (13) else (bif Nat.blt y 25 then (14) else (15)))) else (bif Nat.blt y 29 then (bif Nat.blt y 27 then (16) else (bif Nat.blt y 28 then (17) else (18))) else (bif Nat.blt y 30 then (19) else (bif Nat.blt y 31 then (20) else (21))))) else (bif Nat.blt y 37 then (bif Nat.blt y 34 then (bif Nat.blt y 33 then (0) else (22)) else (bif Nat.blt y 35 then (23) else (bif Nat.blt y 36 then (24) else (25)))) else (bif Nat.blt y 40 then (bif Nat.blt y 38 then (26) else (0)) else (0))))) else (bif Nat.blt y 64 then (bif Nat.blt y 53 then (bif Nat.blt y 48 then (bif Nat.blt y 45 then (bif Nat.blt y 44 then (27) else (28)) else (bif Nat.blt y 46 then (29) else (bif Nat.blt y 47 then (0) else (30)))) else (bif Nat.blt y 50 then (bif Nat.blt y 49 then (31) else (32)) else (bif Nat.blt y 51 then (33) else (bif Nat.blt y 52 then (34) else (35))))) else (bif Nat.blt y 58 then (bif Nat.blt y 55 then (bif Nat.blt y 54 then (0) else (36)) else (bif Nat.blt y 56 then (37) else (bif Nat.blt y 57 then (38) else (39)))) else (bif Nat.blt y 61 then (bif Nat.blt y 59 then (0) else (bif Nat.blt y 60 then (40) else (41))) else (bif Nat.blt y 62 then (42) else (bif Nat.blt y 63 then (43) else (44)))))) else (bif Nat.blt y 75 then (bif Nat.blt y 69 then (bif Nat.blt y 66 then (bif Nat.blt y 65 then (45) else (46)) else (bif Nat.blt y 67 then (47) else (bif Nat.blt y 68 then (48) else (49)))) else (bif Nat.blt y 72 then (bif Nat.blt y 70 then (0) else (bif Nat.blt y 71 then (0) else (50))) else (bif Nat.blt y 73 then (0) else (bif Nat.blt y 74 then (0) else (51))))) else (bif Nat.blt y 80 then (bif Nat.blt y 77 then (bif Nat.blt y 76 then (52) else (53)) else (bif Nat.blt y 78 then (54) else (bif Nat.blt y 79 then (55) else (0)))) else (0)))))) else (0))))
/-- how many fields the objects of a kind have -/
def nf (k : Nat) : Nat := bif Nat.blt k 6 then (bif Nat.blt k 3 then (bif Nat.blt k 1 then (6) else (bif Nat.blt k 2 then (7) else (11))) else (bif Nat.blt k 4 then (4) else (bif Nat.blt k 5 then (11) else (9)))) else (bif Nat.blt k 9 then (bif Nat.blt k 7 then (5) else (bif Nat.blt k 8 then (5) else (9))) else (bif Nat.blt k 11 then (bif Nat.blt k 10 then (9) else (18)) else (bif Nat.blt k 12 then (85) else (0))))
def mY (k : Nat) : MethodName := bif Nat.blt k 170 then (bif Nat.blt k 85 then (bif Nat.blt k 42 then (bif Nat.blt k 21 then (bif Nat.blt k 10 then (bif Nat.blt k 5 then (bif Nat.blt k 2 then (bif Nat.blt k 1 then (⟨"NamedToWed", "<init>", "()V"⟩) else (⟨"java/lang/Object", "<init>", "()V"⟩)) else (bif Nat.blt k 3 then (⟨"NamedToWed$Tape", "<init>", "()V"⟩) else (bif Nat.blt k 4 then (⟨"NamedToWed$Rule", "<init>", "()V"⟩) else (⟨"NamedToWed$Roll", "<init>", "()V"⟩)))) else (bif Nat.blt k 7 then (bif Nat.blt k 6 then (⟨"NamedToWed$Law", "<init>", "()V"⟩) else (⟨"NamedToWed$Word", "<init>", "()V"⟩)) else (bif Nat.blt k 8 then (⟨"NamedToWed$Row", "<init>", "()V"⟩) else (bif Nat.blt k 9 then (⟨"NamedToWed$Changes", "<init>", "()V"⟩) else (⟨"NamedToWed$Houses", "<init>", "()V"⟩))))) else (bif Nat.blt k 15 then (bif Nat.blt k 12 then (bif Nat.blt k 11 then (⟨"NamedToWed$Matches", "<init>", "()V"⟩) else (⟨"NamedToWed$Village", "<init>", "()V"⟩)) else (bif Nat.blt k 13 then (⟨"NamedToWed", "people", "(IIII)Z"⟩) else (bif Nat.blt k 14 then (⟨"NamedToWed", "isName", "(I)Z"⟩) else (⟨"NamedToWed", "isNumberOf", "(I)Z"⟩)))) else (bif Nat.blt k 18 then (bif Nat.blt k 16 then (⟨"NamedToWed", "feed", "(IIIII)I"⟩) else (bif Nat.blt k 17 then (⟨"NamedToWed$Tape", "hasRoomFor", "(I)Z"⟩) else (⟨"NamedToWed$Tape", "add", "(I)V"⟩))) else (bif Nat.blt k 19 then (⟨"NamedToWed", "law", "(I)I"⟩) else (bif Nat.blt k 20 then (⟨"NamedToWed$Tape", "has", "(II)Z"⟩) else (⟨"NamedToWed$Tape", "take", "(II)V"⟩)))))) else (bif Nat.blt k 31 then (bif Nat.blt k 26 then (bif Nat.blt k 23 then (bif Nat.blt k 22 then (⟨"NamedToWed$LawReader", "read", "(LNamedToWed$Tape;LNamedToWed$Law;)I"⟩) else (⟨"NamedToWed$Law", "clear", "()V"⟩)) else (bif Nat.blt k 24 then (⟨"NamedToWed$LawReader", "readClause", "(LNamedToWed$Tape;LNamedToWed$Law;)I"⟩) else (bif Nat.blt k 25 then (⟨"NamedToWed$Tape", "now", "()I"⟩) else (⟨"NamedToWed$Tape", "fault", "(I)I"⟩)))) else (bif Nat.blt k 28 then (bif Nat.blt k 27 then (⟨"NamedToWed$LawReader", "readSum", "(LNamedToWed$Tape;LNamedToWed$Law;I)I"⟩) else (⟨"NamedToWed$LawReader", "readTerm", "(LNamedToWed$Tape;LNamedToWed$Law;I)I"⟩)) else (bif Nat.blt k 29 then (⟨"NamedToWed$LawReader", "readFactor", "(LNamedToWed$Tape;LNamedToWed$Law;I)I"⟩) else (bif Nat.blt k 30 then (⟨"NamedToWed", "isDigit", "(I)Z"⟩) else (⟨"NamedToWed$LawReader", "readNumber", "(LNamedToWed$Tape;LNamedToWed$Law;)I"⟩))))) else (bif Nat.blt k 36 then (bif Nat.blt k 33 then (bif Nat.blt k 32 then (⟨"NamedToWed$Law", "emit", "(CI)V"⟩) else (⟨"NamedToWed$Tape", "sign", "(C)I"⟩)) else (bif Nat.blt k 34 then (⟨"NamedToWed$LawReader", "readBracket", "(LNamedToWed$Tape;LNamedToWed$Law;I)I"⟩) else (bif Nat.blt k 35 then (⟨"NamedToWed$LawReader", "readChoice", "(LNamedToWed$Tape;LNamedToWed$Law;I)I"⟩) else (⟨"NamedToWed$LawReader", "readPart", "(LNamedToWed$Tape;LNamedToWed$Law;I)I"⟩)))) else (bif Nat.blt k 39 then (bif Nat.blt k 37 then (⟨"NamedToWed$LawReader", "readTest", "(LNamedToWed$Tape;LNamedToWed$Law;I)I"⟩) else (bif Nat.blt k 38 then (⟨"NamedToWed$LawReader", "emitSkip", "(LNamedToWed$Tape;LNamedToWed$Law;I)I"⟩) else (⟨"NamedToWed$LawReader", "endSkip", "(LNamedToWed$Law;I)V"⟩))) else (bif Nat.blt k 40 then (⟨"NamedToWed$Tape", "end", "()I"⟩) else (bif Nat.blt k 41 then (⟨"NamedToWed", "rule", "(I)I"⟩) else (⟨"NamedToWed$Rule", "read", "(LNamedToWed$Tape;)I"⟩))))))) else (bif Nat.blt k 63 then (bif Nat.blt k 52 then (bif Nat.blt k 47 then (bif Nat.blt k 44 then (bif Nat.blt k 43 then (⟨"NamedToWed$Rule", "readWives", "(LNamedToWed$Tape;)I"⟩) else (⟨"NamedToWed", "nameOf", "(I)I"⟩)) else (bif Nat.blt k 45 then (⟨"NamedToWed", "fault", "(II)I"⟩) else (bif Nat.blt k 46 then (⟨"NamedToWed$Rule", "readChildren", "(LNamedToWed$Tape;)I"⟩) else (⟨"NamedToWed$Rule", "turnRound", "()V"⟩)))) else (bif Nat.blt k 49 then (bif Nat.blt k 48 then (⟨"NamedToWed$Village", "clear", "()V"⟩) else (⟨"java/util/Arrays", "fill", "([II)V"⟩)) else (bif Nat.blt k 50 then (⟨"NamedToWed$Roll", "forgetNamesFrom", "(I)V"⟩) else (bif Nat.blt k 51 then (⟨"NamedToWed$Houses", "settle", "(LNamedToWed$Rule;LNamedToWed$Roll;)V"⟩) else (⟨"NamedToWed$Houses", "findHeads", "(LNamedToWed$Roll;)V"⟩))))) else (bif Nat.blt k 57 then (bif Nat.blt k 54 then (bif Nat.blt k 53 then (⟨"NamedToWed$Houses", "joinTo", "(LNamedToWed$Roll;II)V"⟩) else (⟨"NamedToWed$Roll", "has", "(I)Z"⟩)) else (bif Nat.blt k 55 then (⟨"NamedToWed", "join", "([IIII)V"⟩) else (bif Nat.blt k 56 then (⟨"java/lang/Math", "min", "(II)I"⟩) else (⟨"java/lang/Math", "max", "(II)I"⟩)))) else (bif Nat.blt k 60 then (bif Nat.blt k 58 then (⟨"NamedToWed$Houses", "nameAll", "(LNamedToWed$Rule;LNamedToWed$Roll;I)V"⟩) else (bif Nat.blt k 59 then (⟨"NamedToWed$Houses", "nameNext", "(LNamedToWed$Rule;LNamedToWed$Roll;III)Z"⟩) else (⟨"NamedToWed$Rule", "go", "(III)I"⟩))) else (bif Nat.blt k 61 then (⟨"NamedToWed$Rule", "spouse", "(II)I"⟩) else (bif Nat.blt k 62 then (⟨"NamedToWed$Houses", "findBroken", "(LNamedToWed$Rule;LNamedToWed$Roll;)V"⟩) else (⟨"NamedToWed$Houses", "fits", "(LNamedToWed$Rule;LNamedToWed$Roll;III)Z"⟩)))))) else (bif Nat.blt k 74 then (bif Nat.blt k 68 then (bif Nat.blt k 65 then (bif Nat.blt k 64 then (⟨"NamedToWed$Houses", "takeIn", "(LNamedToWed$Roll;)V"⟩) else (⟨"java/lang/Integer", "bitCount", "(I)I"⟩)) else (bif Nat.blt k 66 then (⟨"NamedToWed", "roll", "(I)I"⟩) else (bif Nat.blt k 67 then (⟨"NamedToWed$Roll", "read", "(LNamedToWed$Tape;I)I"⟩) else (⟨"NamedToWed$Roll", "readPerson", "(LNamedToWed$Tape;I)I"⟩)))) else (bif Nat.blt k 71 then (bif Nat.blt k 69 then (⟨"NamedToWed$Roll", "readParents", "(LNamedToWed$Tape;)I"⟩) else (bif Nat.blt k 70 then (⟨"NamedToWed$Roll", "readParent", "(LNamedToWed$Tape;I)I"⟩) else (⟨"NamedToWed$Roll", "readNumber", "(LNamedToWed$Tape;)I"⟩))) else (bif Nat.blt k 72 then (⟨"NamedToWed$Roll", "readSpouse", "(LNamedToWed$Tape;)I"⟩) else (bif Nat.blt k 73 then (⟨"NamedToWed$Roll", "relateAll", "()V"⟩) else (⟨"NamedToWed$Roll", "bit", "(I)I"⟩))))) else (bif Nat.blt k 79 then (bif Nat.blt k 76 then (bif Nat.blt k 75 then (⟨"NamedToWed$Roll", "isSame", "(II)Z"⟩) else (⟨"NamedToWed", "kin", "(III)I"⟩)) else (bif Nat.blt k 77 then (⟨"NamedToWed", "isSort", "(I)Z"⟩) else (bif Nat.blt k 78 then (⟨"NamedToWed$Word", "read", "(LNamedToWed$Tape;I)I"⟩) else (⟨"NamedToWed$Word", "readByte", "(LNamedToWed$Tape;)I"⟩)))) else (bif Nat.blt k 82 then (bif Nat.blt k 80 then (⟨"NamedToWed$Word", "openRound", "(LNamedToWed$Tape;)I"⟩) else (bif Nat.blt k 81 then (⟨"NamedToWed$Word", "startHere", "(LNamedToWed$Tape;)I"⟩) else (⟨"NamedToWed$Word", "timesHere", "()I"⟩))) else (bif Nat.blt k 83 then (⟨"NamedToWed$Word", "closeRound", "(LNamedToWed$Tape;)I"⟩) else (bif Nat.blt k 84 then (⟨"NamedToWed", "stepOf", "(I)I"⟩) else (⟨"NamedToWed$Word", "addStep", "(ILNamedToWed$Tape;)I"⟩)))))))) else (bif Nat.blt k 127 then (bif Nat.blt k 106 then (bif Nat.blt k 95 then (bif Nat.blt k 90 then (bif Nat.blt k 87 then (bif Nat.blt k 86 then (⟨"NamedToWed$Word", "firstNoSpouse", "(I)I"⟩) else (⟨"NamedToWed", "canStep", "(II)Z"⟩)) else (bif Nat.blt k 88 then (⟨"NamedToWed", "sortBehind", "(I)I"⟩) else (bif Nat.blt k 89 then (⟨"NamedToWed$Word", "sortAtEnd", "()I"⟩) else (⟨"NamedToWed$Word", "unchanged", "(LNamedToWed$Rule;I)I"⟩)))) else (bif Nat.blt k 92 then (bif Nat.blt k 91 then (⟨"NamedToWed$Word", "lead", "(LNamedToWed$Rule;II)I"⟩) else (⟨"NamedToWed$Word", "rounds", "(LNamedToWed$Rule;I)I"⟩)) else (bif Nat.blt k 93 then (⟨"NamedToWed$Word", "circle", "(LNamedToWed$Rule;II)I"⟩) else (bif Nat.blt k 94 then (⟨"NamedToWed$Word", "lawfulFrom", "(LNamedToWed$Rule;I)I"⟩) else (⟨"NamedToWed$Word", "isLawful", "(LNamedToWed$Rule;II)Z"⟩))))) else (bif Nat.blt k 100 then (bif Nat.blt k 97 then (bif Nat.blt k 96 then (⟨"NamedToWed", "alike", "(III)I"⟩) else (⟨"NamedToWed", "ways", "(I)I"⟩)) else (bif Nat.blt k 98 then (⟨"NamedToWed$Changes", "sides", "(LNamedToWed$Rule;)I"⟩) else (bif Nat.blt k 99 then (⟨"NamedToWed$Changes", "size", "(LNamedToWed$Rule;I)I"⟩) else (⟨"java/util/Arrays", "fill", "([IIII)V"⟩)))) else (bif Nat.blt k 103 then (bif Nat.blt k 101 then (⟨"java/util/Arrays", "rangeCheck", "(III)V"⟩) else (bif Nat.blt k 102 then (⟨"NamedToWed$Changes", "unpack", "(I[II)V"⟩) else (⟨"NamedToWed$Changes", "unusedAt", "(II)I"⟩))) else (bif Nat.blt k 104 then (⟨"NamedToWed$Changes", "reach", "([II)V"⟩) else (bif Nat.blt k 105 then (⟨"NamedToWed$Changes", "pack", "([II)I"⟩) else (⟨"NamedToWed", "term", "(IIIII)I"⟩)))))) else (bif Nat.blt k 116 then (bif Nat.blt k 111 then (bif Nat.blt k 108 then (bif Nat.blt k 107 then (⟨"NamedToWed", "isStep", "(II)Z"⟩) else (⟨"NamedToWed$Row", "findOnNames", "(LNamedToWed$Rule;II)Z"⟩)) else (bif Nat.blt k 109 then (⟨"NamedToWed$Row", "next", "(LNamedToWed$Rule;II)I"⟩) else (bif Nat.blt k 110 then (⟨"NamedToWed$Row", "comeTo", "(III)V"⟩) else (⟨"NamedToWed$Row", "writeBack", "(II)V"⟩)))) else (bif Nat.blt k 113 then (bif Nat.blt k 112 then (⟨"NamedToWed$Row", "tell", "(I)I"⟩) else (⟨"NamedToWed", "cousin", "(I)I"⟩)) else (bif Nat.blt k 114 then (⟨"NamedToWed$Row", "findCousin", "(LNamedToWed$Rule;)Z"⟩) else (bif Nat.blt k 115 then (⟨"NamedToWed$Row", "isCousin", "(LNamedToWed$Rule;II)Z"⟩) else (⟨"NamedToWed$Row", "isBlood", "(I)Z"⟩))))) else (bif Nat.blt k 121 then (bif Nat.blt k 118 then (bif Nat.blt k 117 then (⟨"NamedToWed", "words", "(IIIII)J"⟩) else (⟨"NamedToWed$Row", "howMany", "(LNamedToWed$Rule;III)J"⟩)) else (bif Nat.blt k 119 then (⟨"java/util/Arrays", "fill", "([JJ)V"⟩) else (bif Nat.blt k 120 then (⟨"NamedToWed$Row", "addOneStep", "(LNamedToWed$Rule;)V"⟩) else (⟨"NamedToWed", "allRules", "(III)I"⟩)))) else (bif Nat.blt k 124 then (bif Nat.blt k 122 then (⟨"NamedToWed", "rulesForWord", "(II)I"⟩) else (bif Nat.blt k 123 then (⟨"NamedToWed$Rule", "someWedsOwnName", "()Z"⟩) else (⟨"NamedToWed$Word", "alwaysLawful", "(LNamedToWed$Rule;I)Z"⟩))) else (bif Nat.blt k 125 then (⟨"NamedToWed", "isEvenAndOneSide", "(LNamedToWed$Rule;)Z"⟩) else (bif Nat.blt k 126 then (⟨"NamedToWed", "personIs", "(II)I"⟩) else (⟨"NamedToWed", "orNothing", "(I)I"⟩))))))) else (bif Nat.blt k 148 then (bif Nat.blt k 137 then (bif Nat.blt k 132 then (bif Nat.blt k 129 then (bif Nat.blt k 128 then (⟨"NamedToWed$Houses", "sureName", "(I)I"⟩) else (⟨"NamedToWed", "lowestOf", "(I)I"⟩)) else (bif Nat.blt k 130 then (⟨"NamedToWed", "houses", "(I)I"⟩) else (bif Nat.blt k 131 then (⟨"NamedToWed$Houses", "howMany", "(IZ)I"⟩) else (⟨"NamedToWed$Houses", "wrongOnes", "(I)I"⟩)))) else (bif Nat.blt k 134 then (bif Nat.blt k 133 then (⟨"NamedToWed", "mended", "(I)I"⟩) else (⟨"NamedToWed$Houses", "canBeMended", "(I)Z"⟩)) else (bif Nat.blt k 135 then (⟨"NamedToWed$Houses", "goneNames", "(I)I"⟩) else (bif Nat.blt k 136 then (⟨"NamedToWed", "byTold", "(I)I"⟩) else (⟨"NamedToWed$Roll", "wrongWeddings", "(LNamedToWed$Rule;)I"⟩))))) else (bif Nat.blt k 142 then (bif Nat.blt k 139 then (bif Nat.blt k 138 then (⟨"NamedToWed$Roll", "wrongChildren", "(LNamedToWed$Rule;)I"⟩) else (⟨"NamedToWed", "whatIs", "(III)I"⟩)) else (bif Nat.blt k 140 then (⟨"NamedToWed$Row", "findOnPeople", "(LNamedToWed$Roll;II)Z"⟩) else (bif Nat.blt k 141 then (⟨"NamedToWed$Row", "layersFrom", "(LNamedToWed$Roll;II)I"⟩) else (⟨"NamedToWed$Roll", "relatedToAny", "(II)I"⟩)))) else (bif Nat.blt k 145 then (bif Nat.blt k 143 then (⟨"NamedToWed$Roll", "related", "(II)I"⟩) else (bif Nat.blt k 144 then (⟨"NamedToWed$Row", "leastStep", "(LNamedToWed$Roll;II)I"⟩) else (⟨"NamedToWed", "those", "(II)I"⟩))) else (bif Nat.blt k 146 then (⟨"NamedToWed$Word", "leadOnRoll", "(LNamedToWed$Roll;I)I"⟩) else (bif Nat.blt k 147 then (⟨"NamedToWed", "mayWed", "(I)I"⟩) else (⟨"NamedToWed$Houses", "suitable", "(LNamedToWed$Rule;LNamedToWed$Roll;I)I"⟩)))))) else (bif Nat.blt k 159 then (bif Nat.blt k 153 then (bif Nat.blt k 150 then (bif Nat.blt k 149 then (⟨"NamedToWed$Houses", "spouseNames", "(LNamedToWed$Rule;II)I"⟩) else (⟨"NamedToWed$Roll", "nearTo", "(I)I"⟩)) else (bif Nat.blt k 151 then (⟨"NamedToWed", "weddings", "()I"⟩) else (bif Nat.blt k 152 then (⟨"NamedToWed$Matches", "most", "(LNamedToWed$Rule;LNamedToWed$Roll;LNamedToWed$Houses;)I"⟩) else (⟨"NamedToWed$Matches", "findFor", "(II)Z"⟩)))) else (bif Nat.blt k 156 then (bif Nat.blt k 154 then (⟨"NamedToWed$Matches", "giveWay", "(I)V"⟩) else (bif Nat.blt k 155 then (⟨"NamedToWed", "line", "(II)I"⟩) else (⟨"NamedToWed$Roll", "comeFrom", "(I)I"⟩))) else (bif Nat.blt k 157 then (⟨"NamedToWed$Roll", "aheadOf", "(I)I"⟩) else (bif Nat.blt k 158 then (⟨"NamedToWed$Roll", "generation", "(I)I"⟩) else (⟨"NamedToWed", "years", "(I)I"⟩))))) else (bif Nat.blt k 164 then (bif Nat.blt k 161 then (bif Nat.blt k 160 then (⟨"NamedToWed", "isYears", "(I)Z"⟩) else (⟨"NamedToWed$Village", "goBy", "(LNamedToWed$Rule;LNamedToWed$Law;I)V"⟩)) else (bif Nat.blt k 162 then (⟨"NamedToWed$Village", "draw", "(LNamedToWed$Rule;I)V"⟩) else (bif Nat.blt k 163 then (⟨"NamedToWed$Village", "allOf", "(LNamedToWed$Rule;I)I"⟩) else (⟨"NamedToWed$Village", "all", "()I"⟩)))) else (bif Nat.blt k 167 then (bif Nat.blt k 165 then (⟨"NamedToWed$Village", "wedSome", "(LNamedToWed$Rule;LNamedToWed$Law;I)V"⟩) else (bif Nat.blt k 166 then (⟨"NamedToWed$Law", "anyHolds", "(C[I)Z"⟩) else (⟨"NamedToWed$Law", "run", "(II[I)I"⟩))) else (bif Nat.blt k 168 then (⟨"NamedToWed$Law", "push", "(I)V"⟩) else (bif Nat.blt k 169 then (⟨"NamedToWed$Law", "pop", "()I"⟩) else (⟨"NamedToWed$Law", "top", "()I"⟩))))))))) else (bif Nat.blt k 255 then (bif Nat.blt k 212 then (bif Nat.blt k 191 then (bif Nat.blt k 180 then (bif Nat.blt k 175 then (bif Nat.blt k 172 then (bif Nat.blt k 171 then (⟨"NamedToWed$Law", "reckon", "(CII)I"⟩) else (⟨"NamedToWed$Law", "worth", "(C[III)I"⟩)) else (bif Nat.blt k 173 then (⟨"NamedToWed$Village", "bearSome", "(LNamedToWed$Rule;LNamedToWed$Law;I)V"⟩) else (bif Nat.blt k 174 then (⟨"NamedToWed$Village", "dieSome", "(LNamedToWed$Law;I)V"⟩) else (⟨"NamedToWed", "tried", "(II)I"⟩)))) else (bif Nat.blt k 177 then (bif Nat.blt k 176 then (⟨"NamedToWed", "isTriedWhat", "(I)Z"⟩) else (⟨"NamedToWed$Village", "copy", "(LNamedToWed$Village;I)V"⟩)) else (bif Nat.blt k 178 then (⟨"NamedToWed$Village", "some", "(II)I"⟩) else (bif Nat.blt k 179 then (⟨"NamedToWed", "nameIs", "(II)I"⟩) else (⟨"NamedToWed", "diesOut", "(II)I"⟩))))) else (bif Nat.blt k 185 then (bif Nat.blt k 182 then (bif Nat.blt k 181 then (⟨"NamedToWed", "left", "(I)I"⟩) else (⟨"NamedToWed$Village", "leftMen", "(LNamedToWed$Rule;I)I"⟩)) else (bif Nat.blt k 183 then (⟨"NamedToWed", "seed", "(I)Z"⟩) else (bif Nat.blt k 184 then (⟨"NamedToWed", "keep", "()I"⟩) else (⟨"NamedToWed", "undo", "()Z"⟩)))) else (bif Nat.blt k 188 then (bif Nat.blt k 186 then (⟨"NamedToWed", "check", "(I)I"⟩) else (bif Nat.blt k 187 then (⟨"NamedToWed", "count", "(I)I"⟩) else (⟨"NamedToWedModel", "<init>", "()V"⟩))) else (bif Nat.blt k 189 then (⟨"NamedToWedModel", "people", "(IIII)Z"⟩) else (bif Nat.blt k 190 then (⟨"NamedToWedModel", "isName", "(I)Z"⟩) else (⟨"NamedToWedModel", "in", "(III)Z"⟩)))))) else (bif Nat.blt k 201 then (bif Nat.blt k 196 then (bif Nat.blt k 193 then (bif Nat.blt k 192 then (⟨"NamedToWedModel", "feed", "(IIIII)I"⟩) else (⟨"NamedToWedModel", "types", "(I)V"⟩)) else (bif Nat.blt k 194 then (⟨"NamedToWedModel", "law", "(I)I"⟩) else (bif Nat.blt k 195 then (⟨"NamedToWedModel", "beginsText", "(II)V"⟩) else (⟨"NamedToWedModel", "readsClause", "()Z"⟩)))) else (bif Nat.blt k 198 then (bif Nat.blt k 197 then (⟨"NamedToWedModel", "here", "()I"⟩) else (⟨"NamedToWedModel", "wrongAt", "(II)Z"⟩)) else (bif Nat.blt k 199 then (⟨"NamedToWedModel", "readsSum", "()Z"⟩) else (bif Nat.blt k 200 then (⟨"NamedToWedModel", "readsFactor", "()Z"⟩) else (⟨"NamedToWedModel", "opens", "(I)Z"⟩))))) else (bif Nat.blt k 206 then (bif Nat.blt k 203 then (bif Nat.blt k 202 then (⟨"NamedToWedModel", "isDigit", "()Z"⟩) else (⟨"NamedToWedModel", "readsNumber", "()Z"⟩)) else (bif Nat.blt k 204 then (⟨"NamedToWedModel", "notes", "(II)V"⟩) else (bif Nat.blt k 205 then (⟨"NamedToWedModel", "factOf", "(I)I"⟩) else (⟨"NamedToWedModel", "sumSign", "(I)I"⟩)))) else (bif Nat.blt k 209 then (bif Nat.blt k 207 then (⟨"NamedToWedModel", "closesSums", "(Z)V"⟩) else (bif Nat.blt k 208 then (⟨"NamedToWedModel", "waitTop", "()I"⟩) else (⟨"NamedToWedModel", "hasOpenSum", "(I)Z"⟩))) else (bif Nat.blt k 210 then (⟨"NamedToWedModel", "readsCondition", "()Z"⟩) else (bif Nat.blt k 211 then (⟨"NamedToWedModel", "readsCompared", "()Z"⟩) else (⟨"NamedToWedModel", "endsPiece", "()V"⟩))))))) else (bif Nat.blt k 233 then (bif Nat.blt k 222 then (bif Nat.blt k 217 then (bif Nat.blt k 214 then (bif Nat.blt k 213 then (⟨"NamedToWedModel", "lands", "(Z)V"⟩) else (⟨"NamedToWedModel", "jumps", "(I)V"⟩)) else (bif Nat.blt k 215 then (⟨"NamedToWedModel", "takes", "(I)Z"⟩) else (bif Nat.blt k 216 then (⟨"NamedToWedModel", "rule", "(I)I"⟩) else (⟨"NamedToWedModel", "readsWives", "()Z"⟩)))) else (bif Nat.blt k 219 then (bif Nat.blt k 218 then (⟨"NamedToWedModel", "readsName", "([II)Z"⟩) else (⟨"NamedToWedModel", "readsChildren", "()Z"⟩)) else (bif Nat.blt k 220 then (⟨"NamedToWedModel", "kin", "(III)I"⟩) else (bif Nat.blt k 221 then (⟨"NamedToWedModel", "readsWord", "(III)I"⟩) else (⟨"NamedToWedModel", "readsStep", "()Z"⟩))))) else (bif Nat.blt k 227 then (bif Nat.blt k 224 then (bif Nat.blt k 223 then (⟨"NamedToWedModel", "readsTimes", "()V"⟩) else (⟨"NamedToWedModel", "kindOf", "(I)I"⟩)) else (bif Nat.blt k 225 then (⟨"NamedToWedModel", "letterOf", "(I)I"⟩) else (bif Nat.blt k 226 then (⟨"NamedToWedModel", "repeats", "(III)Z"⟩) else (⟨"NamedToWedModel", "canBe", "(II)Z"⟩)))) else (bif Nat.blt k 230 then (bif Nat.blt k 228 then (⟨"NamedToWedModel", "sortBy", "(I)I"⟩) else (bif Nat.blt k 229 then (⟨"NamedToWedModel", "sortBehind", "(I)I"⟩) else (⟨"NamedToWedModel", "fixedBy", "(I)I"⟩))) else (bif Nat.blt k 231 then (⟨"NamedToWedModel", "leadsTo", "(II)I"⟩) else (bif Nat.blt k 232 then (⟨"NamedToWedModel", "nameBy", "(III)I"⟩) else (⟨"NamedToWedModel", "before", "([II)I"⟩)))))) else (bif Nat.blt k 244 then (bif Nat.blt k 238 then (bif Nat.blt k 235 then (bif Nat.blt k 234 then (⟨"NamedToWedModel", "oftenTill", "(I)I"⟩) else (⟨"NamedToWedModel", "isPlain", "([I)Z"⟩)) else (bif Nat.blt k 236 then (⟨"NamedToWedModel", "lawful", "(I)I"⟩) else (bif Nat.blt k 237 then (⟨"NamedToWedModel", "spouseOf", "(II)I"⟩) else (⟨"NamedToWedModel", "alike", "(III)I"⟩)))) else (bif Nat.blt k 241 then (bif Nat.blt k 239 then (⟨"NamedToWedModel", "ways", "(I)I"⟩) else (bif Nat.blt k 240 then (⟨"NamedToWedModel", "laysWays", "()V"⟩) else (⟨"NamedToWedModel", "plainWay", "()I"⟩))) else (bif Nat.blt k 242 then (⟨"NamedToWedModel", "addsWay", "(I)V"⟩) else (bif Nat.blt k 243 then (⟨"NamedToWedModel", "changedBy", "(I[I)I"⟩) else (⟨"NamedToWedModel", "nameIn", "(II)I"⟩))))) else (bif Nat.blt k 249 then (bif Nat.blt k 246 then (bif Nat.blt k 245 then (⟨"NamedToWedModel", "sides", "()I"⟩) else (⟨"NamedToWedModel", "sideOf", "(I)I"⟩)) else (bif Nat.blt k 247 then (⟨"NamedToWedModel", "lowest", "(I)I"⟩) else (bif Nat.blt k 248 then (⟨"NamedToWedModel", "has", "(II)Z"⟩) else (⟨"NamedToWedModel", "isEven", "()Z"⟩)))) else (bif Nat.blt k 252 then (bif Nat.blt k 250 then (⟨"NamedToWedModel", "bits", "(I)I"⟩) else (bif Nat.blt k 251 then (⟨"NamedToWedModel", "term", "(IIIII)I"⟩) else (⟨"NamedToWedModel", "isStepOr", "(II)Z"⟩))) else (bif Nat.blt k 253 then (⟨"NamedToWedModel", "laysFar", "(I)V"⟩) else (bif Nat.blt k 254 then (⟨"NamedToWedModel", "stateBy", "(II)I"⟩) else (⟨"NamedToWedModel", "min", "(II)I"⟩)))))))) else (bif Nat.blt k 297 then (bif Nat.blt k 276 then (bif Nat.blt k 265 then (bif Nat.blt k 260 then (bif Nat.blt k 257 then (bif Nat.blt k 256 then (⟨"NamedToWedModel", "kindFrom", "(I)I"⟩) else (⟨"NamedToWedModel", "cousin", "(I)I"⟩)) else (bif Nat.blt k 258 then (⟨"NamedToWedModel", "laysCousins", "()I"⟩) else (bif Nat.blt k 259 then (⟨"NamedToWedModel", "addsCousin", "(IIII)V"⟩) else (⟨"NamedToWedModel", "wayBy", "(III)I"⟩)))) else (bif Nat.blt k 262 then (bif Nat.blt k 261 then (⟨"NamedToWedModel", "words", "(IIIII)J"⟩) else (⟨"NamedToWedModel", "allRules", "(III)I"⟩)) else (bif Nat.blt k 263 then (⟨"NamedToWedModel", "keepsRule", "()V"⟩) else (bif Nat.blt k 264 then (⟨"NamedToWedModel", "countsRules", "(Z)I"⟩) else (⟨"NamedToWedModel", "weddsOut", "()Z"⟩))))) else (bif Nat.blt k 270 then (bif Nat.blt k 267 then (bif Nat.blt k 266 then (⟨"NamedToWedModel", "isEvenAndOne", "()Z"⟩) else (⟨"NamedToWedModel", "nextRow", "([I)Z"⟩)) else (bif Nat.blt k 268 then (⟨"NamedToWedModel", "changesRow", "([III)V"⟩) else (bif Nat.blt k 269 then (⟨"NamedToWedModel", "putsRuleBack", "()V"⟩) else (⟨"NamedToWedModel", "roll", "(I)I"⟩)))) else (bif Nat.blt k 273 then (bif Nat.blt k 271 then (⟨"NamedToWedModel", "readsPerson", "()Z"⟩) else (bif Nat.blt k 272 then (⟨"NamedToWedModel", "readsParents", "()Z"⟩) else (⟨"NamedToWedModel", "readsParent", "(I)Z"⟩))) else (bif Nat.blt k 274 then (⟨"NamedToWedModel", "readsLower", "()Z"⟩) else (bif Nat.blt k 275 then (⟨"NamedToWedModel", "readsWedding", "()Z"⟩) else (⟨"NamedToWedModel", "personIs", "(II)I"⟩)))))) else (bif Nat.blt k 286 then (bif Nat.blt k 281 then (bif Nat.blt k 278 then (bif Nat.blt k 277 then (⟨"NamedToWedModel", "isPerson", "(I)Z"⟩) else (⟨"NamedToWedModel", "orNone", "(I)I"⟩)) else (bif Nat.blt k 279 then (⟨"NamedToWedModel", "childrenOf", "(I)I"⟩) else (bif Nat.blt k 280 then (⟨"NamedToWedModel", "siblingsOf", "(I)I"⟩) else (⟨"NamedToWedModel", "mayBe", "(I)I"⟩)))) else (bif Nat.blt k 283 then (bif Nat.blt k 282 then (⟨"NamedToWedModel", "houseOf", "(I)I"⟩) else (⟨"NamedToWedModel", "bit", "(I)I"⟩)) else (bif Nat.blt k 284 then (⟨"NamedToWedModel", "canBeBy", "(II)Z"⟩) else (bif Nat.blt k 285 then (⟨"NamedToWedModel", "isNamed", "(II)V"⟩) else (⟨"NamedToWedModel", "namesKin", "(I)V"⟩))))) else (bif Nat.blt k 291 then (bif Nat.blt k 288 then (bif Nat.blt k 287 then (⟨"NamedToWedModel", "mismatched", "(I)I"⟩) else (⟨"NamedToWedModel", "sureOf", "(I)I"⟩)) else (bif Nat.blt k 289 then (⟨"NamedToWedModel", "houses", "(I)I"⟩) else (bif Nat.blt k 290 then (⟨"NamedToWedModel", "isFirst", "(I)Z"⟩) else (⟨"NamedToWedModel", "mended", "(I)I"⟩)))) else (bif Nat.blt k 294 then (bif Nat.blt k 292 then (⟨"NamedToWedModel", "mendedAt", "(I)I"⟩) else (bif Nat.blt k 293 then (⟨"NamedToWedModel", "byTold", "(I)I"⟩) else (⟨"NamedToWedModel", "isWrongWedding", "(I)Z"⟩))) else (bif Nat.blt k 295 then (⟨"NamedToWedModel", "isWrongChild", "(I)Z"⟩) else (bif Nat.blt k 296 then (⟨"NamedToWedModel", "whatIs", "(III)I"⟩) else (⟨"NamedToWedModel", "laysLevels", "(I)V"⟩))))))) else (bif Nat.blt k 318 then (bif Nat.blt k 307 then (bif Nat.blt k 302 then (bif Nat.blt k 299 then (bif Nat.blt k 298 then (⟨"NamedToWedModel", "thoseOf", "(II)I"⟩) else (⟨"NamedToWedModel", "ofSort", "(I)I"⟩)) else (bif Nat.blt k 300 then (⟨"NamedToWedModel", "atLevel", "(I)I"⟩) else (bif Nat.blt k 301 then (⟨"NamedToWedModel", "allOf", "(II)I"⟩) else (⟨"NamedToWedModel", "those", "(II)I"⟩)))) else (bif Nat.blt k 304 then (bif Nat.blt k 303 then (⟨"NamedToWedModel", "mayWed", "(I)I"⟩) else (⟨"NamedToWedModel", "laysMayBe", "()V"⟩)) else (bif Nat.blt k 305 then (⟨"NamedToWedModel", "whoMayWed", "(I)I"⟩) else (bif Nat.blt k 306 then (⟨"NamedToWedModel", "goTogether", "(II)Z"⟩) else (⟨"NamedToWedModel", "weddings", "()I"⟩))))) else (bif Nat.blt k 312 then (bif Nat.blt k 309 then (bif Nat.blt k 308 then (⟨"NamedToWedModel", "wedsOneMore", "(I)Z"⟩) else (⟨"NamedToWedModel", "wedsBack", "(II)V"⟩)) else (bif Nat.blt k 310 then (⟨"NamedToWedModel", "line", "(II)I"⟩) else (bif Nat.blt k 311 then (⟨"NamedToWedModel", "comeFrom", "(IZ)I"⟩) else (⟨"NamedToWedModel", "generationOf", "(I)I"⟩)))) else (bif Nat.blt k 315 then (bif Nat.blt k 313 then (⟨"NamedToWedModel", "max", "(II)I"⟩) else (bif Nat.blt k 314 then (⟨"NamedToWedModel", "years", "(I)I"⟩) else (⟨"NamedToWedModel", "yearsGo", "(I)V"⟩))) else (bif Nat.blt k 316 then (⟨"NamedToWedModel", "yearGoes", "()V"⟩) else (bif Nat.blt k 317 then (⟨"NamedToWedModel", "weds", "(I)V"⟩) else (⟨"NamedToWedModel", "feels", "(I)V"⟩)))))) else (bif Nat.blt k 329 then (bif Nat.blt k 323 then (bif Nat.blt k 320 then (bif Nat.blt k 319 then (⟨"NamedToWedModel", "draws", "()I"⟩) else (⟨"NamedToWedModel", "allOfName", "(I)I"⟩)) else (bif Nat.blt k 321 then (⟨"NamedToWedModel", "allOfVillage", "()I"⟩) else (bif Nat.blt k 322 then (⟨"NamedToWedModel", "holdsAny", "(I)Z"⟩) else (⟨"NamedToWedModel", "reckonsTo", "(II)I"⟩)))) else (bif Nat.blt k 326 then (bif Nat.blt k 324 then (⟨"NamedToWedModel", "reckon", "(III)I"⟩) else (bif Nat.blt k 325 then (⟨"NamedToWedModel", "byLaw", "(III)I"⟩) else (⟨"NamedToWedModel", "bears", "(I)V"⟩))) else (bif Nat.blt k 327 then (⟨"NamedToWedModel", "dies", "(I)V"⟩) else (bif Nat.blt k 328 then (⟨"NamedToWedModel", "tried", "(II)I"⟩) else (⟨"NamedToWedModel", "copies", "([I[I)V"⟩))))) else (bif Nat.blt k 334 then (bif Nat.blt k 331 then (bif Nat.blt k 330 then (⟨"NamedToWedModel", "nameIs", "(II)I"⟩) else (⟨"NamedToWedModel", "diesOut", "(II)I"⟩)) else (bif Nat.blt k 332 then (⟨"NamedToWedModel", "left", "(I)I"⟩) else (bif Nat.blt k 333 then (⟨"NamedToWedModel", "leftOf", "(I)I"⟩) else (⟨"NamedToWedModel", "seed", "(I)Z"⟩)))) else (bif Nat.blt k 337 then (bif Nat.blt k 335 then (⟨"NamedToWedModel", "keep", "()I"⟩) else (bif Nat.blt k 336 then (⟨"NamedToWedModel", "undo", "()Z"⟩) else (⟨"NamedToWedModel", "check", "(I)I"⟩))) else (bif Nat.blt k 338 then (⟨"NamedToWedModel", "octet", "(I)I"⟩) else (bif Nat.blt k 339 then (⟨"NamedToWedModel", "count", "(I)I"⟩) else (⟨"NamedToWedModel", "wedSet", "()I"⟩)))))))))
abbrev objcode : ByteArray := ⟨#[0xb1]⟩
def mby (k : Nat) : ByteArray := bif Nat.blt k 170 then (bif Nat.blt k 85 then (bif Nat.blt k 42 then (bif Nat.blt k 21 then (bif Nat.blt k 10 then (bif Nat.blt k 5 then (bif Nat.blt k 2 then (bif Nat.blt k 1 then (prog_1_method_1_code) else (objcode)) else (bif Nat.blt k 3 then (prog_10_method_1_code) else (bif Nat.blt k 4 then (prog_9_method_1_code) else (prog_7_method_1_code)))) else (bif Nat.blt k 7 then (bif Nat.blt k 6 then (prog_4_method_1_code) else (prog_12_method_1_code)) else (bif Nat.blt k 8 then (prog_8_method_1_code) else (bif Nat.blt k 9 then (prog_2_method_1_code) else (prog_3_method_1_code))))) else (bif Nat.blt k 15 then (bif Nat.blt k 12 then (bif Nat.blt k 11 then (prog_6_method_1_code) else (prog_11_method_1_code)) else (bif Nat.blt k 13 then (prog_1_method_2_code) else (bif Nat.blt k 14 then (prog_1_method_36_code) else (prog_1_method_38_code)))) else (bif Nat.blt k 18 then (bif Nat.blt k 16 then (prog_1_method_3_code) else (bif Nat.blt k 17 then (prog_10_method_2_code) else (prog_10_method_3_code))) else (bif Nat.blt k 19 then (prog_1_method_4_code) else (bif Nat.blt k 20 then (prog_10_method_4_code) else (prog_10_method_5_code)))))) else (bif Nat.blt k 31 then (bif Nat.blt k 26 then (bif Nat.blt k 23 then (bif Nat.blt k 22 then (prog_5_method_2_code) else (prog_4_method_2_code)) else (bif Nat.blt k 24 then (prog_5_method_3_code) else (bif Nat.blt k 25 then (prog_10_method_6_code) else (prog_10_method_7_code)))) else (bif Nat.blt k 28 then (bif Nat.blt k 27 then (prog_5_method_10_code) else (prog_5_method_11_code)) else (bif Nat.blt k 29 then (prog_5_method_12_code) else (bif Nat.blt k 30 then (prog_1_method_43_code) else (prog_5_method_13_code))))) else (bif Nat.blt k 36 then (bif Nat.blt k 33 then (bif Nat.blt k 32 then (prog_4_method_3_code) else (prog_10_method_9_code)) else (bif Nat.blt k 34 then (prog_5_method_4_code) else (bif Nat.blt k 35 then (prog_5_method_5_code) else (prog_5_method_6_code)))) else (bif Nat.blt k 39 then (bif Nat.blt k 37 then (prog_5_method_9_code) else (bif Nat.blt k 38 then (prog_5_method_7_code) else (prog_5_method_8_code))) else (bif Nat.blt k 40 then (prog_10_method_8_code) else (bif Nat.blt k 41 then (prog_1_method_5_code) else (prog_9_method_2_code))))))) else (bif Nat.blt k 63 then (bif Nat.blt k 52 then (bif Nat.blt k 47 then (bif Nat.blt k 44 then (bif Nat.blt k 43 then (prog_9_method_3_code) else (prog_1_method_44_code)) else (bif Nat.blt k 45 then (prog_1_method_42_code) else (bif Nat.blt k 46 then (prog_9_method_4_code) else (prog_9_method_5_code)))) else (bif Nat.blt k 49 then (bif Nat.blt k 48 then (prog_11_method_2_code) else (prog_18_method_103_code)) else (bif Nat.blt k 50 then (prog_7_method_12_code) else (bif Nat.blt k 51 then (prog_3_method_2_code) else (prog_3_method_3_code))))) else (bif Nat.blt k 57 then (bif Nat.blt k 54 then (bif Nat.blt k 53 then (prog_3_method_4_code) else (prog_7_method_2_code)) else (bif Nat.blt k 55 then (prog_1_method_49_code) else (bif Nat.blt k 56 then (prog_16_method_69_code) else (prog_16_method_65_code)))) else (bif Nat.blt k 60 then (bif Nat.blt k 58 then (prog_3_method_5_code) else (bif Nat.blt k 59 then (prog_3_method_6_code) else (prog_9_method_7_code))) else (bif Nat.blt k 61 then (prog_9_method_8_code) else (bif Nat.blt k 62 then (prog_3_method_7_code) else (prog_3_method_8_code)))))) else (bif Nat.blt k 74 then (bif Nat.blt k 68 then (bif Nat.blt k 65 then (bif Nat.blt k 64 then (prog_3_method_9_code) else (prog_15_method_49_code)) else (bif Nat.blt k 66 then (prog_1_method_6_code) else (bif Nat.blt k 67 then (prog_7_method_3_code) else (prog_7_method_4_code)))) else (bif Nat.blt k 71 then (bif Nat.blt k 69 then (prog_7_method_5_code) else (bif Nat.blt k 70 then (prog_7_method_6_code) else (prog_7_method_8_code))) else (bif Nat.blt k 72 then (prog_7_method_7_code) else (bif Nat.blt k 73 then (prog_7_method_9_code) else (prog_7_method_11_code))))) else (bif Nat.blt k 79 then (bif Nat.blt k 76 then (bif Nat.blt k 75 then (prog_7_method_10_code) else (prog_1_method_7_code)) else (bif Nat.blt k 77 then (prog_1_method_37_code) else (bif Nat.blt k 78 then (prog_12_method_2_code) else (prog_12_method_3_code)))) else (bif Nat.blt k 82 then (bif Nat.blt k 80 then (prog_12_method_5_code) else (bif Nat.blt k 81 then (prog_12_method_7_code) else (prog_12_method_8_code))) else (bif Nat.blt k 83 then (prog_12_method_6_code) else (bif Nat.blt k 84 then (prog_1_method_47_code) else (prog_12_method_4_code)))))))) else (bif Nat.blt k 127 then (bif Nat.blt k 106 then (bif Nat.blt k 95 then (bif Nat.blt k 90 then (bif Nat.blt k 87 then (bif Nat.blt k 86 then (prog_12_method_9_code) else (prog_1_method_45_code)) else (bif Nat.blt k 88 then (prog_1_method_46_code) else (bif Nat.blt k 89 then (prog_12_method_10_code) else (prog_12_method_12_code)))) else (bif Nat.blt k 92 then (bif Nat.blt k 91 then (prog_12_method_11_code) else (prog_12_method_13_code)) else (bif Nat.blt k 93 then (prog_12_method_14_code) else (bif Nat.blt k 94 then (prog_12_method_15_code) else (prog_12_method_17_code))))) else (bif Nat.blt k 100 then (bif Nat.blt k 97 then (bif Nat.blt k 96 then (prog_1_method_8_code) else (prog_1_method_9_code)) else (bif Nat.blt k 98 then (prog_2_method_7_code) else (bif Nat.blt k 99 then (prog_2_method_5_code) else (prog_18_method_104_code)))) else (bif Nat.blt k 103 then (bif Nat.blt k 101 then (prog_18_method_30_code) else (bif Nat.blt k 102 then (prog_2_method_2_code) else (prog_2_method_3_code))) else (bif Nat.blt k 104 then (prog_2_method_6_code) else (bif Nat.blt k 105 then (prog_2_method_4_code) else (prog_1_method_10_code)))))) else (bif Nat.blt k 116 then (bif Nat.blt k 111 then (bif Nat.blt k 108 then (bif Nat.blt k 107 then (prog_1_method_40_code) else (prog_8_method_4_code)) else (bif Nat.blt k 109 then (prog_8_method_3_code) else (bif Nat.blt k 110 then (prog_8_method_5_code) else (prog_8_method_6_code)))) else (bif Nat.blt k 113 then (bif Nat.blt k 112 then (prog_8_method_2_code) else (prog_1_method_11_code)) else (bif Nat.blt k 114 then (prog_8_method_7_code) else (bif Nat.blt k 115 then (prog_8_method_8_code) else (prog_8_method_9_code))))) else (bif Nat.blt k 121 then (bif Nat.blt k 118 then (bif Nat.blt k 117 then (prog_1_method_12_code) else (prog_8_method_10_code)) else (bif Nat.blt k 119 then (prog_18_method_101_code) else (bif Nat.blt k 120 then (prog_8_method_11_code) else (prog_1_method_13_code)))) else (bif Nat.blt k 124 then (bif Nat.blt k 122 then (prog_1_method_14_code) else (bif Nat.blt k 123 then (prog_9_method_6_code) else (prog_12_method_16_code))) else (bif Nat.blt k 125 then (prog_1_method_15_code) else (bif Nat.blt k 126 then (prog_1_method_16_code) else (prog_1_method_41_code))))))) else (bif Nat.blt k 148 then (bif Nat.blt k 137 then (bif Nat.blt k 132 then (bif Nat.blt k 129 then (bif Nat.blt k 128 then (prog_3_method_10_code) else (prog_1_method_48_code)) else (bif Nat.blt k 130 then (prog_1_method_17_code) else (bif Nat.blt k 131 then (prog_3_method_11_code) else (prog_3_method_12_code)))) else (bif Nat.blt k 134 then (bif Nat.blt k 133 then (prog_1_method_18_code) else (prog_3_method_13_code)) else (bif Nat.blt k 135 then (prog_3_method_14_code) else (bif Nat.blt k 136 then (prog_1_method_19_code) else (prog_7_method_19_code))))) else (bif Nat.blt k 142 then (bif Nat.blt k 139 then (bif Nat.blt k 138 then (prog_7_method_20_code) else (prog_1_method_20_code)) else (bif Nat.blt k 140 then (prog_8_method_12_code) else (bif Nat.blt k 141 then (prog_8_method_14_code) else (prog_7_method_14_code)))) else (bif Nat.blt k 145 then (bif Nat.blt k 143 then (prog_7_method_13_code) else (bif Nat.blt k 144 then (prog_8_method_13_code) else (prog_1_method_21_code))) else (bif Nat.blt k 146 then (prog_12_method_18_code) else (bif Nat.blt k 147 then (prog_1_method_22_code) else (prog_3_method_15_code)))))) else (bif Nat.blt k 159 then (bif Nat.blt k 153 then (bif Nat.blt k 150 then (bif Nat.blt k 149 then (prog_3_method_16_code) else (prog_7_method_15_code)) else (bif Nat.blt k 151 then (prog_1_method_23_code) else (bif Nat.blt k 152 then (prog_6_method_2_code) else (prog_6_method_3_code)))) else (bif Nat.blt k 156 then (bif Nat.blt k 154 then (prog_6_method_4_code) else (bif Nat.blt k 155 then (prog_1_method_24_code) else (prog_7_method_16_code))) else (bif Nat.blt k 157 then (prog_7_method_17_code) else (bif Nat.blt k 158 then (prog_7_method_18_code) else (prog_1_method_25_code))))) else (bif Nat.blt k 164 then (bif Nat.blt k 161 then (bif Nat.blt k 160 then (prog_1_method_39_code) else (prog_11_method_8_code)) else (bif Nat.blt k 162 then (prog_11_method_9_code) else (bif Nat.blt k 163 then (prog_11_method_5_code) else (prog_11_method_6_code)))) else (bif Nat.blt k 167 then (bif Nat.blt k 165 then (prog_11_method_10_code) else (bif Nat.blt k 166 then (prog_4_method_5_code) else (prog_4_method_6_code))) else (bif Nat.blt k 168 then (prog_4_method_7_code) else (bif Nat.blt k 169 then (prog_4_method_9_code) else (prog_4_method_8_code))))))))) else (bif Nat.blt k 255 then (bif Nat.blt k 212 then (bif Nat.blt k 191 then (bif Nat.blt k 180 then (bif Nat.blt k 175 then (bif Nat.blt k 172 then (bif Nat.blt k 171 then (prog_4_method_10_code) else (prog_4_method_4_code)) else (bif Nat.blt k 173 then (prog_11_method_11_code) else (bif Nat.blt k 174 then (prog_11_method_12_code) else (prog_1_method_26_code)))) else (bif Nat.blt k 177 then (bif Nat.blt k 176 then (prog_1_method_27_code) else (prog_11_method_3_code)) else (bif Nat.blt k 178 then (prog_11_method_4_code) else (bif Nat.blt k 179 then (prog_1_method_28_code) else (prog_1_method_29_code))))) else (bif Nat.blt k 185 then (bif Nat.blt k 182 then (bif Nat.blt k 181 then (prog_1_method_30_code) else (prog_11_method_7_code)) else (bif Nat.blt k 183 then (prog_1_method_31_code) else (bif Nat.blt k 184 then (prog_1_method_32_code) else (prog_1_method_33_code)))) else (bif Nat.blt k 188 then (bif Nat.blt k 186 then (prog_1_method_34_code) else (bif Nat.blt k 187 then (prog_1_method_35_code) else (prog_14_method_1_code))) else (bif Nat.blt k 189 then (prog_14_method_11_code) else (bif Nat.blt k 190 then (prog_14_method_9_code) else (prog_14_method_2_code)))))) else (bif Nat.blt k 201 then (bif Nat.blt k 196 then (bif Nat.blt k 193 then (bif Nat.blt k 192 then (prog_14_method_13_code) else (prog_14_method_12_code)) else (bif Nat.blt k 194 then (prog_14_method_36_code) else (bif Nat.blt k 195 then (prog_14_method_35_code) else (prog_14_method_34_code)))) else (bif Nat.blt k 198 then (bif Nat.blt k 197 then (prog_14_method_15_code) else (prog_14_method_17_code)) else (bif Nat.blt k 199 then (prog_14_method_28_code) else (bif Nat.blt k 200 then (prog_14_method_26_code) else (prog_14_method_21_code))))) else (bif Nat.blt k 206 then (bif Nat.blt k 203 then (bif Nat.blt k 202 then (prog_14_method_16_code) else (prog_14_method_19_code)) else (bif Nat.blt k 204 then (prog_14_method_20_code) else (bif Nat.blt k 205 then (prog_14_method_23_code) else (prog_14_method_24_code)))) else (bif Nat.blt k 209 then (bif Nat.blt k 207 then (prog_14_method_25_code) else (bif Nat.blt k 208 then (prog_14_method_22_code) else (prog_14_method_27_code))) else (bif Nat.blt k 210 then (prog_14_method_33_code) else (bif Nat.blt k 211 then (prog_14_method_32_code) else (prog_14_method_29_code))))))) else (bif Nat.blt k 233 then (bif Nat.blt k 222 then (bif Nat.blt k 217 then (bif Nat.blt k 214 then (bif Nat.blt k 213 then (prog_14_method_30_code) else (prog_14_method_31_code)) else (bif Nat.blt k 215 then (prog_14_method_18_code) else (bif Nat.blt k 216 then (prog_14_method_44_code) else (prog_14_method_42_code)))) else (bif Nat.blt k 219 then (bif Nat.blt k 218 then (prog_14_method_41_code) else (prog_14_method_43_code)) else (bif Nat.blt k 220 then (prog_14_method_61_code) else (bif Nat.blt k 221 then (prog_14_method_52_code) else (prog_14_method_49_code))))) else (bif Nat.blt k 227 then (bif Nat.blt k 224 then (bif Nat.blt k 223 then (prog_14_method_45_code) else (prog_14_method_48_code)) else (bif Nat.blt k 225 then (prog_14_method_47_code) else (bif Nat.blt k 226 then (prog_14_method_46_code) else (prog_14_method_51_code)))) else (bif Nat.blt k 230 then (bif Nat.blt k 228 then (prog_14_method_50_code) else (bif Nat.blt k 229 then (prog_14_method_54_code) else (prog_14_method_58_code))) else (bif Nat.blt k 231 then (prog_14_method_55_code) else (bif Nat.blt k 232 then (prog_14_method_53_code) else (prog_14_method_10_code)))))) else (bif Nat.blt k 244 then (bif Nat.blt k 238 then (bif Nat.blt k 235 then (bif Nat.blt k 234 then (prog_14_method_60_code) else (prog_14_method_59_code)) else (bif Nat.blt k 236 then (prog_14_method_57_code) else (bif Nat.blt k 237 then (prog_14_method_56_code) else (prog_14_method_62_code)))) else (bif Nat.blt k 241 then (bif Nat.blt k 239 then (prog_14_method_71_code) else (bif Nat.blt k 240 then (prog_14_method_67_code) else (prog_14_method_64_code))) else (bif Nat.blt k 242 then (prog_14_method_66_code) else (bif Nat.blt k 243 then (prog_14_method_65_code) else (prog_14_method_63_code))))) else (bif Nat.blt k 249 then (bif Nat.blt k 246 then (bif Nat.blt k 245 then (prog_14_method_69_code) else (prog_14_method_68_code)) else (bif Nat.blt k 247 then (prog_14_method_7_code) else (bif Nat.blt k 248 then (prog_14_method_5_code) else (prog_14_method_70_code)))) else (bif Nat.blt k 252 then (bif Nat.blt k 250 then (prog_14_method_6_code) else (bif Nat.blt k 251 then (prog_14_method_76_code) else (prog_14_method_72_code))) else (bif Nat.blt k 253 then (prog_14_method_74_code) else (bif Nat.blt k 254 then (prog_14_method_73_code) else (prog_14_method_3_code)))))))) else (bif Nat.blt k 297 then (bif Nat.blt k 276 then (bif Nat.blt k 265 then (bif Nat.blt k 260 then (bif Nat.blt k 257 then (bif Nat.blt k 256 then (prog_14_method_75_code) else (prog_14_method_80_code)) else (bif Nat.blt k 258 then (prog_14_method_79_code) else (bif Nat.blt k 259 then (prog_14_method_78_code) else (prog_14_method_77_code)))) else (bif Nat.blt k 262 then (bif Nat.blt k 261 then (prog_14_method_81_code) else (prog_14_method_89_code)) else (bif Nat.blt k 263 then (prog_14_method_82_code) else (bif Nat.blt k 264 then (prog_14_method_87_code) else (prog_14_method_86_code))))) else (bif Nat.blt k 270 then (bif Nat.blt k 267 then (bif Nat.blt k 266 then (prog_14_method_88_code) else (prog_14_method_85_code)) else (bif Nat.blt k 268 then (prog_14_method_84_code) else (bif Nat.blt k 269 then (prog_14_method_83_code) else (prog_14_method_95_code)))) else (bif Nat.blt k 273 then (bif Nat.blt k 271 then (prog_14_method_94_code) else (bif Nat.blt k 272 then (prog_14_method_92_code) else (prog_14_method_91_code))) else (bif Nat.blt k 274 then (prog_14_method_90_code) else (bif Nat.blt k 275 then (prog_14_method_93_code) else (prog_14_method_108_code)))))) else (bif Nat.blt k 286 then (bif Nat.blt k 281 then (bif Nat.blt k 278 then (bif Nat.blt k 277 then (prog_14_method_96_code) else (prog_14_method_107_code)) else (bif Nat.blt k 279 then (prog_14_method_98_code) else (bif Nat.blt k 280 then (prog_14_method_99_code) else (prog_14_method_105_code)))) else (bif Nat.blt k 283 then (bif Nat.blt k 282 then (prog_14_method_100_code) else (prog_14_method_97_code)) else (bif Nat.blt k 284 then (prog_14_method_103_code) else (bif Nat.blt k 285 then (prog_14_method_101_code) else (prog_14_method_102_code))))) else (bif Nat.blt k 291 then (bif Nat.blt k 288 then (bif Nat.blt k 287 then (prog_14_method_104_code) else (prog_14_method_106_code)) else (bif Nat.blt k 289 then (prog_14_method_110_code) else (bif Nat.blt k 290 then (prog_14_method_109_code) else (prog_14_method_112_code)))) else (bif Nat.blt k 294 then (bif Nat.blt k 292 then (prog_14_method_111_code) else (bif Nat.blt k 293 then (prog_14_method_115_code) else (prog_14_method_113_code))) else (bif Nat.blt k 295 then (prog_14_method_114_code) else (bif Nat.blt k 296 then (prog_14_method_121_code) else (prog_14_method_119_code))))))) else (bif Nat.blt k 318 then (bif Nat.blt k 307 then (bif Nat.blt k 302 then (bif Nat.blt k 299 then (bif Nat.blt k 298 then (prog_14_method_116_code) else (prog_14_method_117_code)) else (bif Nat.blt k 300 then (prog_14_method_120_code) else (bif Nat.blt k 301 then (prog_14_method_118_code) else (prog_14_method_122_code)))) else (bif Nat.blt k 304 then (bif Nat.blt k 303 then (prog_14_method_126_code) else (prog_14_method_123_code)) else (bif Nat.blt k 305 then (prog_14_method_125_code) else (bif Nat.blt k 306 then (prog_14_method_124_code) else (prog_14_method_129_code))))) else (bif Nat.blt k 312 then (bif Nat.blt k 309 then (bif Nat.blt k 308 then (prog_14_method_127_code) else (prog_14_method_128_code)) else (bif Nat.blt k 310 then (prog_14_method_132_code) else (bif Nat.blt k 311 then (prog_14_method_130_code) else (prog_14_method_131_code)))) else (bif Nat.blt k 315 then (bif Nat.blt k 313 then (prog_14_method_4_code) else (bif Nat.blt k 314 then (prog_14_method_142_code) else (prog_14_method_141_code))) else (bif Nat.blt k 316 then (prog_14_method_140_code) else (bif Nat.blt k 317 then (prog_14_method_137_code) else (prog_14_method_136_code)))))) else (bif Nat.blt k 329 then (bif Nat.blt k 323 then (bif Nat.blt k 320 then (bif Nat.blt k 319 then (prog_14_method_133_code) else (prog_14_method_134_code)) else (bif Nat.blt k 321 then (prog_14_method_135_code) else (bif Nat.blt k 322 then (prog_14_method_40_code) else (prog_14_method_38_code)))) else (bif Nat.blt k 326 then (bif Nat.blt k 324 then (prog_14_method_37_code) else (bif Nat.blt k 325 then (prog_14_method_39_code) else (prog_14_method_138_code))) else (bif Nat.blt k 327 then (prog_14_method_139_code) else (bif Nat.blt k 328 then (prog_14_method_143_code) else (prog_14_method_8_code))))) else (bif Nat.blt k 334 then (bif Nat.blt k 331 then (bif Nat.blt k 330 then (prog_14_method_144_code) else (prog_14_method_145_code)) else (bif Nat.blt k 332 then (prog_14_method_147_code) else (bif Nat.blt k 333 then (prog_14_method_146_code) else (prog_14_method_148_code)))) else (bif Nat.blt k 337 then (bif Nat.blt k 335 then (prog_14_method_149_code) else (bif Nat.blt k 336 then (prog_14_method_150_code) else (prog_14_method_151_code))) else (bif Nat.blt k 338 then (prog_14_method_14_code) else (bif Nat.blt k 339 then (prog_14_method_153_code) else (prog_14_method_152_code)))))))))
def mret (k : Nat) : Option FieldType := bif Nat.blt k 170 then (bif Nat.blt k 85 then (bif Nat.blt k 42 then (bif Nat.blt k 21 then (bif Nat.blt k 10 then (none) else (bif Nat.blt k 15 then (bif Nat.blt k 12 then (none) else ((some .boolean))) else (bif Nat.blt k 18 then (bif Nat.blt k 16 then ((some .int)) else (bif Nat.blt k 17 then ((some .boolean)) else (none))) else (bif Nat.blt k 19 then ((some .int)) else (bif Nat.blt k 20 then ((some .boolean)) else (none)))))) else (bif Nat.blt k 31 then (bif Nat.blt k 26 then (bif Nat.blt k 23 then (bif Nat.blt k 22 then ((some .int)) else (none)) else ((some .int))) else (bif Nat.blt k 28 then ((some .int)) else (bif Nat.blt k 29 then ((some .int)) else (bif Nat.blt k 30 then ((some .boolean)) else ((some .int)))))) else (bif Nat.blt k 36 then (bif Nat.blt k 33 then (bif Nat.blt k 32 then (none) else ((some .int))) else ((some .int))) else (bif Nat.blt k 39 then (bif Nat.blt k 37 then ((some .int)) else (bif Nat.blt k 38 then ((some .int)) else (none))) else ((some .int)))))) else (bif Nat.blt k 63 then (bif Nat.blt k 52 then (bif Nat.blt k 47 then (bif Nat.blt k 44 then ((some .int)) else (bif Nat.blt k 45 then ((some .int)) else (bif Nat.blt k 46 then ((some .int)) else (none)))) else (none)) else (bif Nat.blt k 57 then (bif Nat.blt k 54 then (bif Nat.blt k 53 then (none) else ((some .boolean))) else (bif Nat.blt k 55 then (none) else ((some .int)))) else (bif Nat.blt k 60 then (bif Nat.blt k 58 then (none) else (bif Nat.blt k 59 then ((some .boolean)) else ((some .int)))) else (bif Nat.blt k 61 then ((some .int)) else (bif Nat.blt k 62 then (none) else ((some .boolean))))))) else (bif Nat.blt k 74 then (bif Nat.blt k 68 then (bif Nat.blt k 65 then (bif Nat.blt k 64 then (none) else ((some .int))) else ((some .int))) else (bif Nat.blt k 71 then ((some .int)) else (bif Nat.blt k 72 then ((some .int)) else (bif Nat.blt k 73 then (none) else ((some .int)))))) else (bif Nat.blt k 79 then (bif Nat.blt k 76 then (bif Nat.blt k 75 then ((some .boolean)) else ((some .int))) else (bif Nat.blt k 77 then ((some .boolean)) else ((some .int)))) else ((some .int)))))) else (bif Nat.blt k 127 then (bif Nat.blt k 106 then (bif Nat.blt k 95 then (bif Nat.blt k 90 then (bif Nat.blt k 87 then (bif Nat.blt k 86 then ((some .int)) else ((some .boolean))) else ((some .int))) else (bif Nat.blt k 92 then ((some .int)) else (bif Nat.blt k 93 then ((some .int)) else (bif Nat.blt k 94 then ((some .int)) else ((some .boolean)))))) else (bif Nat.blt k 100 then (bif Nat.blt k 97 then ((some .int)) else (bif Nat.blt k 98 then ((some .int)) else (bif Nat.blt k 99 then ((some .int)) else (none)))) else (bif Nat.blt k 103 then (bif Nat.blt k 101 then (none) else (bif Nat.blt k 102 then (none) else ((some .int)))) else (bif Nat.blt k 104 then (none) else ((some .int)))))) else (bif Nat.blt k 116 then (bif Nat.blt k 111 then (bif Nat.blt k 108 then ((some .boolean)) else (bif Nat.blt k 109 then ((some .int)) else (none))) else (bif Nat.blt k 113 then ((some .int)) else ((some .boolean)))) else (bif Nat.blt k 121 then (bif Nat.blt k 118 then ((some .long)) else (bif Nat.blt k 119 then (none) else (bif Nat.blt k 120 then (none) else ((some .int))))) else (bif Nat.blt k 124 then (bif Nat.blt k 122 then ((some .int)) else ((some .boolean))) else (bif Nat.blt k 125 then ((some .boolean)) else ((some .int))))))) else (bif Nat.blt k 148 then (bif Nat.blt k 137 then (bif Nat.blt k 132 then ((some .int)) else (bif Nat.blt k 134 then (bif Nat.blt k 133 then ((some .int)) else ((some .boolean))) else ((some .int)))) else (bif Nat.blt k 142 then (bif Nat.blt k 139 then ((some .int)) else (bif Nat.blt k 140 then ((some .boolean)) else ((some .int)))) else ((some .int)))) else (bif Nat.blt k 159 then (bif Nat.blt k 153 then (bif Nat.blt k 150 then ((some .int)) else (bif Nat.blt k 151 then ((some .int)) else (bif Nat.blt k 152 then ((some .int)) else ((some .boolean))))) else (bif Nat.blt k 156 then (bif Nat.blt k 154 then (none) else ((some .int))) else ((some .int)))) else (bif Nat.blt k 164 then (bif Nat.blt k 161 then (bif Nat.blt k 160 then ((some .boolean)) else (none)) else (bif Nat.blt k 162 then (none) else ((some .int)))) else (bif Nat.blt k 167 then (bif Nat.blt k 165 then (none) else (bif Nat.blt k 166 then ((some .boolean)) else ((some .int)))) else (bif Nat.blt k 168 then (none) else ((some .int))))))))) else (bif Nat.blt k 255 then (bif Nat.blt k 212 then (bif Nat.blt k 191 then (bif Nat.blt k 180 then (bif Nat.blt k 175 then (bif Nat.blt k 172 then ((some .int)) else (bif Nat.blt k 173 then (none) else (bif Nat.blt k 174 then (none) else ((some .int))))) else (bif Nat.blt k 177 then (bif Nat.blt k 176 then ((some .boolean)) else (none)) else ((some .int)))) else (bif Nat.blt k 185 then (bif Nat.blt k 182 then ((some .int)) else (bif Nat.blt k 183 then ((some .boolean)) else (bif Nat.blt k 184 then ((some .int)) else ((some .boolean))))) else (bif Nat.blt k 188 then (bif Nat.blt k 186 then ((some .int)) else (bif Nat.blt k 187 then ((some .int)) else (none))) else ((some .boolean))))) else (bif Nat.blt k 201 then (bif Nat.blt k 196 then (bif Nat.blt k 193 then (bif Nat.blt k 192 then ((some .int)) else (none)) else (bif Nat.blt k 194 then ((some .int)) else (bif Nat.blt k 195 then (none) else ((some .boolean))))) else (bif Nat.blt k 198 then (bif Nat.blt k 197 then ((some .int)) else ((some .boolean))) else ((some .boolean)))) else (bif Nat.blt k 206 then (bif Nat.blt k 203 then ((some .boolean)) else (bif Nat.blt k 204 then (none) else ((some .int)))) else (bif Nat.blt k 209 then (bif Nat.blt k 207 then (none) else (bif Nat.blt k 208 then ((some .int)) else ((some .boolean)))) else (bif Nat.blt k 210 then ((some .boolean)) else (bif Nat.blt k 211 then ((some .boolean)) else (none))))))) else (bif Nat.blt k 233 then (bif Nat.blt k 222 then (bif Nat.blt k 217 then (bif Nat.blt k 214 then (none) else (bif Nat.blt k 215 then ((some .boolean)) else (bif Nat.blt k 216 then ((some .int)) else ((some .boolean))))) else (bif Nat.blt k 219 then ((some .boolean)) else (bif Nat.blt k 220 then ((some .int)) else (bif Nat.blt k 221 then ((some .int)) else ((some .boolean)))))) else (bif Nat.blt k 227 then (bif Nat.blt k 224 then (bif Nat.blt k 223 then (none) else ((some .int))) else (bif Nat.blt k 225 then ((some .int)) else ((some .boolean)))) else ((some .int)))) else (bif Nat.blt k 244 then (bif Nat.blt k 238 then (bif Nat.blt k 235 then (bif Nat.blt k 234 then ((some .int)) else ((some .boolean))) else ((some .int))) else (bif Nat.blt k 241 then (bif Nat.blt k 239 then ((some .int)) else (bif Nat.blt k 240 then (none) else ((some .int)))) else (bif Nat.blt k 242 then (none) else ((some .int))))) else (bif Nat.blt k 249 then (bif Nat.blt k 246 then ((some .int)) else (bif Nat.blt k 247 then ((some .int)) else ((some .boolean)))) else (bif Nat.blt k 252 then (bif Nat.blt k 250 then ((some .int)) else (bif Nat.blt k 251 then ((some .int)) else ((some .boolean)))) else (bif Nat.blt k 253 then (none) else ((some .int)))))))) else (bif Nat.blt k 297 then (bif Nat.blt k 276 then (bif Nat.blt k 265 then (bif Nat.blt k 260 then (bif Nat.blt k 257 then ((some .int)) else (bif Nat.blt k 258 then ((some .int)) else (bif Nat.blt k 259 then (none) else ((some .int))))) else (bif Nat.blt k 262 then (bif Nat.blt k 261 then ((some .long)) else ((some .int))) else (bif Nat.blt k 263 then (none) else (bif Nat.blt k 264 then ((some .int)) else ((some .boolean)))))) else (bif Nat.blt k 270 then (bif Nat.blt k 267 then ((some .boolean)) else (bif Nat.blt k 268 then (none) else (bif Nat.blt k 269 then (none) else ((some .int))))) else (bif Nat.blt k 273 then ((some .boolean)) else (bif Nat.blt k 274 then ((some .boolean)) else (bif Nat.blt k 275 then ((some .boolean)) else ((some .int))))))) else (bif Nat.blt k 286 then (bif Nat.blt k 281 then (bif Nat.blt k 278 then (bif Nat.blt k 277 then ((some .boolean)) else ((some .int))) else ((some .int))) else (bif Nat.blt k 283 then ((some .int)) else (bif Nat.blt k 284 then ((some .boolean)) else (none)))) else (bif Nat.blt k 291 then (bif Nat.blt k 288 then ((some .int)) else (bif Nat.blt k 289 then ((some .int)) else (bif Nat.blt k 290 then ((some .boolean)) else ((some .int))))) else (bif Nat.blt k 294 then (bif Nat.blt k 292 then ((some .int)) else (bif Nat.blt k 293 then ((some .int)) else ((some .boolean)))) else (bif Nat.blt k 295 then ((some .boolean)) else (bif Nat.blt k 296 then ((some .int)) else (none))))))) else (bif Nat.blt k 318 then (bif Nat.blt k 307 then (bif Nat.blt k 302 then ((some .int)) else (bif Nat.blt k 304 then (bif Nat.blt k 303 then ((some .int)) else (none)) else (bif Nat.blt k 305 then ((some .int)) else (bif Nat.blt k 306 then ((some .boolean)) else ((some .int)))))) else (bif Nat.blt k 312 then (bif Nat.blt k 309 then (bif Nat.blt k 308 then ((some .boolean)) else (none)) else ((some .int))) else (bif Nat.blt k 315 then (bif Nat.blt k 313 then ((some .int)) else (bif Nat.blt k 314 then ((some .int)) else (none))) else (none)))) else (bif Nat.blt k 329 then (bif Nat.blt k 323 then (bif Nat.blt k 320 then ((some .int)) else (bif Nat.blt k 321 then ((some .int)) else (bif Nat.blt k 322 then ((some .boolean)) else ((some .int))))) else (bif Nat.blt k 326 then (bif Nat.blt k 324 then ((some .int)) else (bif Nat.blt k 325 then ((some .int)) else (none))) else (bif Nat.blt k 327 then (none) else (bif Nat.blt k 328 then ((some .int)) else (none))))) else (bif Nat.blt k 334 then (bif Nat.blt k 331 then ((some .int)) else (bif Nat.blt k 332 then ((some .int)) else (bif Nat.blt k 333 then ((some .int)) else ((some .boolean))))) else (bif Nat.blt k 337 then (bif Nat.blt k 335 then ((some .int)) else (bif Nat.blt k 336 then ((some .boolean)) else ((some .int)))) else ((some .int))))))))
/-- where a method's words stand in QS: its code, initialized, static or instanceMethod, selects -/
def mpl (k : Nat) : Nat × Nat × Nat × Nat := bif Nat.blt k 170 then (bif Nat.blt k 85 then (bif Nat.blt k 42 then (bif Nat.blt k 21 then (bif Nat.blt k 10 then (bif Nat.blt k 5 then (bif Nat.blt k 2 then (bif Nat.blt k 1 then ((170, 149, 169, 0)) else ((173, 9999, 172, 0))) else (bif Nat.blt k 3 then ((178, 150, 177, 0)) else (bif Nat.blt k 4 then ((199, 151, 198, 0)) else ((225, 152, 224, 0))))) else (bif Nat.blt k 7 then (bif Nat.blt k 6 then ((260, 153, 259, 0)) else ((286, 154, 285, 0))) else (bif Nat.blt k 8 then ((302, 155, 301, 0)) else (bif Nat.blt k 9 then ((318, 156, 317, 0)) else ((330, 157, 329, 0)))))) else (bif Nat.blt k 15 then (bif Nat.blt k 12 then (bif Nat.blt k 11 then ((344, 158, 343, 0)) else ((354, 159, 353, 0))) else (bif Nat.blt k 13 then ((394, 149, 392, 393)) else (bif Nat.blt k 14 then ((397, 149, 396, 0)) else ((400, 149, 399, 0))))) else (bif Nat.blt k 18 then (bif Nat.blt k 16 then ((404, 149, 402, 403)) else (bif Nat.blt k 17 then ((408, 150, 406, 407)) else ((412, 150, 410, 411)))) else (bif Nat.blt k 19 then ((417, 149, 415, 416)) else (bif Nat.blt k 20 then ((421, 150, 419, 420)) else ((425, 150, 423, 424))))))) else (bif Nat.blt k 31 then (bif Nat.blt k 26 then (bif Nat.blt k 23 then (bif Nat.blt k 22 then ((428, 161, 427, 0)) else ((432, 153, 430, 431))) else (bif Nat.blt k 24 then ((435, 161, 434, 0)) else (bif Nat.blt k 25 then ((439, 150, 437, 438)) else ((443, 150, 441, 442))))) else (bif Nat.blt k 28 then (bif Nat.blt k 27 then ((446, 161, 445, 0)) else ((449, 161, 448, 0))) else (bif Nat.blt k 29 then ((452, 161, 451, 0)) else (bif Nat.blt k 30 then ((455, 149, 454, 0)) else ((458, 161, 457, 0)))))) else (bif Nat.blt k 36 then (bif Nat.blt k 33 then (bif Nat.blt k 32 then ((462, 153, 460, 461)) else ((466, 150, 464, 465))) else (bif Nat.blt k 34 then ((471, 161, 470, 0)) else (bif Nat.blt k 35 then ((474, 161, 473, 0)) else ((477, 161, 476, 0))))) else (bif Nat.blt k 39 then (bif Nat.blt k 37 then ((480, 161, 479, 0)) else (bif Nat.blt k 38 then ((483, 161, 482, 0)) else ((486, 161, 485, 0)))) else (bif Nat.blt k 40 then ((490, 150, 488, 489)) else (bif Nat.blt k 41 then ((494, 149, 492, 493)) else ((498, 151, 496, 497)))))))) else (bif Nat.blt k 63 then (bif Nat.blt k 52 then (bif Nat.blt k 47 then (bif Nat.blt k 44 then (bif Nat.blt k 43 then ((501, 151, 500, 1)) else ((505, 149, 504, 0))) else (bif Nat.blt k 45 then ((509, 149, 508, 0)) else (bif Nat.blt k 46 then ((512, 151, 511, 2)) else ((517, 151, 515, 516))))) else (bif Nat.blt k 49 then (bif Nat.blt k 48 then ((521, 159, 519, 520)) else ((524, 162, 523, 0))) else (bif Nat.blt k 50 then ((528, 152, 526, 527)) else (bif Nat.blt k 51 then ((532, 157, 530, 531)) else ((535, 157, 534, 3)))))) else (bif Nat.blt k 57 then (bif Nat.blt k 54 then (bif Nat.blt k 53 then ((538, 157, 537, 4)) else ((542, 152, 540, 541))) else (bif Nat.blt k 55 then ((545, 149, 544, 0)) else (bif Nat.blt k 56 then ((548, 163, 547, 0)) else ((551, 163, 550, 0))))) else (bif Nat.blt k 60 then (bif Nat.blt k 58 then ((555, 157, 554, 5)) else (bif Nat.blt k 59 then ((558, 157, 557, 6)) else ((562, 151, 560, 561)))) else (bif Nat.blt k 61 then ((566, 151, 564, 565)) else (bif Nat.blt k 62 then ((569, 157, 568, 7)) else ((572, 157, 571, 8))))))) else (bif Nat.blt k 74 then (bif Nat.blt k 68 then (bif Nat.blt k 65 then (bif Nat.blt k 64 then ((575, 157, 574, 9)) else ((578, 164, 577, 0))) else (bif Nat.blt k 66 then ((585, 149, 583, 584)) else (bif Nat.blt k 67 then ((589, 152, 587, 588)) else ((592, 152, 591, 10))))) else (bif Nat.blt k 71 then (bif Nat.blt k 69 then ((598, 152, 597, 11)) else (bif Nat.blt k 70 then ((601, 152, 600, 12)) else ((604, 152, 603, 13)))) else (bif Nat.blt k 72 then ((610, 152, 609, 14)) else (bif Nat.blt k 73 then ((613, 152, 612, 15)) else ((616, 152, 615, 0)))))) else (bif Nat.blt k 79 then (bif Nat.blt k 76 then (bif Nat.blt k 75 then ((619, 152, 618, 0)) else ((624, 149, 622, 623))) else (bif Nat.blt k 77 then ((627, 149, 626, 0)) else (bif Nat.blt k 78 then ((631, 154, 629, 630)) else ((634, 154, 633, 16))))) else (bif Nat.blt k 82 then (bif Nat.blt k 80 then ((638, 154, 637, 17)) else (bif Nat.blt k 81 then ((642, 154, 641, 18)) else ((645, 154, 644, 19)))) else (bif Nat.blt k 83 then ((649, 154, 648, 20)) else (bif Nat.blt k 84 then ((653, 149, 652, 0)) else ((656, 154, 655, 21))))))))) else (bif Nat.blt k 127 then (bif Nat.blt k 106 then (bif Nat.blt k 95 then (bif Nat.blt k 90 then (bif Nat.blt k 87 then (bif Nat.blt k 86 then ((659, 154, 658, 22)) else ((662, 149, 661, 0))) else (bif Nat.blt k 88 then ((665, 149, 664, 0)) else (bif Nat.blt k 89 then ((669, 154, 667, 668)) else ((673, 154, 671, 672))))) else (bif Nat.blt k 92 then (bif Nat.blt k 91 then ((677, 154, 675, 676)) else ((682, 154, 680, 681))) else (bif Nat.blt k 93 then ((685, 154, 684, 23)) else (bif Nat.blt k 94 then ((689, 154, 687, 688)) else ((692, 154, 691, 24)))))) else (bif Nat.blt k 100 then (bif Nat.blt k 97 then (bif Nat.blt k 96 then ((699, 149, 697, 698)) else ((704, 149, 702, 703))) else (bif Nat.blt k 98 then ((708, 156, 706, 707)) else (bif Nat.blt k 99 then ((713, 156, 711, 712)) else ((716, 162, 715, 0))))) else (bif Nat.blt k 103 then (bif Nat.blt k 101 then ((719, 162, 718, 0)) else (bif Nat.blt k 102 then ((722, 156, 721, 0)) else ((725, 156, 724, 0)))) else (bif Nat.blt k 104 then ((728, 156, 727, 25)) else (bif Nat.blt k 105 then ((731, 156, 730, 0)) else ((735, 149, 733, 734))))))) else (bif Nat.blt k 116 then (bif Nat.blt k 111 then (bif Nat.blt k 108 then (bif Nat.blt k 107 then ((738, 149, 737, 0)) else ((742, 155, 740, 741))) else (bif Nat.blt k 109 then ((747, 155, 746, 0)) else (bif Nat.blt k 110 then ((752, 155, 751, 26)) else ((755, 155, 754, 27))))) else (bif Nat.blt k 113 then (bif Nat.blt k 112 then ((759, 155, 757, 758)) else ((763, 149, 761, 762))) else (bif Nat.blt k 114 then ((767, 155, 765, 766)) else (bif Nat.blt k 115 then ((770, 155, 769, 0)) else ((773, 155, 772, 0)))))) else (bif Nat.blt k 121 then (bif Nat.blt k 118 then (bif Nat.blt k 117 then ((777, 149, 775, 776)) else ((781, 155, 779, 780))) else (bif Nat.blt k 119 then ((784, 162, 783, 0)) else (bif Nat.blt k 120 then ((787, 155, 786, 28)) else ((791, 149, 789, 790))))) else (bif Nat.blt k 124 then (bif Nat.blt k 122 then ((794, 149, 793, 29)) else (bif Nat.blt k 123 then ((799, 151, 797, 798)) else ((804, 154, 802, 803)))) else (bif Nat.blt k 125 then ((807, 149, 806, 30)) else (bif Nat.blt k 126 then ((811, 149, 809, 810)) else ((815, 149, 814, 0)))))))) else (bif Nat.blt k 148 then (bif Nat.blt k 137 then (bif Nat.blt k 132 then (bif Nat.blt k 129 then (bif Nat.blt k 128 then ((819, 157, 817, 818)) else ((822, 149, 821, 0))) else (bif Nat.blt k 130 then ((826, 149, 824, 825)) else (bif Nat.blt k 131 then ((830, 157, 828, 829)) else ((834, 157, 832, 833))))) else (bif Nat.blt k 134 then (bif Nat.blt k 133 then ((838, 149, 836, 837)) else ((842, 157, 840, 841))) else (bif Nat.blt k 135 then ((846, 157, 844, 845)) else (bif Nat.blt k 136 then ((851, 149, 849, 850)) else ((855, 152, 853, 854)))))) else (bif Nat.blt k 142 then (bif Nat.blt k 139 then (bif Nat.blt k 138 then ((860, 152, 858, 859)) else ((865, 149, 863, 864))) else (bif Nat.blt k 140 then ((869, 155, 867, 868)) else (bif Nat.blt k 141 then ((872, 155, 871, 31)) else ((876, 152, 874, 875))))) else (bif Nat.blt k 145 then (bif Nat.blt k 143 then ((879, 152, 878, 32)) else (bif Nat.blt k 144 then ((882, 155, 881, 33)) else ((886, 149, 884, 885)))) else (bif Nat.blt k 146 then ((890, 154, 888, 889)) else (bif Nat.blt k 147 then ((895, 149, 893, 894)) else ((899, 157, 897, 898))))))) else (bif Nat.blt k 159 then (bif Nat.blt k 153 then (bif Nat.blt k 150 then (bif Nat.blt k 149 then ((902, 157, 901, 0)) else ((906, 152, 904, 905))) else (bif Nat.blt k 151 then ((910, 149, 908, 909)) else (bif Nat.blt k 152 then ((914, 158, 912, 913)) else ((918, 158, 917, 34))))) else (bif Nat.blt k 156 then (bif Nat.blt k 154 then ((921, 158, 920, 35)) else (bif Nat.blt k 155 then ((925, 149, 923, 924)) else ((929, 152, 927, 928)))) else (bif Nat.blt k 157 then ((933, 152, 931, 932)) else (bif Nat.blt k 158 then ((937, 152, 935, 936)) else ((942, 149, 940, 941)))))) else (bif Nat.blt k 164 then (bif Nat.blt k 161 then (bif Nat.blt k 160 then ((945, 149, 944, 0)) else ((949, 159, 947, 948))) else (bif Nat.blt k 162 then ((952, 159, 951, 36)) else (bif Nat.blt k 163 then ((957, 159, 955, 956)) else ((961, 159, 959, 960))))) else (bif Nat.blt k 167 then (bif Nat.blt k 165 then ((964, 159, 963, 37)) else (bif Nat.blt k 166 then ((968, 153, 966, 967)) else ((971, 153, 970, 38)))) else (bif Nat.blt k 168 then ((974, 153, 973, 39)) else (bif Nat.blt k 169 then ((977, 153, 976, 40)) else ((980, 153, 979, 41)))))))))) else (bif Nat.blt k 255 then (bif Nat.blt k 212 then (bif Nat.blt k 191 then (bif Nat.blt k 180 then (bif Nat.blt k 175 then (bif Nat.blt k 172 then (bif Nat.blt k 171 then ((984, 153, 983, 42)) else ((989, 153, 987, 988))) else (bif Nat.blt k 173 then ((993, 159, 992, 43)) else (bif Nat.blt k 174 then ((996, 159, 995, 44)) else ((1000, 149, 998, 999))))) else (bif Nat.blt k 177 then (bif Nat.blt k 176 then ((1003, 149, 1002, 45)) else ((1007, 159, 1005, 1006))) else (bif Nat.blt k 178 then ((1013, 159, 1011, 1012)) else (bif Nat.blt k 179 then ((1017, 149, 1015, 1016)) else ((1022, 149, 1020, 1021)))))) else (bif Nat.blt k 185 then (bif Nat.blt k 182 then (bif Nat.blt k 181 then ((1026, 149, 1024, 1025)) else ((1030, 159, 1028, 1029))) else (bif Nat.blt k 183 then ((1034, 149, 1032, 1033)) else (bif Nat.blt k 184 then ((1039, 149, 1037, 1038)) else ((1043, 149, 1041, 1042))))) else (bif Nat.blt k 188 then (bif Nat.blt k 186 then ((1047, 149, 1045, 1046)) else (bif Nat.blt k 187 then ((1051, 149, 1049, 1050)) else ((1056, 160, 1055, 0)))) else (bif Nat.blt k 189 then ((1147, 160, 1145, 1146)) else (bif Nat.blt k 190 then ((1150, 160, 1149, 46)) else ((1153, 160, 1152, 0))))))) else (bif Nat.blt k 201 then (bif Nat.blt k 196 then (bif Nat.blt k 193 then (bif Nat.blt k 192 then ((1157, 160, 1155, 1156)) else ((1160, 160, 1159, 47))) else (bif Nat.blt k 194 then ((1164, 160, 1162, 1163)) else (bif Nat.blt k 195 then ((1167, 160, 1166, 48)) else ((1170, 160, 1169, 49))))) else (bif Nat.blt k 198 then (bif Nat.blt k 197 then ((1173, 160, 1172, 50)) else ((1176, 160, 1175, 51))) else (bif Nat.blt k 199 then ((1179, 160, 1178, 52)) else (bif Nat.blt k 200 then ((1182, 160, 1181, 53)) else ((1185, 160, 1184, 54)))))) else (bif Nat.blt k 206 then (bif Nat.blt k 203 then (bif Nat.blt k 202 then ((1189, 160, 1188, 55)) else ((1192, 160, 1191, 56))) else (bif Nat.blt k 204 then ((1195, 160, 1194, 57)) else (bif Nat.blt k 205 then ((1198, 160, 1197, 0)) else ((1201, 160, 1200, 0))))) else (bif Nat.blt k 209 then (bif Nat.blt k 207 then ((1204, 160, 1203, 58)) else (bif Nat.blt k 208 then ((1207, 160, 1206, 59)) else ((1210, 160, 1209, 60)))) else (bif Nat.blt k 210 then ((1213, 160, 1212, 61)) else (bif Nat.blt k 211 then ((1216, 160, 1215, 62)) else ((1219, 160, 1218, 63)))))))) else (bif Nat.blt k 233 then (bif Nat.blt k 222 then (bif Nat.blt k 217 then (bif Nat.blt k 214 then (bif Nat.blt k 213 then ((1222, 160, 1221, 64)) else ((1225, 160, 1224, 65))) else (bif Nat.blt k 215 then ((1228, 160, 1227, 66)) else (bif Nat.blt k 216 then ((1232, 160, 1230, 1231)) else ((1235, 160, 1234, 67))))) else (bif Nat.blt k 219 then (bif Nat.blt k 218 then ((1238, 160, 1237, 68)) else ((1241, 160, 1240, 69))) else (bif Nat.blt k 220 then ((1245, 160, 1243, 1244)) else (bif Nat.blt k 221 then ((1248, 160, 1247, 70)) else ((1251, 160, 1250, 71)))))) else (bif Nat.blt k 227 then (bif Nat.blt k 224 then (bif Nat.blt k 223 then ((1254, 160, 1253, 72)) else ((1257, 160, 1256, 0))) else (bif Nat.blt k 225 then ((1260, 160, 1259, 0)) else (bif Nat.blt k 226 then ((1263, 160, 1262, 73)) else ((1266, 160, 1265, 0))))) else (bif Nat.blt k 230 then (bif Nat.blt k 228 then ((1269, 160, 1268, 0)) else (bif Nat.blt k 229 then ((1272, 160, 1271, 74)) else ((1275, 160, 1274, 75)))) else (bif Nat.blt k 231 then ((1278, 160, 1277, 76)) else (bif Nat.blt k 232 then ((1281, 160, 1280, 77)) else ((1284, 160, 1283, 0))))))) else (bif Nat.blt k 244 then (bif Nat.blt k 238 then (bif Nat.blt k 235 then (bif Nat.blt k 234 then ((1287, 160, 1286, 78)) else ((1290, 160, 1289, 79))) else (bif Nat.blt k 236 then ((1293, 160, 1292, 80)) else (bif Nat.blt k 237 then ((1296, 160, 1295, 81)) else ((1300, 160, 1298, 1299))))) else (bif Nat.blt k 241 then (bif Nat.blt k 239 then ((1305, 160, 1303, 1304)) else (bif Nat.blt k 240 then ((1308, 160, 1307, 82)) else ((1311, 160, 1310, 83)))) else (bif Nat.blt k 242 then ((1314, 160, 1313, 84)) else (bif Nat.blt k 243 then ((1317, 160, 1316, 85)) else ((1320, 160, 1319, 0)))))) else (bif Nat.blt k 249 then (bif Nat.blt k 246 then (bif Nat.blt k 245 then ((1323, 160, 1322, 86)) else ((1326, 160, 1325, 87))) else (bif Nat.blt k 247 then ((1329, 160, 1328, 0)) else (bif Nat.blt k 248 then ((1332, 160, 1331, 0)) else ((1335, 160, 1334, 88))))) else (bif Nat.blt k 252 then (bif Nat.blt k 250 then ((1338, 160, 1337, 0)) else (bif Nat.blt k 251 then ((1342, 160, 1340, 1341)) else ((1345, 160, 1344, 0)))) else (bif Nat.blt k 253 then ((1348, 160, 1347, 89)) else (bif Nat.blt k 254 then ((1352, 160, 1351, 90)) else ((1355, 160, 1354, 0))))))))) else (bif Nat.blt k 297 then (bif Nat.blt k 276 then (bif Nat.blt k 265 then (bif Nat.blt k 260 then (bif Nat.blt k 257 then (bif Nat.blt k 256 then ((1358, 160, 1357, 91)) else ((1362, 160, 1360, 1361))) else (bif Nat.blt k 258 then ((1365, 160, 1364, 92)) else (bif Nat.blt k 259 then ((1368, 160, 1367, 93)) else ((1371, 160, 1370, 94))))) else (bif Nat.blt k 262 then (bif Nat.blt k 261 then ((1375, 160, 1373, 1374)) else ((1379, 160, 1377, 1378))) else (bif Nat.blt k 263 then ((1382, 160, 1381, 95)) else (bif Nat.blt k 264 then ((1385, 160, 1384, 96)) else ((1388, 160, 1387, 97)))))) else (bif Nat.blt k 270 then (bif Nat.blt k 267 then (bif Nat.blt k 266 then ((1391, 160, 1390, 98)) else ((1394, 160, 1393, 99))) else (bif Nat.blt k 268 then ((1397, 160, 1396, 100)) else (bif Nat.blt k 269 then ((1400, 160, 1399, 101)) else ((1404, 160, 1402, 1403))))) else (bif Nat.blt k 273 then (bif Nat.blt k 271 then ((1407, 160, 1406, 102)) else (bif Nat.blt k 272 then ((1410, 160, 1409, 103)) else ((1413, 160, 1412, 104)))) else (bif Nat.blt k 274 then ((1416, 160, 1415, 105)) else (bif Nat.blt k 275 then ((1419, 160, 1418, 106)) else ((1423, 160, 1421, 1422))))))) else (bif Nat.blt k 286 then (bif Nat.blt k 281 then (bif Nat.blt k 278 then (bif Nat.blt k 277 then ((1426, 160, 1425, 107)) else ((1429, 160, 1428, 0))) else (bif Nat.blt k 279 then ((1432, 160, 1431, 108)) else (bif Nat.blt k 280 then ((1435, 160, 1434, 109)) else ((1438, 160, 1437, 110))))) else (bif Nat.blt k 283 then (bif Nat.blt k 282 then ((1441, 160, 1440, 111)) else ((1444, 160, 1443, 0))) else (bif Nat.blt k 284 then ((1447, 160, 1446, 112)) else (bif Nat.blt k 285 then ((1450, 160, 1449, 113)) else ((1453, 160, 1452, 114)))))) else (bif Nat.blt k 291 then (bif Nat.blt k 288 then (bif Nat.blt k 287 then ((1456, 160, 1455, 115)) else ((1459, 160, 1458, 116))) else (bif Nat.blt k 289 then ((1463, 160, 1461, 1462)) else (bif Nat.blt k 290 then ((1466, 160, 1465, 117)) else ((1470, 160, 1468, 1469))))) else (bif Nat.blt k 294 then (bif Nat.blt k 292 then ((1473, 160, 1472, 118)) else (bif Nat.blt k 293 then ((1477, 160, 1475, 1476)) else ((1480, 160, 1479, 119)))) else (bif Nat.blt k 295 then ((1483, 160, 1482, 120)) else (bif Nat.blt k 296 then ((1487, 160, 1485, 1486)) else ((1490, 160, 1489, 121)))))))) else (bif Nat.blt k 318 then (bif Nat.blt k 307 then (bif Nat.blt k 302 then (bif Nat.blt k 299 then (bif Nat.blt k 298 then ((1493, 160, 1492, 122)) else ((1496, 160, 1495, 123))) else (bif Nat.blt k 300 then ((1499, 160, 1498, 124)) else (bif Nat.blt k 301 then ((1502, 160, 1501, 125)) else ((1506, 160, 1504, 1505))))) else (bif Nat.blt k 304 then (bif Nat.blt k 303 then ((1510, 160, 1508, 1509)) else ((1513, 160, 1512, 126))) else (bif Nat.blt k 305 then ((1516, 160, 1515, 127)) else (bif Nat.blt k 306 then ((1519, 160, 1518, 128)) else ((1523, 160, 1521, 1522)))))) else (bif Nat.blt k 312 then (bif Nat.blt k 309 then (bif Nat.blt k 308 then ((1526, 160, 1525, 129)) else ((1529, 160, 1528, 130))) else (bif Nat.blt k 310 then ((1533, 160, 1531, 1532)) else (bif Nat.blt k 311 then ((1536, 160, 1535, 131)) else ((1539, 160, 1538, 132))))) else (bif Nat.blt k 315 then (bif Nat.blt k 313 then ((1542, 160, 1541, 0)) else (bif Nat.blt k 314 then ((1546, 160, 1544, 1545)) else ((1549, 160, 1548, 133)))) else (bif Nat.blt k 316 then ((1552, 160, 1551, 134)) else (bif Nat.blt k 317 then ((1555, 160, 1554, 135)) else ((1558, 160, 1557, 136))))))) else (bif Nat.blt k 329 then (bif Nat.blt k 323 then (bif Nat.blt k 320 then (bif Nat.blt k 319 then ((1561, 160, 1560, 137)) else ((1565, 160, 1564, 138))) else (bif Nat.blt k 321 then ((1568, 160, 1567, 139)) else (bif Nat.blt k 322 then ((1571, 160, 1570, 140)) else ((1574, 160, 1573, 141))))) else (bif Nat.blt k 326 then (bif Nat.blt k 324 then ((1577, 160, 1576, 0)) else (bif Nat.blt k 325 then ((1580, 160, 1579, 142)) else ((1583, 160, 1582, 143)))) else (bif Nat.blt k 327 then ((1586, 160, 1585, 144)) else (bif Nat.blt k 328 then ((1590, 160, 1588, 1589)) else ((1593, 160, 1592, 0)))))) else (bif Nat.blt k 334 then (bif Nat.blt k 331 then (bif Nat.blt k 330 then ((1597, 160, 1595, 1596)) else ((1601, 160, 1599, 1600))) else (bif Nat.blt k 332 then ((1605, 160, 1603, 1604)) else (bif Nat.blt k 333 then ((1609, 160, 1608, 145)) else ((1613, 160, 1611, 1612))))) else (bif Nat.blt k 337 then (bif Nat.blt k 335 then ((1618, 160, 1616, 1617)) else (bif Nat.blt k 336 then ((1622, 160, 1620, 1621)) else ((1626, 160, 1624, 1625)))) else (bif Nat.blt k 338 then ((1629, 160, 1628, 146)) else (bif Nat.blt k 339 then ((1633, 160, 1631, 1632)) else ((1636, 160, 1635, 147))))))))))
def mow (k : Nat) : Nat := bif Nat.blt k 170 then (bif Nat.blt k 85 then (bif Nat.blt k 42 then (bif Nat.blt k 21 then (bif Nat.blt k 10 then (bif Nat.blt k 5 then (bif Nat.blt k 2 then (bif Nat.blt k 1 then (10) else (18)) else (bif Nat.blt k 3 then (7) else (bif Nat.blt k 4 then (6) else (4)))) else (bif Nat.blt k 7 then (bif Nat.blt k 6 then (2) else (9)) else (bif Nat.blt k 8 then (5) else (bif Nat.blt k 9 then (0) else (1))))) else (bif Nat.blt k 15 then (bif Nat.blt k 12 then (bif Nat.blt k 11 then (3) else (8)) else (10)) else (bif Nat.blt k 18 then (bif Nat.blt k 16 then (10) else (7)) else (bif Nat.blt k 19 then (10) else (7))))) else (bif Nat.blt k 31 then (bif Nat.blt k 26 then (bif Nat.blt k 23 then (bif Nat.blt k 22 then (12) else (2)) else (bif Nat.blt k 24 then (12) else (7))) else (bif Nat.blt k 28 then (12) else (bif Nat.blt k 29 then (12) else (bif Nat.blt k 30 then (10) else (12))))) else (bif Nat.blt k 36 then (bif Nat.blt k 33 then (bif Nat.blt k 32 then (2) else (7)) else (12)) else (bif Nat.blt k 39 then (12) else (bif Nat.blt k 40 then (7) else (bif Nat.blt k 41 then (10) else (6))))))) else (bif Nat.blt k 63 then (bif Nat.blt k 52 then (bif Nat.blt k 47 then (bif Nat.blt k 44 then (bif Nat.blt k 43 then (6) else (10)) else (bif Nat.blt k 45 then (10) else (6))) else (bif Nat.blt k 49 then (bif Nat.blt k 48 then (8) else (17)) else (bif Nat.blt k 50 then (4) else (1)))) else (bif Nat.blt k 57 then (bif Nat.blt k 54 then (bif Nat.blt k 53 then (1) else (4)) else (bif Nat.blt k 55 then (10) else (15))) else (bif Nat.blt k 60 then (bif Nat.blt k 58 then (1) else (bif Nat.blt k 59 then (1) else (6))) else (bif Nat.blt k 61 then (6) else (1))))) else (bif Nat.blt k 74 then (bif Nat.blt k 68 then (bif Nat.blt k 65 then (bif Nat.blt k 64 then (1) else (14)) else (bif Nat.blt k 66 then (10) else (4))) else (4)) else (bif Nat.blt k 79 then (bif Nat.blt k 76 then (bif Nat.blt k 75 then (4) else (10)) else (bif Nat.blt k 77 then (10) else (9))) else (bif Nat.blt k 82 then (9) else (bif Nat.blt k 83 then (9) else (bif Nat.blt k 84 then (10) else (9)))))))) else (bif Nat.blt k 127 then (bif Nat.blt k 106 then (bif Nat.blt k 95 then (bif Nat.blt k 90 then (bif Nat.blt k 87 then (bif Nat.blt k 86 then (9) else (10)) else (bif Nat.blt k 88 then (10) else (9))) else (9)) else (bif Nat.blt k 100 then (bif Nat.blt k 97 then (10) else (bif Nat.blt k 98 then (0) else (bif Nat.blt k 99 then (0) else (17)))) else (bif Nat.blt k 103 then (bif Nat.blt k 101 then (17) else (0)) else (bif Nat.blt k 104 then (0) else (bif Nat.blt k 105 then (0) else (10)))))) else (bif Nat.blt k 116 then (bif Nat.blt k 111 then (bif Nat.blt k 108 then (bif Nat.blt k 107 then (10) else (5)) else (5)) else (bif Nat.blt k 113 then (bif Nat.blt k 112 then (5) else (10)) else (5))) else (bif Nat.blt k 121 then (bif Nat.blt k 118 then (bif Nat.blt k 117 then (10) else (5)) else (bif Nat.blt k 119 then (17) else (bif Nat.blt k 120 then (5) else (10)))) else (bif Nat.blt k 124 then (bif Nat.blt k 122 then (10) else (bif Nat.blt k 123 then (6) else (9))) else (10))))) else (bif Nat.blt k 148 then (bif Nat.blt k 137 then (bif Nat.blt k 132 then (bif Nat.blt k 129 then (bif Nat.blt k 128 then (1) else (10)) else (bif Nat.blt k 130 then (10) else (1))) else (bif Nat.blt k 134 then (bif Nat.blt k 133 then (10) else (1)) else (bif Nat.blt k 135 then (1) else (bif Nat.blt k 136 then (10) else (4))))) else (bif Nat.blt k 142 then (bif Nat.blt k 139 then (bif Nat.blt k 138 then (4) else (10)) else (bif Nat.blt k 140 then (5) else (bif Nat.blt k 141 then (5) else (4)))) else (bif Nat.blt k 145 then (bif Nat.blt k 143 then (4) else (bif Nat.blt k 144 then (5) else (10))) else (bif Nat.blt k 146 then (9) else (bif Nat.blt k 147 then (10) else (1)))))) else (bif Nat.blt k 159 then (bif Nat.blt k 153 then (bif Nat.blt k 150 then (bif Nat.blt k 149 then (1) else (4)) else (bif Nat.blt k 151 then (10) else (3))) else (bif Nat.blt k 156 then (bif Nat.blt k 154 then (3) else (bif Nat.blt k 155 then (10) else (4))) else (bif Nat.blt k 157 then (4) else (bif Nat.blt k 158 then (4) else (10))))) else (bif Nat.blt k 164 then (bif Nat.blt k 161 then (bif Nat.blt k 160 then (10) else (8)) else (8)) else (bif Nat.blt k 167 then (bif Nat.blt k 165 then (8) else (2)) else (2))))))) else (bif Nat.blt k 255 then (bif Nat.blt k 212 then (bif Nat.blt k 191 then (bif Nat.blt k 180 then (bif Nat.blt k 175 then (bif Nat.blt k 172 then (2) else (bif Nat.blt k 173 then (8) else (bif Nat.blt k 174 then (8) else (10)))) else (bif Nat.blt k 177 then (bif Nat.blt k 176 then (10) else (8)) else (bif Nat.blt k 178 then (8) else (10)))) else (bif Nat.blt k 185 then (bif Nat.blt k 182 then (bif Nat.blt k 181 then (10) else (8)) else (10)) else (bif Nat.blt k 188 then (bif Nat.blt k 186 then (10) else (bif Nat.blt k 187 then (10) else (11))) else (11)))) else (11)) else (11)) else (11))
def mnp (k : Nat) : Nat := bif Nat.blt k 170 then (bif Nat.blt k 85 then (bif Nat.blt k 42 then (bif Nat.blt k 21 then (bif Nat.blt k 10 then (0) else (bif Nat.blt k 15 then (bif Nat.blt k 12 then (0) else (bif Nat.blt k 13 then (4) else (1))) else (bif Nat.blt k 18 then (bif Nat.blt k 16 then (5) else (1)) else (bif Nat.blt k 19 then (1) else (2))))) else (bif Nat.blt k 31 then (bif Nat.blt k 26 then (bif Nat.blt k 23 then (bif Nat.blt k 22 then (2) else (0)) else (bif Nat.blt k 24 then (2) else (bif Nat.blt k 25 then (0) else (1)))) else (bif Nat.blt k 28 then (3) else (bif Nat.blt k 29 then (3) else (bif Nat.blt k 30 then (1) else (2))))) else (bif Nat.blt k 36 then (bif Nat.blt k 33 then (bif Nat.blt k 32 then (2) else (1)) else (3)) else (bif Nat.blt k 39 then (bif Nat.blt k 37 then (3) else (bif Nat.blt k 38 then (3) else (2))) else (bif Nat.blt k 40 then (0) else (1)))))) else (bif Nat.blt k 63 then (bif Nat.blt k 52 then (bif Nat.blt k 47 then (bif Nat.blt k 44 then (1) else (bif Nat.blt k 45 then (2) else (bif Nat.blt k 46 then (1) else (0)))) else (bif Nat.blt k 49 then (bif Nat.blt k 48 then (0) else (2)) else (bif Nat.blt k 50 then (1) else (bif Nat.blt k 51 then (2) else (1))))) else (bif Nat.blt k 57 then (bif Nat.blt k 54 then (bif Nat.blt k 53 then (3) else (1)) else (bif Nat.blt k 55 then (4) else (2))) else (bif Nat.blt k 60 then (bif Nat.blt k 58 then (3) else (bif Nat.blt k 59 then (5) else (3))) else (bif Nat.blt k 61 then (2) else (bif Nat.blt k 62 then (2) else (5)))))) else (bif Nat.blt k 74 then (bif Nat.blt k 68 then (bif Nat.blt k 65 then (1) else (bif Nat.blt k 66 then (1) else (2))) else (bif Nat.blt k 71 then (bif Nat.blt k 69 then (1) else (bif Nat.blt k 70 then (2) else (1))) else (bif Nat.blt k 72 then (1) else (bif Nat.blt k 73 then (0) else (1))))) else (bif Nat.blt k 79 then (bif Nat.blt k 76 then (bif Nat.blt k 75 then (2) else (3)) else (bif Nat.blt k 77 then (1) else (bif Nat.blt k 78 then (2) else (1)))) else (bif Nat.blt k 82 then (bif Nat.blt k 80 then (1) else (bif Nat.blt k 81 then (1) else (0))) else (bif Nat.blt k 83 then (1) else (bif Nat.blt k 84 then (1) else (2)))))))) else (bif Nat.blt k 127 then (bif Nat.blt k 106 then (bif Nat.blt k 95 then (bif Nat.blt k 90 then (bif Nat.blt k 87 then (bif Nat.blt k 86 then (1) else (2)) else (bif Nat.blt k 88 then (1) else (bif Nat.blt k 89 then (0) else (2)))) else (bif Nat.blt k 92 then (bif Nat.blt k 91 then (3) else (2)) else (bif Nat.blt k 93 then (3) else (bif Nat.blt k 94 then (2) else (3))))) else (bif Nat.blt k 100 then (bif Nat.blt k 97 then (bif Nat.blt k 96 then (3) else (1)) else (bif Nat.blt k 98 then (1) else (bif Nat.blt k 99 then (2) else (4)))) else (bif Nat.blt k 103 then (bif Nat.blt k 101 then (3) else (bif Nat.blt k 102 then (3) else (2))) else (bif Nat.blt k 104 then (2) else (bif Nat.blt k 105 then (2) else (5)))))) else (bif Nat.blt k 116 then (bif Nat.blt k 111 then (bif Nat.blt k 108 then (bif Nat.blt k 107 then (2) else (3)) else (bif Nat.blt k 109 then (3) else (bif Nat.blt k 110 then (3) else (2)))) else (bif Nat.blt k 113 then (1) else (bif Nat.blt k 114 then (1) else (bif Nat.blt k 115 then (3) else (1))))) else (bif Nat.blt k 121 then (bif Nat.blt k 118 then (bif Nat.blt k 117 then (5) else (4)) else (bif Nat.blt k 119 then (2) else (bif Nat.blt k 120 then (1) else (3)))) else (bif Nat.blt k 124 then (bif Nat.blt k 122 then (2) else (bif Nat.blt k 123 then (0) else (2))) else (bif Nat.blt k 125 then (1) else (bif Nat.blt k 126 then (2) else (1))))))) else (bif Nat.blt k 148 then (bif Nat.blt k 137 then (bif Nat.blt k 132 then (bif Nat.blt k 129 then (1) else (bif Nat.blt k 130 then (1) else (bif Nat.blt k 131 then (2) else (1)))) else (1)) else (bif Nat.blt k 142 then (bif Nat.blt k 139 then (bif Nat.blt k 138 then (1) else (3)) else (bif Nat.blt k 140 then (3) else (bif Nat.blt k 141 then (3) else (2)))) else (bif Nat.blt k 145 then (bif Nat.blt k 143 then (2) else (bif Nat.blt k 144 then (3) else (2))) else (bif Nat.blt k 146 then (2) else (bif Nat.blt k 147 then (1) else (3)))))) else (bif Nat.blt k 159 then (bif Nat.blt k 153 then (bif Nat.blt k 150 then (bif Nat.blt k 149 then (3) else (1)) else (bif Nat.blt k 151 then (0) else (bif Nat.blt k 152 then (3) else (2)))) else (bif Nat.blt k 156 then (bif Nat.blt k 154 then (1) else (bif Nat.blt k 155 then (2) else (1))) else (1))) else (bif Nat.blt k 164 then (bif Nat.blt k 161 then (bif Nat.blt k 160 then (1) else (3)) else (bif Nat.blt k 162 then (2) else (bif Nat.blt k 163 then (2) else (0)))) else (bif Nat.blt k 167 then (bif Nat.blt k 165 then (3) else (bif Nat.blt k 166 then (2) else (3))) else (bif Nat.blt k 168 then (1) else (0)))))))) else (bif Nat.blt k 255 then (bif Nat.blt k 212 then (bif Nat.blt k 191 then (bif Nat.blt k 180 then (bif Nat.blt k 175 then (bif Nat.blt k 172 then (bif Nat.blt k 171 then (3) else (4)) else (bif Nat.blt k 173 then (3) else (2))) else (bif Nat.blt k 177 then (bif Nat.blt k 176 then (1) else (2)) else (2))) else (bif Nat.blt k 185 then (bif Nat.blt k 182 then (bif Nat.blt k 181 then (1) else (2)) else (bif Nat.blt k 183 then (1) else (0))) else (bif Nat.blt k 188 then (bif Nat.blt k 186 then (1) else (bif Nat.blt k 187 then (1) else (0))) else (bif Nat.blt k 189 then (4) else (bif Nat.blt k 190 then (1) else (3)))))) else (bif Nat.blt k 201 then (bif Nat.blt k 196 then (bif Nat.blt k 193 then (bif Nat.blt k 192 then (5) else (1)) else (bif Nat.blt k 194 then (1) else (bif Nat.blt k 195 then (2) else (0)))) else (bif Nat.blt k 198 then (bif Nat.blt k 197 then (0) else (2)) else (bif Nat.blt k 199 then (0) else (bif Nat.blt k 200 then (0) else (1))))) else (bif Nat.blt k 206 then (bif Nat.blt k 203 then (0) else (bif Nat.blt k 204 then (2) else (1))) else (bif Nat.blt k 209 then (bif Nat.blt k 207 then (1) else (bif Nat.blt k 208 then (0) else (1))) else (0))))) else (bif Nat.blt k 233 then (bif Nat.blt k 222 then (bif Nat.blt k 217 then (bif Nat.blt k 214 then (1) else (bif Nat.blt k 215 then (1) else (bif Nat.blt k 216 then (1) else (0)))) else (bif Nat.blt k 219 then (bif Nat.blt k 218 then (2) else (0)) else (bif Nat.blt k 220 then (3) else (bif Nat.blt k 221 then (3) else (0))))) else (bif Nat.blt k 227 then (bif Nat.blt k 224 then (bif Nat.blt k 223 then (0) else (1)) else (bif Nat.blt k 225 then (1) else (bif Nat.blt k 226 then (3) else (2)))) else (bif Nat.blt k 230 then (1) else (bif Nat.blt k 231 then (2) else (bif Nat.blt k 232 then (3) else (2)))))) else (bif Nat.blt k 244 then (bif Nat.blt k 238 then (bif Nat.blt k 235 then (1) else (bif Nat.blt k 236 then (1) else (bif Nat.blt k 237 then (2) else (3)))) else (bif Nat.blt k 241 then (bif Nat.blt k 239 then (1) else (0)) else (bif Nat.blt k 242 then (1) else (2)))) else (bif Nat.blt k 249 then (bif Nat.blt k 246 then (bif Nat.blt k 245 then (0) else (1)) else (bif Nat.blt k 247 then (1) else (bif Nat.blt k 248 then (2) else (0)))) else (bif Nat.blt k 252 then (bif Nat.blt k 250 then (1) else (bif Nat.blt k 251 then (5) else (2))) else (bif Nat.blt k 253 then (1) else (2))))))) else (bif Nat.blt k 297 then (bif Nat.blt k 276 then (bif Nat.blt k 265 then (bif Nat.blt k 260 then (bif Nat.blt k 257 then (1) else (bif Nat.blt k 258 then (0) else (bif Nat.blt k 259 then (4) else (3)))) else (bif Nat.blt k 262 then (bif Nat.blt k 261 then (5) else (3)) else (bif Nat.blt k 263 then (0) else (bif Nat.blt k 264 then (1) else (0))))) else (bif Nat.blt k 270 then (bif Nat.blt k 267 then (bif Nat.blt k 266 then (0) else (1)) else (bif Nat.blt k 268 then (3) else (bif Nat.blt k 269 then (0) else (1)))) else (bif Nat.blt k 273 then (bif Nat.blt k 271 then (0) else (bif Nat.blt k 272 then (0) else (1))) else (bif Nat.blt k 274 then (0) else (bif Nat.blt k 275 then (0) else (2)))))) else (bif Nat.blt k 286 then (bif Nat.blt k 281 then (1) else (bif Nat.blt k 283 then (1) else (bif Nat.blt k 284 then (2) else (bif Nat.blt k 285 then (2) else (1))))) else (bif Nat.blt k 291 then (1) else (bif Nat.blt k 294 then (1) else (bif Nat.blt k 295 then (1) else (bif Nat.blt k 296 then (3) else (1))))))) else (bif Nat.blt k 318 then (bif Nat.blt k 307 then (bif Nat.blt k 302 then (bif Nat.blt k 299 then (bif Nat.blt k 298 then (2) else (1)) else (bif Nat.blt k 300 then (1) else (2))) else (bif Nat.blt k 304 then (bif Nat.blt k 303 then (1) else (0)) else (bif Nat.blt k 305 then (1) else (bif Nat.blt k 306 then (2) else (0))))) else (bif Nat.blt k 312 then (bif Nat.blt k 309 then (bif Nat.blt k 308 then (1) else (2)) else (bif Nat.blt k 310 then (2) else (bif Nat.blt k 311 then (2) else (1)))) else (bif Nat.blt k 315 then (bif Nat.blt k 313 then (2) else (1)) else (bif Nat.blt k 316 then (0) else (1))))) else (bif Nat.blt k 329 then (bif Nat.blt k 323 then (bif Nat.blt k 320 then (bif Nat.blt k 319 then (0) else (1)) else (bif Nat.blt k 321 then (0) else (bif Nat.blt k 322 then (1) else (2)))) else (bif Nat.blt k 326 then (bif Nat.blt k 324 then (3) else (bif Nat.blt k 325 then (3) else (1))) else (bif Nat.blt k 327 then (1) else (2)))) else (bif Nat.blt k 334 then (bif Nat.blt k 331 then (2) else (1)) else (bif Nat.blt k 337 then (bif Nat.blt k 335 then (0) else (bif Nat.blt k 336 then (0) else (1))) else (bif Nat.blt k 338 then (1) else (bif Nat.blt k 339 then (1) else (0)))))))))
def kcl (k : Nat) : String := bif Nat.blt k 6 then (bif Nat.blt k 3 then (bif Nat.blt k 1 then ("NamedToWed$Changes") else (bif Nat.blt k 2 then ("NamedToWed$Houses") else ("NamedToWed$Law"))) else (bif Nat.blt k 4 then ("NamedToWed$Matches") else (bif Nat.blt k 5 then ("NamedToWed$Roll") else ("NamedToWed$Row")))) else (bif Nat.blt k 9 then (bif Nat.blt k 7 then ("NamedToWed$Rule") else (bif Nat.blt k 8 then ("NamedToWed$Tape") else ("NamedToWed$Village"))) else (bif Nat.blt k 11 then (bif Nat.blt k 10 then ("NamedToWed$Word") else ("NamedToWed")) else (bif Nat.blt k 12 then ("NamedToWedModel") else (""))))
def SPX : List Cond := [(Jvm.Cond.fieldLink "NamedToWed$LawReader" (104 : Nat) "NamedToWed$LawReader" "LETTERS" "[C"), (Jvm.Cond.laysStatic "NamedToWed$LawReader" "LETTERS" "[C"), (Jvm.Cond.fieldLink "NamedToWed" (390 : Nat) "NamedToWed" "STEP_LETTERS" "[C"), (Jvm.Cond.laysStatic "NamedToWed" "STEP_LETTERS" "[C"), (Jvm.Cond.fieldLink "NamedToWed$Changes" (31 : Nat) "NamedToWed$Changes" "FACTORIALS" "[I"), (Jvm.Cond.laysStatic "NamedToWed$Changes" "FACTORIALS" "[I"), (Jvm.Cond.fieldLinkNest "NamedToWed$Row" (41 : Nat) "NamedToWed" "STEP_LETTERS" "[C" "NamedToWed"), (Jvm.Cond.constantLong "NamedToWed" (216 : Nat) (-1 : Int64)), (Jvm.Cond.fieldLink "NamedToWed" (226 : Nat) "NamedToWed$Changes" "FACTORIALS" "[I"), (Jvm.Cond.methodLink "NamedToWed$Village" (49 : Nat) ({ cls := "java/lang/System", name := "arraycopy", desc := "(Ljava/lang/Object;ILjava/lang/Object;II)V" } : Jvm.MethodName)), (Jvm.Cond.static ({ cls := "java/lang/System", name := "arraycopy", desc := "(Ljava/lang/Object;ILjava/lang/Object;II)V" } : Jvm.MethodName)), (Jvm.Cond.native ({ cls := "java/lang/System", name := "arraycopy", desc := "(Ljava/lang/Object;ILjava/lang/Object;II)V" } : Jvm.MethodName)), (Jvm.Cond.constantLong "NamedToWedModel" (452 : Nat) (-1 : Int64))]
theorem spx_in : ∀ w ∈ SPX, w ∈ lw_tbl := by decide +kernel
def FC (a j : Nat) : Int32 := bif Nat.beq a 1 then (bif Nat.blt j 4 then (bif Nat.blt j 2 then (bif Nat.blt j 1 then (102) else (109)) else (bif Nat.blt j 3 then (104) else (119))) else (bif Nat.blt j 6 then (bif Nat.blt j 5 then (115) else (100)) else (bif Nat.blt j 7 then (98) else (bif Nat.blt j 8 then (122) else (0))))) else bif Nat.beq a 2 then (bif Nat.blt j 4 then (bif Nat.blt j 2 then (1) else (bif Nat.blt j 3 then (2) else (6))) else (bif Nat.blt j 6 then (bif Nat.blt j 5 then (24) else (120)) else (bif Nat.blt j 7 then (720) else (0)))) else (bif Nat.blt j 4 then (bif Nat.blt j 2 then (bif Nat.blt j 1 then (110) else (109)) else (bif Nat.blt j 3 then (118) else (107))) else (bif Nat.blt j 6 then (bif Nat.blt j 5 then (97) else (112)) else (bif Nat.blt j 7 then (116) else (bif Nat.blt j 8 then (113) else (0)))))
end
section
/-! THE SMALL MACHINE: one method's listing over a store of numbered cells; no cell is made. A store: ints, longs, changing references, by cell and slot. -/
abbrev Sg : Type := (Nat → Nat → Int32) × (Nat → Nat → Int64) × (Nat → Nat → Nat)
abbrev Rs : Type := Option (Option Value × Sg)
def sI (σ : Sg) (a k : Nat) (v : Int32) : Sg := (fun b j => if b = a ∧ j = k then v else σ.1 b j, σ.2)
def sJ (σ : Sg) (a k : Nat) (v : Int64) : Sg := (σ.1, fun b j => if b = a ∧ j = k then v else σ.2.1 b j, σ.2.2)
def sR (σ : Sg) (a k : Nat) (v : Nat) : Sg := (σ.1, σ.2.1, fun b j => if b = a ∧ j = k then v else σ.2.2 b j)
def sC (σ : Sg) (a0 a sp dp n : Nat) : Sg := (fun b j => if b = a ∧ dp ≤ j ∧ j < dp + n then σ.1 a0 (sp + (j - dp)) else σ.1 b j, σ.2)
abbrev ix (i : Int32) : Nat := i.toNatClampNeg
def rI (v : Int32) (σ : Sg) : Rs := some (some (.int v), σ)
def rJ (v : Int64) (σ : Sg) : Rs := some (some (.long v), σ)
def rV (σ : Sg) : Rs := some (none, σ)
def rZ (v : Int32) (σ : Sg) : Rs := if v = 0 ∨ v = 1 then rI v σ else none
def cI (o : Rs) (K : Int32 → Sg → Rs) : Rs := match o with
  | some (some (.int x), σ) => K x σ
  | _ => none
def cJ (o : Rs) (K : Int64 → Sg → Rs) : Rs := match o with
  | some (some (.long x), σ) => K x σ
  | _ => none
def cV (o : Rs) (K : Sg → Rs) : Rs := match o with
  | some (none, σ) => K σ
  | _ => none
def bnd (i : Int32) (n : Nat) (X : Rs) : Rs := if i < 0 ∨ n ≤ ix i then none else X
def gdK (k a : Nat) (X : Rs) : Rs := match Nat.beq (SH a).1 k with
  | true => X
  | false => none
/-- a field: an int, a reference -/
def gfI (k a y : Nat) (σ : Sg) (K : Int32 → Rs) : Rs := gdK k a (K (σ.1 a y))
def gfS (k a y : Nat) (K : Nat → Rs) : Rs := gdK k a (K (a + ofs k y))
def gfD (k a y : Nat) (σ : Sg) (K : Nat → Rs) : Rs := gdK k a (K (σ.2.2 a y))
def pfI (k a y : Nat) (v : Int32) (σ : Sg) (K : Sg → Rs) : Rs := gdK k a (K (sI σ a y v))
def pfZ (k a y : Nat) (v : Int32) (σ : Sg) (K : Sg → Rs) : Rs := gdK k a (if v = 0 ∨ v = 1 then K (sI σ a y v) else none)
def pfD (k a y : Nat) (v : Nat) (σ : Sg) (K : Sg → Rs) : Rs := gdK k a (K (sR σ a y v))
/-! a row's place -/
/-- the script: one more than its length (0: there is none), what stands where; no method but the law's has one -/
abbrev Scr : Type := Nat × (Nat → Int32)
def sc0 : Scr := (0, fun _ => 0)
def ldX (sc : Scr) (a : Nat) (i : Int32) (σ : Sg) (K : Int32 → Rs) : Rs := match Nat.beq (SH a).1 14 with
  | true => bnd i (SH a).2 (K (σ.1 a (ix i)))
  | false => match Nat.beq (SH a).1 17 with
    | true => bnd i (SH a).2 (K (FC a (ix i)))
    | false => match Nat.beq (SH a).1 16 with
      | true => bnd i (sc.1 - 1) (K (sc.2 (ix i)))
      | false => none
abbrev ldI := ldX sc0
def ldC (a : Nat) (i : Int32) (σ : Sg) (K : Int32 → Rs) : Rs := match Nat.beq (SH a).1 13 with
  | true => bnd i (SH a).2 (K (σ.1 a (ix i)))
  | false => match Nat.beq (SH a).1 18 with
    | true => bnd i (SH a).2 (K (FC a (ix i)))
    | false => none
def ldB (a : Nat) (i : Int32) (σ : Sg) (K : Int32 → Rs) : Rs := gdK 12 a (bnd i (SH a).2 (K (σ.1 a (ix i))))
def ldJ (a : Nat) (i : Int32) (σ : Sg) (K : Int64 → Rs) : Rs := gdK 15 a (bnd i (SH a).2 (K (σ.2.1 a (ix i))))
def stI (a : Nat) (i v : Int32) (σ : Sg) (K : Sg → Rs) : Rs := gdK 14 a (bnd i (SH a).2 (K (sI σ a (ix i) v)))
def stC (a : Nat) (i v : Int32) (σ : Sg) (K : Sg → Rs) : Rs := gdK 13 a (bnd i (SH a).2 (K (sI σ a (ix i) (vp_nar .char v))))
def stB (a : Nat) (i v : Int32) (σ : Sg) (K : Sg → Rs) : Rs := gdK 12 a (bnd i (SH a).2 (K (sI σ a (ix i) (vp_nar .byte v))))
def stJ (a : Nat) (i : Int32) (v : Int64) (σ : Sg) (K : Sg → Rs) : Rs := gdK 15 a (bnd i (SH a).2 (K (sJ σ a (ix i) v)))
def alX (sc : Scr) (a : Nat) (K : Int32 → Rs) : Rs := match Nat.beq (SH a).1 16 with
  | true => (match sc.1 with
    | 0 => none
    | n + 1 => K (Int32.ofNat n))
  | false => match Nat.ble 12 (SH a).1 && Nat.ble (SH a).1 18 with
    | true => K (Int32.ofNat (SH a).2)
    | false => none
abbrev aln := alX sc0
def acp (a0 a : Nat) (sp dp n : Int32) (σ : Sg) (K : Sg → Rs) : Rs := gdK 14 a0 (gdK 14 a
  (if sp < 0 ∨ dp < 0 ∨ n < 0 ∨ (SH a0).2 < ix sp + ix n ∨ (SH a).2 < ix dp + ix n then none else K (sC σ a0 a (ix sp) (ix dp) (ix n))))
def dvI (x y : Int32) (K : Int32 → Rs) : Rs := if y = 0 then none else K (x / y)
def rmI (x y : Int32) (K : Int32 → Rs) : Rs := if y = 0 then none else K (x % y)
/-! the locals: a list; .null is 'not set' -/
def lgt : List Value → Nat → Value
  | [], _ => .null
  | v :: _, 0 => v
  | _ :: t, n + 1 => lgt t n
def nlg (v : Value) : Value := match v with
  | .long _ => .null
  | .double _ => .null
  | w => w
def lpt : List Value → Nat → Value → List Value
  | [], _, _ => []
  | _ :: t, 0, v => v :: t
  | w :: t, n + 1, v => match n with
    | 0 => nlg w :: lpt t 0 v
    | k + 1 => w :: lpt t (k + 1) v
def lay : List Value → List Value
  | [] => []
  | v :: t => match v with
    | .long x => .long x :: .null :: lay t
    | .double x => .double x :: .null :: lay t
    | w => w :: lay t
def lfl : Nat → List Value → List Value
  | 0, _ => []
  | n + 1, [] => .null :: lfl n []
  | n + 1, v :: t => v :: lfl n t
def jmp : Cod → Nat → Cod
  | [], _ => []
  | it :: tl, x => match Nat.beq it.1 x with
    | true => it :: tl
    | false => jmp tl x
def sw (v : Int32) (f : Nat → Rs) (d : Rs) : List (Int32 × Nat) → Rs
  | [] => d
  | q :: t => if v = q.1 then f q.2 else sw v f d t
abbrev Kt : Type := Cod → List Value → List Value → Sg → Rs
/-! (hh20 stands in what the machine itself unfolds: it comes first when two terms are compared) -/
def hh0 : Nat := 0
def hh1 : Nat := hh0
def hh2 : Nat := hh1
def hh3 : Nat := hh2
def hh4 : Nat := hh3
def hh5 : Nat := hh4
def hh6 : Nat := hh5
def hh7 : Nat := hh6
def hh8 : Nat := hh7
def hh9 : Nat := hh8
def hh10 : Nat := hh9
def hh11 : Nat := hh10
def hh12 : Nat := hh11
def hh13 : Nat := hh12
def hh14 : Nat := hh13
def hh15 : Nat := hh14
def hh16 : Nat := hh15
def hh17 : Nat := hh16
def hh18 : Nat := hh17
def hh19 : Nat := hh18
def hh20 : Nat := hh19
def u1 (st : List Value) (f : Int32 → List Value → Rs) : Rs := let _h := hh20; match st with
  | .int a :: r => f a r
  | _ => none
def b2 (st : List Value) (f : Int32 → Int32 → List Value → Rs) : Rs := let _h := hh20; match st with
  | .int b :: .int a :: r => f a b r
  | _ => none
def l2 (st : List Value) (f : Int64 → Int64 → List Value → Rs) : Rs := let _h := hh20; match st with
  | .long b :: .long a :: r => f a b r
  | _ => none
def ra (st : List Value) (f : Nat → List Value → Rs) : Rs := let _h := hh20; match st with
  | .ref a :: r => f a r
  | _ => none
def rai (st : List Value) (f : Nat → Int32 → List Value → Rs) : Rs := let _h := hh20; match st with
  | .int i :: .ref a :: r => f a i r
  | _ => none
def raii (st : List Value) (f : Nat → Int32 → Int32 → List Value → Rs) : Rs := let _h := hh20; match st with
  | .int v :: .int i :: .ref a :: r => f a i v r
  | _ => none
def raij (st : List Value) (f : Nat → Int32 → Int64 → List Value → Rs) : Rs := let _h := hh20; match st with
  | .long v :: .int i :: .ref a :: r => f a i v r
  | _ => none
def c1 (v : Value) : Bool := match v with
  | .long _ => false
  | .double _ => false
  | _ => true
def thk (x : Nat) (as : List Value) (X : Rs) : Rs := let _h := hh20; match mkd x with
  | 99 => X
  | 98 => none
  | k => match as with
    | .ref a :: _ => gdK k a X
    | _ => none
def bk (t : Nat) (o : Rs) (r : List Value) (K : List Value → Sg → Rs) : Rs := let _h := hh20; match t with
  | 0 => cV o (fun σ => K r σ)
  | 1 => cI o (fun v σ => K (.int v :: r) σ)
  | _ => cJ o (fun v σ => K (.long v :: r) σ)
def mnI (a b : Int32) : Int32 := if b < a then b else a
def mxI (a b : Int32) : Int32 := if a < b then b else a
def mm2 (st : List Value) (f : Int32 → Int32 → List Value → Rs) : Rs := let _h := hh20; match st with
  | .int b :: .int a :: r => (match Nat.ble r.length 4 with
    | true => f a b r
    | false => none)
  | _ => none
def ivk (cal : Nat → List Value → Sg → Rs) (x y : Nat) (st : List Value) (σ : Sg) (K : List Value → Sg → Rs) : Rs :=
  let _h := hh20; match Nat.beq x 999 with
  | true => (match st with
    | .int n :: .int dp :: .ref a :: .int sp :: .ref a0 :: [] => acp a0 a sp dp n σ (fun σ => K [] σ)
    | _ => none)
  | false => match Nat.beq x 55 with
   | true => mm2 st fun a b r => K (.int (mnI a b) :: r) σ
   | false => match Nat.beq x 56 with
    | true => mm2 st fun a b r => K (.int (mxI a b) :: r) σ
    | false => match Nat.ble y st.length && Nat.ble (st.drop y).length 4 with
     | true => thk x (st.take y).reverse (bk (mrk x) (cal x (st.take y).reverse σ) (st.drop y) K)
     | false => none
def stp (sc : Scr) (cal : Nat → List Value → Sg → Rs) (cd : Cod) (K : Kt) (it : Itm) (tl : Cod) (ls st : List Value) (σ : Sg) : Rs :=
  match it with
  | (_, ins, _, x, y, z, tb) => match ins with
    | .iconst _ => K tl ls (.int z :: st) σ
    | .bipush _ => K tl ls (.int z :: st) σ
    | .sipush _ => K tl ls (.int z :: st) σ
    | .ldc _ => (match y with
      | 1 => K tl ls (.int z :: st) σ
      | _ => none)
    | .ldc_w _ => (match y with
      | 1 => K tl ls (.int z :: st) σ
      | _ => none)
    | .ldc2_w _ => (match y with
      | 1 => K tl ls (.long z.toInt64 :: st) σ
      | _ => none)
    | .lconst _ => K tl ls (.long z.toInt64 :: st) σ
    | .iload _ => (match lgt ls x with
      | .int v => K tl ls (.int v :: st) σ
      | _ => none)
    | .iload_n _ => (match lgt ls x with
      | .int v => K tl ls (.int v :: st) σ
      | _ => none)
    | .aload _ => (match lgt ls x with
      | .ref v => K tl ls (.ref v :: st) σ
      | _ => none)
    | .aload_n _ => (match lgt ls x with
      | .ref v => K tl ls (.ref v :: st) σ
      | _ => none)
    | .lload_n _ => (match lgt ls x with
      | .long v => K tl ls (.long v :: st) σ
      | _ => none)
    | .istore _ => u1 st fun v r => K tl (lpt ls x (.int v)) r σ
    | .istore_n _ => u1 st fun v r => K tl (lpt ls x (.int v)) r σ
    | .astore _ => ra st fun v r => K tl (lpt ls x (.ref v)) r σ
    | .astore_n _ => ra st fun v r => K tl (lpt ls x (.ref v)) r σ
    | .iinc _ _ => (match lgt ls x with
      | .int v => K tl (lpt ls x (.int (v + z))) st σ
      | _ => none)
    | .iadd => b2 st fun a b r => K tl ls (.int (a + b) :: r) σ
    | .isub => b2 st fun a b r => K tl ls (.int (a - b) :: r) σ
    | .imul => b2 st fun a b r => K tl ls (.int (a * b) :: r) σ
    | .iand => b2 st fun a b r => K tl ls (.int (a &&& b) :: r) σ
    | .ior => b2 st fun a b r => K tl ls (.int (a ||| b) :: r) σ
    | .ixor => b2 st fun a b r => K tl ls (.int (a ^^^ b) :: r) σ
    | .ishl => b2 st fun a b r => K tl ls (.int (a <<< (b &&& 31)) :: r) σ
    | .ishr => b2 st fun a b r => K tl ls (.int (a >>> (b &&& 31)) :: r) σ
    | .iushr => b2 st fun a b r => K tl ls (.int (a.toUInt32 >>> (b.toUInt32 &&& Int32.toUInt32 31)).toInt32 :: r) σ
    | .idiv => b2 st fun a b r => dvI a b fun v => K tl ls (.int v :: r) σ
    | .irem => b2 st fun a b r => rmI a b fun v => K tl ls (.int v :: r) σ
    | .ladd => l2 st fun a b r => K tl ls (.long (a + b) :: r) σ
    | .lcmp => l2 st fun a b r => K tl ls (.int (lg_cmp a b) :: r) σ
    | .i2b => u1 st fun a r => K tl ls (.int a.toInt8.toInt32 :: r) σ
    | .i2c => u1 st fun a r => K tl ls (.int (a.toUInt32 % 65536).toInt32 :: r) σ
    | .dup => (match st with
      | v :: r => (match c1 v with
        | true => K tl ls (v :: v :: r) σ
        | false => none)
      | _ => none)
    | .pop => (match st with
      | v :: r => (match c1 v with
        | true => K tl ls r σ
        | false => none)
      | _ => none)
    | .dup2 => (match st with
      | v :: w :: r => (match c1 v && c1 w with
        | true => K tl ls (v :: w :: v :: w :: r) σ
        | false => none)
      | _ => none)
    | .dup_x1 => (match st with
      | v :: w :: r => (match c1 v && c1 w with
        | true => K tl ls (v :: w :: v :: r) σ
        | false => none)
      | _ => none)
    | .goto _ => K (jmp cd x) ls st σ
    | .if_icmp .eq _ => b2 st fun a b r => if a = b then K (jmp cd x) ls r σ else K tl ls r σ
    | .if_icmp .ne _ => b2 st fun a b r => if a = b then K tl ls r σ else K (jmp cd x) ls r σ
    | .if_icmp .lt _ => b2 st fun a b r => if a < b then K (jmp cd x) ls r σ else K tl ls r σ
    | .if_icmp .ge _ => b2 st fun a b r => if a < b then K tl ls r σ else K (jmp cd x) ls r σ
    | .if_icmp .gt _ => b2 st fun a b r => if b < a then K (jmp cd x) ls r σ else K tl ls r σ
    | .if_icmp .le _ => b2 st fun a b r => if b < a then K tl ls r σ else K (jmp cd x) ls r σ
    | .ifCond .eq _ => u1 st fun a r => if a = 0 then K (jmp cd x) ls r σ else K tl ls r σ
    | .ifCond .ne _ => u1 st fun a r => if a = 0 then K tl ls r σ else K (jmp cd x) ls r σ
    | .ifCond .lt _ => u1 st fun a r => if a < 0 then K (jmp cd x) ls r σ else K tl ls r σ
    | .ifCond .ge _ => u1 st fun a r => if a < 0 then K tl ls r σ else K (jmp cd x) ls r σ
    | .ifCond .gt _ => u1 st fun a r => if 0 < a then K (jmp cd x) ls r σ else K tl ls r σ
    | .ifCond .le _ => u1 st fun a r => if 0 < a then K tl ls r σ else K (jmp cd x) ls r σ
    | .tableswitch _ _ _ _ => u1 st fun a r => sw a (fun t => K (jmp cd t) ls r σ) (K (jmp cd x) ls r σ) tb
    | .lookupswitch _ _ => u1 st fun a r => sw a (fun t => K (jmp cd t) ls r σ) (K (jmp cd x) ls r σ) tb
    | .getfield _ => ra st fun a r => (match fk x y with
      | 0 => gfI x a y σ fun v => K tl ls (.int v :: r) σ
      | 1 => gfS x a y fun v => K tl ls (.ref v :: r) σ
      | 2 => gfD x a y σ fun v => K tl ls (.ref v :: r) σ
      | 3 => gfI x a y σ fun v => K tl ls (.int v :: r) σ
      | _ => none)
    | .putfield _ => (match st with
      | .int v :: .ref a :: r => (match fk x y with
        | 0 => pfI x a y v σ fun σ => K tl ls r σ
        | 3 => pfZ x a y v σ fun σ => K tl ls r σ
        | _ => none)
      | .ref v :: .ref a :: r => (match fk x y with
        | 2 => pfD x a y v σ fun σ => K tl ls r σ
        | _ => none)
      | _ => none)
    | .iaload => rai st fun a i r => ldX sc a i σ fun v => K tl ls (.int v :: r) σ
    | .caload => rai st fun a i r => ldC a i σ fun v => K tl ls (.int v :: r) σ
    | .baload => rai st fun a i r => ldB a i σ fun v => K tl ls (.int v :: r) σ
    | .laload => rai st fun a i r => ldJ a i σ fun v => K tl ls (.long v :: r) σ
    | .iastore => raii st fun a i v r => stI a i v σ fun σ => K tl ls r σ
    | .castore => raii st fun a i v r => stC a i v σ fun σ => K tl ls r σ
    | .bastore => raii st fun a i v r => stB a i v σ fun σ => K tl ls r σ
    | .lastore => raij st fun a i v r => stJ a i v σ fun σ => K tl ls r σ
    | .arraylength => ra st fun a r => alX sc a fun v => K tl ls (.int v :: r) σ
    | .getstatic _ => (match y with
      | 1 => K tl ls (.ref x :: st) σ
      | _ => none)
    | .invokevirtual _ => ivk cal x y st σ fun r σ => K tl ls r σ
    | .invokestatic _ => ivk cal x y st σ fun r σ => K tl ls r σ
    | .invokespecial _ => none
    | .return_ => (match st with
      | [] => rV σ
      | _ => none)
    | .ireturn => (match st with
      | .int v :: [] => (match x with
        | 0 => rI v σ
        | _ => rZ v σ)
      | _ => none)
    | .lreturn => (match st with
      | .long v :: [] => rJ v σ
      | _ => none)
    | _ => none
/-- a step goes on in one place at most, and that hangs on nothing behind it -/
def Alt (F : Kt → Rs) : Prop := (∃ r, ∀ K, F K = r) ∨ ∃ s l t g, ∀ K, F K = K s l t g
theorem alt_sw {a : Int32} {f : Kt → Nat → Rs} {d : Kt → Rs} (hf : ∀ t, Alt (fun K => f K t)) (hd : Alt d) : ∀ tb : List (Int32 × Nat), Alt (fun K => sw a (f K) (d K) tb)
  | [] => hd
  | q :: t => by
    by_cases h : a = q.1
    · simp only [sw, if_pos h]; exact hf q.2
    · simp only [sw, if_neg h]; exact alt_sw hf hd t
theorem alt_K {s : Cod} {l t : List Value} {g : Sg} : Alt (fun K => K s l t g) := Or.inr ⟨s, l, t, g, fun _ => rfl⟩
theorem alt_c {r : Rs} : Alt (fun _ => r) := Or.inl ⟨r, fun _ => rfl⟩
theorem alt_bk {tl : Cod} {ls : List Value} (t : Nat) (o : Rs) (r : List Value) : Alt (fun K => bk t o r (fun r σ => K tl ls r σ)) := by
  unfold bk
  split
  · unfold cV; split
    · exact alt_K
    · exact alt_c
  · unfold cI; split
    · exact alt_K
    · exact alt_c
  · unfold cJ; split
    · exact alt_K
    · exact alt_c
theorem alt_gd {k a : Nat} {F : Kt → Rs} (h : Alt F) : Alt (fun K => gdK k a (F K)) := by
  unfold gdK; split
  · exact h
  · exact alt_c
theorem alt_bnd {i : Int32} {n : Nat} {F : Kt → Rs} (h : Alt F) : Alt (fun K => bnd i n (F K)) := by
  unfold bnd; split
  · exact alt_c
  · exact h
theorem alt_ite {c : Prop} {F G : Kt → Rs} [i : Decidable c] (h : Alt F) (h' : Alt G) : Alt (fun K => if c then F K else G K) := by
  split
  · exact h
  · exact h'
theorem alt_mm2 {st : List Value} {f : Kt → Int32 → Int32 → List Value → Rs} (h : ∀ a b r, Alt (fun K => f K a b r)) : Alt (fun K => mm2 st (f K)) := by
  unfold mm2; split
  · split
    · exact h _ _ _
    · exact alt_c
  · exact alt_c
theorem alt_ivk (cal : Nat → List Value → Sg → Rs) (x y : Nat) (st : List Value) (σ : Sg) (tl : Cod) (ls : List Value) : Alt (fun K => ivk cal x y st σ fun r σ => K tl ls r σ) := by
  unfold ivk
  split
  · split
    · unfold acp
      refine alt_gd (alt_gd ?_)
      split
      · exact alt_c
      · exact alt_K
    · exact alt_c
  · split
    · exact alt_mm2 fun _ _ _ => alt_K
    · split
      · exact alt_mm2 fun _ _ _ => alt_K
      · split
        · unfold thk
          split
          · exact alt_bk _ _ _
          · exact alt_c
          · split
            · exact alt_gd (alt_bk _ _ _)
            · exact alt_c
        · exact alt_c
theorem alt_u1 {st : List Value} {f : Kt → Int32 → List Value → Rs} (h : ∀ a r, Alt (fun K => f K a r)) : Alt (fun K => u1 st (f K)) := by
  unfold u1; split
  · exact h _ _
  · exact alt_c
theorem alt_b2 {st : List Value} {f : Kt → Int32 → Int32 → List Value → Rs} (h : ∀ a b r, Alt (fun K => f K a b r)) : Alt (fun K => b2 st (f K)) := by
  unfold b2; split
  · exact h _ _ _
  · exact alt_c
theorem alt_l2 {st : List Value} {f : Kt → Int64 → Int64 → List Value → Rs} (h : ∀ a b r, Alt (fun K => f K a b r)) : Alt (fun K => l2 st (f K)) := by
  unfold l2; split
  · exact h _ _ _
  · exact alt_c
theorem alt_ra {st : List Value} {f : Kt → Nat → List Value → Rs} (h : ∀ a r, Alt (fun K => f K a r)) : Alt (fun K => ra st (f K)) := by
  unfold ra; split
  · exact h _ _
  · exact alt_c
theorem alt_rai {st : List Value} {f : Kt → Nat → Int32 → List Value → Rs} (h : ∀ a i r, Alt (fun K => f K a i r)) : Alt (fun K => rai st (f K)) := by
  unfold rai; split
  · exact h _ _ _
  · exact alt_c
theorem alt_raii {st : List Value} {f : Kt → Nat → Int32 → Int32 → List Value → Rs} (h : ∀ a i v r, Alt (fun K => f K a i v r)) : Alt (fun K => raii st (f K)) := by
  unfold raii; split
  · exact h _ _ _ _
  · exact alt_c
theorem alt_raij {st : List Value} {f : Kt → Nat → Int32 → Int64 → List Value → Rs} (h : ∀ a i v r, Alt (fun K => f K a i v r)) : Alt (fun K => raij st (f K)) := by
  unfold raij; split
  · exact h _ _ _ _
  · exact alt_c
theorem alt_dv {x y : Int32} {f : Kt → Int32 → Rs} (h : ∀ v, Alt (fun K => f K v)) : Alt (fun K => dvI x y (f K)) := by
  unfold dvI; exact alt_ite alt_c (h _)
theorem alt_rm {x y : Int32} {f : Kt → Int32 → Rs} (h : ∀ v, Alt (fun K => f K v)) : Alt (fun K => rmI x y (f K)) := by
  unfold rmI; exact alt_ite alt_c (h _)
theorem alt_ldI {sc : Scr} {a : Nat} {i : Int32} {σ : Sg} {f : Kt → Int32 → Rs} (h : ∀ v, Alt (fun K => f K v)) : Alt (fun K => ldX sc a i σ (f K)) := by
  unfold ldX; split
  · exact alt_bnd (h _)
  · split
    · exact alt_bnd (h _)
    · split
      · exact alt_bnd (h _)
      · exact alt_c
theorem alt_ldC {a : Nat} {i : Int32} {σ : Sg} {f : Kt → Int32 → Rs} (h : ∀ v, Alt (fun K => f K v)) : Alt (fun K => ldC a i σ (f K)) := by
  unfold ldC; split
  · exact alt_bnd (h _)
  · split
    · exact alt_bnd (h _)
    · exact alt_c
theorem alt_aln {sc : Scr} {a : Nat} {f : Kt → Int32 → Rs} (h : ∀ v, Alt (fun K => f K v)) : Alt (fun K => alX sc a (f K)) := by
  unfold alX; split
  · split
    · exact alt_c
    · exact h _
  · split
    · exact h _
    · exact alt_c
set_option maxHeartbeats 4000000 in
theorem alt_stp (sc : Scr) (cal : Nat → List Value → Sg → Rs) (cd : Cod) (it : Itm) (tl : Cod) (ls st : List Value) (σ : Sg) : Alt (fun K => stp sc cal cd K it tl ls st σ) := by
  obtain ⟨pc, ins, len, x, y, z, tb⟩ := it
  unfold stp
  dsimp only
  split
  all_goals first
    | exact alt_K
    | exact alt_c
    | exact alt_ivk cal x y st σ tl ls
    | exact alt_u1 fun _ _ => alt_K
    | exact alt_b2 fun _ _ _ => alt_K
    | exact alt_l2 fun _ _ _ => alt_K
    | exact alt_ra fun _ _ => alt_K
    | exact alt_u1 fun _ _ => alt_ite alt_K alt_K
    | exact alt_b2 fun _ _ _ => alt_ite alt_K alt_K
    | exact alt_u1 fun _ _ => alt_sw (fun _ => alt_K) alt_K _
    | exact alt_b2 fun _ _ _ => alt_dv fun _ => alt_K
    | exact alt_b2 fun _ _ _ => alt_rm fun _ => alt_K
    | exact alt_rai fun _ _ _ => alt_ldI fun _ => alt_K
    | exact alt_rai fun _ _ _ => alt_ldC fun _ => alt_K
    | exact alt_rai fun _ _ _ => alt_gd (alt_bnd alt_K)
    | exact alt_raii fun _ _ _ _ => alt_gd (alt_bnd alt_K)
    | exact alt_raij fun _ _ _ _ => alt_gd (alt_bnd alt_K)
    | exact alt_ra fun _ _ => alt_aln fun _ => alt_K
    | exact alt_ra fun _ _ => (by split <;> first | exact alt_gd alt_K | exact alt_c)
    | skip
  all_goals split
  all_goals first
    | exact alt_K
    | exact alt_c
    | skip
  all_goals split
  all_goals first
    | exact alt_K
    | exact alt_c
    | exact alt_gd alt_K
    | exact alt_gd (alt_ite alt_K alt_c)
    | skip
theorem alt_stp' (sc : Scr) (cal : Nat → List Value → Sg → Rs) (cd : Cod) (it : Itm) (tl : Cod) (ls st : List Value) (σ : Sg) : (∃ r, ∀ K, stp sc cal cd K it tl ls st σ = r) ∨ ∃ s l t g, ∀ K : Kt, stp sc cal cd K it tl ls st σ = K s l t g := alt_stp sc cal cd it tl ls st σ
/-! running: by fuel; the limit; the equation of a step -/
def run (sc : Scr) (cal : Nat → List Value → Sg → Rs) (cd : Cod) : Nat → Kt
  | 0, _, _, _, _ => none
  | _ + 1, [], _, _, _ => none
  | n + 1, it :: tl, ls, st, σ => stp sc cal cd (run sc cal cd n) it tl ls st σ
theorem run_mono {sc : Scr} {cal : Nat → List Value → Sg → Rs} {cd : Cod} : ∀ {n : Nat} {s : Cod} {ls st : List Value} {σ : Sg} {r : Option Value × Sg}, run sc cal cd n s ls st σ = some r → run sc cal cd (n + 1) s ls st σ = some r
  | 0, _, _, _, _, _, h => by cases h
  | _ + 1, [], _, _, _, _, h => by cases h
  | n + 1, it :: tl, ls, st, σ, r, h => by
    rw [run] at h ⊢
    rcases alt_stp' sc cal cd it tl ls st σ with ⟨r0, h0⟩ | ⟨s1, l1, t1, g1, h0⟩
    · rw [h0] at h ⊢; exact h
    · rw [h0] at h ⊢; exact run_mono h
theorem run_le {sc : Scr} {cal : Nat → List Value → Sg → Rs} {cd : Cod} {n k : Nat} (h : n ≤ k) {s : Cod} {ls st : List Value} {σ : Sg} {r : Option Value × Sg} (e : run sc cal cd n s ls st σ = some r) : run sc cal cd k s ls st σ = some r := by
  induction k with
  | zero => cases Nat.le_zero.mp h; exact e
  | succ k ih =>
    rcases Nat.lt_or_ge n (k + 1) with q | q
    · exact run_mono (ih (by omega))
    · have : n = k + 1 := by omega
      subst this; exact e
noncomputable def evAt (sc : Scr) (cal : Nat → List Value → Sg → Rs) (cd : Cod) (s : Cod) (ls st : List Value) (σ : Sg) : Rs :=
  @dite _ (∃ n r, run sc cal cd n s ls st σ = some r) (Classical.propDecidable _) (fun h => run sc cal cd (Classical.choose h) s ls st σ) (fun _ => none)
theorem evAt_of {sc : Scr} {cal : Nat → List Value → Sg → Rs} {cd s : Cod} {ls st : List Value} {σ : Sg} {n : Nat} {r : Option Value × Sg} (h : run sc cal cd n s ls st σ = some r) : evAt sc cal cd s ls st σ = some r := by
  have he : ∃ n r, run sc cal cd n s ls st σ = some r := ⟨n, r, h⟩
  obtain ⟨r2, h2⟩ := Classical.choose_spec he
  unfold evAt
  rw [dif_pos he]
  rcases Nat.le_total n (Classical.choose he) with q | q
  · exact run_le q h
  · have := run_le q h2
    rw [h2, ← this, h]
theorem evAt_some {sc : Scr} {cal : Nat → List Value → Sg → Rs} {cd s : Cod} {ls st : List Value} {σ : Sg} {r : Option Value × Sg} (h : evAt sc cal cd s ls st σ = some r) : ∃ n, run sc cal cd n s ls st σ = some r := by
  unfold evAt at h
  split at h
  · exact ⟨_, h⟩
  · cases h
theorem evAt_nil {sc : Scr} {cal : Nat → List Value → Sg → Rs} {cd : Cod} {ls st : List Value} {σ : Sg} : evAt sc cal cd [] ls st σ = none := by
  cases h : evAt sc cal cd [] ls st σ with
  | none => rfl
  | some r =>
    obtain ⟨n, h⟩ := evAt_some h
    cases n <;> cases h
theorem evAt_step {sc : Scr} {cal : Nat → List Value → Sg → Rs} {cd : Cod} {it : Itm} {tl : Cod} {ls st : List Value} {σ : Sg} : evAt sc cal cd (it :: tl) ls st σ = stp sc cal cd (evAt sc cal cd) it tl ls st σ := by
  rcases alt_stp' sc cal cd it tl ls st σ with ⟨r0, h0⟩ | ⟨s1, l1, t1, g1, h0⟩
  · rw [h0]
    cases r0 with
    | none =>
      cases h : evAt sc cal cd (it :: tl) ls st σ with
      | none => rfl
      | some r =>
        obtain ⟨n, h⟩ := evAt_some h
        cases n with
        | zero => cases h
        | succ n => rw [run, h0] at h; cases h
    | some r => exact evAt_of (n := 1) (by rw [run, h0])
  · rw [h0]
    cases h : evAt sc cal cd s1 l1 t1 g1 with
    | some r =>
      obtain ⟨n, h⟩ := evAt_some h
      exact evAt_of (n := n + 1) (by rw [run, h0]; exact h)
    | none =>
      cases h1 : evAt sc cal cd (it :: tl) ls st σ with
      | none => rfl
      | some r =>
        obtain ⟨n, h1⟩ := evAt_some h1
        cases n with
        | zero => cases h1
        | succ n => rw [run, h0] at h1; rw [evAt_of h1] at h; cases h
def elm : List Nat → Nat → Bool
  | [], _ => false
  | a :: t, x => match Nat.beq a x with
    | true => true
    | false => elm t x
/-- many steps, till one of the places 'cuts' -/
noncomputable def unr (sc : Scr) (cal : Nat → List Value → Sg → Rs) (cd : Cod) (cuts : List Nat) : Nat → Kt
  | 0, s, ls, st, σ => evAt sc cal cd s ls st σ
  | _ + 1, [], _, _, _ => none
  | n + 1, it :: tl, ls, st, σ => match elm cuts it.1 with
    | true => evAt sc cal cd (it :: tl) ls st σ
    | false => stp sc cal cd (unr sc cal cd cuts n) it tl ls st σ
theorem unr_eq {sc : Scr} {cal : Nat → List Value → Sg → Rs} {cd : Cod} {cuts : List Nat} : ∀ n : Nat, unr sc cal cd cuts n = evAt sc cal cd
  | 0 => rfl
  | n + 1 => by
    funext s ls st σ
    cases s with
    | nil => rw [unr, evAt_nil]
    | cons it tl =>
      rw [unr, unr_eq n]
      split
      · rfl
      · exact evAt_step.symm
noncomputable def un1 (sc : Scr) (cal : Nat → List Value → Sg → Rs) (cd : Cod) (cuts : List Nat) (n : Nat) (s : Cod) (ls st : List Value) (σ : Sg) : Rs := match s with
  | [] => none
  | it :: tl => stp sc cal cd (unr sc cal cd cuts n) it tl ls st σ
theorem evAt_un {sc : Scr} {cal : Nat → List Value → Sg → Rs} {cd : Cod} (cuts : List Nat) (n : Nat) (s : Cod) (ls st : List Value) (σ : Sg) : evAt sc cal cd s ls st σ = un1 sc cal cd cuts n s ls st σ := by
  unfold un1
  rw [unr_eq]
  cases s with
  | nil => exact evAt_nil
  | cons it tl => exact evAt_step
/-- a method's answer, with calls at most d deep -/
noncomputable def ev : Nat → Nat → List Value → Sg → Rs
  | 0, _, _, _ => none
  | d + 1, k, as, σ => match Nat.ble (lay as).length (mmL k) with
    | true => evAt sc0 (ev d) (mcd k) (mcd k) (lfl (mmL k) (lay as)) [] σ
    | false => none
end
section
def ocl (o : Nat) : String := bif Nat.blt o 9 then (bif Nat.blt o 4 then (bif Nat.blt o 2 then (bif Nat.blt o 1 then ("NamedToWed$Changes") else ("NamedToWed$Houses")) else (bif Nat.blt o 3 then ("NamedToWed$Law") else ("NamedToWed$Matches"))) else (bif Nat.blt o 6 then (bif Nat.blt o 5 then ("NamedToWed$Roll") else ("NamedToWed$Row")) else (bif Nat.blt o 7 then ("NamedToWed$Rule") else (bif Nat.blt o 8 then ("NamedToWed$Tape") else ("NamedToWed$Village"))))) else (bif Nat.blt o 14 then (bif Nat.blt o 11 then (bif Nat.blt o 10 then ("NamedToWed$Word") else ("NamedToWed")) else (bif Nat.blt o 12 then ("NamedToWedModel") else (bif Nat.blt o 13 then ("NamedToWed$LawReader") else ("NamedToWedLaw")))) else (bif Nat.blt o 16 then (bif Nat.blt o 15 then ("java/lang/Integer") else ("java/lang/Math")) else (bif Nat.blt o 17 then ("java/lang/System") else (bif Nat.blt o 18 then ("java/util/Arrays") else ("java/lang/Object")))))
def cz (n : Nat) : Int32 := bif Nat.blt n 4 then (bif Nat.blt n 2 then (bif Nat.blt n 1 then ((-100000)) else (65535)) else (bif Nat.blt n 3 then (65536) else (100000))) else (bif Nat.blt n 6 then (bif Nat.blt n 5 then (1000000) else (1048576)) else (bif Nat.blt n 7 then (252645135) else (bif Nat.blt n 8 then (858993459) else (1431655765))))
def fnm (x y : Nat) : String × String × String × Bool := match vwCl[x]? with
  | some q => q.2.1 y
  | none => ("", "", "", false)
abbrev Qw : Type := Nat × Nat × Nat × Nat
def aty (t : Nat) : FieldType := match t with
  | 12 => .byte
  | 13 => .char
  | 14 => .int
  | _ => .long
/-- a word of the tables, out of its numbers -/
def dw (q : Qw) : Cond := match q with
  | (0, k, _, _) => .code (mY k) (mby k) (mmL k) (mret k)
  | (1, o, i, x) => .methodLink (ocl o) i (mY x)
  | (2, o, i, x) => .methodLinkNest (ocl o) i (mY x) "NamedToWed"
  | (3, x, _, _) => .static (mY x)
  | (4, x, _, _) => .instanceMethod (mY x)
  | (5, x, _, _) => .selects (mY x).cls (mY x) (mY x)
  | (6, o, _, _) => .initialized (ocl o)
  | (7, o, i, f) => .fieldLink (ocl o) i (fnm (f / 100) (f % 100)).1 (fnm (f / 100) (f % 100)).2.1 (fnm (f / 100) (f % 100)).2.2.1
  | (8, o, i, n) => .constant (ocl o) i (cz n)
  | (9, o, i, k) => .classLink (ocl o) i (ocl k)
  | (10, k, n, _) => .instantiable (ocl k) n
  | (_, t, _, _) => .arrayClass (aty t)
theorem dw_in {T : List Cond} {ps : List Nat} {qs : List Qw} (h : qs.map (fun q => some (dw q)) = ps.map (fun p => T[p]?)) : ∀ q ∈ qs, dw q ∈ T := by
  intro q hq
  have h1 : some (dw q) ∈ qs.map (fun q => some (dw q)) := List.mem_map.mpr ⟨q, hq, rfl⟩
  rw [h] at h1
  obtain ⟨p, -, hp⟩ := List.mem_map.mp h1
  exact List.mem_of_getElem? hp
def QS_0 : List Qw := [(5, 13, 0, 0), (5, 42, 0, 0), (5, 45, 0, 0), (5, 51, 0, 0), (5, 52, 0, 0), (5, 57, 0, 0), (5, 58, 0, 0), (5, 61, 0, 0), (5, 62, 0, 0), (5, 63, 0, 0), (5, 67, 0, 0), (5, 68, 0, 0), (5, 69, 0, 0), (5, 70, 0, 0), (5, 71, 0, 0), (5, 72, 0, 0), (5, 78, 0, 0), (5, 79, 0, 0), (5, 80, 0, 0), (5, 81, 0, 0), (5, 82, 0, 0), (5, 84, 0, 0), (5, 85, 0, 0), (5, 92, 0, 0), (5, 94, 0, 0), (5, 103, 0, 0), (5, 109, 0, 0), (5, 110, 0, 0), (5, 119, 0, 0), (5, 121, 0, 0), (5, 124, 0, 0), (5, 140, 0, 0), (5, 142, 0, 0), (5, 143, 0, 0), (5, 152, 0, 0), (5, 153, 0, 0), (5, 161, 0, 0), (5, 164, 0, 0), (5, 166, 0, 0), (5, 167, 0, 0), (5, 168, 0, 0), (5, 169, 0, 0), (5, 170, 0, 0), (5, 172, 0, 0), (5, 173, 0, 0), (5, 175, 0, 0), (5, 189, 0, 0), (5, 192, 0, 0), (5, 194, 0, 0), (5, 195, 0, 0), (5, 196, 0, 0), (5, 197, 0, 0), (5, 198, 0, 0), (5, 199, 0, 0), (5, 200, 0, 0), (5, 201, 0, 0), (5, 202, 0, 0), (5, 203, 0, 0), (5, 206, 0, 0), (5, 207, 0, 0), (5, 208, 0, 0), (5, 209, 0, 0), (5, 210, 0, 0), (5, 211, 0, 0), (5, 212, 0, 0), (5, 213, 0, 0), (5, 214, 0, 0), (5, 216, 0, 0), (5, 217, 0, 0), (5, 218, 0, 0), (5, 220, 0, 0), (5, 221, 0, 0), (5, 222, 0, 0), (5, 225, 0, 0), (5, 228, 0, 0), (5, 229, 0, 0), (5, 230, 0, 0), (5, 231, 0, 0), (5, 233, 0, 0), (5, 234, 0, 0), (5, 235, 0, 0), (5, 236, 0, 0), (5, 239, 0, 0), (5, 240, 0, 0), (5, 241, 0, 0), (5, 242, 0, 0), (5, 244, 0, 0), (5, 245, 0, 0), (5, 248, 0, 0), (5, 252, 0, 0), (5, 253, 0, 0), (5, 255, 0, 0), (5, 257, 0, 0), (5, 258, 0, 0), (5, 259, 0, 0), (5, 262, 0, 0), (5, 263, 0, 0), (5, 264, 0, 0), (5, 265, 0, 0), (5, 266, 0, 0), (5, 267, 0, 0), (5, 268, 0, 0), (5, 270, 0, 0), (5, 271, 0, 0), (5, 272, 0, 0), (5, 273, 0, 0), (5, 274, 0, 0), (5, 276, 0, 0), (5, 278, 0, 0), (5, 279, 0, 0), (5, 280, 0, 0), (5, 281, 0, 0), (5, 283, 0, 0), (5, 284, 0, 0), (5, 285, 0, 0), (5, 286, 0, 0), (5, 287, 0, 0), (5, 289, 0, 0), (5, 291, 0, 0), (5, 293, 0, 0), (5, 294, 0, 0), (5, 296, 0, 0), (5, 297, 0, 0), (5, 298, 0, 0), (5, 299, 0, 0), (5, 300, 0, 0), (5, 303, 0, 0), (5, 304, 0, 0), (5, 305, 0, 0), (5, 307, 0, 0), (5, 308, 0, 0), (5, 310, 0, 0), (5, 311, 0, 0), (5, 314, 0, 0), (5, 315, 0, 0), (5, 316, 0, 0), (5, 317, 0, 0), (5, 318, 0, 0), (5, 319, 0, 0), (5, 320, 0, 0), (5, 321, 0, 0), (5, 322, 0, 0), (5, 324, 0, 0), (5, 325, 0, 0), (5, 326, 0, 0), (5, 332, 0, 0), (5, 337, 0, 0), (5, 339, 0, 0)]
def QS_1 : List Qw := [(6, 13, 0, 0), (6, 10, 0, 0), (6, 7, 0, 0), (6, 6, 0, 0), (6, 4, 0, 0), (6, 2, 0, 0), (6, 9, 0, 0), (6, 5, 0, 0), (6, 0, 0, 0), (6, 1, 0, 0), (6, 3, 0, 0), (6, 8, 0, 0), (6, 11, 0, 0), (6, 12, 0, 0), (6, 17, 0, 0), (6, 15, 0, 0), (6, 14, 0, 0), (6, 16, 0, 0), (9, 13, 7, 10), (10, 10, 18, 0), (1, 13, 9, 0), (4, 0, 0, 0), (0, 0, 0, 0), (1, 10, 1, 1), (4, 1, 0, 0), (0, 1, 0, 0), (9, 10, 7, 7), (10, 7, 5, 0), (2, 10, 9, 2), (4, 2, 0, 0), (0, 2, 0, 0), (1, 7, 3, 1), (7, 7, 9, 700), (7, 10, 382, 700), (7, 7, 15, 701), (7, 10, 129, 701), (7, 7, 19, 702), (7, 7, 22, 703), (7, 12, 18, 703), (7, 9, 46, 703), (7, 6, 43, 703), (7, 7, 25, 704), (7, 9, 41, 704), (7, 12, 28, 704), (7, 6, 38, 704), (7, 4, 56, 704), (11, 14, 0, 0), (9, 10, 16, 6), (10, 6, 5, 0), (2, 10, 18, 3), (4, 3, 0, 0), (0, 3, 0, 0), (1, 6, 3, 1), (7, 6, 9, 600), (7, 1, 44, 600), (7, 0, 38, 600), (7, 10, 155, 600), (7, 5, 85, 600), (7, 8, 63, 600), (7, 9, 102, 600), (7, 6, 15, 601), (7, 0, 53, 601), (7, 8, 60, 601), (7, 5, 88, 601), (7, 10, 229, 601), (7, 6, 19, 602), (7, 8, 55, 602), (7, 6, 22, 603), (7, 0, 60, 603), (7, 8, 106, 603), (7, 10, 240, 603), (7, 4, 114, 603), (7, 6, 25, 604), (9, 10, 26, 4), (10, 4, 11, 0), (2, 10, 28, 4), (4, 4, 0, 0), (0, 4, 0, 0), (1, 4, 3, 1), (7, 4, 9, 400), (7, 3, 24, 400), (7, 1, 60, 400), (7, 10, 168, 400), (7, 4, 15, 401), (7, 3, 36, 401), (7, 1, 90, 401), (7, 10, 255, 401), (7, 4, 19, 402), (7, 1, 104, 402), (7, 10, 258, 402), (7, 4, 22, 403), (7, 1, 65, 403), (7, 10, 264, 403), (7, 4, 25, 404), (7, 1, 72, 404), (7, 10, 267, 404), (7, 4, 28, 405), (7, 1, 75, 405), (7, 10, 270, 405), (7, 4, 31, 406), (7, 10, 273, 406), (7, 4, 34, 407), (7, 10, 276, 407), (7, 4, 37, 408), (7, 10, 385, 408), (7, 4, 40, 409), (7, 10, 387, 409), (7, 4, 43, 410), (9, 10, 36, 2), (10, 2, 11, 0), (2, 10, 38, 5), (4, 5, 0, 0), (0, 5, 0, 0), (1, 2, 3, 1), (7, 2, 9, 200), (7, 12, 38, 200), (7, 10, 146, 200), (7, 2, 15, 201), (7, 12, 41, 201), (7, 2, 19, 202), (7, 12, 45, 202), (7, 2, 22, 203), (7, 12, 53, 203), (7, 2, 25, 204), (7, 12, 59, 204), (7, 2, 28, 205), (7, 12, 48, 205), (7, 2, 31, 206), (7, 2, 35, 207), (7, 12, 86, 207), (7, 2, 38, 208), (7, 2, 41, 209), (7, 2, 44, 210), (11, 13, 0, 0), (9, 10, 46, 9), (10, 9, 9, 0), (2, 10, 48, 6), (4, 6, 0, 0), (0, 6, 0, 0), (1, 9, 3, 1), (7, 9, 9, 900), (7, 10, 189, 900), (7, 9, 15, 901), (7, 9, 19, 902), (7, 9, 22, 903), (7, 9, 25, 904), (7, 9, 28, 905), (7, 9, 31, 906), (7, 9, 34, 907), (7, 9, 37, 908), (9, 10, 56, 5), (10, 5, 9, 0), (2, 10, 58, 7)]
def QS_2 : List Qw := [(4, 7, 0, 0), (0, 7, 0, 0), (1, 5, 3, 1), (7, 5, 9, 500), (7, 5, 15, 501), (7, 5, 19, 502), (7, 5, 22, 503), (7, 5, 25, 504), (7, 5, 28, 505), (7, 5, 31, 506), (7, 5, 34, 507), (7, 5, 38, 508), (11, 15, 0, 0), (9, 10, 63, 0), (10, 0, 6, 0), (2, 10, 65, 8), (4, 8, 0, 0), (0, 8, 0, 0), (1, 0, 3, 1), (7, 0, 11, 0), (7, 0, 15, 1), (7, 0, 18, 2), (7, 0, 21, 3), (7, 0, 24, 4), (7, 0, 27, 5), (9, 10, 70, 1), (10, 1, 7, 0), (2, 10, 72, 9), (4, 9, 0, 0), (0, 9, 0, 0), (1, 1, 3, 1), (7, 1, 9, 100), (7, 10, 279, 100), (7, 1, 15, 101), (7, 1, 18, 102), (7, 1, 21, 103), (7, 1, 24, 104), (7, 1, 27, 105), (7, 1, 30, 106), (9, 10, 77, 3), (10, 3, 4, 0), (2, 10, 79, 10), (4, 10, 0, 0), (0, 10, 0, 0), (1, 3, 3, 1), (7, 3, 9, 300), (7, 3, 15, 301), (7, 3, 18, 302), (7, 3, 21, 303), (9, 10, 84, 8), (10, 8, 9, 0), (2, 10, 86, 11), (4, 11, 0, 0), (0, 11, 0, 0), (1, 8, 3, 1), (7, 8, 9, 800), (7, 10, 112, 800), (7, 8, 15, 801), (7, 10, 116, 801), (7, 8, 18, 802), (7, 10, 119, 802), (7, 8, 21, 803), (7, 10, 374, 803), (7, 8, 25, 804), (7, 10, 371, 804), (7, 8, 28, 805), (7, 10, 343, 805), (7, 8, 31, 806), (7, 10, 352, 806), (7, 8, 34, 807), (7, 10, 355, 807), (7, 8, 37, 808), (7, 10, 10, 1000), (7, 10, 19, 1001), (7, 10, 23, 1002), (7, 10, 29, 1003), (7, 10, 33, 1004), (7, 10, 39, 1005), (7, 10, 43, 1006), (7, 10, 49, 1007), (7, 10, 53, 1008), (7, 10, 59, 1009), (7, 10, 66, 1010), (7, 10, 73, 1011), (7, 10, 80, 1012), (7, 10, 87, 1013), (7, 10, 91, 1014), (7, 10, 94, 1015), (7, 10, 97, 1016), (7, 10, 101, 1017), (1, 13, 13, 12), (4, 12, 0, 0), (5, 12, 0, 0), (0, 12, 0, 0), (1, 10, 105, 13), (4, 13, 0, 0), (0, 13, 0, 0), (1, 10, 109, 14), (3, 14, 0, 0), (0, 14, 0, 0), (1, 13, 18, 15), (4, 15, 0, 0), (5, 15, 0, 0), (0, 15, 0, 0), (1, 10, 122, 16), (4, 16, 0, 0), (5, 16, 0, 0), (0, 16, 0, 0), (1, 10, 125, 17), (4, 17, 0, 0), (5, 17, 0, 0), (0, 17, 0, 0), (1, 7, 28, 16), (1, 13, 23, 18), (4, 18, 0, 0), (5, 18, 0, 0), (0, 18, 0, 0), (1, 10, 132, 19), (4, 19, 0, 0), (5, 19, 0, 0), (0, 19, 0, 0), (1, 10, 136, 20), (4, 20, 0, 0), (5, 20, 0, 0), (0, 20, 0, 0), (1, 10, 140, 21), (3, 21, 0, 0)]
def QS_3 : List Qw := [(0, 21, 0, 0), (1, 12, 7, 22), (4, 22, 0, 0), (5, 22, 0, 0), (0, 22, 0, 0), (1, 12, 12, 23), (3, 23, 0, 0), (0, 23, 0, 0), (1, 12, 24, 24), (4, 24, 0, 0), (5, 24, 0, 0), (0, 24, 0, 0), (1, 12, 34, 25), (4, 25, 0, 0), (5, 25, 0, 0), (0, 25, 0, 0), (1, 12, 49, 26), (3, 26, 0, 0), (0, 26, 0, 0), (1, 12, 89, 27), (3, 27, 0, 0), (0, 27, 0, 0), (1, 12, 92, 28), (3, 28, 0, 0), (0, 28, 0, 0), (2, 12, 95, 29), (3, 29, 0, 0), (0, 29, 0, 0), (1, 12, 101, 30), (3, 30, 0, 0), (0, 30, 0, 0), (1, 12, 82, 31), (4, 31, 0, 0), (5, 31, 0, 0), (0, 31, 0, 0), (1, 12, 65, 32), (4, 32, 0, 0), (5, 32, 0, 0), (0, 32, 0, 0), (1, 7, 36, 24), (1, 7, 32, 25), (1, 12, 56, 33), (3, 33, 0, 0), (0, 33, 0, 0), (1, 12, 62, 34), (3, 34, 0, 0), (0, 34, 0, 0), (1, 12, 69, 35), (3, 35, 0, 0), (0, 35, 0, 0), (1, 12, 79, 36), (3, 36, 0, 0), (0, 36, 0, 0), (1, 12, 72, 37), (3, 37, 0, 0), (0, 37, 0, 0), (1, 12, 75, 38), (3, 38, 0, 0), (0, 38, 0, 0), (1, 12, 31, 39), (4, 39, 0, 0), (5, 39, 0, 0), (0, 39, 0, 0), (1, 13, 28, 40), (4, 40, 0, 0), (5, 40, 0, 0), (0, 40, 0, 0), (1, 10, 149, 41), (4, 41, 0, 0), (5, 41, 0, 0), (0, 41, 0, 0), (1, 6, 28, 42), (4, 42, 0, 0), (0, 42, 0, 0), (1, 6, 46, 24), (2, 6, 50, 43), (3, 43, 0, 0), (0, 43, 0, 0), (1, 6, 54, 25), (2, 6, 57, 44), (3, 44, 0, 0), (0, 44, 0, 0), (1, 6, 32, 45), (4, 45, 0, 0), (0, 45, 0, 0), (1, 6, 60, 39), (1, 6, 35, 46), (4, 46, 0, 0), (5, 46, 0, 0), (0, 46, 0, 0), (1, 10, 152, 47), (4, 47, 0, 0), (5, 47, 0, 0), (0, 47, 0, 0), (1, 8, 40, 48), (3, 48, 0, 0), (0, 48, 0, 0), (1, 10, 158, 49), (4, 49, 0, 0), (5, 49, 0, 0), (0, 49, 0, 0), (1, 10, 161, 50), (4, 50, 0, 0), (5, 50, 0, 0), (0, 50, 0, 0), (1, 1, 34, 51), (4, 51, 0, 0), (0, 51, 0, 0), (1, 1, 68, 52), (4, 52, 0, 0), (0, 52, 0, 0), (1, 1, 78, 53), (4, 53, 0, 0), (5, 53, 0, 0), (0, 53, 0, 0), (2, 1, 82, 54), (3, 54, 0, 0), (0, 54, 0, 0), (1, 10, 377, 55), (3, 55, 0, 0), (0, 55, 0, 0), (1, 10, 394, 56), (3, 56, 0, 0), (0, 56, 0, 0), (1, 1, 38, 48), (1, 1, 49, 57), (4, 57, 0, 0), (0, 57, 0, 0), (1, 1, 86, 58), (4, 58, 0, 0), (0, 58, 0, 0), (1, 1, 93, 59), (4, 59, 0, 0), (5, 59, 0, 0), (0, 59, 0, 0), (1, 1, 97, 60), (4, 60, 0, 0), (5, 60, 0, 0), (0, 60, 0, 0), (1, 1, 53, 61), (4, 61, 0, 0), (0, 61, 0, 0), (1, 1, 101, 62), (4, 62, 0, 0), (0, 62, 0, 0), (1, 1, 57, 63), (4, 63, 0, 0), (0, 63, 0, 0), (1, 1, 107, 64), (3, 64, 0, 0), (0, 64, 0, 0), (8, 14, 265, 8), (8, 14, 266, 7), (8, 14, 267, 6), (1, 13, 32, 65), (4, 65, 0, 0), (5, 65, 0, 0), (0, 65, 0, 0), (1, 10, 165, 66), (4, 66, 0, 0), (5, 66, 0, 0), (0, 66, 0, 0), (1, 4, 46, 67), (4, 67, 0, 0), (0, 67, 0, 0), (1, 4, 50, 24), (1, 4, 65, 25), (2, 4, 69, 43), (1, 4, 72, 68), (4, 68, 0, 0), (0, 68, 0, 0), (1, 4, 79, 69), (4, 69, 0, 0), (0, 69, 0, 0), (1, 4, 86, 70), (4, 70, 0, 0), (0, 70, 0, 0), (2, 4, 92, 29), (2, 4, 89, 44), (1, 4, 82, 32), (1, 4, 76, 71), (4, 71, 0, 0), (0, 71, 0, 0), (1, 4, 59, 72), (4, 72, 0, 0), (0, 72, 0, 0), (1, 4, 96, 73), (3, 73, 0, 0), (0, 73, 0, 0), (1, 4, 99, 74), (3, 74, 0, 0), (0, 74, 0, 0), (1, 4, 62, 39), (1, 13, 36, 75), (4, 75, 0, 0), (5, 75, 0, 0), (0, 75, 0, 0), (1, 10, 171, 76), (3, 76, 0, 0), (0, 76, 0, 0), (1, 10, 174, 77), (4, 77, 0, 0), (5, 77, 0, 0), (0, 77, 0, 0), (1, 9, 47, 78), (4, 78, 0, 0), (0, 78, 0, 0), (1, 9, 58, 24), (1, 9, 62, 79), (4, 79, 0, 0), (0, 79, 0, 0), (1, 9, 51, 25), (1, 9, 75, 80), (4, 80, 0, 0), (0, 80, 0, 0), (1, 9, 78, 81), (4, 81, 0, 0), (0, 81, 0, 0), (1, 9, 84, 56)]
def QS_4 : List Qw := [(1, 9, 65, 82), (4, 82, 0, 0), (0, 82, 0, 0), (2, 9, 81, 44), (2, 9, 68, 83), (3, 83, 0, 0), (0, 83, 0, 0), (1, 9, 71, 84), (4, 84, 0, 0), (0, 84, 0, 0), (1, 9, 55, 85), (4, 85, 0, 0), (0, 85, 0, 0), (2, 9, 89, 86), (3, 86, 0, 0), (0, 86, 0, 0), (2, 9, 93, 87), (3, 87, 0, 0), (0, 87, 0, 0), (1, 10, 175, 88), (4, 88, 0, 0), (5, 88, 0, 0), (0, 88, 0, 0), (1, 10, 179, 89), (4, 89, 0, 0), (5, 89, 0, 0), (0, 89, 0, 0), (1, 9, 105, 90), (4, 90, 0, 0), (5, 90, 0, 0), (0, 90, 0, 0), (1, 9, 96, 59), (1, 10, 183, 91), (4, 91, 0, 0), (5, 91, 0, 0), (0, 91, 0, 0), (1, 9, 109, 92), (4, 92, 0, 0), (0, 92, 0, 0), (1, 10, 186, 93), (4, 93, 0, 0), (5, 93, 0, 0), (0, 93, 0, 0), (1, 9, 112, 94), (4, 94, 0, 0), (0, 94, 0, 0), (1, 9, 116, 88), (1, 9, 119, 60), (1, 10, 190, 90), (1, 13, 41, 95), (4, 95, 0, 0), (5, 95, 0, 0), (0, 95, 0, 0), (8, 10, 194, 0), (1, 13, 45, 96), (4, 96, 0, 0), (5, 96, 0, 0), (0, 96, 0, 0), (1, 10, 195, 97), (4, 97, 0, 0), (5, 97, 0, 0), (0, 97, 0, 0), (2, 0, 67, 54), (1, 10, 199, 98), (4, 98, 0, 0), (5, 98, 0, 0), (0, 98, 0, 0), (1, 0, 43, 99), (3, 99, 0, 0), (0, 99, 0, 0), (1, 17, 13, 100), (3, 100, 0, 0), (0, 100, 0, 0), (1, 0, 49, 101), (3, 101, 0, 0), (0, 101, 0, 0), (1, 0, 34, 102), (3, 102, 0, 0), (0, 102, 0, 0), (1, 0, 56, 103), (4, 103, 0, 0), (0, 103, 0, 0), (1, 0, 63, 104), (3, 104, 0, 0), (0, 104, 0, 0), (1, 13, 49, 105), (4, 105, 0, 0), (5, 105, 0, 0), (0, 105, 0, 0), (1, 10, 201, 106), (3, 106, 0, 0), (0, 106, 0, 0), (1, 10, 204, 107), (4, 107, 0, 0), (5, 107, 0, 0), (0, 107, 0, 0), (1, 5, 55, 48), (2, 5, 61, 86), (1, 5, 65, 108), (3, 108, 0, 0), (0, 108, 0, 0), (1, 5, 45, 59), (2, 5, 51, 87), (1, 5, 69, 109), (4, 109, 0, 0), (0, 109, 0, 0), (1, 5, 73, 110), (4, 110, 0, 0), (0, 110, 0, 0), (1, 10, 208, 111), (4, 111, 0, 0), (5, 111, 0, 0), (0, 111, 0, 0), (1, 13, 53, 112), (4, 112, 0, 0), (5, 112, 0, 0), (0, 112, 0, 0), (1, 10, 212, 113), (4, 113, 0, 0), (5, 113, 0, 0), (0, 113, 0, 0), (1, 5, 77, 114), (3, 114, 0, 0), (0, 114, 0, 0), (1, 5, 81, 115), (3, 115, 0, 0), (0, 115, 0, 0), (1, 13, 57, 116), (4, 116, 0, 0), (5, 116, 0, 0), (0, 116, 0, 0), (1, 10, 218, 117), (4, 117, 0, 0), (5, 117, 0, 0), (0, 117, 0, 0), (1, 5, 91, 118), (3, 118, 0, 0), (0, 118, 0, 0), (1, 5, 94, 119), (4, 119, 0, 0), (0, 119, 0, 0), (1, 13, 62, 120), (4, 120, 0, 0), (5, 120, 0, 0), (0, 120, 0, 0), (1, 10, 222, 121), (4, 121, 0, 0), (0, 121, 0, 0), (1, 10, 232, 101), (1, 10, 236, 122), (4, 122, 0, 0), (5, 122, 0, 0), (0, 122, 0, 0), (1, 10, 243, 46), (1, 10, 246, 123), (4, 123, 0, 0), (5, 123, 0, 0), (0, 123, 0, 0), (1, 10, 250, 124), (4, 124, 0, 0), (0, 124, 0, 0), (1, 13, 66, 125), (4, 125, 0, 0), (5, 125, 0, 0), (0, 125, 0, 0), (1, 10, 253, 53), (1, 10, 261, 126), (3, 126, 0, 0), (0, 126, 0, 0), (1, 10, 282, 127), (4, 127, 0, 0), (5, 127, 0, 0), (0, 127, 0, 0), (2, 1, 113, 128), (3, 128, 0, 0), (0, 128, 0, 0), (1, 13, 71, 129), (4, 129, 0, 0), (5, 129, 0, 0), (0, 129, 0, 0), (1, 10, 285, 130), (4, 130, 0, 0), (5, 130, 0, 0), (0, 130, 0, 0), (1, 10, 288, 131), (4, 131, 0, 0), (5, 131, 0, 0), (0, 131, 0, 0), (1, 13, 75, 132), (4, 132, 0, 0), (5, 132, 0, 0), (0, 132, 0, 0), (1, 10, 291, 133), (4, 133, 0, 0), (5, 133, 0, 0), (0, 133, 0, 0), (1, 10, 294, 134), (4, 134, 0, 0), (5, 134, 0, 0), (0, 134, 0, 0), (1, 10, 297, 64), (1, 13, 79, 135), (4, 135, 0, 0), (5, 135, 0, 0), (0, 135, 0, 0), (1, 10, 302, 136), (4, 136, 0, 0), (5, 136, 0, 0), (0, 136, 0, 0), (1, 4, 109, 60), (1, 10, 305, 137), (4, 137, 0, 0), (5, 137, 0, 0), (0, 137, 0, 0), (1, 10, 308, 128), (1, 13, 83, 138), (4, 138, 0, 0), (5, 138, 0, 0), (0, 138, 0, 0), (1, 10, 311, 139), (4, 139, 0, 0), (5, 139, 0, 0)]
def QS_5 : List Qw := [(0, 139, 0, 0), (1, 5, 98, 140), (4, 140, 0, 0), (0, 140, 0, 0), (1, 5, 105, 141), (4, 141, 0, 0), (5, 141, 0, 0), (0, 141, 0, 0), (1, 4, 103, 142), (4, 142, 0, 0), (0, 142, 0, 0), (1, 5, 102, 143), (4, 143, 0, 0), (0, 143, 0, 0), (1, 13, 87, 144), (4, 144, 0, 0), (5, 144, 0, 0), (0, 144, 0, 0), (1, 10, 315, 145), (4, 145, 0, 0), (5, 145, 0, 0), (0, 145, 0, 0), (1, 9, 122, 141), (1, 13, 91, 146), (4, 146, 0, 0), (5, 146, 0, 0), (0, 146, 0, 0), (1, 10, 319, 147), (4, 147, 0, 0), (5, 147, 0, 0), (0, 147, 0, 0), (1, 1, 116, 148), (3, 148, 0, 0), (0, 148, 0, 0), (1, 1, 120, 149), (4, 149, 0, 0), (5, 149, 0, 0), (0, 149, 0, 0), (1, 13, 95, 150), (4, 150, 0, 0), (5, 150, 0, 0), (0, 150, 0, 0), (1, 10, 323, 151), (4, 151, 0, 0), (5, 151, 0, 0), (0, 151, 0, 0), (1, 3, 30, 147), (1, 3, 39, 152), (4, 152, 0, 0), (0, 152, 0, 0), (1, 3, 43, 153), (4, 153, 0, 0), (0, 153, 0, 0), (1, 13, 100, 154), (4, 154, 0, 0), (5, 154, 0, 0), (0, 154, 0, 0), (1, 10, 327, 155), (4, 155, 0, 0), (5, 155, 0, 0), (0, 155, 0, 0), (1, 10, 330, 156), (4, 156, 0, 0), (5, 156, 0, 0), (0, 156, 0, 0), (1, 10, 333, 157), (4, 157, 0, 0), (5, 157, 0, 0), (0, 157, 0, 0), (1, 4, 106, 141), (1, 13, 104, 158), (4, 158, 0, 0), (5, 158, 0, 0), (0, 158, 0, 0), (1, 10, 336, 159), (3, 159, 0, 0), (0, 159, 0, 0), (1, 10, 339, 160), (4, 160, 0, 0), (5, 160, 0, 0), (0, 160, 0, 0), (1, 8, 66, 161), (4, 161, 0, 0), (0, 161, 0, 0), (8, 8, 81, 2), (1, 8, 82, 162), (4, 162, 0, 0), (5, 162, 0, 0), (0, 162, 0, 0), (1, 8, 86, 163), (4, 163, 0, 0), (5, 163, 0, 0), (0, 163, 0, 0), (1, 8, 70, 164), (4, 164, 0, 0), (0, 164, 0, 0), (1, 8, 90, 165), (4, 165, 0, 0), (5, 165, 0, 0), (0, 165, 0, 0), (1, 2, 48, 166), (4, 166, 0, 0), (0, 166, 0, 0), (1, 2, 61, 167), (4, 167, 0, 0), (0, 167, 0, 0), (1, 2, 65, 168), (4, 168, 0, 0), (0, 168, 0, 0), (1, 2, 69, 169), (4, 169, 0, 0), (0, 169, 0, 0), (1, 2, 58, 56), (1, 2, 72, 170), (4, 170, 0, 0), (0, 170, 0, 0), (1, 8, 96, 55), (1, 8, 102, 171), (4, 171, 0, 0), (5, 171, 0, 0), (0, 171, 0, 0), (1, 2, 52, 55), (1, 8, 74, 172), (4, 172, 0, 0), (0, 172, 0, 0), (1, 8, 77, 173), (4, 173, 0, 0), (0, 173, 0, 0), (1, 13, 108, 174), (4, 174, 0, 0), (5, 174, 0, 0), (0, 174, 0, 0), (1, 10, 345, 175), (4, 175, 0, 0), (0, 175, 0, 0), (1, 10, 348, 176), (4, 176, 0, 0), (5, 176, 0, 0), (0, 176, 0, 0), (1, 8, 46, 47), (1, 10, 358, 163), (1, 10, 361, 177), (4, 177, 0, 0), (5, 177, 0, 0), (0, 177, 0, 0), (1, 13, 112, 178), (4, 178, 0, 0), (5, 178, 0, 0), (0, 178, 0, 0), (1, 10, 364, 162), (1, 13, 116, 179), (4, 179, 0, 0), (5, 179, 0, 0), (0, 179, 0, 0), (1, 13, 120, 180), (4, 180, 0, 0), (5, 180, 0, 0), (0, 180, 0, 0), (1, 10, 367, 181), (4, 181, 0, 0), (5, 181, 0, 0), (0, 181, 0, 0), (1, 13, 124, 182), (4, 182, 0, 0), (5, 182, 0, 0), (0, 182, 0, 0), (8, 10, 370, 1), (1, 13, 129, 183), (4, 183, 0, 0), (5, 183, 0, 0), (0, 183, 0, 0), (1, 13, 133, 184), (4, 184, 0, 0), (5, 184, 0, 0), (0, 184, 0, 0), (1, 13, 138, 185), (4, 185, 0, 0), (5, 185, 0, 0), (0, 185, 0, 0), (1, 13, 142, 186), (4, 186, 0, 0), (5, 186, 0, 0), (0, 186, 0, 0), (9, 13, 10, 11), (10, 11, 85, 0), (1, 13, 12, 187), (4, 187, 0, 0), (0, 187, 0, 0), (1, 11, 1, 1), (7, 11, 7, 1100), (7, 11, 13, 1101), (7, 11, 16, 1102), (7, 11, 19, 1103), (7, 11, 22, 1104), (7, 11, 181, 1105), (7, 11, 25, 1106), (7, 11, 193, 1107), (7, 11, 200, 1108), (7, 11, 203, 1109), (7, 11, 210, 1110), (7, 11, 216, 1111), (7, 11, 227, 1112), (7, 11, 223, 1113), (7, 11, 230, 1114), (7, 11, 278, 1115), (7, 11, 293, 1116), (7, 11, 29, 1117), (7, 11, 32, 1118), (7, 11, 35, 1119), (7, 11, 38, 1120), (7, 11, 41, 1121), (7, 11, 44, 1122), (7, 11, 47, 1123), (7, 11, 50, 1124), (7, 11, 53, 1125), (7, 11, 56, 1126), (7, 11, 59, 1127), (7, 11, 62, 1128), (7, 11, 65, 1129), (7, 11, 68, 1130), (7, 11, 71, 1131), (7, 11, 304, 1132)]
def QS_6 : List Qw := [(7, 11, 74, 1133), (7, 11, 77, 1134), (7, 11, 80, 1135), (7, 11, 83, 1136), (7, 11, 86, 1137), (7, 11, 326, 1138), (7, 11, 335, 1139), (7, 11, 320, 1140), (7, 11, 323, 1141), (7, 11, 338, 1142), (7, 11, 89, 1143), (7, 11, 92, 1144), (7, 11, 95, 1145), (7, 11, 392, 1146), (7, 11, 98, 1147), (7, 11, 101, 1148), (7, 11, 104, 1149), (7, 11, 107, 1150), (7, 11, 110, 1151), (7, 11, 113, 1152), (7, 11, 439, 1153), (7, 11, 116, 1154), (7, 11, 120, 1155), (7, 11, 123, 1156), (7, 11, 126, 1157), (7, 11, 454, 1158), (7, 11, 129, 1159), (7, 11, 132, 1160), (7, 11, 135, 1161), (7, 11, 138, 1162), (7, 11, 141, 1163), (7, 11, 144, 1164), (7, 11, 147, 1165), (7, 11, 150, 1166), (7, 11, 153, 1167), (7, 11, 156, 1168), (7, 11, 317, 1169), (7, 11, 480, 1170), (7, 11, 159, 1171), (7, 11, 508, 1172), (7, 11, 504, 1173), (7, 11, 162, 1174), (7, 11, 165, 1175), (7, 11, 168, 1176), (7, 11, 171, 1177), (7, 11, 174, 1178), (7, 11, 615, 1179), (7, 11, 618, 1180), (7, 11, 621, 1181), (7, 11, 597, 1182), (7, 11, 648, 1183), (7, 11, 651, 1184), (11, 12, 0, 0), (1, 13, 17, 188), (4, 188, 0, 0), (5, 188, 0, 0), (0, 188, 0, 0), (1, 11, 189, 189), (4, 189, 0, 0), (0, 189, 0, 0), (1, 11, 185, 190), (3, 190, 0, 0), (0, 190, 0, 0), (1, 13, 22, 191), (4, 191, 0, 0), (5, 191, 0, 0), (0, 191, 0, 0), (1, 11, 196, 192)]
def QS_7 : List Qw := [(4, 192, 0, 0), (0, 192, 0, 0), (1, 13, 27, 193), (4, 193, 0, 0), (5, 193, 0, 0), (0, 193, 0, 0), (1, 11, 284, 194), (4, 194, 0, 0), (0, 194, 0, 0), (1, 11, 287, 195), (4, 195, 0, 0), (0, 195, 0, 0), (1, 11, 206, 196), (4, 196, 0, 0), (0, 196, 0, 0), (1, 11, 213, 197), (4, 197, 0, 0), (0, 197, 0, 0), (1, 11, 263, 198), (4, 198, 0, 0), (0, 198, 0, 0), (1, 11, 250, 199), (4, 199, 0, 0), (0, 199, 0, 0), (1, 11, 240, 200), (4, 200, 0, 0), (0, 200, 0, 0), (8, 11, 226, 5), (1, 11, 219, 201), (4, 201, 0, 0), (0, 201, 0, 0), (1, 11, 243, 202), (4, 202, 0, 0), (0, 202, 0, 0), (1, 11, 236, 203), (4, 203, 0, 0), (0, 203, 0, 0), (1, 11, 246, 204), (3, 204, 0, 0), (0, 204, 0, 0), (1, 11, 253, 205), (3, 205, 0, 0), (0, 205, 0, 0), (1, 11, 256, 206), (4, 206, 0, 0), (0, 206, 0, 0), (1, 11, 233, 207), (4, 207, 0, 0), (0, 207, 0, 0), (1, 11, 260, 208), (4, 208, 0, 0), (0, 208, 0, 0), (1, 11, 281, 209), (4, 209, 0, 0), (0, 209, 0, 0), (1, 11, 269, 210), (4, 210, 0, 0), (0, 210, 0, 0), (1, 11, 266, 211), (4, 211, 0, 0), (0, 211, 0, 0), (1, 11, 272, 212), (4, 212, 0, 0), (0, 212, 0, 0), (1, 11, 275, 213), (4, 213, 0, 0), (0, 213, 0, 0), (1, 11, 290, 214), (4, 214, 0, 0), (0, 214, 0, 0), (1, 13, 31, 215), (4, 215, 0, 0), (5, 215, 0, 0), (0, 215, 0, 0), (1, 11, 311, 216), (4, 216, 0, 0), (0, 216, 0, 0), (1, 11, 307, 217), (4, 217, 0, 0), (0, 217, 0, 0), (1, 11, 314, 218), (4, 218, 0, 0), (0, 218, 0, 0), (1, 13, 40, 219), (4, 219, 0, 0), (5, 219, 0, 0), (0, 219, 0, 0), (1, 11, 376, 220), (4, 220, 0, 0), (0, 220, 0, 0), (1, 11, 347, 221), (4, 221, 0, 0), (0, 221, 0, 0), (1, 11, 332, 222), (4, 222, 0, 0), (0, 222, 0, 0), (1, 11, 341, 223), (3, 223, 0, 0), (0, 223, 0, 0), (1, 11, 329, 224), (3, 224, 0, 0), (0, 224, 0, 0), (1, 11, 344, 225), (4, 225, 0, 0), (0, 225, 0, 0), (1, 11, 350, 226), (3, 226, 0, 0), (0, 226, 0, 0), (1, 11, 353, 227), (3, 227, 0, 0), (0, 227, 0, 0), (1, 11, 363, 228), (4, 228, 0, 0), (0, 228, 0, 0), (1, 11, 379, 229), (4, 229, 0, 0), (0, 229, 0, 0), (1, 11, 366, 230), (4, 230, 0, 0), (0, 230, 0, 0), (1, 11, 360, 231), (4, 231, 0, 0), (0, 231, 0, 0), (1, 11, 356, 232), (3, 232, 0, 0), (0, 232, 0, 0), (1, 11, 382, 233), (4, 233, 0, 0), (0, 233, 0, 0), (1, 11, 372, 234), (4, 234, 0, 0), (0, 234, 0, 0), (1, 11, 385, 235), (4, 235, 0, 0), (0, 235, 0, 0), (1, 11, 369, 236), (4, 236, 0, 0), (0, 236, 0, 0), (1, 13, 44, 237), (4, 237, 0, 0), (5, 237, 0, 0), (0, 237, 0, 0), (8, 11, 388, 3), (1, 13, 48, 238), (4, 238, 0, 0), (5, 238, 0, 0), (0, 238, 0, 0), (1, 11, 414, 239), (4, 239, 0, 0), (0, 239, 0, 0), (1, 11, 395, 240), (4, 240, 0, 0), (0, 240, 0, 0), (1, 11, 398, 241), (4, 241, 0, 0), (0, 241, 0, 0), (1, 11, 401, 242), (4, 242, 0, 0), (0, 242, 0, 0), (1, 11, 389, 243), (3, 243, 0, 0), (0, 243, 0, 0), (1, 11, 417, 244), (4, 244, 0, 0), (0, 244, 0, 0), (1, 11, 405, 245), (4, 245, 0, 0), (0, 245, 0, 0), (1, 11, 408, 246), (3, 246, 0, 0), (0, 246, 0, 0), (1, 11, 177, 247), (3, 247, 0, 0), (0, 247, 0, 0), (1, 11, 420, 248), (4, 248, 0, 0), (0, 248, 0, 0), (1, 11, 411, 249), (3, 249, 0, 0), (0, 249, 0, 0), (1, 13, 52, 250), (4, 250, 0, 0), (5, 250, 0, 0), (0, 250, 0, 0), (1, 11, 430, 251), (3, 251, 0, 0), (0, 251, 0, 0), (1, 11, 433, 252), (4, 252, 0, 0), (0, 252, 0, 0), (8, 11, 423, 4), (1, 11, 424, 253), (4, 253, 0, 0), (0, 253, 0, 0), (1, 11, 427, 254), (3, 254, 0, 0)]
def QS_8 : List Qw := [(0, 254, 0, 0), (1, 11, 436, 255), (4, 255, 0, 0), (0, 255, 0, 0), (1, 13, 56, 256), (4, 256, 0, 0), (5, 256, 0, 0), (0, 256, 0, 0), (1, 11, 449, 257), (4, 257, 0, 0), (0, 257, 0, 0), (1, 11, 442, 258), (4, 258, 0, 0), (0, 258, 0, 0), (1, 11, 446, 259), (4, 259, 0, 0), (0, 259, 0, 0), (1, 13, 61, 260), (4, 260, 0, 0), (5, 260, 0, 0), (0, 260, 0, 0), (1, 13, 65, 261), (4, 261, 0, 0), (5, 261, 0, 0), (0, 261, 0, 0), (1, 11, 470, 262), (4, 262, 0, 0), (0, 262, 0, 0), (1, 11, 473, 263), (4, 263, 0, 0), (0, 263, 0, 0), (1, 11, 461, 264), (4, 264, 0, 0), (0, 264, 0, 0), (1, 11, 464, 265), (4, 265, 0, 0), (0, 265, 0, 0), (1, 11, 467, 266), (4, 266, 0, 0), (0, 266, 0, 0), (1, 11, 457, 267), (4, 267, 0, 0), (0, 267, 0, 0), (1, 11, 477, 268), (4, 268, 0, 0), (0, 268, 0, 0), (1, 13, 35, 269), (4, 269, 0, 0), (5, 269, 0, 0), (0, 269, 0, 0), (1, 11, 495, 270), (4, 270, 0, 0), (0, 270, 0, 0), (1, 11, 489, 271), (4, 271, 0, 0), (0, 271, 0, 0), (1, 11, 486, 272), (4, 272, 0, 0), (0, 272, 0, 0), (1, 11, 483, 273), (4, 273, 0, 0), (0, 273, 0, 0), (1, 11, 492, 274), (4, 274, 0, 0), (0, 274, 0, 0), (1, 13, 70, 275), (4, 275, 0, 0), (5, 275, 0, 0), (0, 275, 0, 0), (1, 11, 529, 276), (4, 276, 0, 0), (0, 276, 0, 0), (1, 11, 532, 277), (3, 277, 0, 0), (0, 277, 0, 0), (1, 11, 501, 278), (4, 278, 0, 0), (0, 278, 0, 0), (1, 11, 535, 279), (4, 279, 0, 0), (0, 279, 0, 0), (1, 11, 526, 280), (4, 280, 0, 0), (0, 280, 0, 0), (1, 11, 517, 281), (4, 281, 0, 0), (0, 281, 0, 0), (1, 11, 498, 282), (3, 282, 0, 0), (0, 282, 0, 0), (1, 11, 520, 283), (4, 283, 0, 0), (0, 283, 0, 0), (1, 11, 511, 284), (4, 284, 0, 0), (0, 284, 0, 0), (1, 11, 514, 285), (4, 285, 0, 0), (0, 285, 0, 0), (1, 11, 523, 286), (4, 286, 0, 0), (0, 286, 0, 0), (1, 11, 538, 287), (4, 287, 0, 0), (0, 287, 0, 0), (1, 13, 74, 288), (4, 288, 0, 0), (5, 288, 0, 0), (0, 288, 0, 0), (1, 11, 541, 289), (4, 289, 0, 0), (0, 289, 0, 0), (1, 13, 78, 290), (4, 290, 0, 0), (5, 290, 0, 0), (0, 290, 0, 0), (1, 11, 544, 291), (4, 291, 0, 0), (0, 291, 0, 0), (1, 13, 82, 292), (4, 292, 0, 0), (5, 292, 0, 0), (0, 292, 0, 0), (1, 11, 547, 293), (4, 293, 0, 0), (0, 293, 0, 0), (1, 11, 550, 294), (4, 294, 0, 0), (0, 294, 0, 0), (1, 13, 86, 295), (4, 295, 0, 0), (5, 295, 0, 0), (0, 295, 0, 0), (1, 11, 562, 296), (4, 296, 0, 0), (0, 296, 0, 0), (1, 11, 556, 297), (4, 297, 0, 0), (0, 297, 0, 0), (1, 11, 553, 298), (4, 298, 0, 0), (0, 298, 0, 0), (1, 11, 559, 299), (4, 299, 0, 0), (0, 299, 0, 0), (1, 11, 565, 300), (4, 300, 0, 0), (0, 300, 0, 0), (1, 13, 90, 301), (4, 301, 0, 0), (5, 301, 0, 0), (0, 301, 0, 0), (1, 13, 94, 302), (4, 302, 0, 0), (5, 302, 0, 0), (0, 302, 0, 0), (1, 11, 571, 303), (4, 303, 0, 0), (0, 303, 0, 0), (1, 11, 574, 304), (4, 304, 0, 0), (0, 304, 0, 0), (1, 11, 568, 305), (4, 305, 0, 0), (0, 305, 0, 0), (1, 13, 99, 306), (4, 306, 0, 0), (5, 306, 0, 0), (0, 306, 0, 0), (1, 11, 580, 307), (4, 307, 0, 0), (0, 307, 0, 0), (1, 11, 577, 308), (4, 308, 0, 0), (0, 308, 0, 0), (1, 13, 103, 309), (4, 309, 0, 0), (5, 309, 0, 0), (0, 309, 0, 0), (1, 11, 586, 310), (4, 310, 0, 0), (0, 310, 0, 0), (1, 11, 590, 311), (4, 311, 0, 0), (0, 311, 0, 0), (1, 11, 583, 312), (3, 312, 0, 0), (0, 312, 0, 0), (1, 13, 107, 313), (4, 313, 0, 0), (5, 313, 0, 0), (0, 313, 0, 0), (1, 11, 636, 314), (4, 314, 0, 0), (0, 314, 0, 0), (1, 11, 633, 315)]
def QS_9 : List Qw := [(4, 315, 0, 0), (0, 315, 0, 0), (1, 11, 624, 316), (4, 316, 0, 0), (0, 316, 0, 0), (1, 11, 606, 317), (4, 317, 0, 0), (0, 317, 0, 0), (1, 11, 594, 318), (4, 318, 0, 0), (0, 318, 0, 0), (8, 11, 593, 2), (1, 11, 600, 319), (4, 319, 0, 0), (0, 319, 0, 0), (1, 11, 603, 320), (4, 320, 0, 0), (0, 320, 0, 0), (1, 11, 609, 321), (4, 321, 0, 0), (0, 321, 0, 0), (1, 11, 300, 322), (4, 322, 0, 0), (0, 322, 0, 0), (1, 11, 296, 323), (3, 323, 0, 0), (0, 323, 0, 0), (1, 11, 612, 324), (4, 324, 0, 0), (0, 324, 0, 0), (1, 11, 627, 325), (4, 325, 0, 0), (0, 325, 0, 0), (1, 11, 630, 326), (4, 326, 0, 0), (0, 326, 0, 0), (1, 13, 111, 327), (4, 327, 0, 0), (5, 327, 0, 0), (0, 327, 0, 0), (1, 11, 639, 328), (3, 328, 0, 0), (0, 328, 0, 0), (1, 13, 115, 329), (4, 329, 0, 0), (5, 329, 0, 0), (0, 329, 0, 0), (1, 13, 119, 330), (4, 330, 0, 0), (5, 330, 0, 0), (0, 330, 0, 0), (1, 13, 123, 331), (4, 331, 0, 0), (5, 331, 0, 0), (0, 331, 0, 0), (8, 11, 643, 0), (1, 11, 644, 332), (4, 332, 0, 0), (0, 332, 0, 0), (1, 13, 128, 333), (4, 333, 0, 0), (5, 333, 0, 0), (0, 333, 0, 0), (8, 11, 647, 1), (1, 13, 132, 334), (4, 334, 0, 0), (5, 334, 0, 0), (0, 334, 0, 0), (1, 13, 137, 335), (4, 335, 0, 0), (5, 335, 0, 0), (0, 335, 0, 0), (1, 13, 141, 336), (4, 336, 0, 0), (5, 336, 0, 0), (0, 336, 0, 0), (1, 11, 654, 337), (4, 337, 0, 0), (0, 337, 0, 0), (1, 13, 145, 338), (4, 338, 0, 0), (5, 338, 0, 0), (0, 338, 0, 0), (1, 11, 657, 339), (4, 339, 0, 0), (0, 339, 0, 0)]
def QS : List Qw := QS_0 ++ (QS_1 ++ (QS_2 ++ (QS_3 ++ (QS_4 ++ (QS_5 ++ (QS_6 ++ (QS_7 ++ (QS_8 ++ (QS_9)))))))))
set_option maxRecDepth 100000 in
theorem qs_0 : QS_0.map dw = k2_sels lw_privs := rfl
set_option maxRecDepth 100000 in
theorem qs_1 : QS_1.map (fun q => some (dw q)) = ([0, 1, 2, 3, 4, 5, 6, 7, 8, 9, 10, 11, 12, 13, 14, 15, 16, 17, 18, 19, 20, 21, 22, 23, 24, 25, 26, 27, 28, 29, 30, 31, 32, 33, 34, 35, 36, 37, 38, 39, 40, 41, 42, 43, 44, 45, 57, 58, 59, 60, 61, 62, 63, 64, 65, 66, 67, 68, 69, 70, 71, 72, 73, 74, 75, 76, 77, 78, 79, 80, 81, 82, 83, 95, 96, 97, 98, 99, 100, 101, 102, 103, 104, 105, 106, 107, 108, 109, 110, 111, 112, 113, 114, 115, 116, 117, 118, 119, 120, 121, 122, 123, 124, 125, 126, 127, 128, 129, 153, 154, 155, 156, 157, 158, 159, 160, 161, 162, 163, 164, 165, 166, 167, 168, 169, 170, 171, 172, 173, 174, 175, 176, 177, 201, 202, 203, 204, 205, 206, 207, 208, 209, 210, 211, 212, 213, 214, 215, 216, 217, 237, 238, 239] : List Nat).map (fun p => tables_1_1[p]?) := rfl
set_option maxRecDepth 100000 in
theorem qs_2 : QS_2.map (fun q => some (dw q)) = ([0, 1, 2, 3, 4, 5, 6, 7, 8, 9, 10, 11, 31, 32, 33, 34, 35, 36, 37, 38, 39, 40, 41, 42, 43, 57, 58, 59, 60, 61, 62, 63, 64, 65, 66, 67, 68, 69, 70, 86, 87, 88, 89, 90, 91, 92, 93, 94, 95, 105, 106, 107, 108, 109, 110, 111, 112, 113, 114, 115, 116, 117, 118, 119, 120, 121, 122, 123, 124, 125, 126, 127, 147, 148, 149, 150, 151, 152, 153, 154, 155, 156, 157, 158, 159, 160, 161, 162, 163, 164, 202, 203, 204, 205, 206, 208, 209, 210, 211, 212, 213, 214, 215, 216, 217, 218, 219, 220, 221, 222, 223, 224, 225, 226, 227, 228, 229, 230, 231, 232, 233, 234, 235, 236, 237, 238, 239] : List Nat).map (fun p => tables_1_2[p]?) := rfl
set_option maxRecDepth 100000 in
theorem qs_3 : QS_3.map (fun q => some (dw q)) = ([0, 1, 2, 3, 4, 5, 6, 7, 8, 9, 10, 11, 12, 13, 14, 15, 16, 17, 18, 19, 20, 21, 22, 23, 24, 25, 26, 27, 28, 29, 30, 31, 32, 33, 34, 35, 36, 37, 38, 39, 40, 43, 44, 45, 46, 47, 48, 49, 50, 51, 52, 53, 54, 55, 56, 57, 58, 59, 60, 61, 62, 63, 64, 65, 66, 67, 68, 69, 70, 71, 72, 73, 75, 76, 77, 78, 79, 80, 81, 82, 83, 84, 85, 87, 88, 89, 90, 91, 92, 93, 94, 95, 96, 97, 98, 99, 100, 101, 102, 103, 104, 105, 106, 107, 108, 109, 111, 112, 113, 115, 116, 117, 118, 119, 120, 121, 122, 123, 124, 125, 126, 127, 128, 129, 130, 131, 133, 134, 135, 137, 138, 139, 140, 141, 142, 143, 144, 145, 146, 147, 149, 150, 151, 153, 154, 155, 157, 158, 159, 160, 161, 162, 163, 164, 165, 166, 167, 168, 169, 170, 171, 172, 173, 175, 176, 177, 178, 179, 180, 182, 183, 184, 186, 187, 188, 190, 191, 192, 193, 194, 195, 197, 198, 199, 201, 202, 203, 204, 205, 206, 207, 208, 209, 210, 211, 212, 213, 214, 215, 216, 217, 218, 219, 220, 221, 223, 224, 225, 226, 228, 229, 230, 231, 233, 234, 235, 237, 238, 239] : List Nat).map (fun p => tables_1_3[p]?) := rfl
set_option maxRecDepth 100000 in
theorem qs_4 : QS_4.map (fun q => some (dw q)) = ([0, 2, 3, 4, 5, 6, 7, 10, 12, 13, 14, 16, 17, 18, 19, 20, 21, 22, 23, 24, 25, 26, 27, 28, 29, 30, 31, 32, 33, 34, 35, 36, 37, 38, 39, 40, 41, 43, 44, 45, 46, 47, 48, 49, 51, 52, 53, 54, 55, 56, 57, 58, 59, 60, 61, 62, 63, 64, 65, 66, 67, 68, 69, 70, 71, 72, 73, 76, 77, 78, 79, 80, 81, 82, 83, 84, 85, 86, 87, 88, 90, 91, 92, 93, 94, 95, 96, 97, 98, 99, 100, 101, 102, 103, 104, 105, 106, 107, 108, 109, 110, 111, 112, 113, 115, 116, 117, 119, 120, 121, 122, 123, 124, 126, 127, 128, 129, 130, 131, 132, 133, 134, 135, 136, 137, 138, 139, 140, 141, 142, 143, 145, 146, 147, 148, 149, 150, 151, 152, 154, 155, 156, 157, 158, 159, 160, 162, 163, 165, 166, 167, 168, 169, 170, 171, 172, 173, 174, 175, 177, 178, 179, 180, 181, 182, 183, 184, 185, 186, 187, 188, 189, 190, 191, 192, 193, 194, 195, 196, 197, 198, 199, 200, 201, 202, 203, 204, 205, 206, 207, 208, 209, 210, 211, 212, 213, 214, 215, 216, 217, 218, 219, 220, 221, 222, 223, 224, 225, 226, 227, 228, 229, 230, 231, 232, 233, 234, 235, 236, 237, 238, 239] : List Nat).map (fun p => tables_1_4[p]?) := rfl
set_option maxRecDepth 100000 in
theorem qs_5 : QS_5.map (fun q => some (dw q)) = ([0, 1, 3, 4, 5, 6, 7, 8, 9, 11, 12, 13, 15, 16, 17, 18, 19, 20, 21, 22, 23, 24, 25, 26, 27, 28, 29, 30, 31, 32, 33, 34, 35, 36, 37, 38, 39, 40, 41, 42, 43, 44, 45, 46, 47, 48, 49, 50, 52, 53, 54, 56, 57, 58, 59, 60, 61, 62, 63, 64, 65, 66, 67, 68, 69, 70, 71, 72, 73, 74, 75, 76, 77, 78, 79, 80, 81, 82, 83, 84, 85, 86, 88, 89, 90, 91, 92, 93, 94, 95, 96, 97, 98, 99, 101, 102, 103, 104, 105, 106, 107, 109, 110, 111, 113, 114, 115, 117, 118, 119, 121, 122, 123, 124, 126, 127, 128, 129, 130, 131, 132, 133, 134, 136, 137, 138, 140, 141, 142, 143, 144, 145, 146, 148, 149, 150, 151, 152, 153, 154, 158, 159, 160, 161, 162, 163, 164, 165, 166, 167, 168, 169, 170, 171, 172, 173, 174, 175, 176, 177, 178, 179, 180, 181, 182, 183, 184, 185, 186, 187, 188, 189, 190, 191, 192, 193, 194, 195, 196, 197, 198, 199, 200, 201, 202, 203, 204, 205, 206, 207, 208, 209, 210, 211, 212, 213, 214, 215, 216, 217, 218, 219, 220, 221, 222, 223, 224, 225, 226, 227, 228, 229, 230, 231, 232, 233, 234, 235, 236, 237, 238, 239] : List Nat).map (fun p => tables_1_5[p]?) := rfl
set_option maxRecDepth 100000 in
theorem qs_6 : QS_6.map (fun q => some (dw q)) = ([0, 1, 2, 3, 4, 5, 6, 7, 8, 9, 10, 11, 12, 13, 14, 15, 16, 17, 18, 19, 20, 21, 22, 23, 24, 25, 26, 27, 28, 29, 30, 31, 32, 33, 34, 35, 36, 37, 38, 39, 40, 41, 42, 43, 44, 45, 46, 47, 48, 49, 50, 51, 223, 224, 225, 226, 227, 228, 230, 231, 232, 233, 234, 235, 236, 237, 238, 239] : List Nat).map (fun p => tables_1_6[p]?) := rfl
set_option maxRecDepth 100000 in
theorem qs_7 : QS_7.map (fun q => some (dw q)) = ([1, 2, 3, 4, 5, 6, 7, 9, 10, 11, 13, 14, 15, 17, 18, 19, 21, 22, 23, 25, 26, 27, 29, 30, 31, 33, 34, 35, 36, 38, 39, 40, 42, 43, 44, 46, 47, 48, 49, 50, 51, 52, 53, 54, 56, 57, 58, 60, 61, 62, 64, 65, 66, 68, 69, 70, 72, 73, 74, 76, 77, 78, 80, 81, 82, 84, 85, 86, 88, 89, 90, 91, 92, 93, 94, 96, 97, 98, 100, 101, 102, 104, 105, 106, 107, 108, 109, 110, 112, 113, 114, 116, 117, 118, 120, 121, 122, 123, 124, 125, 126, 127, 128, 130, 131, 132, 133, 134, 135, 136, 137, 138, 140, 141, 142, 144, 145, 146, 148, 149, 150, 152, 153, 154, 155, 156, 157, 159, 160, 161, 163, 164, 165, 167, 168, 169, 171, 172, 173, 174, 175, 176, 177, 178, 179, 180, 181, 182, 184, 185, 186, 188, 189, 190, 192, 193, 194, 196, 197, 198, 199, 200, 201, 203, 204, 205, 207, 208, 209, 210, 211, 212, 213, 214, 215, 217, 218, 219, 220, 221, 222, 223, 224, 225, 226, 227, 228, 229, 231, 232, 233, 234, 236, 237, 238, 239] : List Nat).map (fun p => tables_1_7[p]?) := rfl
set_option maxRecDepth 100000 in
theorem qs_8 : QS_8.map (fun q => some (dw q)) = ([0, 1, 3, 4, 5, 6, 7, 8, 9, 11, 12, 13, 15, 16, 17, 19, 20, 21, 22, 23, 24, 26, 27, 28, 29, 30, 32, 33, 34, 36, 37, 38, 40, 41, 42, 44, 45, 46, 48, 49, 50, 52, 53, 54, 56, 57, 58, 59, 60, 61, 62, 64, 65, 66, 68, 69, 70, 72, 73, 74, 76, 77, 78, 80, 81, 82, 83, 84, 85, 86, 88, 89, 90, 91, 92, 93, 95, 96, 97, 99, 100, 101, 103, 104, 105, 107, 108, 109, 110, 111, 112, 114, 115, 116, 118, 119, 120, 122, 123, 124, 126, 127, 128, 130, 131, 132, 133, 134, 135, 136, 138, 139, 140, 141, 142, 143, 144, 146, 147, 148, 149, 150, 151, 152, 154, 155, 156, 158, 159, 160, 161, 162, 163, 164, 166, 167, 168, 170, 171, 172, 174, 175, 176, 178, 179, 180, 182, 183, 184, 185, 186, 187, 188, 189, 190, 191, 192, 194, 195, 196, 198, 199, 200, 202, 203, 204, 205, 206, 207, 208, 210, 211, 212, 214, 215, 216, 217, 218, 219, 220, 222, 223, 224, 226, 227, 228, 229, 230, 231, 232, 233, 234, 235, 237, 238, 239] : List Nat).map (fun p => tables_1_8[p]?) := rfl
set_option maxRecDepth 100000 in
theorem qs_9 : QS_9.map (fun q => some (dw q)) = ([1, 2, 3, 5, 6, 7, 9, 10, 11, 13, 14, 15, 16, 18, 19, 20, 22, 23, 24, 26, 27, 28, 30, 31, 32, 33, 34, 35, 37, 38, 39, 41, 42, 43, 45, 46, 47, 48, 49, 50, 51, 52, 53, 54, 55, 56, 57, 58, 59, 60, 61, 62, 63, 64, 65, 66, 67, 69, 70, 71, 72, 73, 74, 75, 76, 77, 78, 79, 80, 81, 82, 83, 84, 85, 86, 87, 88, 90, 91, 92, 93, 94, 95, 96, 98, 99] : List Nat).map (fun p => tables_1_9[p]?) := rfl
end
section
/-! THE LISTINGS ARE THE CODE'S, and their links are the tables' words -/
def wdi (p : Nat) (w : Qw) : Bool := decide (QS[p]? = some w)
def wdx (p : Nat) (w : Cond) : Bool := decide (SPX[p]? = some w)
def tbOf (pc : Nat) : Int → List Int → List (Int32 × Nat)
  | _, [] => []
  | lo, o :: t => (Int32.ofInt lo, ((pc : Int) + o).toNat) :: tbOf pc (lo + 1) t
def lkOf (pc : Nat) (ps : List (Int × Int)) : List (Int32 × Nat) := ps.map fun q => (Int32.ofInt q.1, ((pc : Int) + q.2).toNat)
def pl1 (tb : List (Int32 × Nat)) : Nat := match tb with
  | q :: _ => q.2
  | [] => 0
def pl2 (tb : List (Int32 × Nat)) : Nat := match tb with
  | q :: _ => q.1.toNatClampNeg
  | [] => 0
def jok (pc : Nat) (off : Int) (x : Nat) : Bool := decide ((pc : Int) + off = (x : Int))
/-- one row -/
def okI (own : Nat) (mL : Nat) (it : Itm) : Bool := match it with
  | (pc, ins, len, x, y, z, tb) => match ins with
    | .iconst n => Nat.beq len 1 && decide (Int32.ofInt n = z)
    | .bipush n => Nat.beq len 2 && decide ((Int8.ofInt n).toInt32 = z)
    | .sipush n => Nat.beq len 3 && decide ((Int16.ofInt n).toInt32 = z)
    | .ldc i => Nat.beq len 2 && (!Nat.beq y 1 || wdi (pl1 tb) (8, own, i, pl2 tb) && decide (cz (pl2 tb) = z))
    | .ldc_w i => Nat.beq len 3 && (!Nat.beq y 1 || wdi (pl1 tb) (8, own, i, pl2 tb) && decide (cz (pl2 tb) = z))
    | .ldc2_w i => Nat.beq len 3 && (!Nat.beq y 1 || wdx (pl1 tb) (.constantLong (ocl own) i z.toInt64))
    | .lconst n => Nat.beq len 1 && decide (Int64.ofNat n.val = z.toInt64)
    | .iload i => Nat.beq len 2 && Nat.beq i x
    | .iload_n n => Nat.beq len 1 && Nat.beq n.val x
    | .aload i => Nat.beq len 2 && Nat.beq i x
    | .aload_n n => Nat.beq len 1 && Nat.beq n.val x
    | .lload_n n => Nat.beq len 1 && Nat.beq n.val x
    | .istore i => Nat.beq len 2 && Nat.beq i x && Nat.blt x mL
    | .istore_n n => Nat.beq len 1 && Nat.beq n.val x && Nat.blt x mL
    | .astore i => Nat.beq len 2 && Nat.beq i x && Nat.blt x mL
    | .astore_n n => Nat.beq len 1 && Nat.beq n.val x && Nat.blt x mL
    | .iinc i n => Nat.beq len 3 && Nat.beq i x && Nat.blt x mL && decide (Int32.ofInt n = z)
    | .goto off => Nat.beq len 3 && jok pc off x
    | .if_icmp _ off => Nat.beq len 3 && jok pc off x
    | .ifCond _ off => Nat.beq len 3 && jok pc off x
    | .tableswitch df lo hi offs => jok pc df x && decide (tb = tbOf pc lo offs.toList) && decide (hi = lo + offs.size - 1) && offs.toList.all (fun o => decide (0 ≤ (pc : Int) + o)) && decide (-1000 ≤ lo ∧ hi < 1000)
    | .lookupswitch df ps => jok pc df x && decide (tb = lkOf pc ps.toList) && (ps.toList.zip (ps.toList.drop 1)).all (fun (a, next) => a.1 < next.1) && ps.toList.all (fun o => decide (0 ≤ (pc : Int) + o.2 ∧ -1000 ≤ o.1 ∧ o.1 < 1000))
    | .getfield i => Nat.beq len 3 && Nat.blt x 12 && Nat.blt y (nf x) && wdi (pl1 tb) (7, own, i, x * 100 + y)
    | .putfield i => Nat.beq len 3 && Nat.blt x 12 && Nat.blt y (nf x) && wdi (pl1 tb) (7, own, i, x * 100 + y)
    | .getstatic i => Nat.beq len 3 && (!Nat.beq y 1 || (match x with
      | 1 => bif decide (z = 0) then wdx (pl1 tb) (.fieldLink (ocl own) i "NamedToWed" "STEP_LETTERS" "[C") else wdx (pl1 tb) (.fieldLinkNest (ocl own) i "NamedToWed" "STEP_LETTERS" "[C" "NamedToWed")
      | 2 => decide (z = 0) && wdx (pl1 tb) (.fieldLink (ocl own) i "NamedToWed$Changes" "FACTORIALS" "[I")
      | 3 => decide (z = 0) && wdx (pl1 tb) (.fieldLink (ocl own) i "NamedToWed$LawReader" "LETTERS" "[C")
      | _ => false))
    | .invokevirtual i => Nat.beq len 3 && (Nat.beq x 998 || (Nat.blt x 340 && Nat.blt (mkd x) 12 && Nat.beq y (mnp x + 1) && decide (z = 0) && wdi (pl1 tb) (1, own, i, x) && wdi (mpl x).2.2.2 (5, x, 0, 0)))
    | .invokestatic i => Nat.beq len 3 && (bif Nat.beq x 999 then wdx (pl1 tb) (.methodLink (ocl own) i arraycopyName)
        else (Nat.beq x 998 || (Nat.blt x 340 && Nat.beq (mkd x) 99 && Nat.beq y (mnp x) && (bif decide (z = 0) then wdi (pl1 tb) (1, own, i, x) else wdi (pl1 tb) (2, own, i, x)))))
    | .invokespecial _ => true
    | .new _ => true
    | .athrow => Nat.beq len 1
    | .return_ => Nat.beq len 1
    | .ireturn => Nat.beq len 1
    | .lreturn => Nat.beq len 1
    | .newarray _ => true
    | .invokedynamic _ => true
    | _ => Nat.beq len 1
def chn : Cod → Bool
  | [] => true
  | it :: tl => (match tl with
    | [] => true
    | b :: _ => Nat.beq b.1 (it.1 + it.2.2.1)) && chn tl
def decs (cc : ByteArray) (cd : Cod) : Prop := ∀ it ∈ cd, decode cc it.1 = .ok (it.2.1, it.2.2.1)
/-- what a method's own words are -/
def okW (k : Nat) : Bool := wdi (mpl k).1 (0, k, 0, 0) && wdi (mpl k).2.1 (6, mow k, 0, 0) && decide (ocl (mow k) = (mY k).cls) &&
  decide ((mY k).cls ≠ "java/lang/invoke/MethodHandle" ∧ (mY k).cls ≠ "java/lang/invoke/VarHandle") &&
  decide ((parseMethodDescriptor (mY k).desc).map (fun d => d.parameters.length) = some (mnp k)) &&
  (bif Nat.beq (mkd k) 99 then wdi (mpl k).2.2.1 (3, k, 0, 0)
   else (wdi (mpl k).2.2.1 (4, k, 0, 0) && decide ((vwCl[mkd k]?).map (fun q => q.1) = some (mY k).cls) && (decide ((mY k).name = "<init>") || wdi (mpl k).2.2.2 (5, k, 0, 0))))
def okB (k : Nat) : Bool := plainName (mY k).cls &&
  (match mret k with
   | none => Nat.beq (mrk k) 0
   | some .int => Nat.beq (mrk k) 1
   | some .boolean => Nat.beq (mrk k) 1
   | some .long => Nat.beq (mrk k) 2
   | _ => false) && Nat.blt (mmL k) 25 &&
  (match mcd k with
   | it :: _ => Nat.beq it.1 0
   | [] => false)
/-- boolean answers are held to 0, 1 -/
def retI (k : Nat) (it : Itm) : Bool := match it.2.1 with
  | .ireturn => (match mret k with
    | some .int => Nat.beq it.2.2.2.1 0
    | some .boolean => Nat.beq it.2.2.2.1 1
    | _ => false)
  | .return_ => decide (mret k = none)
  | .lreturn => decide (mret k = some .long)
  | _ => true
set_option maxRecDepth 100000 in
def okA (k : Nat) : Bool := (Nat.beq k 1 || (okW k && (Nat.beq k 55 || Nat.beq k 56 || okB k))) && chn (mcd k) && (mcd k).all (fun it => okI (mow k) (mmL k) it && retI k it)
/-! every row is what the code's bytes say -/
def okD (cc : ByteArray) (cd : Cod) : Bool := cd.all fun it => decide (decode cc it.1 = .ok (it.2.1, it.2.2.1))
end
section
/-! THE REAL MACHINE AND THE SMALL ONE: a store stands in the heap at addresses of its own -/
def tr (ad : Nat → Nat) (v : Value) : Value := match v with
  | .ref a => .ref (ad a)
  | w => w
def fdV (ad : Nat → Nat) (σ : Sg) (a k y : Nat) : Value := match fk k y with
  | 1 => .ref (ad (a + ofs k y))
  | 2 => .ref (ad (σ.2.2 a y))
  | _ => .int (σ.1 a y)
def enA (cy : Nat → ClassId) (ad : Nat → Nat) (σ : Sg) (a : Nat) : va_E := match Nat.blt (SH a).1 12 with
  | true => .inr ((SH a).1, (List.range (nf (SH a).1)).map (fdV ad σ a (SH a).1))
  | false => match Nat.beq (SH a).1 15 with
    | true => .inl (cy (SH a).1, (SH a).2, .inr (.inl (σ.2.1 a)))
    | false => .inl (cy (SH a).1, (SH a).2, .inl (σ.1 a))
def wsA (cy : Nat → ClassId) (ad : Nat → Nat) (σ : Sg) : va_W := (List.range 154).map fun j => (ad (j + 4), enA cy ad σ (j + 4))
def tyA (cy : Nat → ClassId) : List (ClassId × FieldType) := [(cy 12, .byte), (cy 13, .char), (cy 14, .int), (cy 15, .long)]
def Rp (D : va_G) (cy : Nat → ClassId) (ad : Nat → Nat) (A : Nat → Prop) (σ : Sg) (H : Heap) : Prop := va_P D vwCl (wsA cy ad σ) H ∧ va_D A (wsA cy ad σ)
theorem SH_big {a : Nat} (h : 158 ≤ a) : SH a = (97, 0) := by
  have e : ∀ n, n ≤ 158 → Nat.blt a n = false := fun n hn => by
    cases hb : Nat.blt a n with
    | false => rfl
    | true => exact absurd (Nat.le_of_ble_eq_true hb) (by omega)
  unfold SH
  repeat rw [e _ (by omega)]
  rfl
theorem SH_small : ∀ a, a < 158 → Nat.ble (SH a).1 15 = true → 4 ≤ a := by decide +kernel
theorem SH_id {a : Nat} (h : (SH a).1 ≤ 15) : 4 ≤ a ∧ a < 158 := by
  rcases Nat.lt_or_ge a 158 with q | q
  · exact ⟨SH_small a q (Nat.ble_eq_true_of_le h), q⟩
  · rw [SH_big q] at h
    exact absurd h (by decide)
theorem wsA_at {cy : Nat → ClassId} {ad : Nat → Nat} {σ : Sg} {a : Nat} (h : 4 ≤ a) (h' : a < 158) : (wsA cy ad σ)[a - 4]? = some (ad a, enA cy ad σ a) := by
  unfold wsA
  rw [List.getElem?_map, List.getElem?_range (by omega)]
  simp only [Option.map_some]
  rw [show a - 4 + 4 = a by omega]
theorem wsA_set {cy : Nat → ClassId} {ad : Nat → Nat} {σ σ' : Sg} {a : Nat} (h : 4 ≤ a) (ho : ∀ b, b ≠ a → enA cy ad σ' b = enA cy ad σ b) : (wsA cy ad σ).set (a - 4) (ad a, enA cy ad σ' a) = wsA cy ad σ' := by
  unfold wsA
  apply List.ext_getElem?
  intro j
  rw [List.getElem?_set]
  by_cases hj : a - 4 = j
  · subst hj
    rw [if_pos rfl]
    simp only [List.length_map, List.length_range, List.getElem?_map]
    split
    · rename_i q
      rw [List.getElem?_range q]
      simp only [Option.map_some]
      rw [show a - 4 + 4 = a by omega]
    · rename_i q
      rw [List.getElem?_eq_none (by simpa using q)]
      rfl
  · rw [if_neg hj, List.getElem?_map, List.getElem?_map]
    rcases Nat.lt_or_ge j 154 with q | q
    · rw [List.getElem?_range q]
      simp only [Option.map_some]
      rw [ho (j + 4) (by omega)]
    · rw [List.getElem?_eq_none (by simpa using q)]
      rfl
theorem range_set {f g : Nat → Value} {n y : Nat} {w : Value} (hy : g y = w) (ho : ∀ j, j ≠ y → g j = f j) : ((List.range n).map f).set y w = (List.range n).map g := by
  apply List.ext_getElem?
  intro j
  rw [List.getElem?_set]
  by_cases hj : y = j
  · subst hj
    rw [if_pos rfl]
    simp only [List.length_map, List.length_range, List.getElem?_map]
    split
    · rename_i q
      rw [List.getElem?_range q]
      simp only [Option.map_some]
      rw [hy]
    · rename_i q
      rw [List.getElem?_eq_none (by simpa using q)]
      rfl
  · rw [if_neg hj, List.getElem?_map, List.getElem?_map]
    rcases Nat.lt_or_ge j n with q | q
    · rw [List.getElem?_range q]
      simp only [Option.map_some]
      rw [ho j (fun e => hj e.symm)]
    · rw [List.getElem?_eq_none (by simpa using q)]
      rfl
theorem enA_obj {cy : Nat → ClassId} {ad : Nat → Nat} {σ : Sg} {a k : Nat} (h : (SH a).1 = k) (hk : k < 12) : enA cy ad σ a = .inr (k, (List.range (nf k)).map (fdV ad σ a k)) := by
  unfold enA
  rw [h]
  have e : Nat.blt k 12 = true := Nat.ble_eq_true_of_le hk
  rw [e]
theorem enA_int {cy : Nat → ClassId} {ad : Nat → Nat} {σ : Sg} {a k : Nat} (h : (SH a).1 = k) (hk : k = 12 ∨ k = 13 ∨ k = 14) : enA cy ad σ a = .inl (cy k, (SH a).2, .inl (σ.1 a)) := by
  unfold enA
  rw [h]
  rcases hk with rfl | rfl | rfl <;> rfl
theorem enA_long {cy : Nat → ClassId} {ad : Nat → Nat} {σ : Sg} {a : Nat} (h : (SH a).1 = 15) : enA cy ad σ a = .inl (cy 15, (SH a).2, .inr (.inl (σ.2.1 a))) := by
  unfold enA
  rw [h]
  rfl
theorem sI_self {σ : Sg} {a i : Nat} {v : Int32} : (sI σ a i v).1 a = upd (σ.1 a) i v := by
  funext j
  by_cases h : j = i <;> simp [sI, upd, h]
theorem sI_ne {σ : Sg} {a b i : Nat} {v : Int32} (h : b ≠ a) : (sI σ a i v).1 b = σ.1 b := by
  funext j
  simp [sI, h]
theorem sJ_self {σ : Sg} {a i : Nat} {v : Int64} : (sJ σ a i v).2.1 a = vp_updL (σ.2.1 a) i v := by
  funext j
  by_cases h : j = i <;> simp [sJ, vp_updL, h]
theorem sJ_ne {σ : Sg} {a b i : Nat} {v : Int64} (h : b ≠ a) : (sJ σ a i v).2.1 b = σ.2.1 b := by
  funext j
  simp [sJ, h]
theorem sC_self {σ : Sg} {a0 a sp dp n : Nat} : (sC σ a0 a sp dp n).1 a = va_cpy (σ.1 a0) (σ.1 a) sp dp n := by
  funext j
  simp [sC, va_cpy]
theorem sC_ne {σ : Sg} {a0 a b sp dp n : Nat} (h : b ≠ a) : (sC σ a0 a sp dp n).1 b = σ.1 b := by
  funext j
  simp [sC, h]
/-- two stores that differ nowhere at a cell -/
theorem enA_congr {cy : Nat → ClassId} {ad : Nat → Nat} {σ σ' : Sg} {b : Nat} (h1 : σ'.1 b = σ.1 b) (h2 : σ'.2.1 b = σ.2.1 b) (h3 : σ'.2.2 b = σ.2.2 b) : enA cy ad σ' b = enA cy ad σ b := by
  unfold enA
  have e : ∀ k, fdV ad σ' b k = fdV ad σ b k := fun k => by funext y; unfold fdV; rw [h1, h3]
  rw [e, h1, h2]
theorem sR_at {σ : Sg} {a y v j : Nat} : (sR σ a y v).2.2 a j = if j = y then v else σ.2.2 a j := by simp [sR]
theorem sR_ne {σ : Sg} {a b y v : Nat} (h : b ≠ a) : (sR σ a y v).2.2 b = σ.2.2 b := by
  funext j; simp [sR, h]
/-! the locals -/
def Lr (ad : Nat → Nat) (ls : List Value) (lsA : Array Slot) (nL : Nat) : Prop := lv_has lsA nL [] ∧ ls.length = nL ∧ ∀ i, lgt ls i ≠ .null → lsA[i]? = some (.val (tr ad (lgt ls i)))
theorem lgt_ge : ∀ {ls : List Value} {i : Nat}, ls.length ≤ i → lgt ls i = .null
  | [], _, _ => rfl
  | _ :: _, 0, h => by simp at h
  | _ :: t, i + 1, h => lgt_ge (ls := t) (by simpa using h)
theorem lpt_len : ∀ (ls : List Value) (i : Nat) (v : Value), (lpt ls i v).length = ls.length
  | [], _, _ => rfl
  | _ :: _, 0, _ => rfl
  | _ :: t, 1, v => by show (lpt t 0 v).length + 1 = _; rw [lpt_len t 0 v]; rfl
  | _ :: t, n + 2, v => by show (lpt t (n + 1) v).length + 1 = _; rw [lpt_len t (n + 1) v]; rfl
theorem lgt_lpt : ∀ (ls : List Value) (i : Nat) (v : Value) (j : Nat), i < ls.length → lgt (lpt ls i v) j = if j = i then v else if j + 1 = i then nlg (lgt ls j) else lgt ls j
  | [], i, _, _, h => by simp at h
  | w :: t, 0, v, j, _ => by
    cases j with
    | zero => rfl
    | succ j => show lgt t j = _; simp [lgt]
  | w :: t, 1, v, j, h => by
    cases j with
    | zero => rfl
    | succ j =>
      show lgt (lpt t 0 v) j = _
      rw [lgt_lpt t 0 v j (by simpa using h)]
      by_cases h0 : j = 0
      · subst h0; simp
      · simp [h0, lgt]
  | w :: t, n + 2, v, j, h => by
    cases j with
    | zero => show w = _; simp [lgt]
    | succ j =>
      show lgt (lpt t (n + 1) v) j = _
      rw [lgt_lpt t (n + 1) v j (by have h1 : n + 2 < t.length + 1 := h; omega)]
      simp [lgt]
def lvl (ad : Nat → Nat) (ls : List Value) : List (Nat × Value) := (List.range ls.length).filterMap fun j => if lgt ls j = .null then none else some (j, tr ad (lgt ls j))
theorem lvl_mem {ad : Nat → Nat} {ls : List Value} {j : Nat} (h : lgt ls j ≠ .null) : (j, tr ad (lgt ls j)) ∈ lvl ad ls := by
  unfold lvl
  rw [List.mem_filterMap]
  refine ⟨j, ?_, by rw [if_neg h]⟩
  rw [List.mem_range]
  rcases Nat.lt_or_ge j ls.length with q | q
  · exact q
  · exact absurd (lgt_ge q) h
theorem Lr.has {ad : Nat → Nat} {ls : List Value} {lsA : Array Slot} {nL : Nat} (h : Lr ad ls lsA nL) : lv_has lsA nL (lvl ad ls) := by
  refine ⟨h.1.1, h.1.2.1, fun q hq => ?_⟩
  unfold lvl at hq
  rw [List.mem_filterMap] at hq
  obtain ⟨j, -, hj⟩ := hq
  split at hj
  · cases hj
  · rename_i hn
    cases hj
    exact h.2.2 j hn
theorem cat_nlg {ad : Nat → Nat} {w : Value} (h : nlg w ≠ .null) : nlg w = w ∧ ¬ (tr ad w).category = 2 := by
  cases w <;> first | exact absurd rfl h | exact ⟨rfl, by simp [tr, Value.category]⟩
theorem Lr.of {ad : Nat → Nat} {ls : List Value} {lsA ls' : Array Slot} {nL i : Nat} {v : Value} (h : Lr ad ls lsA nL) (hi : i < nL)
    (hh : lv_has ls' nL ((i, tr ad v) :: (lvl ad ls).filter (fun q => !(q.1 == i) && !(q.1 + 1 == i && q.2.category == 2)))) : Lr ad (lpt ls i v) ls' nL := by
  refine ⟨⟨hh.1, hh.2.1, fun q hq => absurd hq List.not_mem_nil⟩, by rw [lpt_len]; exact h.2.1, fun j hj => ?_⟩
  rw [lgt_lpt ls i v j (by rw [h.2.1]; exact hi)] at hj ⊢
  by_cases h1 : j = i
  · subst h1
    rw [if_pos rfl]
    exact hh.2.2 _ List.mem_cons_self
  · rw [if_neg h1] at hj ⊢
    by_cases h2 : j + 1 = i
    · rw [if_pos h2] at hj ⊢
      obtain ⟨e, hc⟩ := cat_nlg (ad := ad) hj
      rw [e] at hj ⊢
      refine hh.2.2 (j, tr ad (lgt ls j)) (List.mem_cons_of_mem _ (List.mem_filter.mpr ⟨lvl_mem hj, ?_⟩))
      simp [h1, hc]
    · rw [if_neg h2] at hj ⊢
      refine hh.2.2 (j, tr ad (lgt ls j)) (List.mem_cons_of_mem _ (List.mem_filter.mpr ⟨lvl_mem hj, ?_⟩))
      simp [h1, h2]
theorem lvl_at {ad : Nat → Nat} {ls : List Value} {i : Nat} {x : Int32} (h : lgt ls i = .int x) : ∃ k : Nat, (lvl ad ls)[k]? = some (i, Value.int x) := by
  have h1 : (i, tr ad (lgt ls i)) ∈ lvl ad ls := lvl_mem (by rw [h]; exact fun e => by cases e)
  rw [h] at h1
  exact List.getElem?_of_mem h1
theorem Lr.int {ad : Nat → Nat} {ls : List Value} {lsA : Array Slot} {nL i : Nat} {x : Int32} (h : Lr ad ls lsA nL) (e : lgt ls i = .int x) : lsA[i]? = some (.val (.int x)) := by
  have := h.2.2 i (by rw [e]; exact fun q => by cases q)
  rwa [e] at this
theorem Lr.long {ad : Nat → Nat} {ls : List Value} {lsA : Array Slot} {nL i : Nat} {x : Int64} (h : Lr ad ls lsA nL) (e : lgt ls i = .long x) : lsA[i]? = some (.val (.long x)) := by
  have := h.2.2 i (by rw [e]; exact fun q => by cases q)
  rwa [e] at this
theorem Lr.ref {ad : Nat → Nat} {ls : List Value} {lsA : Array Slot} {nL i x : Nat} (h : Lr ad ls lsA nL) (e : lgt ls i = .ref x) : lsA[i]? = some (.val (.ref (ad x))) := by
  have := h.2.2 i (by rw [e]; exact fun q => by cases q)
  rwa [e] at this
theorem lgt_lfl : ∀ (n : Nat) (l : List Value) (j : Nat), lgt (lfl n l) j ≠ .null → lgt (lfl n l) j = lgt l j
  | 0, _, _, h => absurd rfl h
  | n + 1, [], j, h => by
    cases j with
    | zero => exact absurd rfl h
    | succ j =>
      have := lgt_lfl n [] j h
      show lgt (lfl n []) j = .null
      rw [this]; rfl
  | n + 1, v :: t, j, h => by
    cases j with
    | zero => rfl
    | succ j => exact lgt_lfl n t j h
theorem lfl_len : ∀ (n : Nat) (l : List Value), (lfl n l).length = n
  | 0, _ => rfl
  | n + 1, [] => by show (lfl n []).length + 1 = _; rw [lfl_len n]
  | n + 1, _ :: t => by show (lfl n t).length + 1 = _; rw [lfl_len n]
theorem lay_args {ad : Nat → Nat} : ∀ (as : List Value) (o j : Nat), lgt (lay as) j ≠ .null → (o + j, tr ad (lgt (lay as) j)) ∈ lv_args o (as.map (tr ad))
  | [], _, _, h => absurd rfl h
  | v :: t, o, j, h => by
    have ih := lay_args (ad := ad) t
    cases v with
    | long x =>
      match j, h with
      | 0, _ => exact List.mem_cons_self
      | 1, h => exact absurd rfl h
      | j + 2, h =>
        have := ih (o + 2) j h
        rw [show o + 2 + j = o + (j + 2) by omega] at this
        exact List.mem_cons_of_mem _ this
    | double x =>
      match j, h with
      | 0, _ => exact List.mem_cons_self
      | 1, h => exact absurd rfl h
      | j + 2, h =>
        have := ih (o + 2) j h
        rw [show o + 2 + j = o + (j + 2) by omega] at this
        exact List.mem_cons_of_mem _ this
    | _ =>
      match j, h with
      | 0, _ => exact List.mem_cons_self
      | j + 1, h =>
        have := ih (o + 1) j h
        rw [show o + 1 + j = o + (j + 1) by omega] at this
        exact List.mem_cons_of_mem _ this
theorem lay_len {ad : Nat → Nat} : ∀ as : List Value, (lg_sl (as.map (tr ad))).length = (lay as).length
  | [] => rfl
  | v :: t => by
    have ih := lay_len (ad := ad) t
    have e : ∀ (w : Value) (r : List Value), (lg_sl (w :: r)).length = (if w.category = 2 then 2 else 1) + (lg_sl r).length := fun w r => by
      unfold lg_sl
      rw [List.flatMap_cons, List.length_append]
      split <;> rfl
    rw [List.map_cons, e, ih]
    cases v <;> simp [lay, tr, Value.category] <;> omega
theorem Lr.start {ad : Nat → Nat} {as : List Value} {n : Nat} (h : (lay as).length ≤ n) : Lr ad (lfl n (lay as)) ((lg_sl (as.map (tr ad)) ++ List.replicate (n - (lg_sl (as.map (tr ad))).length) Slot.unset).toArray) n := by
  have h0 := lv_entry (as.map (tr ad)) (n := n) (by rw [lay_len]; exact h)
  refine ⟨⟨h0.1, h0.2.1, fun q hq => absurd hq List.not_mem_nil⟩, lfl_len n _, fun i hi => ?_⟩
  have e := lgt_lfl n _ i hi
  rw [e] at hi ⊢
  have := lay_args (ad := ad) as 0 i hi
  rw [Nat.zero_add] at this
  exact h0.2.2 _ this
end
section
/-! what the tables say, for the words that are used -/
theorem an {a b : Bool} (h : (a && b) = true) : a = true ∧ b = true := by cases a <;> cases b <;> simp_all
theorem orr {a b : Bool} (h : (a || b) = true) : a = true ∨ b = true := by cases a <;> cases b <;> simp_all
theorem beqN {a b : Nat} (h : Nat.beq a b = true) : a = b := Nat.eq_of_beq_eq_true h
theorem bltN {a b : Nat} (h : Nat.blt a b = true) : a < b := Nat.le_of_ble_eq_true h
abbrev TBg : List Cond := lw_tbl.filter goodWord
theorem mem_good {w : Cond} (h : w ∈ lw_tbl) (g : goodWord w = true) : w ∈ TBg := List.mem_filter.mpr ⟨h, g⟩
theorem tb_app (w : Cond) (h : w ∈ tables_1) : w ∈ lw_tbl := List.mem_append_right _ h
theorem qs_in : ∀ q ∈ QS, dw q ∈ lw_tbl := by
  intro q hq
  unfold QS at hq
  rcases List.mem_append.mp hq with h | h
  · exact List.mem_append_left _ (by rw [← qs_0]; exact List.mem_map.mpr ⟨q, h, rfl⟩)
  refine tb_app _ ?_
  unfold tables_1
  rcases List.mem_append.mp h with h | h
  · exact List.mem_append_left _ (dw_in qs_1 q h)
  rcases List.mem_append.mp h with h | h
  · exact List.mem_append_right _ (List.mem_append_left _ (dw_in qs_2 q h))
  rcases List.mem_append.mp h with h | h
  · exact List.mem_append_right _ (List.mem_append_right _ (List.mem_append_left _ (dw_in qs_3 q h)))
  rcases List.mem_append.mp h with h | h
  · exact List.mem_append_right _ (List.mem_append_right _ (List.mem_append_right _ (List.mem_append_left _ (dw_in qs_4 q h))))
  rcases List.mem_append.mp h with h | h
  · exact List.mem_append_right _ (List.mem_append_right _ (List.mem_append_right _ (List.mem_append_right _ (List.mem_append_left _ (dw_in qs_5 q h)))))
  rcases List.mem_append.mp h with h | h
  · exact List.mem_append_right _ (List.mem_append_right _ (List.mem_append_right _ (List.mem_append_right _ (List.mem_append_right _ (List.mem_append_left _ (dw_in qs_6 q h))))))
  rcases List.mem_append.mp h with h | h
  · exact List.mem_append_right _ (List.mem_append_right _ (List.mem_append_right _ (List.mem_append_right _ (List.mem_append_right _ (List.mem_append_right _ (List.mem_append_left _ (dw_in qs_7 q h)))))))
  rcases List.mem_append.mp h with h | h
  · exact List.mem_append_right _ (List.mem_append_right _ (List.mem_append_right _ (List.mem_append_right _ (List.mem_append_right _ (List.mem_append_right _ (List.mem_append_right _ (List.mem_append_left _ (dw_in qs_8 q h))))))))
  exact List.mem_append_right _ (List.mem_append_right _ (List.mem_append_right _ (List.mem_append_right _ (List.mem_append_right _ (List.mem_append_right _ (List.mem_append_right _ (List.mem_append_right _ (dw_in qs_9 q h))))))))
theorem wd_of {p : Nat} {q : Qw} (h : wdi p q = true) : dw q ∈ lw_tbl := qs_in q (List.mem_of_getElem? (of_decide_eq_true h))
theorem wx_of {p : Nat} {w : Cond} (h : wdx p w = true) : w ∈ lw_tbl := spx_in w (List.mem_of_getElem? (of_decide_eq_true h))
def kT (x : Nat) : u_T := match vwCl[x]? with
  | some q => q.2.1
  | none => fun _ => ("", "", "", false)
theorem fnm_kT (x y : Nat) : fnm x y = kT x y := by unfold fnm kT; generalize vwCl[x]? = o; cases o <;> rfl
theorem vw_at : ∀ x, x < 12 → vwCl[x]? = some (ocl x, kT x, nf x)
  | 0, _ => rfl
  | 1, _ => rfl
  | 2, _ => rfl
  | 3, _ => rfl
  | 4, _ => rfl
  | 5, _ => rfl
  | 6, _ => rfl
  | 7, _ => rfl
  | 8, _ => rfl
  | 9, _ => rfl
  | 10, _ => rfl
  | 11, _ => rfl
  | n + 12, h => absurd h (by omega)
def kY (x : Nat) : Nat → FieldType := match x with
  | 0 => tyX0
  | 1 => tyX1
  | 2 => tyX2
  | 3 => tyX4
  | 4 => tyX5
  | 5 => tyX6
  | 6 => tyX7
  | 7 => tyX8
  | 8 => tyX9
  | 9 => tyX10
  | 10 => tyX11
  | 11 => tyX12
  | _ => fun _ => .int
theorem kY_ok : ∀ x, x < 12 → ∀ k, k < nf x → parseFieldDescriptor (kT x k).2.2.1 = some (kY x k)
  | 0, _ => tyX0_ok
  | 1, _ => tyX1_ok
  | 2, _ => tyX2_ok
  | 3, _ => tyX4_ok
  | 4, _ => tyX5_ok
  | 5, _ => tyX6_ok
  | 6, _ => tyX7_ok
  | 7, _ => tyX8_ok
  | 8, _ => tyX9_ok
  | 9, _ => tyX10_ok
  | 10, _ => tyX11_ok
  | 11, _ => tyX12_ok
  | n + 12, h => absurd h (by omega)
theorem kN_ok : ∀ x, x < 12 → ∀ a, a < nf x → ∀ b, b < nf x → a ≠ b → (kT x a).2.1 ≠ (kT x b).2.1
  | 0, _ => nmX0
  | 1, _ => nmX1
  | 2, _ => nmX2
  | 3, _ => nmX4
  | 4, _ => nmX5
  | 5, _ => nmX6
  | 6, _ => nmX7
  | 7, _ => nmX8
  | 8, _ => nmX9
  | 9, _ => nmX10
  | 10, _ => nmX11
  | 11, _ => nmX12
  | n + 12, h => absurd h (by omega)
/-- a field's kind is as its type says -/
theorem fk_ok : ∀ x, x < 12 → ∀ y, y < nf x → (match fk x y with
  | 0 => decide (kY x y = .int) && !(kT x y).2.2.2
  | 1 => true
  | 2 => fits (kY x y) (.ref 0) && !(kT x y).2.2.2
  | 3 => decide (kY x y = .boolean) && !(kT x y).2.2.2
  | _ => false) = true := by decide +kernel
theorem nf_lt : ∀ x, x < 12 → nf x < 100 := by decide +kernel
set_option maxRecDepth 100000 in
theorem uws_0 : (u_ws (ocl 0) (kT 0) (nf 0)).map some = ([432, 434, 436, 438, 440, 442] : List Nat).map (fun p => lw_tbl[p]?) := rfl
set_option maxRecDepth 100000 in
theorem uws_1 : (u_ws (ocl 1) (kT 1) (nf 1)).map some = ([459, 461, 463, 465, 467, 469, 471] : List Nat).map (fun p => lw_tbl[p]?) := rfl
set_option maxRecDepth 100000 in
theorem uws_2 : (u_ws (ocl 2) (kT 2) (nf 2)).map some = ([326, 328, 330, 332, 334, 336, 338, 340, 342, 344, 346] : List Nat).map (fun p => lw_tbl[p]?) := rfl
set_option maxRecDepth 100000 in
theorem uws_3 : (u_ws (ocl 3) (kT 3) (nf 3)).map some = ([484, 486, 488, 490] : List Nat).map (fun p => lw_tbl[p]?) := rfl
set_option maxRecDepth 100000 in
theorem uws_4 : (u_ws (ocl 4) (kT 4) (nf 4)).map some = ([278, 280, 282, 284, 286, 288, 290, 292, 294, 296, 298] : List Nat).map (fun p => lw_tbl[p]?) := rfl
set_option maxRecDepth 100000 in
theorem uws_5 : (u_ws (ocl 5) (kT 5) (nf 5)).map some = ([400, 402, 404, 406, 408, 410, 412, 414, 416] : List Nat).map (fun p => lw_tbl[p]?) := rfl
set_option maxRecDepth 100000 in
theorem uws_6 : (u_ws (ocl 6) (kT 6) (nf 6)).map some = ([232, 234, 236, 238, 240] : List Nat).map (fun p => lw_tbl[p]?) := rfl
set_option maxRecDepth 100000 in
theorem uws_7 : (u_ws (ocl 7) (kT 7) (nf 7)).map some = ([194, 196, 198, 200, 202] : List Nat).map (fun p => lw_tbl[p]?) := rfl
set_option maxRecDepth 100000 in
theorem uws_8 : (u_ws (ocl 8) (kT 8) (nf 8)).map some = ([516, 518, 520, 522, 524, 526, 528, 530, 532] : List Nat).map (fun p => lw_tbl[p]?) := rfl
set_option maxRecDepth 100000 in
theorem uws_9 : (u_ws (ocl 9) (kT 9) (nf 9)).map some = ([366, 368, 370, 372, 374, 376, 378, 380, 382] : List Nat).map (fun p => lw_tbl[p]?) := rfl
set_option maxRecDepth 100000 in
theorem uws_10 : (u_ws (ocl 10) (kT 10) (nf 10)).map some = ([553, 555, 557, 559, 561, 563, 565, 567, 569, 571, 573, 575, 577, 579, 581, 583, 585, 587] : List Nat).map (fun p => lw_tbl[p]?) := rfl
set_option maxRecDepth 100000 in
theorem uws_11 : (u_ws (ocl 11) (kT 11) (nf 11)).map some = ([1400, 1402, 1404, 1406, 1408, 1410, 1412, 1414, 1416, 1418, 1420, 1422, 1424, 1426, 1428, 1430, 1432, 1434, 1436, 1438, 1440, 1442, 1444, 1446, 1448, 1450, 1452, 1454, 1456, 1458, 1460, 1462, 1464, 1466, 1468, 1470, 1472, 1474, 1476, 1478, 1480, 1482, 1484, 1486, 1488, 1490, 1492, 1494, 1496, 1498, 1500, 1502, 1504, 1506, 1508, 1510, 1512, 1514, 1516, 1518, 1520, 1522, 1524, 1526, 1528, 1530, 1532, 1534, 1536, 1538, 1540, 1542, 1544, 1546, 1548, 1550, 1552, 1554, 1556, 1558, 1560, 1562, 1564, 1566, 1568] : List Nat).map (fun p => lw_tbl[p]?) := rfl
theorem lst_in {T ws : List Cond} {ps : List Nat} (h : ws.map some = ps.map (fun p => T[p]?)) : ∀ w ∈ ws, w ∈ T := by
  intro w hw
  have h1 : some w ∈ ws.map some := List.mem_map.mpr ⟨w, hw, rfl⟩
  rw [h] at h1
  obtain ⟨p, -, hp⟩ := List.mem_map.mp h1
  exact List.mem_of_getElem? hp
theorem u_good {C : String} {T : u_T} {N : Nat} {w : Cond} (h : w ∈ u_ws C T N) : goodWord w = true := by
  obtain ⟨k, -, rfl⟩ := List.mem_map.mp h
  unfold u_lay
  split <;> rfl
theorem uws_in : ∀ x, x < 12 → ∀ w ∈ u_ws (ocl x) (kT x) (nf x), w ∈ TBg
  | 0, _ => fun w h => mem_good (lst_in uws_0 w h) (u_good h)
  | 1, _ => fun w h => mem_good (lst_in uws_1 w h) (u_good h)
  | 2, _ => fun w h => mem_good (lst_in uws_2 w h) (u_good h)
  | 3, _ => fun w h => mem_good (lst_in uws_3 w h) (u_good h)
  | 4, _ => fun w h => mem_good (lst_in uws_4 w h) (u_good h)
  | 5, _ => fun w h => mem_good (lst_in uws_5 w h) (u_good h)
  | 6, _ => fun w h => mem_good (lst_in uws_6 w h) (u_good h)
  | 7, _ => fun w h => mem_good (lst_in uws_7 w h) (u_good h)
  | 8, _ => fun w h => mem_good (lst_in uws_8 w h) (u_good h)
  | 9, _ => fun w h => mem_good (lst_in uws_9 w h) (u_good h)
  | 10, _ => fun w h => mem_good (lst_in uws_10 w h) (u_good h)
  | 11, _ => fun w h => mem_good (lst_in uws_11 w h) (u_good h)
  | n + 12, h => absurd h (by omega)
end
section
/-! inversions: what a step that comes to an end has found -/
theorem nsm {α : Type} {q : α} (h : (none : Option α) = some q) : False := by cases h
theorem u1_inv {st : List Value} {f : Int32 → List Value → Rs} {q} (h : u1 st f = some q) : ∃ a r, st = .int a :: r ∧ f a r = some q := by
  unfold u1 at h; dsimp only at h; split at h
  · exact ⟨_, _, rfl, h⟩
  · exact (nsm h).elim
theorem b2_inv {st : List Value} {f : Int32 → Int32 → List Value → Rs} {q} (h : b2 st f = some q) : ∃ a b r, st = .int b :: .int a :: r ∧ f a b r = some q := by
  unfold b2 at h; dsimp only at h; split at h
  · exact ⟨_, _, _, rfl, h⟩
  · exact (nsm h).elim
theorem mm2_inv {st : List Value} {f : Int32 → Int32 → List Value → Rs} {q} (h : mm2 st f = some q) : ∃ a b r, st = .int b :: .int a :: r ∧ r.length ≤ 4 ∧ f a b r = some q := by
  unfold mm2 at h; dsimp only at h; split at h
  · split at h
    · rename_i e; exact ⟨_, _, _, rfl, Nat.le_of_ble_eq_true e, h⟩
    · exact (nsm h).elim
  · exact (nsm h).elim
theorem l2_inv {st : List Value} {f : Int64 → Int64 → List Value → Rs} {q} (h : l2 st f = some q) : ∃ a b r, st = .long b :: .long a :: r ∧ f a b r = some q := by
  unfold l2 at h; dsimp only at h; split at h
  · exact ⟨_, _, _, rfl, h⟩
  · exact (nsm h).elim
theorem ra_inv {st : List Value} {f : Nat → List Value → Rs} {q} (h : ra st f = some q) : ∃ a r, st = .ref a :: r ∧ f a r = some q := by
  unfold ra at h; dsimp only at h; split at h
  · exact ⟨_, _, rfl, h⟩
  · exact (nsm h).elim
theorem rai_inv {st : List Value} {f : Nat → Int32 → List Value → Rs} {q} (h : rai st f = some q) : ∃ a i r, st = .int i :: .ref a :: r ∧ f a i r = some q := by
  unfold rai at h; dsimp only at h; split at h
  · exact ⟨_, _, _, rfl, h⟩
  · exact (nsm h).elim
theorem raii_inv {st : List Value} {f : Nat → Int32 → Int32 → List Value → Rs} {q} (h : raii st f = some q) : ∃ a i v r, st = .int v :: .int i :: .ref a :: r ∧ f a i v r = some q := by
  unfold raii at h; dsimp only at h; split at h
  · exact ⟨_, _, _, _, rfl, h⟩
  · exact (nsm h).elim
theorem raij_inv {st : List Value} {f : Nat → Int32 → Int64 → List Value → Rs} {q} (h : raij st f = some q) : ∃ a i v r, st = .long v :: .int i :: .ref a :: r ∧ f a i v r = some q := by
  unfold raij at h; dsimp only at h; split at h
  · exact ⟨_, _, _, _, rfl, h⟩
  · exact (nsm h).elim
theorem gd_inv {k a : Nat} {X : Rs} {q} (h : gdK k a X = some q) : (SH a).1 = k ∧ X = some q := by
  unfold gdK at h; split at h
  · rename_i e; exact ⟨beqN e, h⟩
  · exact (nsm h).elim
theorem bnd_inv {i : Int32} {n : Nat} {X : Rs} {q} (h : bnd i n X = some q) : vp_in i n ∧ X = some q := by
  unfold bnd at h; split at h
  · exact (nsm h).elim
  · rename_i e; exact ⟨e, h⟩
theorem c1_cat {ad : Nat → Nat} {v : Value} (h : c1 v = true) : (tr ad v).category = 1 := by
  cases v <;> first | rfl | exact absurd (show false = true from h) (by decide)
/-! places in a listing -/
def Suf (cd s : Cod) : Prop := ∃ pre, cd = pre ++ s
def hdp (pc : Nat) (s : Cod) : Prop := ∀ it tl, s = it :: tl → it.1 = pc
theorem Suf.tl {cd tl : Cod} {it : Itm} (h : Suf cd (it :: tl)) : Suf cd tl := by
  obtain ⟨pre, e⟩ := h
  exact ⟨pre ++ [it], by rw [e]; simp⟩
theorem Suf.mem {cd tl : Cod} {it : Itm} (h : Suf cd (it :: tl)) : it ∈ cd := by
  obtain ⟨pre, e⟩ := h
  rw [e]; simp
theorem chn_suf : ∀ (pre : Cod) {s : Cod}, chn (pre ++ s) = true → chn s = true
  | [], _, h => h
  | _ :: t, _, h => chn_suf t (an h).2
theorem Suf.nx {cd tl : Cod} {it : Itm} (h : Suf cd (it :: tl)) (hc : chn cd = true) : hdp (it.1 + it.2.2.1) tl := by
  obtain ⟨pre, e⟩ := h
  rw [e] at hc
  have h1 := chn_suf pre hc
  intro b t et
  subst et
  exact beqN (an h1).1
theorem jmp_suf : ∀ (cd : Cod) (x : Nat), Suf cd (jmp cd x)
  | [], _ => ⟨[], rfl⟩
  | it :: tl, x => by
    unfold jmp
    split
    · exact ⟨[], rfl⟩
    · obtain ⟨pre, e⟩ := jmp_suf tl x
      exact ⟨it :: pre, by rw [List.cons_append, ← e]⟩
theorem jmp_hd : ∀ (cd : Cod) (x : Nat), hdp x (jmp cd x)
  | [], _ => fun _ _ h => by cases h
  | it :: tl, x => by
    intro b t et
    unfold jmp at et
    split at et
    · rename_i e
      cases et
      exact beqN e
    · exact jmp_hd tl x b t et
/-! statics, the script, the nest's words -/
def FG (sc : Scr) (ad : Nat → Nat) (A : Nat → Prop) (U : State) (H : Heap) : Prop :=
  va_T .char (ad 1) 8 (fun j => .int (FC 1 j)) A U H ∧ va_T .int (ad 2) 7 (fun j => .int (FC 2 j)) A U H ∧ va_T .char (ad 3) 8 (fun j => .int (FC 3 j)) A U H ∧
  va_Z "NamedToWed" "STEP_LETTERS" "[C" (.ref (ad 1)) A U H ∧ va_Z "NamedToWed$Changes" "FACTORIALS" "[I" (.ref (ad 2)) A U H ∧ va_Z "NamedToWed$LawReader" "LETTERS" "[C" (.ref (ad 3)) A U H
def FS (sc : Scr) (ad : Nat → Nat) (A : Nat → Prop) (U : State) (H : Heap) : Prop := va_T .int (ad 0) (sc.1 - 1) (fun j => .int (sc.2 j)) A U H
def isNw : Cond → Bool
  | .methodLinkNest _ _ _ _ => true
  | .fieldLinkNest _ _ _ _ _ _ => true
  | _ => false
def NWs (U : State) : Prop := ∀ w ∈ lw_tbl, isNw w = true → va_Nw w U
theorem NWs.warm {s U : State} (hW : s.WarmedH U.vm) (h : NWs s) : NWs U := by
  intro w hw hn
  have h1 := h w hw hn
  cases w <;> first | exact va_Nw.warmF hW h1 | exact va_Nw.warmM hW h1 | exact absurd (show false = true from hn) (by decide)
theorem FG.kept {sc : Scr} {ad : Nat → Nat} {A : Nat → Prop} {U U' : State} {H H1 : Heap} (h : FG sc ad A U H) (hvm : U.vm.Alike U'.vm) (hq : ∀ a : Nat, a < H.size → ¬ A a → H1[a]? = H[a]?) : FG sc ad A U' H1 :=
  ⟨(h.1.kept hq).moved hvm, (h.2.1.kept hq).moved hvm, (h.2.2.1.kept hq).moved hvm, (h.2.2.2.1.kept hq).moved hvm, (h.2.2.2.2.1.kept hq).moved hvm, (h.2.2.2.2.2.kept hq).moved hvm⟩
/-! contracts -/
def mws (k : Nat) : List Cond := Cond.code (mY k) (mby k) (mmL k) (mret k) :: TBg
def mrm (d : Nat) : Room := { frames := d, cells := 0, slots := 0, locals := 60 * d }
def PreB (D : va_G) (cy : Nat → ClassId) (ad : Nat → Nat) (A : Nat → Prop) (σ : Sg) (U : State) : Prop := va_K D vwCl (tyA cy) U ∧ Rp D cy ad A σ U.heap ∧ FG sc0 ad A U U.heap ∧ NWs U
def PreA (D : va_G) (cy : Nat → ClassId) (ad : Nat → Nat) (A : Nat → Prop) (as : List Value) (σ : Sg) : Array Value → State → Prop := va_Pc (as.map (tr ad)) (PreB D cy ad A σ)
def PoB (D : va_G) (cy : Nat → ClassId) (ad : Nat → Nat) (A : Nat → Prop) (σ : Sg) (t : State) : Prop := va_K D vwCl (tyA cy) t ∧ Rp D cy ad A σ t.heap
def PosA (D : va_G) (cy : Nat → ClassId) (ad : Nat → Nat) (A : Nat → Prop) (o : Option Value) (σ : Sg) : Array Value → State → Outcome → State → Prop := match o with
  | none => va_Qv (fun (_ : Unit) => True) (fun _ => PoB D cy ad A σ) A
  | some (.int v) => va_Qi (fun r (_ : Unit) => r = v) (fun _ => PoB D cy ad A σ) A
  | some (.long v) => va_Ql (fun r (_ : Unit) => r = v) (fun _ => PoB D cy ad A σ) A
  | _ => fun _ _ _ _ => False
def CalOK (l : Launch) (D : va_G) (cy : Nat → ClassId) (ad : Nat → Nat) (A : Nat → Prop) (cal : Nat → List Value → Sg → Rs) (d : Nat) : Prop :=
  ∀ x as σ o σ', x < 340 → okB x = true → cal x as σ = some (o, σ') → Met l (mY x) (mws x) (mrm d) (PreA D cy ad A as σ) (PosA D cy ad A o σ') 0 0 A
/-- what a walk stands on -/
def Cx (p : Program) (R : Room) (s : State) (m : MethodId) (args : Array Value) (c : Code) (sc : Scr) (D : va_G) (cy : Nat → ClassId) (ad : Nat → Nat) (A : Nat → Prop) (cc : ByteArray) (mL own d : Nat) : Prop :=
  (p.tables.exec = Jvm.exec ∧ c.code = cc ∧ c.maxLocals = mL ∧ s.vm.findClass (ocl own) = some m.cls ∧ (∀ w ∈ TBg, w.before args s = true)) ∧
  va_K D vwCl (tyA cy) s ∧ FG sc ad A s s.heap ∧ (sc.1 = 0 ∨ FS sc ad A s s.heap) ∧ NWs s ∧ (d + 1 ≤ R.frames ∧ 60 + 60 * d ≤ R.locals)
theorem blindP {D : va_G} {cy : Nat → ClassId} {ad : Nat → Nat} {A : Nat → Prop} {as : List Value} {σ : Sg} : FrameBlind (PreA D cy ad A as σ) := by
  intro a U g mk h
  obtain ⟨h0, h1, h2, h3, h4⟩ := h
  refine ⟨h0, va_K.moved (u := U) (U := U.calling g mk a) (Vm.Alike.refl U.vm) h1, h2, h3.kept (U' := U.calling g mk a) (Vm.Alike.refl U.vm) (fun _ _ _ => rfl), ?_⟩
  exact NWs.warm (s := U) (State.WarmedH.refl U) h4
theorem cat_le : ∀ {r : List Value}, r.length ≤ 4 → (r.map fun v => v.category).sum ≤ 8 := by
  intro r h
  have : ∀ l : List Value, (l.map fun v => v.category).sum ≤ 2 * l.length := by
    intro l
    induction l with
    | nil => simp
    | cons v t ih =>
      have : v.category ≤ 2 := by cases v <;> simp [Value.category]
      simp only [List.map_cons, List.sum_cons, List.length_cons]
      omega
  have := this r
  omega
theorem SH_17 : ∀ a, Nat.beq (SH a).1 17 = true → a = 2 := by
  intro a h
  rcases Nat.lt_or_ge a 158 with q | q
  · exact (by decide +kernel : ∀ a, a < 158 → Nat.beq (SH a).1 17 = true → a = 2) a q h
  · rw [SH_big q] at h; exact absurd h (by decide)
theorem SH_18 : ∀ a, Nat.beq (SH a).1 18 = true → a = 1 ∨ a = 3 := by
  intro a h
  rcases Nat.lt_or_ge a 158 with q | q
  · exact (by decide +kernel : ∀ a, a < 158 → Nat.beq (SH a).1 18 = true → a = 1 ∨ a = 3) a q h
  · rw [SH_big q] at h; exact absurd h (by decide)
theorem SH_16 : ∀ a, Nat.beq (SH a).1 16 = true → a = 0 := by
  intro a h
  rcases Nat.lt_or_ge a 158 with q | q
  · exact (by decide +kernel : ∀ a, a < 158 → Nat.beq (SH a).1 16 = true → a = 0) a q h
  · rw [SH_big q] at h; exact absurd h (by decide)
/-! what is written stands in the store -/
section Wr
variable {D : va_G} {cy : Nat → ClassId} {ad : Nat → Nat} {A : Nat → Prop} {σ : Sg} {a x y : Nat}
theorem at_obj (h : (SH a).1 = x) (hx : x < 12) : (wsA cy ad σ)[a - 4]? = some (ad a, .inr (x, (List.range (nf x)).map (fdV ad σ a x))) := by
  obtain ⟨h1, h2⟩ := SH_id (a := a) (by omega)
  rw [wsA_at h1 h2, enA_obj h hx]
theorem at_int (h : (SH a).1 = x) (hx : x = 12 ∨ x = 13 ∨ x = 14) : (wsA cy ad σ)[a - 4]? = some (ad a, .inl (cy x, (SH a).2, .inl (σ.1 a))) := by
  obtain ⟨h1, h2⟩ := SH_id (a := a) (by omega)
  rw [wsA_at h1 h2, enA_int h hx]
theorem at_long (h : (SH a).1 = 15) : (wsA cy ad σ)[a - 4]? = some (ad a, .inl (cy 15, (SH a).2, .inr (.inl (σ.2.1 a)))) := by
  obtain ⟨h1, h2⟩ := SH_id (a := a) (by omega)
  rw [wsA_at h1 h2, enA_long h]
theorem set_pI {v : Int32} (h : (SH a).1 = x) (hx : x < 12) (h1 : fk x y ≠ 1) (h2 : fk x y ≠ 2) :
    (wsA cy ad σ).set (a - 4) (ad a, .inr (x, ((List.range (nf x)).map (fdV ad σ a x)).set y (.int v))) = wsA cy ad (sI σ a y v) := by
  obtain ⟨q1, q2⟩ := SH_id (a := a) (by omega)
  rw [← wsA_set (σ' := sI σ a y v) (a := a) q1 (fun b hb => enA_congr (sI_ne hb) rfl rfl), enA_obj h hx]
  rw [range_set (g := fdV ad (sI σ a y v) a x)]
  · unfold fdV
    split
    · rename_i e; exact absurd e h1
    · rename_i e; exact absurd e h2
    · simp [sI]
  · intro j hj
    unfold fdV
    split
    · rfl
    · rfl
    · simp [sI, hj]
theorem set_pR {v : Nat} (h : (SH a).1 = x) (hx : x < 12) (h2 : fk x y = 2) :
    (wsA cy ad σ).set (a - 4) (ad a, .inr (x, ((List.range (nf x)).map (fdV ad σ a x)).set y (.ref (ad v)))) = wsA cy ad (sR σ a y v) := by
  obtain ⟨q1, q2⟩ := SH_id (a := a) (by omega)
  rw [← wsA_set (σ' := sR σ a y v) (a := a) q1 (fun b hb => enA_congr (σ := σ) (σ' := sR σ a y v) rfl rfl (sR_ne hb)), enA_obj h hx]
  rw [range_set (g := fdV ad (sR σ a y v) a x)]
  · unfold fdV
    rw [h2]
    simp [sR]
  · intro j hj
    unfold fdV
    split
    · rfl
    · simp [sR, hj]
    · rfl
theorem set_aI {i : Nat} {v : Int32} (h : (SH a).1 = x) (hx : x = 12 ∨ x = 13 ∨ x = 14) :
    (wsA cy ad σ).set (a - 4) (ad a, .inl (cy x, (SH a).2, .inl (upd (σ.1 a) i v))) = wsA cy ad (sI σ a i v) := by
  obtain ⟨q1, q2⟩ := SH_id (a := a) (by omega)
  rw [← wsA_set (σ' := sI σ a i v) (a := a) q1 (fun b hb => enA_congr (sI_ne hb) rfl rfl), enA_int h hx, sI_self]
theorem set_aJ {i : Nat} {v : Int64} (h : (SH a).1 = 15) :
    (wsA cy ad σ).set (a - 4) (ad a, .inl (cy 15, (SH a).2, .inr (.inl (vp_updL (σ.2.1 a) i v)))) = wsA cy ad (sJ σ a i v) := by
  obtain ⟨q1, q2⟩ := SH_id (a := a) (by omega)
  rw [← wsA_set (σ' := sJ σ a i v) (a := a) q1 (fun b hb => enA_congr (σ := σ) (σ' := sJ σ a i v) rfl (sJ_ne hb) rfl), enA_long h, sJ_self]
theorem set_aC {a0 sp dp n : Nat} (h : (SH a).1 = 14) :
    (wsA cy ad σ).set (a - 4) (ad a, .inl (cy 14, (SH a).2, .inl (va_cpy (σ.1 a0) (σ.1 a) sp dp n))) = wsA cy ad (sC σ a0 a sp dp n) := by
  obtain ⟨q1, q2⟩ := SH_id (a := a) (by omega)
  rw [← wsA_set (σ' := sC σ a0 a sp dp n) (a := a) q1 (fun b hb => enA_congr (sC_ne hb) rfl rfl), enA_int h (.inr (.inr rfl)), sC_self]
theorem fdV_at {k : Nat} (hy : y < k) : ((List.range k).map (fdV ad σ a x))[y]? = some (fdV ad σ a x y) := by
  rw [List.getElem?_map, List.getElem?_range hy]; rfl
end Wr
end
section
/-! THE STEPS -/
section Sim
variable {p : Program} {l : Launch} {e : Env} {R : Room} {s : State} {m : MethodId} {args : Array Value} {below : List Frame} {meth : Method} {c : Code} {locs : List Loc} {cells slots : Nat} {Q : State → Prop}
variable {sc : Scr} {D : va_G} {cy : Nat → ClassId} {ad : Nat → Nat} {A : Nat → Prop} {cc : ByteArray} {mL own d : Nat} {cd : Cod} {cal : Nat → List Value → Sg → Rs}
/-- the walk from everywhere, n steps -/
def Go (p : Program) (l : Launch) (e : Env) (R : Room) (s : State) (m : MethodId) (args : Array Value) (below : List Frame) (meth : Method) (c : Code) (cells slots : Nat) (Q : State → Prop)
    (sc : Scr) (D : va_G) (cy : Nat → ClassId) (ad : Nat → Nat) (A : Nat → Prop) (mL : Nat) (cd : Cod) (cal : Nat → List Value → Sg → Rs) (q : Option Value × Sg) (n : Nat) : Prop :=
  ∀ (sx : Cod) (ls st : List Value) (σ : Sg) (H : Heap) (locs : List Loc) (lsA : Array Slot) (pc : Nat), Suf cd sx → hdp pc sx → Lr ad ls lsA mL → Rp D cy ad A σ H → va_S A s.heap H locs → run sc cal cd n sx ls st σ = some q →
    W p l e R s m args below meth c H locs cells slots Q (F0 m pc lsA (st.map (tr ad)))
/-- how a walk ends -/
def Fnd (p : Program) (l : Launch) (e : Env) (R : Room) (s : State) (m : MethodId) (args : Array Value) (below : List Frame) (meth : Method) (c : Code) (cells slots : Nat) (Q : State → Prop)
    (D : va_G) (cy : Nat → ClassId) (ad : Nat → Nat) (A : Nat → Prop) (cd : Cod) (q : Option Value × Sg) : Prop :=
  ∀ (it : Itm) (H : Heap) (locs : List Loc) (lsA : Array Slot), it ∈ cd → Rp D cy ad A q.2 H → va_S A s.heap H locs →
    (it.2.1 = .return_ → it.2.2.1 = 1 → q.1 = none → W p l e R s m args below meth c H locs cells slots Q (F0 m it.1 lsA [])) ∧
    (∀ v : Int32, it.2.1 = .ireturn → it.2.2.1 = 1 → q.1 = some (.int v) → (it.2.2.2.1 = 0 ∨ v = 0 ∨ v = 1) → W p l e R s m args below meth c H locs cells slots Q (F0 m it.1 lsA [.int v])) ∧
    (∀ v : Int64, it.2.1 = .lreturn → it.2.2.1 = 1 → q.1 = some (.long v) → W p l e R s m args below meth c H locs cells slots Q (F0 m it.1 lsA [.long v]))
theorem Lr.sz {ls : List Value} {lsA : Array Slot} (h : Lr ad ls lsA mL) : lsA.size = mL := h.1.1

theorem okI_st {own mL pc i len x y : Nat} {z : Int32} {tb : List (Int32 × Nat)} (h : okI own mL (pc, .invokestatic i, len, x, y, z, tb) = true) : len = 3 ∧
    (bif Nat.beq x 999 then wdx (pl1 tb) (.methodLink (ocl own) i arraycopyName)
        else (Nat.beq x 998 || (Nat.blt x 340 && Nat.beq (mkd x) 99 && Nat.beq y (mnp x) && (bif decide (z = 0) then wdi (pl1 tb) (1, own, i, x) else wdi (pl1 tb) (2, own, i, x))))) = true := by
  obtain ⟨a, b⟩ := an h
  exact ⟨beqN a, b⟩
theorem okI_vi {own mL pc i len x y : Nat} {z : Int32} {tb : List (Int32 × Nat)} (h : okI own mL (pc, .invokevirtual i, len, x, y, z, tb) = true) : len = 3 ∧
    (x = 998 ∨ x < 340 ∧ mkd x < 12 ∧ y = mnp x + 1 ∧ wdi (pl1 tb) (1, own, i, x) = true ∧ wdi (mpl x).2.2.2 (5, x, 0, 0) = true) := by
  obtain ⟨a, b⟩ := an h
  refine ⟨beqN a, ?_⟩
  rcases orr b with q | q
  · exact Or.inl (beqN q)
  · obtain ⟨q, q6⟩ := an q
    obtain ⟨q, q5⟩ := an q
    obtain ⟨q, -⟩ := an q
    obtain ⟨q, q3⟩ := an q
    obtain ⟨q1, q2⟩ := an q
    exact Or.inr ⟨bltN q1, bltN q2, beqN q3, q5, q6⟩
theorem okW_split {x : Nat} (h : okW x = true) : wdi (mpl x).1 (0, x, 0, 0) = true ∧ wdi (mpl x).2.1 (6, mow x, 0, 0) = true ∧ ocl (mow x) = (mY x).cls ∧
    ((mY x).cls ≠ "java/lang/invoke/MethodHandle" ∧ (mY x).cls ≠ "java/lang/invoke/VarHandle") ∧ (parseMethodDescriptor (mY x).desc).map (fun d => d.parameters.length) = some (mnp x) ∧
    (bif Nat.beq (mkd x) 99 then wdi (mpl x).2.2.1 (3, x, 0, 0)
     else (wdi (mpl x).2.2.1 (4, x, 0, 0) && decide ((vwCl[mkd x]?).map (fun q => q.1) = some (mY x).cls) && (decide ((mY x).name = "<init>") || wdi (mpl x).2.2.2 (5, x, 0, 0)))) = true := by
  unfold okW at h
  obtain ⟨h, h6⟩ := an h
  obtain ⟨h, h5⟩ := an h
  obtain ⟨h, h4⟩ := an h
  obtain ⟨h, h3⟩ := an h
  obtain ⟨h1, h2⟩ := an h
  exact ⟨h1, h2, of_decide_eq_true h3, of_decide_eq_true h4, of_decide_eq_true h5, h6⟩
theorem okW_of (hAll : ∀ k, k < 340 → okA k = true) {x : Nat} (hx : x < 340) (h1 : x ≠ 1) (h5 : Nat.beq x 55 = false) (h6 : Nat.beq x 56 = false) : okW x = true ∧ okB x = true := by
  have h := hAll x hx
  unfold okA at h
  obtain ⟨h, -⟩ := an h
  obtain ⟨h, -⟩ := an h
  rcases orr h with q | q
  · exact absurd (beqN q) h1
  · obtain ⟨a, b⟩ := an q
    refine ⟨a, ?_⟩
    rw [h5, h6] at b
    exact b
theorem okB_mL {x : Nat} (h : okB x = true) : mmL x < 25 := by
  unfold okB at h
  obtain ⟨h, -⟩ := an h
  exact bltN (an h).2
theorem sim_ret {q : Option Value × Sg} {n : Nat} (hK : va_K D vwCl (tyA cy) s)
    (ih : Go p l e R s m args below meth c cells slots Q sc D cy ad A mL cd cal q n)
    {pc t : Nat} {tl : Cod} {ls rs st0 : List Value} {σ1 : Sg} {H : Heap} {locs : List Loc} {lsA : Array Slot} {o : Option Value} {aa : Array Value}
    (hrun : va_Run p l e R s m args below meth c H locs cells slots 0 0 (F0 m pc lsA st0) (rs.map (tr ad)) (PosA D cy ad A o σ1 aa) A)
    (hsx : Suf cd tl) (hnx : hdp (pc + 3) tl) (hL : Lr ad ls lsA mL) (hS : va_S A s.heap H locs)
    (h : bk t (some (o, σ1)) rs (fun r σ => run sc cal cd n tl ls r σ) = some q) :
    W p l e R s m args below meth c H locs cells slots Q (F0 m pc lsA st0) := by
  unfold bk at h
  dsimp only at h
  split at h
  · -- nothing
    match o, hrun, h with
    | none, hrun, h =>
      have hrun : va_Run p l e R s m args below meth c H locs cells slots 0 0 (F0 m pc lsA st0) (rs.map (tr ad)) (va_Qv (fun (_ : Unit) => True) (fun _ => PoB D cy ad A σ1) A aa) A := hrun
      refine va_callv hrun hS (fun _ _ h => h) (fun _ h => h) (fun u t H1 locs1 ht hvm hw hB hz hk hS1 => ?_)
      have h2 : Rp D cy ad A σ1 H1 := by rw [← ht]; exact hB.2
      exact ih tl ls rs σ1 H1 locs1 lsA (pc + 3) hsx hnx hL h2 hS1 h
    | some v, _, h => exact (nsm h).elim
  · match o, hrun, h with
    | some (.int v), hrun, h =>
      have hrun : va_Run p l e R s m args below meth c H locs cells slots 0 0 (F0 m pc lsA st0) (rs.map (tr ad)) (va_Qi (fun r (_ : Unit) => r = v) (fun _ => PoB D cy ad A σ1) A aa) A := hrun
      refine va_calli hrun hS (fun _ _ h => h) (fun _ h => h) (fun r u t H1 locs1 ht hvm hw hB hz hk hS1 => ?_)
      have h2 : Rp D cy ad A σ1 H1 := by rw [← ht]; exact hB.2
      subst hw
      exact ih tl ls (.int r :: rs) σ1 H1 locs1 lsA (pc + 3) hsx hnx hL h2 hS1 h
    | none, _, h => exact (nsm h).elim
    | some (.long _), _, h => exact (nsm h).elim
    | some (.float _), _, h => exact (nsm h).elim
    | some (.double _), _, h => exact (nsm h).elim
    | some .null, _, h => exact (nsm h).elim
    | some (.ref _), _, h => exact (nsm h).elim
    | some (.retAddr _), _, h => exact (nsm h).elim
  · match o, hrun, h with
    | some (.long v), hrun, h =>
      have hrun : va_Run p l e R s m args below meth c H locs cells slots 0 0 (F0 m pc lsA st0) (rs.map (tr ad)) (va_Ql (fun r (_ : Unit) => r = v) (fun _ => PoB D cy ad A σ1) A aa) A := hrun
      refine va_calll hrun hS (fun _ _ h => h) (fun _ h => h) (fun r u t H1 locs1 ht hvm hw hB hz hk hS1 => ?_)
      have h2 : Rp D cy ad A σ1 H1 := by rw [← ht]; exact hB.2
      subst hw
      exact ih tl ls (.long r :: rs) σ1 H1 locs1 lsA (pc + 3) hsx hnx hL h2 hS1 h
    | none, _, h => exact (nsm h).elim
    | some (.int _), _, h => exact (nsm h).elim
    | some (.float _), _, h => exact (nsm h).elim
    | some (.double _), _, h => exact (nsm h).elim
    | some .null, _, h => exact (nsm h).elim
    | some (.ref _), _, h => exact (nsm h).elim
    | some (.retAddr _), _, h => exact (nsm h).elim
theorem bk_some {t : Nat} {o : Rs} {r : List Value} {K : List Value → Sg → Rs} {q : Option Value × Sg} (h : bk t o r K = some q) : ∃ v σ1, o = some (v, σ1) := by
  cases o with
  | none =>
    unfold bk at h
    dsimp only at h
    split at h <;> exact (nsm h).elim
  | some w => exact ⟨w.1, w.2, rfl⟩
theorem good_ws {x : Nat} (h : Cond.code (mY x) (mby x) (mmL x) (mret x) ∈ lw_tbl) : GoodIn TBg (mws x) := by
  intro w hw
  have h1 : w ∈ TBg := by
    rcases List.mem_cons.mp hw with e | e
    · rw [e]; exact mem_good h rfl
    · exact e
  exact ⟨h1, good_of_word (List.mem_filter.mp h1).2⟩
theorem good_1 {w : Cond} (h : w ∈ lw_tbl) (g : goodWord w = true) : w ∈ TBg ∧ ((w.onTables && w.keeps) = true ∨ ∃ ty, w = .arrayClass ty) := ⟨mem_good h g, good_of_word g⟩
set_option maxHeartbeats 4000000 in
/-- a call -/
theorem sim_ivk (C0 : Cx p R s m args c sc D cy ad A cc mL own d) (hcr : cells ≤ R.cells ∧ slots ≤ R.slots) (hM : CalOK l D cy ad A cal d) (hch : chn cd = true) (hdc : okD cc cd = true) (hok : cd.all (okI own mL) = true) (hAll : ∀ k, k < 340 → okA k = true) {q : Option Value × Sg} {n : Nat}
    (ih : Go p l e R s m args below meth c cells slots Q sc D cy ad A mL cd cal q n)
    {pc len x y : Nat} {z : Int32} {tb : List (Int32 × Nat)} {ins : Instr} {tl : Cod} {ls st : List Value} {σ : Sg} {H : Heap} {locs : List Loc} {lsA : Array Slot} {i : Nat}
    (hins : ins = .invokevirtual i ∨ ins = .invokestatic i) (hI : okI own mL (pc, ins, len, x, y, z, tb) = true) (hdg : decode cc pc = .ok (ins, len)) (hsx : Suf cd tl) (hnx : hdp (pc + len) tl)
    (hL : Lr ad ls lsA mL) (hR : Rp D cy ad A σ H) (hS : va_S A s.heap H locs) (h : ivk cal x y st σ (fun r σ => run sc cal cd n tl ls r σ) = some q) :
    W p l e R s m args below meth c H locs cells slots Q (F0 m pc lsA (st.map (tr ad))) := by
  obtain ⟨⟨hx, hb, hml, hown, hts⟩, hK, hF0, -, hN, hroom⟩ := C0
  have hwd : ∀ {pp : Nat} {w : Qw}, wdi pp w = true → goodWord (dw w) = true → (dw w).before args s = true := fun h1 h2 => hts _ (mem_good (wd_of h1) h2)
  unfold ivk at h
  dsimp only at h
  split at h
  · -- arraycopy
    rename_i hx9
    have hx9 := beqN hx9
    subst hx9
    split at h
    · rename_i nn dp a sp a0
      rcases hins with rfl | rfl
      · rcases (okI_vi hI).2 with h2 | h2
        · exact absurd h2 (by decide)
        · exact absurd h2.1 (by decide)
      obtain ⟨rfl, h1⟩ := okI_st hI
      have hw : Cond.methodLink (ocl own) i arraycopyName ∈ lw_tbl := wx_of (show wdx (pl1 tb) (.methodLink (ocl own) i arraycopyName) = true from h1)
      unfold acp at h
      obtain ⟨k0, h⟩ := gd_inv h
      obtain ⟨k1, h⟩ := gd_inv h
      split at h
      · exact (nsm h).elim
      rename_i hb5
      simp only [not_or, Nat.not_lt] at hb5
      obtain ⟨b1, b2, b3, b4, b5⟩ := hb5
      refine va_copyi (D := D) (cl := vwCl) (A := A) (tys := tyA cy) (ws := wsA cy ad σ) (H0 := s.heap) (own := ocl own) (index := i) (a := ad a) (a0 := ad a0) (rest := []) (sp := sp) (dp := dp) (n := nn) (ty := .int) hx hb (hml.trans hL.sz.symm) hown
        (hts _ (mem_good hw rfl)) (hts _ (mem_good (spx_in (Cond.native arraycopyName) (by decide +kernel)) rfl)) (hts _ (mem_good (spx_in (Cond.static arraycopyName) (by decide +kernel)) rfl)) (hts _ (mem_good (qs_in (6, 16, 0, 0) (by decide +kernel)) rfl))
        hK hR.1 hR.2 hS (a0 - 4) (a - 4) 2 2 (at_int k0 (.inr (.inr rfl))) (at_int k1 (.inr (.inr rfl))) rfl rfl rfl b1 b2 b3 b4 b5 (fun _ _ => rfl) (by omega) ?_ hdg (fun H1 locs1 hP1 hD1 hS1 => ?_)
      · have := hroom.2
        have e : nativeFrameWords "java/lang/System" "arraycopy" 5 + 11 ≤ 60 := by decide +kernel
        simp only [List.map_nil, List.sum_nil]
        omega
      · rw [set_aC k1] at hP1 hD1
        exact ih tl ls [] _ H1 locs1 lsA (pc + 3) hsx hnx hL ⟨hP1, hD1⟩ hS1 h
    · exact (nsm h).elim
  rename_i e9
  split at h
  · -- min
    rename_i hx9
    have hx9 := beqN hx9
    subst hx9
    obtain ⟨a, b, r, rfl, hr, h⟩ := mm2_inv h
    rcases hins with rfl | rfl
    · rcases (okI_vi hI).2 with h2 | h2
      · exact absurd h2 (by decide)
      · exact absurd h2.2.1 (by decide)
    obtain ⟨rfl, h1⟩ := okI_st hI
    have h3 : (bif decide (z = 0) then wdi (pl1 tb) (1, own, i, 55) else wdi (pl1 tb) (2, own, i, 55)) = true := (an h1).2
    have hz : wdi (pl1 tb) (1, own, i, 55) = true := by
      cases hz : decide (z = 0) with
      | true => rw [hz] at h3; exact h3
      | false =>
        rw [hz] at h3
        exact absurd (List.mem_of_getElem? (of_decide_eq_true h3)) (by
          have : ∀ q ∈ QS, (match q with | (2, _, _, x) => !(Nat.beq x 55 || Nat.beq x 56) | _ => true) = true := by decide +kernel
          intro hq
          exact absurd (show false = true from this _ hq) (by decide))
    refine va_mmin (R := R) (own := ocl own) (index := i) (x := a) (y := b) (rest := r.map (tr ad)) hx hb (hml.trans hL.sz.symm) hown (hwd hz rfl) (hwd (pp := (mpl 55).2.2.1) (w := (3, 55, 0, 0)) (by decide +kernel) rfl) (hwd (pp := (mpl 55).2.1) (w := (6, 15, 0, 0)) (by decide +kernel) rfl) (hwd (pp := (mpl 55).1) (w := (0, 55, 0, 0)) (by decide +kernel) rfl) (by omega) ?_ hcr.1 hcr.2 hdg ?_
    · have := cat_le (r := r.map (tr ad)) (by simpa using hr)
      omega
    · exact ih tl ls (.int (mnI a b) :: r) σ H locs lsA (pc + 3) hsx hnx hL hR hS h
  rename_i e5
  split at h
  · -- max
    rename_i hx9
    have hx9 := beqN hx9
    subst hx9
    obtain ⟨a, b, r, rfl, hr, h⟩ := mm2_inv h
    rcases hins with rfl | rfl
    · rcases (okI_vi hI).2 with h2 | h2
      · exact absurd h2 (by decide)
      · exact absurd h2.2.1 (by decide)
    obtain ⟨rfl, h1⟩ := okI_st hI
    have h3 : (bif decide (z = 0) then wdi (pl1 tb) (1, own, i, 56) else wdi (pl1 tb) (2, own, i, 56)) = true := (an h1).2
    have hz : wdi (pl1 tb) (1, own, i, 56) = true := by
      cases hz : decide (z = 0) with
      | true => rw [hz] at h3; exact h3
      | false =>
        rw [hz] at h3
        exact absurd (List.mem_of_getElem? (of_decide_eq_true h3)) (by
          have : ∀ q ∈ QS, (match q with | (2, _, _, x) => !(Nat.beq x 55 || Nat.beq x 56) | _ => true) = true := by decide +kernel
          intro hq
          exact absurd (show false = true from this _ hq) (by decide))
    refine va_mmax (R := R) (own := ocl own) (index := i) (x := a) (y := b) (rest := r.map (tr ad)) hx hb (hml.trans hL.sz.symm) hown (hwd hz rfl) (hwd (pp := (mpl 56).2.2.1) (w := (3, 56, 0, 0)) (by decide +kernel) rfl) (hwd (pp := (mpl 56).2.1) (w := (6, 15, 0, 0)) (by decide +kernel) rfl) (hwd (pp := (mpl 56).1) (w := (0, 56, 0, 0)) (by decide +kernel) rfl) (by omega) ?_ hcr.1 hcr.2 hdg ?_
    · have := cat_le (r := r.map (tr ad)) (by simpa using hr)
      omega
    · exact ih tl ls (.int (mxI a b) :: r) σ H locs lsA (pc + 3) hsx hnx hL hR hS h
  rename_i e6
  split at h
  · rename_i hy
    obtain ⟨hy1, hy2⟩ := an hy
    have hy1 := Nat.le_of_ble_eq_true hy1
    have hy2 := Nat.le_of_ble_eq_true hy2
    have hcat : (((st.drop y).map (tr ad)).map fun v => v.category).sum ≤ 8 := cat_le (by simpa using hy2)
    have hst : st.map (tr ad) = (((st.take y).reverse).map (tr ad)).reverse ++ (st.drop y).map (tr ad) := by
      rw [← List.map_reverse, List.reverse_reverse, ← List.map_append, List.take_append_drop]
    have hln : (((st.take y).reverse).map (tr ad)).length = y := by simp; omega
    generalize (st.take y).reverse = as at h hst hln
    generalize st.drop y = rs at h hst hcat hy2
    have hpre : ∀ U : State, U.heap = H → s.WarmedH U.vm → PreB D cy ad A σ U := fun U hU hW =>
      ⟨va_K.moved hW.alike hK, by rw [hU]; exact hR, by rw [hU]; exact hF0.kept hW.alike (fun a h1 h2 => hS.2.1 a h1 h2), hN.warm hW⟩
    unfold thk at h
    dsimp only at h
    split at h
    · -- a static method
      rename_i hk
      rcases hins with rfl | rfl
      · rcases (okI_vi hI).2 with h2 | h2
        · subst h2; exact absurd hk (by decide)
        · have := h2.2.1
          omega
      obtain ⟨rfl, h1⟩ := okI_st hI
      rw [e9] at h1
      rcases orr (show (Nat.beq x 998 || (Nat.blt x 340 && Nat.beq (mkd x) 99 && Nat.beq y (mnp x) && (bif decide (z = 0) then wdi (pl1 tb) (1, own, i, x) else wdi (pl1 tb) (2, own, i, x)))) = true from h1) with h2 | h2
      · have := beqN h2; subst this; exact absurd hk (by decide)
      obtain ⟨h2, hlink⟩ := an h2
      obtain ⟨h2, hyn⟩ := an h2
      have hx3 := bltN (an h2).1
      have hyn := beqN hyn
      obtain ⟨hW0, hB0⟩ := okW_of hAll hx3 (fun e => by subst e; exact absurd hk (by decide)) e5 e6
      obtain ⟨w1, w2, w3, w4, w5, w6⟩ := okW_split hW0
      rw [hk] at w6
      have w6 : wdi (mpl x).2.2.1 (3, x, 0, 0) = true := w6
      obtain ⟨o, σ1, ho⟩ := bk_some h
      rw [ho] at h
      have hMx := hM x as σ o σ1 hx3 hB0 ho
      have hmx := okB_mL hB0
      have hcode : Cond.code (mY x) (mby x) (mmL x) (mret x) ∈ lw_tbl := wd_of w1
      have hini : (Cond.initialized (mY x).cls).before args s = true := by rw [← w3]; exact hwd w2 rfl
      have hdd : (mY x).cls ≠ "java/lang/invoke/MethodHandle" ∧ (mY x).cls ≠ "java/lang/invoke/VarHandle" ∧ (parseMethodDescriptor (mY x).desc).map (fun d => d.parameters.length) = some (mnp x) := ⟨w4.1, w4.2, w5⟩
      have hRR : (mrm d).frames + 1 ≤ R.frames ∧ 8 + (mmL x + 11) + (mrm d).locals ≤ R.locals := ⟨hroom.1, by show 8 + (mmL x + 11) + 60 * d ≤ R.locals; have := hroom.2; omega⟩
      cases hz : decide (z = 0) with
      | true =>
        rw [hz] at hlink
        have hlink : wdi (pl1 tb) (1, own, i, x) = true := hlink
        have cw := va_cwS (R := R) (s := s) (args := args) (own := ocl own) (index := i) (y := mY x) (bytes := mby x) (maxL := mmL x) (mc := 0) (ms := 0) (ret := mret x) (Ts := TBg) (ws := mws x) (ws' := TBg) (rm := mrm d) (mnp x) hts
          (by
            intro w hw
            rcases List.mem_append.mp hw with hw | hw
            · rcases List.mem_cons.mp hw with rfl | hw
              · exact good_1 (wd_of hlink) rfl
              rcases List.mem_cons.mp hw with rfl | hw
              · exact good_1 (wd_of w6) rfl
              rcases List.mem_cons.mp hw with rfl | hw
              · rw [← w3]; exact good_1 (wd_of w2) rfl
              · cases hw
            · exact good_ws hcode w hw) rfl rfl rfl hdd hRR
        rw [hst]
        exact sim_ret hK ih (va_runS (As := as.map (tr ad)) (rest := rs.map (tr ad)) ⟨hx, hb, hml, hown, hts⟩ hMx cw ⟨blindP, fun U hU hW => ⟨rfl, hpre U hU hW⟩⟩ rfl (by rw [hln, hyn]) hL.sz rfl (lv_room hcat) hdg ⟨hcr.1, hcr.2⟩) hsx hnx hL hS h
      | false =>
        rw [hz] at hlink
        have hlink : wdi (pl1 tb) (2, own, i, x) = true := hlink
        have cw := va_cnB (R := R) (s := s) (args := args) (own := ocl own) (host := "NamedToWed") (index := i) (y := mY x) (bytes := mby x) (maxL := mmL x) (mc := 0) (ms := 0) (ret := mret x) (Ts := TBg) (ws := mws x) (ws' := TBg) (rm := mrm d) (mnp x) hts (good_ws hcode) rfl rfl rfl (hN _ (wd_of hlink) rfl) hini hdd hRR
        rw [hst]
        exact sim_ret hK ih (va_runSN (As := as.map (tr ad)) (rest := rs.map (tr ad)) ⟨hx, hb, hml, hown, hts⟩ hMx ⟨cw, hwd w6 rfl, trivial⟩ ⟨blindP, fun U hU hW => ⟨rfl, hpre U hU hW⟩⟩ rfl (by rw [hln, hyn]) hL.sz rfl (lv_room hcat) hdg ⟨hcr.1, hcr.2⟩) hsx hnx hL hS h
    · exact (nsm h).elim
    · -- a method of an object
      rename_i hk99 hk98
      split at h
      · rename_i b as
        obtain ⟨hkb, h⟩ := gd_inv h
        rcases hins with rfl | rfl
        · obtain ⟨rfl, h2⟩ := okI_vi hI
          rcases h2 with h2 | h2
          · subst h2; exact absurd rfl hk98
          obtain ⟨hx3, hk12, hyn, hlink, hsel⟩ := h2
          obtain ⟨hW0, hB0⟩ := okW_of hAll hx3 (fun e => by subst e; exact hk98 rfl) e5 e6
          obtain ⟨w1, w2, w3, w4, w5, w6⟩ := okW_split hW0
          have e99 : Nat.beq (mkd x) 99 = false := by
            cases hq : Nat.beq (mkd x) 99 with
            | false => rfl
            | true => exact absurd (beqN hq) hk99
          rw [e99] at w6
          have w6 : (wdi (mpl x).2.2.1 (4, x, 0, 0) && decide ((vwCl[mkd x]?).map (fun q => q.1) = some (mY x).cls) && (decide ((mY x).name = "<init>") || wdi (mpl x).2.2.2 (5, x, 0, 0))) = true := w6
          obtain ⟨w6, -⟩ := an w6
          obtain ⟨w6, w7⟩ := an w6
          have w7 := of_decide_eq_true w7
          rw [vw_at _ hk12] at w7
          have w7 : ocl (mkd x) = (mY x).cls := Option.some.inj w7
          obtain ⟨o, σ1, ho⟩ := bk_some h
          rw [ho] at h
          have hMx := hM x (.ref b :: as) σ o σ1 hx3 hB0 ho
          have hmx := okB_mL hB0
          have hcode : Cond.code (mY x) (mby x) (mmL x) (mret x) ∈ lw_tbl := wd_of w1
          have hdd : (mY x).cls = (mY x).cls ∧ (mY x).cls ≠ "java/lang/invoke/MethodHandle" ∧ (mY x).cls ≠ "java/lang/invoke/VarHandle" ∧ (parseMethodDescriptor (mY x).desc).map (fun d => d.parameters.length) = some (mnp x) := ⟨rfl, w4.1, w4.2, w5⟩
          have hRR : (mrm d).frames + 1 ≤ R.frames ∧ 8 + (mmL x + 11) + (mrm d).locals ≤ R.locals := ⟨hroom.1, by show 8 + (mmL x + 11) + 60 * d ≤ R.locals; have := hroom.2; omega⟩
          have cw := cwV (R := R) (s := s) (args := args) (own := ocl own) (C := (mY x).cls) (index := i) (y := mY x) (bytes := mby x) (maxL := mmL x) (mc := 0) (ms := 0) (ret := mret x) (Ts := TBg) (ws := mws x) (ws' := TBg) (rm := mrm d) (mnp x) hts
            (by
              intro w hw
              rcases List.mem_append.mp hw with hw | hw
              · rcases List.mem_cons.mp hw with rfl | hw
                · exact good_1 (wd_of hlink) rfl
                rcases List.mem_cons.mp hw with rfl | hw
                · exact good_1 (wd_of w6) rfl
                rcases List.mem_cons.mp hw with rfl | hw
                · exact good_1 (wd_of hsel) rfl
                rcases List.mem_cons.mp hw with rfl | hw
                · rw [← w3]; exact good_1 (wd_of w2) rfl
                · cases hw
              · exact good_ws hcode w hw) rfl rfl rfl hdd hRR
          have hrecv := va_recv hK hR.1 (q0 := b - 4) (a := ad b) (vw_at _ hk12) (at_obj hkb hk12)
          rw [show ((ocl (mkd x), kT (mkd x), nf (mkd x)) : vw_C).1 = (mY x).cls from w7] at hrecv
          rw [hst]
          have hln2 : (as.map (tr ad)).length = mnp x := by
            have : (as.map (tr ad)).length + 1 = y := hln
            omega
          exact sim_ret hK ih (va_runV (As := as.map (tr ad)) (b := ad b) (rest := rs.map (tr ad)) ⟨hx, hb, hml, hown, hts⟩ hMx cw ⟨blindP, hrecv, fun U hU hW => ⟨rfl, hpre U hU hW⟩⟩ rfl hln2 hL.sz (by simp [tr]) (lv_room hcat) hdg ⟨hcr.1, hcr.2⟩) hsx hnx hL hS h
        · obtain ⟨rfl, h1⟩ := okI_st hI
          rw [e9] at h1
          rcases orr (show (Nat.beq x 998 || (Nat.blt x 340 && Nat.beq (mkd x) 99 && Nat.beq y (mnp x) && (bif decide (z = 0) then wdi (pl1 tb) (1, own, i, x) else wdi (pl1 tb) (2, own, i, x)))) = true from h1) with h2 | h2
          · have := beqN h2; subst this; exact absurd rfl hk98
          · exact absurd (beqN (an (an (an h2).1).1).2) hk99
      · exact (nsm h).elim
  · exact (nsm h).elim
end Sim
end
section
/-! THE STEP OF EVERY INSTRUCTION -/
section Sim2
variable {p : Program} {l : Launch} {e : Env} {R : Room} {s : State} {m : MethodId} {args : Array Value} {below : List Frame} {meth : Method} {c : Code} {cells slots : Nat} {Q : State → Prop}
variable {sc : Scr} {D : va_G} {cy : Nat → ClassId} {ad : Nat → Nat} {A : Nat → Prop} {cc : ByteArray} {mL own d : Nat} {cd : Cod} {cal : Nat → List Value → Sg → Rs}
theorem i32mod (x y : Int32) : x - x / y * y = x % y := by
  apply Int32.toInt_inj.mp
  have h1 : (x % y).toInt = x.toInt.tmod y.toInt := Int32.toInt_mod x y
  have h2 : ((x % y).toInt).bmod (2 ^ 32) = (x % y).toInt := by
    have := Int32.toInt_lt (x % y)
    have := Int32.le_toInt (x % y)
    simp only [Int.bmod]
    omega
  rw [Int32.toInt_sub, Int32.toInt_mul, Int32.toInt_div, ← h2, h1, Int.sub_bmod_bmod, Int.tmod_def]
  have e : ∀ a b c : Int, (a - (b.bmod (2 ^ 32)) * c).bmod (2 ^ 32) = (a - b * c).bmod (2 ^ 32) := fun a b c => by
    rw [← Int.sub_bmod_bmod, Int.bmod_mul_bmod, Int.sub_bmod_bmod]
  rw [e, Int.mul_comm]
theorem sw_inv {a : Int32} {f : Nat → Rs} {dd : Rs} {q : Option Value × Sg} : ∀ {tb : List (Int32 × Nat)}, sw a f dd tb = some q → (∃ (k : Nat) (t : Nat), tb[k]? = some (a, t) ∧ (∀ j, j < k → ∀ w, tb[j]? = some w → w.1 ≠ a) ∧ f t = some q) ∨ ((∀ w ∈ tb, w.1 ≠ a) ∧ dd = some q)
  | [], h => Or.inr ⟨fun _ h => absurd h List.not_mem_nil, h⟩
  | w :: t, h => by
    unfold sw at h
    split at h
    · rename_i e
      exact Or.inl ⟨0, w.2, by rw [e]; rfl, fun j hj => absurd hj (by omega), h⟩
    · rename_i e
      rcases sw_inv h with ⟨k, t', h1, h2, h3⟩ | ⟨h1, h2⟩
      · refine Or.inl ⟨k + 1, t', h1, fun j hj w' hw => ?_, h3⟩
        cases j with
        | zero =>
          have : w = w' := Option.some.inj hw
          subst this
          exact fun q => e q.symm
        | succ j => exact h2 j (by omega) w' hw
      · exact Or.inr ⟨fun w' hw => (List.mem_cons.mp hw).elim (fun q => by rw [q]; exact fun q => e q.symm) (h1 w'), h2⟩
theorem tbOf_at {pc : Nat} : ∀ (offs : List Int) (lo : Int) (k : Nat), (tbOf pc lo offs)[k]? = (offs[k]?).map (fun o => (Int32.ofInt (lo + k), ((pc : Int) + o).toNat))
  | [], _, _ => by simp [tbOf]
  | o :: t, lo, 0 => by simp [tbOf]
  | o :: t, lo, k + 1 => by
    have := tbOf_at (pc := pc) t (lo + 1) k
    simp only [tbOf, List.getElem?_cons_succ, this]
    rw [show lo + 1 + (k : Int) = lo + ((k + 1 : Nat) : Int) by omega]
theorem toInt_small {z : Int} (h : -2000 ≤ z) (h' : z < 2000) : (Int32.ofInt z).toInt = z := by
  rw [Int32.toInt_ofInt]
  simp only [Int.bmod, Int32.size]
  omega
/-- what a walk has at hand -/
def Hyp (p : Program) (l : Launch) (e : Env) (R : Room) (s : State) (m : MethodId) (args : Array Value) (below : List Frame) (meth : Method) (c : Code) (cells slots : Nat) (Q : State → Prop) (sc : Scr) (D : va_G) (cy : Nat → ClassId) (ad : Nat → Nat) (A : Nat → Prop) (cc : ByteArray) (mL own d : Nat) (cd : Cod) (cal : Nat → List Value → Sg → Rs) (q : Option Value × Sg) : Prop := Cx p R s m args c sc D cy ad A cc mL own d ∧ (cells ≤ R.cells ∧ slots ≤ R.slots) ∧ CalOK l D cy ad A cal d ∧ chn cd = true ∧ okD cc cd = true ∧ cd.all (okI own mL) = true ∧ (∀ k, k < 340 → okA k = true) ∧ Fnd p l e R s m args below meth c cells slots Q D cy ad A cd q
/-- an instruction's step -/
def StK (p : Program) (l : Launch) (e : Env) (R : Room) (s : State) (m : MethodId) (args : Array Value) (below : List Frame) (meth : Method) (c : Code) (cells slots : Nat) (Q : State → Prop) (sc : Scr) (D : va_G) (cy : Nat → ClassId) (ad : Nat → Nat) (A : Nat → Prop) (cc : ByteArray) (mL own d : Nat) (cd : Cod) (cal : Nat → List Value → Sg → Rs) (q : Option Value × Sg) (ins : Instr) : Prop := ∀ (n : Nat), Go p l e R s m args below meth c cells slots Q sc D cy ad A mL cd cal q n → ∀ (pc len x y : Nat) (z : Int32) (tb : List (Int32 × Nat)) (tl : Cod) (ls st : List Value) (σ : Sg) (H : Heap) (locs : List Loc) (lsA : Array Slot),
  (pc, ins, len, x, y, z, tb) ∈ cd → okI own mL (pc, ins, len, x, y, z, tb) = true → decode cc pc = .ok (ins, len) → Suf cd tl → hdp (pc + len) tl → Lr ad ls lsA mL → Rp D cy ad A σ H → va_S A s.heap H locs →
  stp sc cal cd (run sc cal cd n) (pc, ins, len, x, y, z, tb) tl ls st σ = some q → W p l e R s m args below meth c H locs cells slots Q (F0 m pc lsA (st.map (tr ad)))
theorem goJ {q : Option Value × Sg} {n : Nat} (ih : Go p l e R s m args below meth c cells slots Q sc D cy ad A mL cd cal q n) (t : Nat) (ls st : List Value) (σ : Sg) (H : Heap) (locs : List Loc) (lsA : Array Slot) (hL : Lr ad ls lsA mL) (hR : Rp D cy ad A σ H) (hS : va_S A s.heap H locs) (h : run sc cal cd n (jmp cd t) ls st σ = some q) : W p l e R s m args below meth c H locs cells slots Q (F0 m t lsA (st.map (tr ad))) :=
  ih (jmp cd t) ls st σ H locs lsA t (jmp_suf cd t) (jmp_hd cd t) hL hR hS h
set_option maxHeartbeats 100000 in
theorem st_iconst {q : Option Value × Sg} (Y : Hyp p l e R s m args below meth c cells slots Q sc D cy ad A cc mL own d cd cal q) (nn : Int) : StK p l e R s m args below meth c cells slots Q sc D cy ad A cc mL own d cd cal q (.iconst nn) := by
  intro n ih pc len x y z tb tl ls st σ H locs lsA hmem hI hdg hsx hnx hL hR hS h
  obtain ⟨C0, hcr, hM, hch, hdc, hok, hAll, hfin⟩ := Y
  have C1 := C0
  obtain ⟨⟨hx, hb, hml, hown, hts⟩, hK, hF0, hF1, hN, hroom⟩ := C1
  have hwd : ∀ {pp : Nat} {w : Qw}, wdi pp w = true → goodWord (dw w) = true → (dw w).before args s = true := fun h1 h2 => hts _ (mem_good (wd_of h1) h2)
  obtain ⟨h1, h2⟩ := an hI
  have hl := beqN h1; subst hl
  exact lv_iconst (v := z) hx hb hdg (of_decide_eq_true h2) (ih tl ls (.int z :: st) σ H locs lsA (pc + 1) hsx hnx hL hR hS h)
set_option maxHeartbeats 100000 in
theorem st_bipush {q : Option Value × Sg} (Y : Hyp p l e R s m args below meth c cells slots Q sc D cy ad A cc mL own d cd cal q) (nn : Int) : StK p l e R s m args below meth c cells slots Q sc D cy ad A cc mL own d cd cal q (.bipush nn) := by
  intro n ih pc len x y z tb tl ls st σ H locs lsA hmem hI hdg hsx hnx hL hR hS h
  obtain ⟨C0, hcr, hM, hch, hdc, hok, hAll, hfin⟩ := Y
  have C1 := C0
  obtain ⟨⟨hx, hb, hml, hown, hts⟩, hK, hF0, hF1, hN, hroom⟩ := C1
  have hwd : ∀ {pp : Nat} {w : Qw}, wdi pp w = true → goodWord (dw w) = true → (dw w).before args s = true := fun h1 h2 => hts _ (mem_good (wd_of h1) h2)
  obtain ⟨h1, h2⟩ := an hI
  have hl := beqN h1; subst hl
  exact lv_bipush (v := z) hx hb hdg (of_decide_eq_true h2) (ih tl ls (.int z :: st) σ H locs lsA (pc + 2) hsx hnx hL hR hS h)
set_option maxHeartbeats 100000 in
theorem st_sipush {q : Option Value × Sg} (Y : Hyp p l e R s m args below meth c cells slots Q sc D cy ad A cc mL own d cd cal q) (nn : Int) : StK p l e R s m args below meth c cells slots Q sc D cy ad A cc mL own d cd cal q (.sipush nn) := by
  intro n ih pc len x y z tb tl ls st σ H locs lsA hmem hI hdg hsx hnx hL hR hS h
  obtain ⟨C0, hcr, hM, hch, hdc, hok, hAll, hfin⟩ := Y
  have C1 := C0
  obtain ⟨⟨hx, hb, hml, hown, hts⟩, hK, hF0, hF1, hN, hroom⟩ := C1
  have hwd : ∀ {pp : Nat} {w : Qw}, wdi pp w = true → goodWord (dw w) = true → (dw w).before args s = true := fun h1 h2 => hts _ (mem_good (wd_of h1) h2)
  obtain ⟨h1, h2⟩ := an hI
  have hl := beqN h1; subst hl
  exact lv_sipush (v := z) hx hb hdg (of_decide_eq_true h2) (ih tl ls (.int z :: st) σ H locs lsA (pc + 3) hsx hnx hL hR hS h)
set_option maxHeartbeats 100000 in
theorem st_ldc {q : Option Value × Sg} (Y : Hyp p l e R s m args below meth c cells slots Q sc D cy ad A cc mL own d cd cal q) (ii : Nat) : StK p l e R s m args below meth c cells slots Q sc D cy ad A cc mL own d cd cal q (.ldc ii) := by
  intro n ih pc len x y z tb tl ls st σ H locs lsA hmem hI hdg hsx hnx hL hR hS h
  obtain ⟨C0, hcr, hM, hch, hdc, hok, hAll, hfin⟩ := Y
  have C1 := C0
  obtain ⟨⟨hx, hb, hml, hown, hts⟩, hK, hF0, hF1, hN, hroom⟩ := C1
  have hwd : ∀ {pp : Nat} {w : Qw}, wdi pp w = true → goodWord (dw w) = true → (dw w).before args s = true := fun h1 h2 => hts _ (mem_good (wd_of h1) h2)
  match y, h, hI with
  | 0, h, _ => exact (nsm h).elim
  | n + 2, h, _ => exact (nsm h).elim
  | 1, h, hI =>
    obtain ⟨h1, h2⟩ := an (show (Nat.beq len 2 && (wdi (pl1 tb) (8, own, ii, pl2 tb) && decide (cz (pl2 tb) = z))) = true from hI)
    have hl := beqN h1; subst hl
    obtain ⟨h2, h3⟩ := an h2
    have h4 : (Cond.constant (ocl own) ii (cz (pl2 tb))).before args s = true := hwd h2 rfl
    rw [of_decide_eq_true h3] at h4
    exact lv_ldc (v := z) hx hb hown h4 hdg (ih tl ls (.int z :: st) σ H locs lsA (pc + 2) hsx hnx hL hR hS h)
set_option maxHeartbeats 100000 in
theorem st_ldc_w {q : Option Value × Sg} (Y : Hyp p l e R s m args below meth c cells slots Q sc D cy ad A cc mL own d cd cal q) (ii : Nat) : StK p l e R s m args below meth c cells slots Q sc D cy ad A cc mL own d cd cal q (.ldc_w ii) := by
  intro n ih pc len x y z tb tl ls st σ H locs lsA hmem hI hdg hsx hnx hL hR hS h
  obtain ⟨C0, hcr, hM, hch, hdc, hok, hAll, hfin⟩ := Y
  have C1 := C0
  obtain ⟨⟨hx, hb, hml, hown, hts⟩, hK, hF0, hF1, hN, hroom⟩ := C1
  have hwd : ∀ {pp : Nat} {w : Qw}, wdi pp w = true → goodWord (dw w) = true → (dw w).before args s = true := fun h1 h2 => hts _ (mem_good (wd_of h1) h2)
  match y, h, hI with
  | 0, h, _ => exact (nsm h).elim
  | n + 2, h, _ => exact (nsm h).elim
  | 1, h, hI =>
    obtain ⟨h1, h2⟩ := an (show (Nat.beq len 3 && (wdi (pl1 tb) (8, own, ii, pl2 tb) && decide (cz (pl2 tb) = z))) = true from hI)
    have hl := beqN h1; subst hl
    obtain ⟨h2, h3⟩ := an h2
    have h4 : (Cond.constant (ocl own) ii (cz (pl2 tb))).before args s = true := hwd h2 rfl
    rw [of_decide_eq_true h3] at h4
    exact lv_ldcw (v := z) hx hb hown h4 hdg (ih tl ls (.int z :: st) σ H locs lsA (pc + 3) hsx hnx hL hR hS h)
set_option maxHeartbeats 100000 in
theorem st_ldc2_w {q : Option Value × Sg} (Y : Hyp p l e R s m args below meth c cells slots Q sc D cy ad A cc mL own d cd cal q) (ii : Nat) : StK p l e R s m args below meth c cells slots Q sc D cy ad A cc mL own d cd cal q (.ldc2_w ii) := by
  intro n ih pc len x y z tb tl ls st σ H locs lsA hmem hI hdg hsx hnx hL hR hS h
  obtain ⟨C0, hcr, hM, hch, hdc, hok, hAll, hfin⟩ := Y
  have C1 := C0
  obtain ⟨⟨hx, hb, hml, hown, hts⟩, hK, hF0, hF1, hN, hroom⟩ := C1
  have hwd : ∀ {pp : Nat} {w : Qw}, wdi pp w = true → goodWord (dw w) = true → (dw w).before args s = true := fun h1 h2 => hts _ (mem_good (wd_of h1) h2)
  match y, h, hI with
  | 0, h, _ => exact (nsm h).elim
  | n + 2, h, _ => exact (nsm h).elim
  | 1, h, hI =>
    obtain ⟨h1, h2⟩ := an (show (Nat.beq len 3 && wdx (pl1 tb) (.constantLong (ocl own) ii z.toInt64)) = true from hI)
    have hl := beqN h1; subst hl
    exact lv_ldc2 (v := z.toInt64) hx hb hown (hts _ (mem_good (wx_of h2) rfl)) hdg (ih tl ls (.long z.toInt64 :: st) σ H locs lsA (pc + 3) hsx hnx hL hR hS h)
set_option maxHeartbeats 100000 in
theorem st_lconst {q : Option Value × Sg} (Y : Hyp p l e R s m args below meth c cells slots Q sc D cy ad A cc mL own d cd cal q) (nn : Fin 2) : StK p l e R s m args below meth c cells slots Q sc D cy ad A cc mL own d cd cal q (.lconst nn) := by
  intro n ih pc len x y z tb tl ls st σ H locs lsA hmem hI hdg hsx hnx hL hR hS h
  obtain ⟨C0, hcr, hM, hch, hdc, hok, hAll, hfin⟩ := Y
  have C1 := C0
  obtain ⟨⟨hx, hb, hml, hown, hts⟩, hK, hF0, hF1, hN, hroom⟩ := C1
  have hwd : ∀ {pp : Nat} {w : Qw}, wdi pp w = true → goodWord (dw w) = true → (dw w).before args s = true := fun h1 h2 => hts _ (mem_good (wd_of h1) h2)
  obtain ⟨h1, h2⟩ := an hI
  have hl := beqN h1; subst hl
  exact lv_lconst (v := z.toInt64) hx hb hdg (of_decide_eq_true h2) (ih tl ls (.long z.toInt64 :: st) σ H locs lsA (pc + 1) hsx hnx hL hR hS h)
set_option maxHeartbeats 100000 in
theorem st_iload {q : Option Value × Sg} (Y : Hyp p l e R s m args below meth c cells slots Q sc D cy ad A cc mL own d cd cal q) (ii : Nat) : StK p l e R s m args below meth c cells slots Q sc D cy ad A cc mL own d cd cal q (.iload ii) := by
  intro n ih pc len x y z tb tl ls st σ H locs lsA hmem hI hdg hsx hnx hL hR hS h
  obtain ⟨C0, hcr, hM, hch, hdc, hok, hAll, hfin⟩ := Y
  have C1 := C0
  obtain ⟨⟨hx, hb, hml, hown, hts⟩, hK, hF0, hF1, hN, hroom⟩ := C1
  have hwd : ∀ {pp : Nat} {w : Qw}, wdi pp w = true → goodWord (dw w) = true → (dw w).before args s = true := fun h1 h2 => hts _ (mem_good (wd_of h1) h2)
  obtain ⟨h1, h2⟩ := an hI
  have hl := beqN h1; subst hl
  have hi := beqN h2; subst hi
  have h : (match lgt ls ii with | .int v => run sc cal cd n tl ls (.int v :: st) σ | _ => none) = some q := h
  split at h
  · rename_i v hv
    exact lv_iload hx hb hdg (Lr.int hL hv) (ih tl ls (.int v :: st) σ H locs lsA (pc + 2) hsx hnx hL hR hS h)
  · exact (nsm h).elim
set_option maxHeartbeats 100000 in
theorem st_aload {q : Option Value × Sg} (Y : Hyp p l e R s m args below meth c cells slots Q sc D cy ad A cc mL own d cd cal q) (ii : Nat) : StK p l e R s m args below meth c cells slots Q sc D cy ad A cc mL own d cd cal q (.aload ii) := by
  intro n ih pc len x y z tb tl ls st σ H locs lsA hmem hI hdg hsx hnx hL hR hS h
  obtain ⟨C0, hcr, hM, hch, hdc, hok, hAll, hfin⟩ := Y
  have C1 := C0
  obtain ⟨⟨hx, hb, hml, hown, hts⟩, hK, hF0, hF1, hN, hroom⟩ := C1
  have hwd : ∀ {pp : Nat} {w : Qw}, wdi pp w = true → goodWord (dw w) = true → (dw w).before args s = true := fun h1 h2 => hts _ (mem_good (wd_of h1) h2)
  obtain ⟨h1, h2⟩ := an hI
  have hl := beqN h1; subst hl
  have hi := beqN h2; subst hi
  have h : (match lgt ls ii with | .ref v => run sc cal cd n tl ls (.ref v :: st) σ | _ => none) = some q := h
  split at h
  · rename_i v hv
    exact lv_aload hx hb hdg (Lr.ref hL hv) (ih tl ls (.ref v :: st) σ H locs lsA (pc + 2) hsx hnx hL hR hS h)
  · exact (nsm h).elim
set_option maxHeartbeats 100000 in
theorem st_iload_n {q : Option Value × Sg} (Y : Hyp p l e R s m args below meth c cells slots Q sc D cy ad A cc mL own d cd cal q) (ii : Fin 4) : StK p l e R s m args below meth c cells slots Q sc D cy ad A cc mL own d cd cal q (.iload_n ii) := by
  intro n ih pc len x y z tb tl ls st σ H locs lsA hmem hI hdg hsx hnx hL hR hS h
  obtain ⟨C0, hcr, hM, hch, hdc, hok, hAll, hfin⟩ := Y
  have C1 := C0
  obtain ⟨⟨hx, hb, hml, hown, hts⟩, hK, hF0, hF1, hN, hroom⟩ := C1
  have hwd : ∀ {pp : Nat} {w : Qw}, wdi pp w = true → goodWord (dw w) = true → (dw w).before args s = true := fun h1 h2 => hts _ (mem_good (wd_of h1) h2)
  obtain ⟨h1, h2⟩ := an hI
  have hl := beqN h1; subst hl
  have hi := beqN h2
  have h : (match lgt ls x with | .int v => run sc cal cd n tl ls (.int v :: st) σ | _ => none) = some q := h
  split at h
  · rename_i v hv
    exact lv_iload_n hx hb hdg hi (Lr.int hL hv) (ih tl ls (.int v :: st) σ H locs lsA (pc + 1) hsx hnx hL hR hS h)
  · exact (nsm h).elim
set_option maxHeartbeats 100000 in
theorem st_aload_n {q : Option Value × Sg} (Y : Hyp p l e R s m args below meth c cells slots Q sc D cy ad A cc mL own d cd cal q) (ii : Fin 4) : StK p l e R s m args below meth c cells slots Q sc D cy ad A cc mL own d cd cal q (.aload_n ii) := by
  intro n ih pc len x y z tb tl ls st σ H locs lsA hmem hI hdg hsx hnx hL hR hS h
  obtain ⟨C0, hcr, hM, hch, hdc, hok, hAll, hfin⟩ := Y
  have C1 := C0
  obtain ⟨⟨hx, hb, hml, hown, hts⟩, hK, hF0, hF1, hN, hroom⟩ := C1
  have hwd : ∀ {pp : Nat} {w : Qw}, wdi pp w = true → goodWord (dw w) = true → (dw w).before args s = true := fun h1 h2 => hts _ (mem_good (wd_of h1) h2)
  obtain ⟨h1, h2⟩ := an hI
  have hl := beqN h1; subst hl
  have hi := beqN h2
  have h : (match lgt ls x with | .ref v => run sc cal cd n tl ls (.ref v :: st) σ | _ => none) = some q := h
  split at h
  · rename_i v hv
    exact lv_aload_n hx hb hdg hi (Lr.ref hL hv) (ih tl ls (.ref v :: st) σ H locs lsA (pc + 1) hsx hnx hL hR hS h)
  · exact (nsm h).elim
set_option maxHeartbeats 100000 in
theorem st_lload_n {q : Option Value × Sg} (Y : Hyp p l e R s m args below meth c cells slots Q sc D cy ad A cc mL own d cd cal q) (ii : Fin 4) : StK p l e R s m args below meth c cells slots Q sc D cy ad A cc mL own d cd cal q (.lload_n ii) := by
  intro n ih pc len x y z tb tl ls st σ H locs lsA hmem hI hdg hsx hnx hL hR hS h
  obtain ⟨C0, hcr, hM, hch, hdc, hok, hAll, hfin⟩ := Y
  have C1 := C0
  obtain ⟨⟨hx, hb, hml, hown, hts⟩, hK, hF0, hF1, hN, hroom⟩ := C1
  have hwd : ∀ {pp : Nat} {w : Qw}, wdi pp w = true → goodWord (dw w) = true → (dw w).before args s = true := fun h1 h2 => hts _ (mem_good (wd_of h1) h2)
  obtain ⟨h1, h2⟩ := an hI
  have hl := beqN h1; subst hl
  have hi := beqN h2
  have h : (match lgt ls x with | .long v => run sc cal cd n tl ls (.long v :: st) σ | _ => none) = some q := h
  split at h
  · rename_i v hv
    exact lv_lload_n hx hb hdg hi (Lr.long hL hv) (ih tl ls (.long v :: st) σ H locs lsA (pc + 1) hsx hnx hL hR hS h)
  · exact (nsm h).elim
set_option maxHeartbeats 100000 in
theorem st_istore {q : Option Value × Sg} (Y : Hyp p l e R s m args below meth c cells slots Q sc D cy ad A cc mL own d cd cal q) (ii : Nat) : StK p l e R s m args below meth c cells slots Q sc D cy ad A cc mL own d cd cal q (.istore ii) := by
  intro n ih pc len x y z tb tl ls st σ H locs lsA hmem hI hdg hsx hnx hL hR hS h
  obtain ⟨C0, hcr, hM, hch, hdc, hok, hAll, hfin⟩ := Y
  have C1 := C0
  obtain ⟨⟨hx, hb, hml, hown, hts⟩, hK, hF0, hF1, hN, hroom⟩ := C1
  have hwd : ∀ {pp : Nat} {w : Qw}, wdi pp w = true → goodWord (dw w) = true → (dw w).before args s = true := fun h1 h2 => hts _ (mem_good (wd_of h1) h2)
  obtain ⟨h1, h3⟩ := an hI
  obtain ⟨h1, h2⟩ := an h1
  have hl := beqN h1; subst hl
  have hi := beqN h2; subst hi
  obtain ⟨v, r, rfl, g⟩ := u1_inv h
  replace h := g
  exact lv_istore hx hb hdg hL.has (bltN h3) rfl (fun ls' hh => ih tl (lpt ls ii (.int v)) r σ H locs ls' (pc + 2) hsx hnx (hL.of (v := .int v) (bltN h3) hh) hR hS h)
set_option maxHeartbeats 100000 in
theorem st_istore_n {q : Option Value × Sg} (Y : Hyp p l e R s m args below meth c cells slots Q sc D cy ad A cc mL own d cd cal q) (ii : Fin 4) : StK p l e R s m args below meth c cells slots Q sc D cy ad A cc mL own d cd cal q (.istore_n ii) := by
  intro n ih pc len x y z tb tl ls st σ H locs lsA hmem hI hdg hsx hnx hL hR hS h
  obtain ⟨C0, hcr, hM, hch, hdc, hok, hAll, hfin⟩ := Y
  have C1 := C0
  obtain ⟨⟨hx, hb, hml, hown, hts⟩, hK, hF0, hF1, hN, hroom⟩ := C1
  have hwd : ∀ {pp : Nat} {w : Qw}, wdi pp w = true → goodWord (dw w) = true → (dw w).before args s = true := fun h1 h2 => hts _ (mem_good (wd_of h1) h2)
  obtain ⟨h1, h3⟩ := an hI
  obtain ⟨h1, h2⟩ := an h1
  have hl := beqN h1; subst hl
  have hi := beqN h2
  obtain ⟨v, r, rfl, g⟩ := u1_inv h
  replace h := g
  exact lv_istore_n hx hb hdg hi hL.has (bltN h3) rfl (fun ls' hh => ih tl (lpt ls x (.int v)) r σ H locs ls' (pc + 1) hsx hnx (hL.of (v := .int v) (bltN h3) hh) hR hS h)
set_option maxHeartbeats 100000 in
theorem st_astore {q : Option Value × Sg} (Y : Hyp p l e R s m args below meth c cells slots Q sc D cy ad A cc mL own d cd cal q) (ii : Nat) : StK p l e R s m args below meth c cells slots Q sc D cy ad A cc mL own d cd cal q (.astore ii) := by
  intro n ih pc len x y z tb tl ls st σ H locs lsA hmem hI hdg hsx hnx hL hR hS h
  obtain ⟨C0, hcr, hM, hch, hdc, hok, hAll, hfin⟩ := Y
  have C1 := C0
  obtain ⟨⟨hx, hb, hml, hown, hts⟩, hK, hF0, hF1, hN, hroom⟩ := C1
  have hwd : ∀ {pp : Nat} {w : Qw}, wdi pp w = true → goodWord (dw w) = true → (dw w).before args s = true := fun h1 h2 => hts _ (mem_good (wd_of h1) h2)
  obtain ⟨h1, h3⟩ := an hI
  obtain ⟨h1, h2⟩ := an h1
  have hl := beqN h1; subst hl
  have hi := beqN h2; subst hi
  obtain ⟨v, r, rfl, g⟩ := ra_inv h
  replace h := g
  exact lv_astore hx hb hdg hL.has (bltN h3) rfl (fun ls' hh => ih tl (lpt ls ii (.ref v)) r σ H locs ls' (pc + 2) hsx hnx (hL.of (v := .ref v) (bltN h3) hh) hR hS h)
set_option maxHeartbeats 100000 in
theorem st_astore_n {q : Option Value × Sg} (Y : Hyp p l e R s m args below meth c cells slots Q sc D cy ad A cc mL own d cd cal q) (ii : Fin 4) : StK p l e R s m args below meth c cells slots Q sc D cy ad A cc mL own d cd cal q (.astore_n ii) := by
  intro n ih pc len x y z tb tl ls st σ H locs lsA hmem hI hdg hsx hnx hL hR hS h
  obtain ⟨C0, hcr, hM, hch, hdc, hok, hAll, hfin⟩ := Y
  have C1 := C0
  obtain ⟨⟨hx, hb, hml, hown, hts⟩, hK, hF0, hF1, hN, hroom⟩ := C1
  have hwd : ∀ {pp : Nat} {w : Qw}, wdi pp w = true → goodWord (dw w) = true → (dw w).before args s = true := fun h1 h2 => hts _ (mem_good (wd_of h1) h2)
  obtain ⟨h1, h3⟩ := an hI
  obtain ⟨h1, h2⟩ := an h1
  have hl := beqN h1; subst hl
  have hi := beqN h2
  obtain ⟨v, r, rfl, g⟩ := ra_inv h
  replace h := g
  exact lv_astore_n hx hb hdg hi hL.has (bltN h3) rfl (fun ls' hh => ih tl (lpt ls x (.ref v)) r σ H locs ls' (pc + 1) hsx hnx (hL.of (v := .ref v) (bltN h3) hh) hR hS h)
set_option maxHeartbeats 100000 in
theorem st_iinc {q : Option Value × Sg} (Y : Hyp p l e R s m args below meth c cells slots Q sc D cy ad A cc mL own d cd cal q) (ii : Nat) (cc0 : Int) : StK p l e R s m args below meth c cells slots Q sc D cy ad A cc mL own d cd cal q (.iinc ii cc0) := by
  intro n ih pc len x y z tb tl ls st σ H locs lsA hmem hI hdg hsx hnx hL hR hS h
  obtain ⟨C0, hcr, hM, hch, hdc, hok, hAll, hfin⟩ := Y
  have C1 := C0
  obtain ⟨⟨hx, hb, hml, hown, hts⟩, hK, hF0, hF1, hN, hroom⟩ := C1
  have hwd : ∀ {pp : Nat} {w : Qw}, wdi pp w = true → goodWord (dw w) = true → (dw w).before args s = true := fun h1 h2 => hts _ (mem_good (wd_of h1) h2)
  obtain ⟨h1, h4⟩ := an hI
  obtain ⟨h1, h3⟩ := an h1
  obtain ⟨h1, h2⟩ := an h1
  have hl := beqN h1; subst hl
  have hi := beqN h2; subst hi
  have h : (match lgt ls ii with | .int v => run sc cal cd n tl (lpt ls ii (.int (v + z))) st σ | _ => none) = some q := h
  split at h
  · rename_i v hv
    obtain ⟨k, hk⟩ := lvl_at (ad := ad) hv
    exact lv_iinc (v := v + z) hx hb hdg hL.has hk (by rw [of_decide_eq_true h4]) (bltN h3) rfl (fun ls' hh => ih tl (lpt ls ii (.int (v + z))) st σ H locs ls' (pc + 3) hsx hnx (hL.of (v := .int (v + z)) (bltN h3) hh) hR hS h)
  · exact (nsm h).elim
set_option maxHeartbeats 100000 in
theorem st_iadd {q : Option Value × Sg} (Y : Hyp p l e R s m args below meth c cells slots Q sc D cy ad A cc mL own d cd cal q)  : StK p l e R s m args below meth c cells slots Q sc D cy ad A cc mL own d cd cal q (.iadd) := by
  intro n ih pc len x y z tb tl ls st σ H locs lsA hmem hI hdg hsx hnx hL hR hS h
  obtain ⟨C0, hcr, hM, hch, hdc, hok, hAll, hfin⟩ := Y
  have C1 := C0
  obtain ⟨⟨hx, hb, hml, hown, hts⟩, hK, hF0, hF1, hN, hroom⟩ := C1
  have hwd : ∀ {pp : Nat} {w : Qw}, wdi pp w = true → goodWord (dw w) = true → (dw w).before args s = true := fun h1 h2 => hts _ (mem_good (wd_of h1) h2)
  have hl := beqN hI; subst hl
  obtain ⟨a, b, r, rfl, g⟩ := b2_inv h
  replace h := g
  exact lv_iadd hx hb hdg (ih tl ls (.int (a + b) :: r) σ H locs lsA (pc + 1) hsx hnx hL hR hS h)
set_option maxHeartbeats 100000 in
theorem st_isub {q : Option Value × Sg} (Y : Hyp p l e R s m args below meth c cells slots Q sc D cy ad A cc mL own d cd cal q)  : StK p l e R s m args below meth c cells slots Q sc D cy ad A cc mL own d cd cal q (.isub) := by
  intro n ih pc len x y z tb tl ls st σ H locs lsA hmem hI hdg hsx hnx hL hR hS h
  obtain ⟨C0, hcr, hM, hch, hdc, hok, hAll, hfin⟩ := Y
  have C1 := C0
  obtain ⟨⟨hx, hb, hml, hown, hts⟩, hK, hF0, hF1, hN, hroom⟩ := C1
  have hwd : ∀ {pp : Nat} {w : Qw}, wdi pp w = true → goodWord (dw w) = true → (dw w).before args s = true := fun h1 h2 => hts _ (mem_good (wd_of h1) h2)
  have hl := beqN hI; subst hl
  obtain ⟨a, b, r, rfl, g⟩ := b2_inv h
  replace h := g
  exact lv_isub hx hb hdg (ih tl ls (.int (a - b) :: r) σ H locs lsA (pc + 1) hsx hnx hL hR hS h)
set_option maxHeartbeats 100000 in
theorem st_imul {q : Option Value × Sg} (Y : Hyp p l e R s m args below meth c cells slots Q sc D cy ad A cc mL own d cd cal q)  : StK p l e R s m args below meth c cells slots Q sc D cy ad A cc mL own d cd cal q (.imul) := by
  intro n ih pc len x y z tb tl ls st σ H locs lsA hmem hI hdg hsx hnx hL hR hS h
  obtain ⟨C0, hcr, hM, hch, hdc, hok, hAll, hfin⟩ := Y
  have C1 := C0
  obtain ⟨⟨hx, hb, hml, hown, hts⟩, hK, hF0, hF1, hN, hroom⟩ := C1
  have hwd : ∀ {pp : Nat} {w : Qw}, wdi pp w = true → goodWord (dw w) = true → (dw w).before args s = true := fun h1 h2 => hts _ (mem_good (wd_of h1) h2)
  have hl := beqN hI; subst hl
  obtain ⟨a, b, r, rfl, g⟩ := b2_inv h
  replace h := g
  exact lv_imul hx hb hdg (ih tl ls (.int (a * b) :: r) σ H locs lsA (pc + 1) hsx hnx hL hR hS h)
set_option maxHeartbeats 100000 in
theorem st_iand {q : Option Value × Sg} (Y : Hyp p l e R s m args below meth c cells slots Q sc D cy ad A cc mL own d cd cal q)  : StK p l e R s m args below meth c cells slots Q sc D cy ad A cc mL own d cd cal q (.iand) := by
  intro n ih pc len x y z tb tl ls st σ H locs lsA hmem hI hdg hsx hnx hL hR hS h
  obtain ⟨C0, hcr, hM, hch, hdc, hok, hAll, hfin⟩ := Y
  have C1 := C0
  obtain ⟨⟨hx, hb, hml, hown, hts⟩, hK, hF0, hF1, hN, hroom⟩ := C1
  have hwd : ∀ {pp : Nat} {w : Qw}, wdi pp w = true → goodWord (dw w) = true → (dw w).before args s = true := fun h1 h2 => hts _ (mem_good (wd_of h1) h2)
  have hl := beqN hI; subst hl
  obtain ⟨a, b, r, rfl, g⟩ := b2_inv h
  replace h := g
  exact lv_iand hx hb hdg (ih tl ls (.int (a &&& b) :: r) σ H locs lsA (pc + 1) hsx hnx hL hR hS h)
set_option maxHeartbeats 100000 in
theorem st_ior {q : Option Value × Sg} (Y : Hyp p l e R s m args below meth c cells slots Q sc D cy ad A cc mL own d cd cal q)  : StK p l e R s m args below meth c cells slots Q sc D cy ad A cc mL own d cd cal q (.ior) := by
  intro n ih pc len x y z tb tl ls st σ H locs lsA hmem hI hdg hsx hnx hL hR hS h
  obtain ⟨C0, hcr, hM, hch, hdc, hok, hAll, hfin⟩ := Y
  have C1 := C0
  obtain ⟨⟨hx, hb, hml, hown, hts⟩, hK, hF0, hF1, hN, hroom⟩ := C1
  have hwd : ∀ {pp : Nat} {w : Qw}, wdi pp w = true → goodWord (dw w) = true → (dw w).before args s = true := fun h1 h2 => hts _ (mem_good (wd_of h1) h2)
  have hl := beqN hI; subst hl
  obtain ⟨a, b, r, rfl, g⟩ := b2_inv h
  replace h := g
  exact lv_ior hx hb hdg (ih tl ls (.int (a ||| b) :: r) σ H locs lsA (pc + 1) hsx hnx hL hR hS h)
set_option maxHeartbeats 100000 in
theorem st_ixor {q : Option Value × Sg} (Y : Hyp p l e R s m args below meth c cells slots Q sc D cy ad A cc mL own d cd cal q)  : StK p l e R s m args below meth c cells slots Q sc D cy ad A cc mL own d cd cal q (.ixor) := by
  intro n ih pc len x y z tb tl ls st σ H locs lsA hmem hI hdg hsx hnx hL hR hS h
  obtain ⟨C0, hcr, hM, hch, hdc, hok, hAll, hfin⟩ := Y
  have C1 := C0
  obtain ⟨⟨hx, hb, hml, hown, hts⟩, hK, hF0, hF1, hN, hroom⟩ := C1
  have hwd : ∀ {pp : Nat} {w : Qw}, wdi pp w = true → goodWord (dw w) = true → (dw w).before args s = true := fun h1 h2 => hts _ (mem_good (wd_of h1) h2)
  have hl := beqN hI; subst hl
  obtain ⟨a, b, r, rfl, g⟩ := b2_inv h
  replace h := g
  exact lv_ixor hx hb hdg (ih tl ls (.int (a ^^^ b) :: r) σ H locs lsA (pc + 1) hsx hnx hL hR hS h)
set_option maxHeartbeats 100000 in
theorem st_ishl {q : Option Value × Sg} (Y : Hyp p l e R s m args below meth c cells slots Q sc D cy ad A cc mL own d cd cal q)  : StK p l e R s m args below meth c cells slots Q sc D cy ad A cc mL own d cd cal q (.ishl) := by
  intro n ih pc len x y z tb tl ls st σ H locs lsA hmem hI hdg hsx hnx hL hR hS h
  obtain ⟨C0, hcr, hM, hch, hdc, hok, hAll, hfin⟩ := Y
  have C1 := C0
  obtain ⟨⟨hx, hb, hml, hown, hts⟩, hK, hF0, hF1, hN, hroom⟩ := C1
  have hwd : ∀ {pp : Nat} {w : Qw}, wdi pp w = true → goodWord (dw w) = true → (dw w).before args s = true := fun h1 h2 => hts _ (mem_good (wd_of h1) h2)
  have hl := beqN hI; subst hl
  obtain ⟨a, b, r, rfl, g⟩ := b2_inv h
  replace h := g
  exact lv_ishl hx hb hdg (ih tl ls (.int (a <<< (b &&& 31)) :: r) σ H locs lsA (pc + 1) hsx hnx hL hR hS h)
set_option maxHeartbeats 100000 in
theorem st_ishr {q : Option Value × Sg} (Y : Hyp p l e R s m args below meth c cells slots Q sc D cy ad A cc mL own d cd cal q)  : StK p l e R s m args below meth c cells slots Q sc D cy ad A cc mL own d cd cal q (.ishr) := by
  intro n ih pc len x y z tb tl ls st σ H locs lsA hmem hI hdg hsx hnx hL hR hS h
  obtain ⟨C0, hcr, hM, hch, hdc, hok, hAll, hfin⟩ := Y
  have C1 := C0
  obtain ⟨⟨hx, hb, hml, hown, hts⟩, hK, hF0, hF1, hN, hroom⟩ := C1
  have hwd : ∀ {pp : Nat} {w : Qw}, wdi pp w = true → goodWord (dw w) = true → (dw w).before args s = true := fun h1 h2 => hts _ (mem_good (wd_of h1) h2)
  have hl := beqN hI; subst hl
  obtain ⟨a, b, r, rfl, g⟩ := b2_inv h
  replace h := g
  exact lv_ishr hx hb hdg (ih tl ls (.int (a >>> (b &&& 31)) :: r) σ H locs lsA (pc + 1) hsx hnx hL hR hS h)
set_option maxHeartbeats 100000 in
theorem st_iushr {q : Option Value × Sg} (Y : Hyp p l e R s m args below meth c cells slots Q sc D cy ad A cc mL own d cd cal q)  : StK p l e R s m args below meth c cells slots Q sc D cy ad A cc mL own d cd cal q (.iushr) := by
  intro n ih pc len x y z tb tl ls st σ H locs lsA hmem hI hdg hsx hnx hL hR hS h
  obtain ⟨C0, hcr, hM, hch, hdc, hok, hAll, hfin⟩ := Y
  have C1 := C0
  obtain ⟨⟨hx, hb, hml, hown, hts⟩, hK, hF0, hF1, hN, hroom⟩ := C1
  have hwd : ∀ {pp : Nat} {w : Qw}, wdi pp w = true → goodWord (dw w) = true → (dw w).before args s = true := fun h1 h2 => hts _ (mem_good (wd_of h1) h2)
  have hl := beqN hI; subst hl
  obtain ⟨a, b, r, rfl, g⟩ := b2_inv h
  replace h := g
  exact lv_iushr hx hb hdg rfl (ih tl ls (.int _ :: r) σ H locs lsA (pc + 1) hsx hnx hL hR hS h)
set_option maxHeartbeats 100000 in
theorem st_idiv {q : Option Value × Sg} (Y : Hyp p l e R s m args below meth c cells slots Q sc D cy ad A cc mL own d cd cal q)  : StK p l e R s m args below meth c cells slots Q sc D cy ad A cc mL own d cd cal q (.idiv) := by
  intro n ih pc len x y z tb tl ls st σ H locs lsA hmem hI hdg hsx hnx hL hR hS h
  obtain ⟨C0, hcr, hM, hch, hdc, hok, hAll, hfin⟩ := Y
  have C1 := C0
  obtain ⟨⟨hx, hb, hml, hown, hts⟩, hK, hF0, hF1, hN, hroom⟩ := C1
  have hwd : ∀ {pp : Nat} {w : Qw}, wdi pp w = true → goodWord (dw w) = true → (dw w).before args s = true := fun h1 h2 => hts _ (mem_good (wd_of h1) h2)
  have hl := beqN hI; subst hl
  obtain ⟨a, b, r, rfl, g⟩ := b2_inv h
  replace h := g
  have h : (if b = 0 then none else run sc cal cd n tl ls (.int (a / b) :: r) σ) = some q := h
  split at h
  · exact (nsm h).elim
  · rename_i hne
    have kk := ih tl ls (.int (a / b) :: r) σ H locs lsA (pc + 1) hsx hnx hL hR hS h
    exact lv_idiv hx hb hdg hne kk
set_option maxHeartbeats 100000 in
theorem st_irem {q : Option Value × Sg} (Y : Hyp p l e R s m args below meth c cells slots Q sc D cy ad A cc mL own d cd cal q)  : StK p l e R s m args below meth c cells slots Q sc D cy ad A cc mL own d cd cal q (.irem) := by
  intro n ih pc len x y z tb tl ls st σ H locs lsA hmem hI hdg hsx hnx hL hR hS h
  obtain ⟨C0, hcr, hM, hch, hdc, hok, hAll, hfin⟩ := Y
  have C1 := C0
  obtain ⟨⟨hx, hb, hml, hown, hts⟩, hK, hF0, hF1, hN, hroom⟩ := C1
  have hwd : ∀ {pp : Nat} {w : Qw}, wdi pp w = true → goodWord (dw w) = true → (dw w).before args s = true := fun h1 h2 => hts _ (mem_good (wd_of h1) h2)
  have hl := beqN hI; subst hl
  obtain ⟨a, b, r, rfl, g⟩ := b2_inv h
  replace h := g
  have h : (if b = 0 then none else run sc cal cd n tl ls (.int (a % b) :: r) σ) = some q := h
  split at h
  · exact (nsm h).elim
  · rename_i hne
    have kk := ih tl ls (.int (a % b) :: r) σ H locs lsA (pc + 1) hsx hnx hL hR hS h
    rw [← i32mod] at kk
    exact lv_irem hx hb hdg hne kk
set_option maxHeartbeats 100000 in
theorem st_ladd {q : Option Value × Sg} (Y : Hyp p l e R s m args below meth c cells slots Q sc D cy ad A cc mL own d cd cal q)  : StK p l e R s m args below meth c cells slots Q sc D cy ad A cc mL own d cd cal q (.ladd) := by
  intro n ih pc len x y z tb tl ls st σ H locs lsA hmem hI hdg hsx hnx hL hR hS h
  obtain ⟨C0, hcr, hM, hch, hdc, hok, hAll, hfin⟩ := Y
  have C1 := C0
  obtain ⟨⟨hx, hb, hml, hown, hts⟩, hK, hF0, hF1, hN, hroom⟩ := C1
  have hwd : ∀ {pp : Nat} {w : Qw}, wdi pp w = true → goodWord (dw w) = true → (dw w).before args s = true := fun h1 h2 => hts _ (mem_good (wd_of h1) h2)
  have hl := beqN hI; subst hl
  obtain ⟨a, b, r, rfl, g⟩ := l2_inv h
  replace h := g
  exact lv_ladd hx hb hdg (ih tl ls (.long (a + b) :: r) σ H locs lsA (pc + 1) hsx hnx hL hR hS h)
set_option maxHeartbeats 100000 in
theorem st_lcmp {q : Option Value × Sg} (Y : Hyp p l e R s m args below meth c cells slots Q sc D cy ad A cc mL own d cd cal q)  : StK p l e R s m args below meth c cells slots Q sc D cy ad A cc mL own d cd cal q (.lcmp) := by
  intro n ih pc len x y z tb tl ls st σ H locs lsA hmem hI hdg hsx hnx hL hR hS h
  obtain ⟨C0, hcr, hM, hch, hdc, hok, hAll, hfin⟩ := Y
  have C1 := C0
  obtain ⟨⟨hx, hb, hml, hown, hts⟩, hK, hF0, hF1, hN, hroom⟩ := C1
  have hwd : ∀ {pp : Nat} {w : Qw}, wdi pp w = true → goodWord (dw w) = true → (dw w).before args s = true := fun h1 h2 => hts _ (mem_good (wd_of h1) h2)
  have hl := beqN hI; subst hl
  obtain ⟨a, b, r, rfl, g⟩ := l2_inv h
  replace h := g
  exact W.lcmp hx hb hdg (ih tl ls (.int (lg_cmp a b) :: r) σ H locs lsA (pc + 1) hsx hnx hL hR hS h)
set_option maxHeartbeats 100000 in
theorem st_i2b {q : Option Value × Sg} (Y : Hyp p l e R s m args below meth c cells slots Q sc D cy ad A cc mL own d cd cal q)  : StK p l e R s m args below meth c cells slots Q sc D cy ad A cc mL own d cd cal q (.i2b) := by
  intro n ih pc len x y z tb tl ls st σ H locs lsA hmem hI hdg hsx hnx hL hR hS h
  obtain ⟨C0, hcr, hM, hch, hdc, hok, hAll, hfin⟩ := Y
  have C1 := C0
  obtain ⟨⟨hx, hb, hml, hown, hts⟩, hK, hF0, hF1, hN, hroom⟩ := C1
  have hwd : ∀ {pp : Nat} {w : Qw}, wdi pp w = true → goodWord (dw w) = true → (dw w).before args s = true := fun h1 h2 => hts _ (mem_good (wd_of h1) h2)
  have hl := beqN hI; subst hl
  obtain ⟨a, r, rfl, g⟩ := u1_inv h
  replace h := g
  exact lv_i2b hx hb hdg rfl (ih tl ls (.int (a.toInt8.toInt32) :: r) σ H locs lsA (pc + 1) hsx hnx hL hR hS h)
set_option maxHeartbeats 100000 in
theorem st_i2c {q : Option Value × Sg} (Y : Hyp p l e R s m args below meth c cells slots Q sc D cy ad A cc mL own d cd cal q)  : StK p l e R s m args below meth c cells slots Q sc D cy ad A cc mL own d cd cal q (.i2c) := by
  intro n ih pc len x y z tb tl ls st σ H locs lsA hmem hI hdg hsx hnx hL hR hS h
  obtain ⟨C0, hcr, hM, hch, hdc, hok, hAll, hfin⟩ := Y
  have C1 := C0
  obtain ⟨⟨hx, hb, hml, hown, hts⟩, hK, hF0, hF1, hN, hroom⟩ := C1
  have hwd : ∀ {pp : Nat} {w : Qw}, wdi pp w = true → goodWord (dw w) = true → (dw w).before args s = true := fun h1 h2 => hts _ (mem_good (wd_of h1) h2)
  have hl := beqN hI; subst hl
  obtain ⟨a, r, rfl, g⟩ := u1_inv h
  replace h := g
  exact lv_i2c hx hb hdg rfl (ih tl ls (.int ((a.toUInt32 % 65536).toInt32) :: r) σ H locs lsA (pc + 1) hsx hnx hL hR hS h)
set_option maxHeartbeats 100000 in
theorem st_dup {q : Option Value × Sg} (Y : Hyp p l e R s m args below meth c cells slots Q sc D cy ad A cc mL own d cd cal q)  : StK p l e R s m args below meth c cells slots Q sc D cy ad A cc mL own d cd cal q (.dup) := by
  intro n ih pc len x y z tb tl ls st σ H locs lsA hmem hI hdg hsx hnx hL hR hS h
  obtain ⟨C0, hcr, hM, hch, hdc, hok, hAll, hfin⟩ := Y
  have C1 := C0
  obtain ⟨⟨hx, hb, hml, hown, hts⟩, hK, hF0, hF1, hN, hroom⟩ := C1
  have hwd : ∀ {pp : Nat} {w : Qw}, wdi pp w = true → goodWord (dw w) = true → (dw w).before args s = true := fun h1 h2 => hts _ (mem_good (wd_of h1) h2)
  have hl := beqN hI; subst hl
  match st, h with
  | [], h => exact (nsm h).elim
  | v :: r, h =>
    have h : (match c1 v with | true => run sc cal cd n tl ls (v :: v :: r) σ | false => none) = some q := h
    split at h
    · rename_i e
      exact lv_dup hx hb hdg (c1_cat e) (ih tl ls (v :: v :: r) σ H locs lsA (pc + 1) hsx hnx hL hR hS h)
    · exact (nsm h).elim
set_option maxHeartbeats 100000 in
theorem st_pop {q : Option Value × Sg} (Y : Hyp p l e R s m args below meth c cells slots Q sc D cy ad A cc mL own d cd cal q)  : StK p l e R s m args below meth c cells slots Q sc D cy ad A cc mL own d cd cal q (.pop) := by
  intro n ih pc len x y z tb tl ls st σ H locs lsA hmem hI hdg hsx hnx hL hR hS h
  obtain ⟨C0, hcr, hM, hch, hdc, hok, hAll, hfin⟩ := Y
  have C1 := C0
  obtain ⟨⟨hx, hb, hml, hown, hts⟩, hK, hF0, hF1, hN, hroom⟩ := C1
  have hwd : ∀ {pp : Nat} {w : Qw}, wdi pp w = true → goodWord (dw w) = true → (dw w).before args s = true := fun h1 h2 => hts _ (mem_good (wd_of h1) h2)
  have hl := beqN hI; subst hl
  match st, h with
  | [], h => exact (nsm h).elim
  | v :: r, h =>
    have h : (match c1 v with | true => run sc cal cd n tl ls r σ | false => none) = some q := h
    split at h
    · rename_i e
      exact lv_pop hx hb hdg (c1_cat e) (ih tl ls r σ H locs lsA (pc + 1) hsx hnx hL hR hS h)
    · exact (nsm h).elim
set_option maxHeartbeats 100000 in
theorem st_dup2 {q : Option Value × Sg} (Y : Hyp p l e R s m args below meth c cells slots Q sc D cy ad A cc mL own d cd cal q)  : StK p l e R s m args below meth c cells slots Q sc D cy ad A cc mL own d cd cal q (.dup2) := by
  intro n ih pc len x y z tb tl ls st σ H locs lsA hmem hI hdg hsx hnx hL hR hS h
  obtain ⟨C0, hcr, hM, hch, hdc, hok, hAll, hfin⟩ := Y
  have C1 := C0
  obtain ⟨⟨hx, hb, hml, hown, hts⟩, hK, hF0, hF1, hN, hroom⟩ := C1
  have hwd : ∀ {pp : Nat} {w : Qw}, wdi pp w = true → goodWord (dw w) = true → (dw w).before args s = true := fun h1 h2 => hts _ (mem_good (wd_of h1) h2)
  have hl := beqN hI; subst hl
  match st, h with
  | [], h => exact (nsm h).elim
  | [_], h => exact (nsm h).elim
  | v :: w :: r, h =>
    have h : (match c1 v && c1 w with | true => run sc cal cd n tl ls (v :: w :: v :: w :: r) σ | false => none) = some q := h
    split at h
    · rename_i e
      exact lv_dup2_11 hx hb hdg (c1_cat (an e).1) (c1_cat (an e).2) (ih tl ls (v :: w :: v :: w :: r) σ H locs lsA (pc + 1) hsx hnx hL hR hS h)
    · exact (nsm h).elim
set_option maxHeartbeats 100000 in
theorem st_dup_x1 {q : Option Value × Sg} (Y : Hyp p l e R s m args below meth c cells slots Q sc D cy ad A cc mL own d cd cal q)  : StK p l e R s m args below meth c cells slots Q sc D cy ad A cc mL own d cd cal q (.dup_x1) := by
  intro n ih pc len x y z tb tl ls st σ H locs lsA hmem hI hdg hsx hnx hL hR hS h
  obtain ⟨C0, hcr, hM, hch, hdc, hok, hAll, hfin⟩ := Y
  have C1 := C0
  obtain ⟨⟨hx, hb, hml, hown, hts⟩, hK, hF0, hF1, hN, hroom⟩ := C1
  have hwd : ∀ {pp : Nat} {w : Qw}, wdi pp w = true → goodWord (dw w) = true → (dw w).before args s = true := fun h1 h2 => hts _ (mem_good (wd_of h1) h2)
  have hl := beqN hI; subst hl
  match st, h with
  | [], h => exact (nsm h).elim
  | [_], h => exact (nsm h).elim
  | v :: w :: r, h =>
    have h : (match c1 v && c1 w with | true => run sc cal cd n tl ls (v :: w :: v :: r) σ | false => none) = some q := h
    split at h
    · rename_i e
      exact lv_dup_x1 hx hb hdg (c1_cat (an e).1) (c1_cat (an e).2) (ih tl ls (v :: w :: v :: r) σ H locs lsA (pc + 1) hsx hnx hL hR hS h)
    · exact (nsm h).elim
set_option maxHeartbeats 100000 in
theorem st_goto {q : Option Value × Sg} (Y : Hyp p l e R s m args below meth c cells slots Q sc D cy ad A cc mL own d cd cal q) (off : Int) : StK p l e R s m args below meth c cells slots Q sc D cy ad A cc mL own d cd cal q (.goto off) := by
  intro n ih pc len x y z tb tl ls st σ H locs lsA hmem hI hdg hsx hnx hL hR hS h
  obtain ⟨C0, hcr, hM, hch, hdc, hok, hAll, hfin⟩ := Y
  have C1 := C0
  obtain ⟨⟨hx, hb, hml, hown, hts⟩, hK, hF0, hF1, hN, hroom⟩ := C1
  have hwd : ∀ {pp : Nat} {w : Qw}, wdi pp w = true → goodWord (dw w) = true → (dw w).before args s = true := fun h1 h2 => hts _ (mem_good (wd_of h1) h2)
  obtain ⟨h1, h2⟩ := an hI
  have hl := beqN h1; subst hl
  exact lv_goto hx hb hdg (of_decide_eq_true h2) (goJ ih x ls st σ H locs lsA hL hR hS h)
set_option maxHeartbeats 100000 in
theorem st_if_icmp {q : Option Value × Sg} (Y : Hyp p l e R s m args below meth c cells slots Q sc D cy ad A cc mL own d cd cal q) (cond : ClassFile.Cond) (off : Int) : StK p l e R s m args below meth c cells slots Q sc D cy ad A cc mL own d cd cal q (.if_icmp cond off) := by
  intro n ih pc len x y z tb tl ls st σ H locs lsA hmem hI hdg hsx hnx hL hR hS h
  obtain ⟨C0, hcr, hM, hch, hdc, hok, hAll, hfin⟩ := Y
  have C1 := C0
  obtain ⟨⟨hx, hb, hml, hown, hts⟩, hK, hF0, hF1, hN, hroom⟩ := C1
  have hwd : ∀ {pp : Nat} {w : Qw}, wdi pp w = true → goodWord (dw w) = true → (dw w).before args s = true := fun h1 h2 => hts _ (mem_good (wd_of h1) h2)
  obtain ⟨h1, h2⟩ := an hI
  have hl := beqN h1; subst hl
  have ht : (pc : Int) + off = (x : Int) := of_decide_eq_true h2
  cases cond
  case eq =>
    obtain ⟨a, b, r, rfl, g⟩ := b2_inv h
    replace h := g
    exact lv_icmp_eq hx hb hdg ht (fun c1 => goJ ih x ls r σ H locs lsA hL hR hS (by rwa [if_pos c1] at h)) (fun c1 => ih tl ls r σ H locs lsA (pc + 3) hsx hnx hL hR hS (by rwa [if_neg c1] at h))
  case ne =>
    obtain ⟨a, b, r, rfl, g⟩ := b2_inv h
    replace h := g
    exact lv_icmp_ne hx hb hdg ht (fun c1 => goJ ih x ls r σ H locs lsA hL hR hS (by rwa [if_neg c1] at h)) (fun c1 => ih tl ls r σ H locs lsA (pc + 3) hsx hnx hL hR hS (by rwa [if_pos c1] at h))
  case lt =>
    obtain ⟨a, b, r, rfl, g⟩ := b2_inv h
    replace h := g
    exact lv_icmp_lt hx hb hdg ht (fun c1 => goJ ih x ls r σ H locs lsA hL hR hS (by rwa [if_pos c1] at h)) (fun c1 => ih tl ls r σ H locs lsA (pc + 3) hsx hnx hL hR hS (by rwa [if_neg c1] at h))
  case ge =>
    obtain ⟨a, b, r, rfl, g⟩ := b2_inv h
    replace h := g
    exact lv_icmp_ge hx hb hdg ht (fun c1 => goJ ih x ls r σ H locs lsA hL hR hS (by rwa [if_neg (Int32.not_lt.mpr c1)] at h)) (fun c1 => ih tl ls r σ H locs lsA (pc + 3) hsx hnx hL hR hS (by rwa [if_pos (Int32.not_le.mp c1)] at h))
  case gt =>
    obtain ⟨a, b, r, rfl, g⟩ := b2_inv h
    replace h := g
    exact lv_icmp_gt hx hb hdg ht (fun c1 => goJ ih x ls r σ H locs lsA hL hR hS (by rwa [if_pos c1] at h)) (fun c1 => ih tl ls r σ H locs lsA (pc + 3) hsx hnx hL hR hS (by rwa [if_neg c1] at h))
  case le =>
    obtain ⟨a, b, r, rfl, g⟩ := b2_inv h
    replace h := g
    exact lv_icmp_le hx hb hdg ht (fun c1 => goJ ih x ls r σ H locs lsA hL hR hS (by rwa [if_neg (Int32.not_lt.mpr c1)] at h)) (fun c1 => ih tl ls r σ H locs lsA (pc + 3) hsx hnx hL hR hS (by rwa [if_pos (Int32.not_le.mp c1)] at h))
set_option maxHeartbeats 100000 in
theorem st_ifCond {q : Option Value × Sg} (Y : Hyp p l e R s m args below meth c cells slots Q sc D cy ad A cc mL own d cd cal q) (cond : ClassFile.Cond) (off : Int) : StK p l e R s m args below meth c cells slots Q sc D cy ad A cc mL own d cd cal q (.ifCond cond off) := by
  intro n ih pc len x y z tb tl ls st σ H locs lsA hmem hI hdg hsx hnx hL hR hS h
  obtain ⟨C0, hcr, hM, hch, hdc, hok, hAll, hfin⟩ := Y
  have C1 := C0
  obtain ⟨⟨hx, hb, hml, hown, hts⟩, hK, hF0, hF1, hN, hroom⟩ := C1
  have hwd : ∀ {pp : Nat} {w : Qw}, wdi pp w = true → goodWord (dw w) = true → (dw w).before args s = true := fun h1 h2 => hts _ (mem_good (wd_of h1) h2)
  obtain ⟨h1, h2⟩ := an hI
  have hl := beqN h1; subst hl
  have ht : (pc : Int) + off = (x : Int) := of_decide_eq_true h2
  cases cond
  case eq =>
    obtain ⟨a, r, rfl, g⟩ := u1_inv h
    replace h := g
    exact lv_if_eq hx hb hdg ht (fun c1 => goJ ih x ls r σ H locs lsA hL hR hS (by rwa [if_pos c1] at h)) (fun c1 => ih tl ls r σ H locs lsA (pc + 3) hsx hnx hL hR hS (by rwa [if_neg c1] at h))
  case ne =>
    obtain ⟨a, r, rfl, g⟩ := u1_inv h
    replace h := g
    exact lv_if_ne hx hb hdg ht (fun c1 => goJ ih x ls r σ H locs lsA hL hR hS (by rwa [if_neg c1] at h)) (fun c1 => ih tl ls r σ H locs lsA (pc + 3) hsx hnx hL hR hS (by rwa [if_pos c1] at h))
  case lt =>
    obtain ⟨a, r, rfl, g⟩ := u1_inv h
    replace h := g
    exact lv_if_lt hx hb hdg ht (fun c1 => goJ ih x ls r σ H locs lsA hL hR hS (by rwa [if_pos c1] at h)) (fun c1 => ih tl ls r σ H locs lsA (pc + 3) hsx hnx hL hR hS (by rwa [if_neg c1] at h))
  case ge =>
    obtain ⟨a, r, rfl, g⟩ := u1_inv h
    replace h := g
    exact lv_if_ge hx hb hdg ht (fun c1 => goJ ih x ls r σ H locs lsA hL hR hS (by rwa [if_neg (Int32.not_lt.mpr c1)] at h)) (fun c1 => ih tl ls r σ H locs lsA (pc + 3) hsx hnx hL hR hS (by rwa [if_pos (Int32.not_le.mp c1)] at h))
  case gt =>
    obtain ⟨a, r, rfl, g⟩ := u1_inv h
    replace h := g
    exact lv_if_gt hx hb hdg ht (fun c1 => goJ ih x ls r σ H locs lsA hL hR hS (by rwa [if_pos c1] at h)) (fun c1 => ih tl ls r σ H locs lsA (pc + 3) hsx hnx hL hR hS (by rwa [if_neg c1] at h))
  case le =>
    obtain ⟨a, r, rfl, g⟩ := u1_inv h
    replace h := g
    exact lv_if_le hx hb hdg ht (fun c1 => goJ ih x ls r σ H locs lsA hL hR hS (by rwa [if_neg (Int32.not_lt.mpr c1)] at h)) (fun c1 => ih tl ls r σ H locs lsA (pc + 3) hsx hnx hL hR hS (by rwa [if_pos (Int32.not_le.mp c1)] at h))
set_option maxHeartbeats 100000 in
theorem st_tableswitch {q : Option Value × Sg} (Y : Hyp p l e R s m args below meth c cells slots Q sc D cy ad A cc mL own d cd cal q) (df : Int) (lo : Int) (hi : Int) (offs : Array Int) : StK p l e R s m args below meth c cells slots Q sc D cy ad A cc mL own d cd cal q (.tableswitch df lo hi offs) := by
  intro n ih pc len x y z tb tl ls st σ H locs lsA hmem hI hdg hsx hnx hL hR hS h
  obtain ⟨C0, hcr, hM, hch, hdc, hok, hAll, hfin⟩ := Y
  have C1 := C0
  obtain ⟨⟨hx, hb, hml, hown, hts⟩, hK, hF0, hF1, hN, hroom⟩ := C1
  have hwd : ∀ {pp : Nat} {w : Qw}, wdi pp w = true → goodWord (dw w) = true → (dw w).before args s = true := fun h1 h2 => hts _ (mem_good (wd_of h1) h2)
  obtain ⟨h1, h5⟩ := an hI
  obtain ⟨h1, h4⟩ := an h1
  obtain ⟨h1, h3⟩ := an h1
  obtain ⟨h1, h2⟩ := an h1
  have ht : (pc : Int) + df = (x : Int) := of_decide_eq_true h1
  have htb := of_decide_eq_true h2
  have hhi := of_decide_eq_true h3
  obtain ⟨hlo, hhi2⟩ := of_decide_eq_true h5
  obtain ⟨a, r, rfl, g⟩ := u1_inv h
  replace h := g
  rcases sw_inv h with ⟨k, t, g1, g2, g3⟩ | ⟨g1, g2⟩
  · rw [htb, tbOf_at] at g1
    cases ho : offs.toList[k]? with
    | none => rw [ho] at g1; cases g1
    | some off =>
      rw [ho] at g1
      have g4 := Option.some.inj g1
      have ga : Int32.ofInt (lo + k) = a := congrArg Prod.fst g4
      have gt : ((pc : Int) + off).toNat = t := congrArg Prod.snd g4
      have hkl : k < offs.toList.length := (List.getElem?_eq_some_iff.mp ho).1
      rw [Array.length_toList] at hkl
      have hpos := of_decide_eq_true (List.all_eq_true.mp h4 off (List.mem_of_getElem? ho))
      have hai : a.toInt = lo + k := by rw [← ga]; exact toInt_small (by omega) (by omega)
      refine lv_tableIn (off := off) (tgt := t) hx hb hdg (by omega) (by omega) ?_ (by omega) (goJ ih t ls r σ H locs lsA hL hR hS g3)
      rw [hai, show (lo + (k : Int) - lo).toNat = k by omega, ← Array.getElem?_toList]
      exact ho
  · refine lv_tableOut hx hb hdg ?_ ht (goJ ih x ls r σ H locs lsA hL hR hS g2)
    rcases Int.lt_or_le a.toInt lo with w1 | w1
    · exact Or.inl w1
    rcases Int.lt_or_le hi a.toInt with w2 | w2
    · exact Or.inr w2
    exfalso
    have hk : (a.toInt - lo).toNat < offs.toList.length := by rw [Array.length_toList]; omega
    have e1 : tb[(a.toInt - lo).toNat]? = some (Int32.ofInt (lo + ((a.toInt - lo).toNat : Nat)), ((pc : Int) + offs.toList[(a.toInt - lo).toNat]).toNat) := by
      rw [htb, tbOf_at, List.getElem?_eq_getElem hk]; rfl
    refine g1 _ (List.mem_of_getElem? e1) ?_
    show Int32.ofInt _ = a
    rw [show lo + (((a.toInt - lo).toNat : Nat) : Int) = a.toInt by omega]
    exact Int32.ofInt_toInt a
set_option maxHeartbeats 100000 in
theorem st_lookupswitch {q : Option Value × Sg} (Y : Hyp p l e R s m args below meth c cells slots Q sc D cy ad A cc mL own d cd cal q) (df : Int) (ps : Array (Int × Int)) : StK p l e R s m args below meth c cells slots Q sc D cy ad A cc mL own d cd cal q (.lookupswitch df ps) := by
  intro n ih pc len x y z tb tl ls st σ H locs lsA hmem hI hdg hsx hnx hL hR hS h
  obtain ⟨C0, hcr, hM, hch, hdc, hok, hAll, hfin⟩ := Y
  have C1 := C0
  obtain ⟨⟨hx, hb, hml, hown, hts⟩, hK, hF0, hF1, hN, hroom⟩ := C1
  have hwd : ∀ {pp : Nat} {w : Qw}, wdi pp w = true → goodWord (dw w) = true → (dw w).before args s = true := fun h1 h2 => hts _ (mem_good (wd_of h1) h2)
  obtain ⟨h1, h5⟩ := an hI
  obtain ⟨h1, h4⟩ := an h1
  obtain ⟨h1, h2⟩ := an h1
  have ht : (pc : Int) + df = (x : Int) := of_decide_eq_true h1
  have htb := of_decide_eq_true h2
  obtain ⟨a, r, rfl, g⟩ := u1_inv h
  replace h := g
  have key : ∀ (ls0 : List (Int × Int)) (g : Nat → Rs), (∀ w ∈ ls0, 0 ≤ (pc : Int) + w.2 ∧ -1000 ≤ w.1 ∧ w.1 < 1000) → sw a g (g x) (lkOf pc ls0) = some q → ∃ t : Nat, (pc : Int) + Op.lookupswitch.offset ls0 df a.toInt = (t : Int) ∧ g t = some q := by
    intro ls0 g hls hg
    induction ls0 with
    | nil => exact ⟨x, ht, hg⟩
    | cons w t0 ihl =>
      obtain ⟨w1, w2⟩ := w
      have hw := hls _ List.mem_cons_self
      have hg : (if a = Int32.ofInt w1 then g ((pc : Int) + w2).toNat else sw a g (g x) (lkOf pc t0)) = some q := hg
      rw [Op.lookupswitch.offset_cons]
      by_cases e1 : a = Int32.ofInt w1
      · rw [if_pos e1] at hg
        rw [if_pos (by rw [e1, toInt_small (by omega) (by omega)])]
        exact ⟨_, by have := hw.1; simp only at this; omega, hg⟩
      · rw [if_neg e1] at hg
        rw [if_neg (fun e2 => e1 (by rw [e2]; exact (Int32.ofInt_toInt a).symm))]
        exact ihl (fun w hw => hls w (List.mem_cons_of_mem _ hw)) hg
  have hall : ∀ w ∈ ps.toList, 0 ≤ (pc : Int) + w.2 ∧ -1000 ≤ w.1 ∧ w.1 < 1000 := fun w hw => of_decide_eq_true (List.all_eq_true.mp h5 w hw)
  rw [htb] at h
  obtain ⟨t, t1, t2⟩ := key ps.toList (fun t => run sc cal cd n (jmp cd t) ls r σ) hall h
  exact lv_lookup (tgt := t) hx hb hdg h4 rfl t1 (goJ ih t ls r σ H locs lsA hL hR hS t2)
set_option maxHeartbeats 100000 in
theorem st_getfield {q : Option Value × Sg} (Y : Hyp p l e R s m args below meth c cells slots Q sc D cy ad A cc mL own d cd cal q) (ii : Nat) : StK p l e R s m args below meth c cells slots Q sc D cy ad A cc mL own d cd cal q (.getfield ii) := by
  intro n ih pc len x y z tb tl ls st σ H locs lsA hmem hI hdg hsx hnx hL hR hS h
  obtain ⟨C0, hcr, hM, hch, hdc, hok, hAll, hfin⟩ := Y
  have C1 := C0
  obtain ⟨⟨hx, hb, hml, hown, hts⟩, hK, hF0, hF1, hN, hroom⟩ := C1
  have hwd : ∀ {pp : Nat} {w : Qw}, wdi pp w = true → goodWord (dw w) = true → (dw w).before args s = true := fun h1 h2 => hts _ (mem_good (wd_of h1) h2)
  obtain ⟨h1, h4⟩ := an hI
  obtain ⟨h1, h3⟩ := an h1
  obtain ⟨h1, h2⟩ := an h1
  have hl := beqN h1; subst hl
  have hx12 := bltN h2
  have hyn := bltN h3
  obtain ⟨a, r, rfl, g⟩ := ra_inv h
  replace h := g
  have hlk : (Cond.fieldLink (ocl own) ii (kT x y).1 (kT x y).2.1 (kT x y).2.2.1).before args s = true := by
    have h5 := hwd h4 rfl
    have n1 := nf_lt x hx12
    have e1 : (x * 100 + y) / 100 = x := by omega
    have e2 : (x * 100 + y) % 100 = y := by omega
    have h6 : (Cond.fieldLink (ocl own) ii (fnm ((x * 100 + y) / 100) ((x * 100 + y) % 100)).1 (fnm ((x * 100 + y) / 100) ((x * 100 + y) % 100)).2.1 (fnm ((x * 100 + y) / 100) ((x * 100 + y) % 100)).2.2.1).before args s = true := h5
    rw [e1, e2, fnm_kT] at h6
    exact h6
  have get : ∀ v : Value, (SH a).1 = x → fdV ad σ a x y = v → W p l e R s m args below meth c H locs cells slots Q (F0 m (pc + 3) lsA (v :: r.map (tr ad))) → W p l e R s m args below meth c H locs cells slots Q (F0 m pc lsA ((Value.ref a :: r).map (tr ad))) :=
    fun v hk hv kk => va_get (D := D) (cl := vwCl) (tys := tyA cy) (ws := wsA cy ad σ) (C := ocl x) (T := kT x) (N := nf x) (Ts := TBg) hx hb hts (uws_in x hx12) hown hK hR.1 (a - 4) (at_obj hk hx12) (vw_at x hx12) y hyn hlk (fun _ h9 => h9) (by rw [fdV_at hyn, hv]) hdg kk
  have hfk : ∀ k, fk x y = k → (match k with
    | 0 => gfI x a y σ fun v => run sc cal cd n tl ls (.int v :: r) σ
    | 1 => gfS x a y fun v => run sc cal cd n tl ls (.ref v :: r) σ
    | 2 => gfD x a y σ fun v => run sc cal cd n tl ls (.ref v :: r) σ
    | 3 => gfI x a y σ fun v => run sc cal cd n tl ls (.int v :: r) σ
    | _ => none) = some q := fun k hk => by subst hk; exact h
  match hk : fk x y with
  | 0 =>
    obtain ⟨k0, h⟩ := gd_inv (show gdK x a (run sc cal cd n tl ls (.int (σ.1 a y) :: r) σ) = some q from hfk 0 hk)
    exact get (.int (σ.1 a y)) k0 (by unfold fdV; rw [hk]; rfl) (ih tl ls (.int (σ.1 a y) :: r) σ H locs lsA (pc + 3) hsx hnx hL hR hS h)
  | 1 =>
    obtain ⟨k0, h⟩ := gd_inv (show gdK x a (run sc cal cd n tl ls (.ref (a + ofs x y) :: r) σ) = some q from hfk 1 hk)
    exact get (.ref (ad (a + ofs x y))) k0 (by unfold fdV; rw [hk]; rfl) (ih tl ls (.ref (a + ofs x y) :: r) σ H locs lsA (pc + 3) hsx hnx hL hR hS h)
  | 2 =>
    obtain ⟨k0, h⟩ := gd_inv (show gdK x a (run sc cal cd n tl ls (.ref (σ.2.2 a y) :: r) σ) = some q from hfk 2 hk)
    exact get (.ref (ad (σ.2.2 a y))) k0 (by unfold fdV; rw [hk]; rfl) (ih tl ls (.ref (σ.2.2 a y) :: r) σ H locs lsA (pc + 3) hsx hnx hL hR hS h)
  | 3 =>
    obtain ⟨k0, h⟩ := gd_inv (show gdK x a (run sc cal cd n tl ls (.int (σ.1 a y) :: r) σ) = some q from hfk 3 hk)
    exact get (.int (σ.1 a y)) k0 (by unfold fdV; rw [hk]; rfl) (ih tl ls (.int (σ.1 a y) :: r) σ H locs lsA (pc + 3) hsx hnx hL hR hS h)
  | k + 4 => exact (nsm (hfk (k + 4) hk)).elim
set_option maxHeartbeats 100000 in
theorem st_putfield {q : Option Value × Sg} (Y : Hyp p l e R s m args below meth c cells slots Q sc D cy ad A cc mL own d cd cal q) (ii : Nat) : StK p l e R s m args below meth c cells slots Q sc D cy ad A cc mL own d cd cal q (.putfield ii) := by
  intro n ih pc len x y z tb tl ls st σ H locs lsA hmem hI hdg hsx hnx hL hR hS h
  obtain ⟨C0, hcr, hM, hch, hdc, hok, hAll, hfin⟩ := Y
  have C1 := C0
  obtain ⟨⟨hx, hb, hml, hown, hts⟩, hK, hF0, hF1, hN, hroom⟩ := C1
  have hwd : ∀ {pp : Nat} {w : Qw}, wdi pp w = true → goodWord (dw w) = true → (dw w).before args s = true := fun h1 h2 => hts _ (mem_good (wd_of h1) h2)
  obtain ⟨h1, h4⟩ := an hI
  obtain ⟨h1, h3⟩ := an h1
  obtain ⟨h1, h2⟩ := an h1
  have hl := beqN h1; subst hl
  have hx12 := bltN h2
  have hyn := bltN h3
  have hlk : (Cond.fieldLink (ocl own) ii (kT x y).1 (kT x y).2.1 (kT x y).2.2.1).before args s = true := by
    have h5 := hwd h4 rfl
    have n1 := nf_lt x hx12
    have e1 : (x * 100 + y) / 100 = x := by omega
    have e2 : (x * 100 + y) % 100 = y := by omega
    have h6 : (Cond.fieldLink (ocl own) ii (fnm ((x * 100 + y) / 100) ((x * 100 + y) % 100)).1 (fnm ((x * 100 + y) / 100) ((x * 100 + y) % 100)).2.1 (fnm ((x * 100 + y) / 100) ((x * 100 + y) % 100)).2.2.1).before args s = true := h5
    rw [e1, e2, fnm_kT] at h6
    exact h6
  have hfo := fk_ok x hx12 y hyn
  have put : ∀ (a : Nat) (v : Value) (r : List Value), (SH a).1 = x → (kT x y).2.2.2 = false → narrow (kY x y) v = v → fits (kY x y) v = true →
      (∀ (H1 : Heap) (locs1 : List Loc), va_P D vwCl ((wsA cy ad σ).set (a - 4) (ad a, .inr (x, ((List.range (nf x)).map (fdV ad σ a x)).set y v))) H1 → va_D A ((wsA cy ad σ).set (a - 4) (ad a, .inr (x, ((List.range (nf x)).map (fdV ad σ a x)).set y v))) → va_S A s.heap H1 locs1 →
        W p l e R s m args below meth c H1 locs1 cells slots Q (F0 m (pc + 3) lsA (r.map (tr ad)))) → W p l e R s m args below meth c H locs cells slots Q (F0 m pc lsA (v :: .ref (ad a) :: r.map (tr ad))) :=
    fun a v r hk hfi hn hft kk => va_put (D := D) (cl := vwCl) (tys := tyA cy) (ws := wsA cy ad σ) (H0 := s.heap) (C := ocl x) (T := kT x) (N := nf x) (Ts := TBg) hx hb hts (uws_in x hx12) (kY x) (kY_ok x hx12) (kN_ok x hx12) hown hK hR.1 hR.2 hS (a - 4) (at_obj hk hx12) (vw_at x hx12) y hyn hlk (fun _ h9 => h9) hfi (kY_ok x hx12 y hyn) hn hft (by simpa using hyn) hdg kk
  match st, h with
  | [], h => exact (nsm h).elim
  | [.int _], h => exact (nsm h).elim
  | [.ref _], h => exact (nsm h).elim
  | .int v :: .ref a :: r, h =>
    have hfk : ∀ k, fk x y = k → (match k with
      | 0 => pfI x a y v σ fun σ => run sc cal cd n tl ls r σ
      | 3 => pfZ x a y v σ fun σ => run sc cal cd n tl ls r σ
      | _ => none) = some q := fun k hk => by subst hk; exact h
    match hk : fk x y with
    | 0 =>
      obtain ⟨k0, h⟩ := gd_inv (show gdK x a (run sc cal cd n tl ls r (sI σ a y v)) = some q from hfk 0 hk)
      rw [hk] at hfo
      obtain ⟨f1, f2⟩ := an hfo
      have f1 := of_decide_eq_true f1
      refine put a (.int v) r k0 (by simpa using f2) (by rw [f1]; rfl) (by rw [f1]; rfl) (fun H1 locs1 hP1 hD1 hS1 => ?_)
      rw [set_pI k0 hx12 (by rw [hk]; decide) (by rw [hk]; decide)] at hP1 hD1
      exact ih tl ls r _ H1 locs1 lsA (pc + 3) hsx hnx hL ⟨hP1, hD1⟩ hS1 h
    | 1 => exact (nsm (hfk 1 hk)).elim
    | 2 => exact (nsm (hfk 2 hk)).elim
    | 3 =>
      obtain ⟨k0, h⟩ := gd_inv (show gdK x a (if v = 0 ∨ v = 1 then run sc cal cd n tl ls r (sI σ a y v) else none) = some q from hfk 3 hk)
      split at h
      · rename_i hv
        rw [hk] at hfo
        obtain ⟨f1, f2⟩ := an hfo
        have f1 := of_decide_eq_true f1
        refine put a (.int v) r k0 (by simpa using f2) (by rw [f1]; rcases hv with rfl | rfl <;> rfl) (by rw [f1]; rcases hv with rfl | rfl <;> rfl) (fun H1 locs1 hP1 hD1 hS1 => ?_)
        rw [set_pI k0 hx12 (by rw [hk]; decide) (by rw [hk]; decide)] at hP1 hD1
        exact ih tl ls r _ H1 locs1 lsA (pc + 3) hsx hnx hL ⟨hP1, hD1⟩ hS1 h
      · exact (nsm h).elim
    | k + 4 => exact (nsm (hfk (k + 4) hk)).elim
  | .ref v :: .ref a :: r, h =>
    have hfk : ∀ k, fk x y = k → (match k with
      | 2 => pfD x a y v σ fun σ => run sc cal cd n tl ls r σ
      | _ => none) = some q := fun k hk => by subst hk; exact h
    match hk : fk x y with
    | 0 => exact (nsm (hfk 0 hk)).elim
    | 1 => exact (nsm (hfk 1 hk)).elim
    | 2 =>
      obtain ⟨k0, h⟩ := gd_inv (show gdK x a (run sc cal cd n tl ls r (sR σ a y v)) = some q from hfk 2 hk)
      rw [hk] at hfo
      obtain ⟨f1, f2⟩ := an hfo
      have f3 : narrow (kY x y) (.ref (ad v)) = .ref (ad v) ∧ fits (kY x y) (.ref (ad v)) = true := by
        cases hty : kY x y <;> rw [hty] at f1 <;> first | exact ⟨rfl, rfl⟩ | exact absurd (show false = true from f1) (by decide)
      refine put a (.ref (ad v)) r k0 (by simpa using f2) f3.1 f3.2 (fun H1 locs1 hP1 hD1 hS1 => ?_)
      rw [set_pR k0 hx12 hk] at hP1 hD1
      exact ih tl ls r _ H1 locs1 lsA (pc + 3) hsx hnx hL ⟨hP1, hD1⟩ hS1 h
    | k + 3 => exact (nsm (hfk (k + 3) hk)).elim
  | .int _ :: .int _ :: _, h => exact (nsm h).elim
  | .int _ :: .long _ :: _, h => exact (nsm h).elim
  | .int _ :: .float _ :: _, h => exact (nsm h).elim
  | .int _ :: .double _ :: _, h => exact (nsm h).elim
  | .int _ :: .null :: _, h => exact (nsm h).elim
  | .int _ :: .retAddr _ :: _, h => exact (nsm h).elim
  | .ref _ :: .int _ :: _, h => exact (nsm h).elim
  | .ref _ :: .long _ :: _, h => exact (nsm h).elim
  | .ref _ :: .float _ :: _, h => exact (nsm h).elim
  | .ref _ :: .double _ :: _, h => exact (nsm h).elim
  | .ref _ :: .null :: _, h => exact (nsm h).elim
  | .ref _ :: .retAddr _ :: _, h => exact (nsm h).elim
  | .long _ :: _, h => exact (nsm h).elim
  | .float _ :: _, h => exact (nsm h).elim
  | .double _ :: _, h => exact (nsm h).elim
  | .null :: _, h => exact (nsm h).elim
  | .retAddr _ :: _, h => exact (nsm h).elim
set_option maxHeartbeats 100000 in
theorem st_iaload {q : Option Value × Sg} (Y : Hyp p l e R s m args below meth c cells slots Q sc D cy ad A cc mL own d cd cal q)  : StK p l e R s m args below meth c cells slots Q sc D cy ad A cc mL own d cd cal q (.iaload) := by
  intro n ih pc len x y z tb tl ls st σ H locs lsA hmem hI hdg hsx hnx hL hR hS h
  obtain ⟨C0, hcr, hM, hch, hdc, hok, hAll, hfin⟩ := Y
  have C1 := C0
  obtain ⟨⟨hx, hb, hml, hown, hts⟩, hK, hF0, hF1, hN, hroom⟩ := C1
  have hwd : ∀ {pp : Nat} {w : Qw}, wdi pp w = true → goodWord (dw w) = true → (dw w).before args s = true := fun h1 h2 => hts _ (mem_good (wd_of h1) h2)
  have hl := beqN hI; subst hl
  obtain ⟨a, i, r, rfl, g⟩ := rai_inv h
  replace h := g
  unfold ldX at h
  split at h
  · rename_i k0
    have k0 := beqN k0
    obtain ⟨hin, h⟩ := bnd_inv h
    exact va_iald (tys := tyA cy) hx hb hK hR.1 (a - 4) 2 (at_int k0 (.inr (.inr rfl))) rfl hin hdg (ih tl ls (.int (σ.1 a (ix i)) :: r) σ H locs lsA (pc + 1) hsx hnx hL hR hS h)
  · split at h
    · rename_i k0
      have k1 := SH_17 a k0
      subst k1
      obtain ⟨hin, h⟩ := bnd_inv h
      exact va_ti (N := 7) hx hb hF0.2.1 hS hin rfl hdg (ih tl ls (.int (FC 2 (ix i)) :: r) σ H locs lsA (pc + 1) hsx hnx hL hR hS h)
    · split at h
      · rename_i k0
        have k1 := SH_16 a k0
        subst k1
        obtain ⟨hin, h⟩ := bnd_inv h
        rcases hF1 with hF1 | hF1
        · rw [hF1] at hin
          exact absurd (Or.inr (Nat.zero_le _)) hin
        · exact va_ti (N := sc.1 - 1) hx hb hF1 hS hin rfl hdg (ih tl ls (.int (sc.2 (ix i)) :: r) σ H locs lsA (pc + 1) hsx hnx hL hR hS h)
      · exact (nsm h).elim
set_option maxHeartbeats 100000 in
theorem st_caload {q : Option Value × Sg} (Y : Hyp p l e R s m args below meth c cells slots Q sc D cy ad A cc mL own d cd cal q)  : StK p l e R s m args below meth c cells slots Q sc D cy ad A cc mL own d cd cal q (.caload) := by
  intro n ih pc len x y z tb tl ls st σ H locs lsA hmem hI hdg hsx hnx hL hR hS h
  obtain ⟨C0, hcr, hM, hch, hdc, hok, hAll, hfin⟩ := Y
  have C1 := C0
  obtain ⟨⟨hx, hb, hml, hown, hts⟩, hK, hF0, hF1, hN, hroom⟩ := C1
  have hwd : ∀ {pp : Nat} {w : Qw}, wdi pp w = true → goodWord (dw w) = true → (dw w).before args s = true := fun h1 h2 => hts _ (mem_good (wd_of h1) h2)
  have hl := beqN hI; subst hl
  obtain ⟨a, i, r, rfl, g⟩ := rai_inv h
  replace h := g
  unfold ldC at h
  split at h
  · rename_i k0
    have k0 := beqN k0
    obtain ⟨hin, h⟩ := bnd_inv h
    exact va_cald (tys := tyA cy) hx hb hK hR.1 (a - 4) 1 (at_int k0 (.inr (.inl rfl))) rfl hin hdg (ih tl ls (.int (σ.1 a (ix i)) :: r) σ H locs lsA (pc + 1) hsx hnx hL hR hS h)
  · split at h
    · rename_i k0
      obtain ⟨hin, h⟩ := bnd_inv h
      rcases SH_18 a k0 with k1 | k1
      · subst k1
        exact va_tc (N := 8) hx hb hF0.1 hS hin rfl hdg (ih tl ls (.int (FC 1 (ix i)) :: r) σ H locs lsA (pc + 1) hsx hnx hL hR hS h)
      · subst k1
        exact va_tc (N := 8) hx hb hF0.2.2.1 hS hin rfl hdg (ih tl ls (.int (FC 3 (ix i)) :: r) σ H locs lsA (pc + 1) hsx hnx hL hR hS h)
    · exact (nsm h).elim
set_option maxHeartbeats 100000 in
theorem st_baload {q : Option Value × Sg} (Y : Hyp p l e R s m args below meth c cells slots Q sc D cy ad A cc mL own d cd cal q)  : StK p l e R s m args below meth c cells slots Q sc D cy ad A cc mL own d cd cal q (.baload) := by
  intro n ih pc len x y z tb tl ls st σ H locs lsA hmem hI hdg hsx hnx hL hR hS h
  obtain ⟨C0, hcr, hM, hch, hdc, hok, hAll, hfin⟩ := Y
  have C1 := C0
  obtain ⟨⟨hx, hb, hml, hown, hts⟩, hK, hF0, hF1, hN, hroom⟩ := C1
  have hwd : ∀ {pp : Nat} {w : Qw}, wdi pp w = true → goodWord (dw w) = true → (dw w).before args s = true := fun h1 h2 => hts _ (mem_good (wd_of h1) h2)
  have hl := beqN hI; subst hl
  obtain ⟨a, i, r, rfl, g⟩ := rai_inv h
  replace h := g
  obtain ⟨k0, h⟩ := gd_inv h
  obtain ⟨hin, h⟩ := bnd_inv h
  exact va_bald (tys := tyA cy) hx hb hK hR.1 (a - 4) 0 (at_int k0 (.inl rfl)) rfl hin hdg (ih tl ls (.int (σ.1 a (ix i)) :: r) σ H locs lsA (pc + 1) hsx hnx hL hR hS h)
set_option maxHeartbeats 100000 in
theorem st_laload {q : Option Value × Sg} (Y : Hyp p l e R s m args below meth c cells slots Q sc D cy ad A cc mL own d cd cal q)  : StK p l e R s m args below meth c cells slots Q sc D cy ad A cc mL own d cd cal q (.laload) := by
  intro n ih pc len x y z tb tl ls st σ H locs lsA hmem hI hdg hsx hnx hL hR hS h
  obtain ⟨C0, hcr, hM, hch, hdc, hok, hAll, hfin⟩ := Y
  have C1 := C0
  obtain ⟨⟨hx, hb, hml, hown, hts⟩, hK, hF0, hF1, hN, hroom⟩ := C1
  have hwd : ∀ {pp : Nat} {w : Qw}, wdi pp w = true → goodWord (dw w) = true → (dw w).before args s = true := fun h1 h2 => hts _ (mem_good (wd_of h1) h2)
  have hl := beqN hI; subst hl
  obtain ⟨a, i, r, rfl, g⟩ := rai_inv h
  replace h := g
  obtain ⟨k0, h⟩ := gd_inv h
  obtain ⟨hin, h⟩ := bnd_inv h
  exact va_lald (tys := tyA cy) hx hb hK hR.1 (a - 4) 3 (at_long k0) rfl hin hdg (ih tl ls (.long (σ.2.1 a (ix i)) :: r) σ H locs lsA (pc + 1) hsx hnx hL hR hS h)
set_option maxHeartbeats 100000 in
theorem st_iastore {q : Option Value × Sg} (Y : Hyp p l e R s m args below meth c cells slots Q sc D cy ad A cc mL own d cd cal q)  : StK p l e R s m args below meth c cells slots Q sc D cy ad A cc mL own d cd cal q (.iastore) := by
  intro n ih pc len x y z tb tl ls st σ H locs lsA hmem hI hdg hsx hnx hL hR hS h
  obtain ⟨C0, hcr, hM, hch, hdc, hok, hAll, hfin⟩ := Y
  have C1 := C0
  obtain ⟨⟨hx, hb, hml, hown, hts⟩, hK, hF0, hF1, hN, hroom⟩ := C1
  have hwd : ∀ {pp : Nat} {w : Qw}, wdi pp w = true → goodWord (dw w) = true → (dw w).before args s = true := fun h1 h2 => hts _ (mem_good (wd_of h1) h2)
  have hl := beqN hI; subst hl
  obtain ⟨a, i, v, r, rfl, g⟩ := raii_inv h
  replace h := g
  obtain ⟨k0, h⟩ := gd_inv h
  obtain ⟨hin, h⟩ := bnd_inv h
  refine va_iast (tys := tyA cy) (H0 := s.heap) hx hb hK hR.1 hR.2 hS (a - 4) 2 (at_int k0 (.inr (.inr rfl))) rfl hin hdg (fun H1 locs1 hP1 hD1 hS1 => ?_)
  rw [set_aI k0 (.inr (.inr rfl))] at hP1 hD1
  exact ih tl ls r _ H1 locs1 lsA (pc + 1) hsx hnx hL ⟨hP1, hD1⟩ hS1 h
set_option maxHeartbeats 100000 in
theorem st_castore {q : Option Value × Sg} (Y : Hyp p l e R s m args below meth c cells slots Q sc D cy ad A cc mL own d cd cal q)  : StK p l e R s m args below meth c cells slots Q sc D cy ad A cc mL own d cd cal q (.castore) := by
  intro n ih pc len x y z tb tl ls st σ H locs lsA hmem hI hdg hsx hnx hL hR hS h
  obtain ⟨C0, hcr, hM, hch, hdc, hok, hAll, hfin⟩ := Y
  have C1 := C0
  obtain ⟨⟨hx, hb, hml, hown, hts⟩, hK, hF0, hF1, hN, hroom⟩ := C1
  have hwd : ∀ {pp : Nat} {w : Qw}, wdi pp w = true → goodWord (dw w) = true → (dw w).before args s = true := fun h1 h2 => hts _ (mem_good (wd_of h1) h2)
  have hl := beqN hI; subst hl
  obtain ⟨a, i, v, r, rfl, g⟩ := raii_inv h
  replace h := g
  obtain ⟨k0, h⟩ := gd_inv h
  obtain ⟨hin, h⟩ := bnd_inv h
  refine va_cast (tys := tyA cy) (H0 := s.heap) hx hb hK hR.1 hR.2 hS (a - 4) 1 (at_int k0 (.inr (.inl rfl))) rfl hin hdg (fun H1 locs1 hP1 hD1 hS1 => ?_)
  rw [set_aI k0 (.inr (.inl rfl))] at hP1 hD1
  exact ih tl ls r _ H1 locs1 lsA (pc + 1) hsx hnx hL ⟨hP1, hD1⟩ hS1 h
set_option maxHeartbeats 100000 in
theorem st_bastore {q : Option Value × Sg} (Y : Hyp p l e R s m args below meth c cells slots Q sc D cy ad A cc mL own d cd cal q)  : StK p l e R s m args below meth c cells slots Q sc D cy ad A cc mL own d cd cal q (.bastore) := by
  intro n ih pc len x y z tb tl ls st σ H locs lsA hmem hI hdg hsx hnx hL hR hS h
  obtain ⟨C0, hcr, hM, hch, hdc, hok, hAll, hfin⟩ := Y
  have C1 := C0
  obtain ⟨⟨hx, hb, hml, hown, hts⟩, hK, hF0, hF1, hN, hroom⟩ := C1
  have hwd : ∀ {pp : Nat} {w : Qw}, wdi pp w = true → goodWord (dw w) = true → (dw w).before args s = true := fun h1 h2 => hts _ (mem_good (wd_of h1) h2)
  have hl := beqN hI; subst hl
  obtain ⟨a, i, v, r, rfl, g⟩ := raii_inv h
  replace h := g
  obtain ⟨k0, h⟩ := gd_inv h
  obtain ⟨hin, h⟩ := bnd_inv h
  refine va_bast (tys := tyA cy) (H0 := s.heap) hx hb hK hR.1 hR.2 hS (a - 4) 0 (at_int k0 (.inl rfl)) rfl hin hdg (fun H1 locs1 hP1 hD1 hS1 => ?_)
  rw [set_aI k0 (.inl rfl)] at hP1 hD1
  exact ih tl ls r _ H1 locs1 lsA (pc + 1) hsx hnx hL ⟨hP1, hD1⟩ hS1 h
set_option maxHeartbeats 100000 in
theorem st_lastore {q : Option Value × Sg} (Y : Hyp p l e R s m args below meth c cells slots Q sc D cy ad A cc mL own d cd cal q)  : StK p l e R s m args below meth c cells slots Q sc D cy ad A cc mL own d cd cal q (.lastore) := by
  intro n ih pc len x y z tb tl ls st σ H locs lsA hmem hI hdg hsx hnx hL hR hS h
  obtain ⟨C0, hcr, hM, hch, hdc, hok, hAll, hfin⟩ := Y
  have C1 := C0
  obtain ⟨⟨hx, hb, hml, hown, hts⟩, hK, hF0, hF1, hN, hroom⟩ := C1
  have hwd : ∀ {pp : Nat} {w : Qw}, wdi pp w = true → goodWord (dw w) = true → (dw w).before args s = true := fun h1 h2 => hts _ (mem_good (wd_of h1) h2)
  have hl := beqN hI; subst hl
  obtain ⟨a, i, v, r, rfl, g⟩ := raij_inv h
  replace h := g
  obtain ⟨k0, h⟩ := gd_inv h
  obtain ⟨hin, h⟩ := bnd_inv h
  refine va_last (tys := tyA cy) (H0 := s.heap) hx hb hK hR.1 hR.2 hS (a - 4) 3 (at_long k0) rfl hin hdg (fun H1 locs1 hP1 hD1 hS1 => ?_)
  rw [set_aJ k0] at hP1 hD1
  exact ih tl ls r _ H1 locs1 lsA (pc + 1) hsx hnx hL ⟨hP1, hD1⟩ hS1 h
set_option maxHeartbeats 100000 in
theorem st_arraylength {q : Option Value × Sg} (Y : Hyp p l e R s m args below meth c cells slots Q sc D cy ad A cc mL own d cd cal q)  : StK p l e R s m args below meth c cells slots Q sc D cy ad A cc mL own d cd cal q (.arraylength) := by
  intro n ih pc len x y z tb tl ls st σ H locs lsA hmem hI hdg hsx hnx hL hR hS h
  obtain ⟨C0, hcr, hM, hch, hdc, hok, hAll, hfin⟩ := Y
  have C1 := C0
  obtain ⟨⟨hx, hb, hml, hown, hts⟩, hK, hF0, hF1, hN, hroom⟩ := C1
  have hwd : ∀ {pp : Nat} {w : Qw}, wdi pp w = true → goodWord (dw w) = true → (dw w).before args s = true := fun h1 h2 => hts _ (mem_good (wd_of h1) h2)
  have hl := beqN hI; subst hl
  obtain ⟨a, r, rfl, g⟩ := ra_inv h
  replace h := g
  unfold alX at h
  split at h
  · rename_i k0
    have k1 := SH_16 a k0
    subst k1
    split at h
    · exact (nsm h).elim
    · rename_i nn hnn
      rcases hF1 with hF1 | hF1
      · rw [hF1] at hnn; cases hnn
      · unfold FS at hF1
        rw [hnn] at hF1
        exact va_tlen (N := nn) hx hb hF1 hS rfl hdg (ih tl ls (.int (Int32.ofNat nn) :: r) σ H locs lsA (pc + 1) hsx hnx hL hR hS h)
  · rename_i k16
    split at h
    · rename_i k0
      obtain ⟨k1, k2⟩ := an k0
      have k1 := Nat.le_of_ble_eq_true k1
      have k2 := Nat.le_of_ble_eq_true k2
      have kk : (SH a).1 = 12 ∨ (SH a).1 = 13 ∨ (SH a).1 = 14 ∨ (SH a).1 = 15 ∨ (SH a).1 = 17 ∨ (SH a).1 = 18 := by
        have : (SH a).1 ≠ 16 := fun e => by rw [e] at k16; exact absurd k16 (by decide)
        omega
      rcases kk with k | k | k | k | k | k
      · exact va_alen (tys := tyA cy) hx hb hK hR.1 (a - 4) 0 (at_int k (.inl rfl)) rfl rfl hdg (ih tl ls (.int (Int32.ofNat (SH a).2) :: r) σ H locs lsA (pc + 1) hsx hnx hL hR hS h)
      · exact va_alen (tys := tyA cy) hx hb hK hR.1 (a - 4) 1 (at_int k (.inr (.inl rfl))) rfl rfl hdg (ih tl ls (.int (Int32.ofNat (SH a).2) :: r) σ H locs lsA (pc + 1) hsx hnx hL hR hS h)
      · exact va_alen (tys := tyA cy) hx hb hK hR.1 (a - 4) 2 (at_int k (.inr (.inr rfl))) rfl rfl hdg (ih tl ls (.int (Int32.ofNat (SH a).2) :: r) σ H locs lsA (pc + 1) hsx hnx hL hR hS h)
      · exact va_alen (tys := tyA cy) hx hb hK hR.1 (a - 4) 3 (at_long k) rfl rfl hdg (ih tl ls (.int (Int32.ofNat (SH a).2) :: r) σ H locs lsA (pc + 1) hsx hnx hL hR hS h)
      · have k3 := SH_17 a (by rw [k]; rfl)
        subst k3
        exact va_tlen (N := 7) hx hb hF0.2.1 hS rfl hdg (ih tl ls (.int (Int32.ofNat (SH 2).2) :: r) σ H locs lsA (pc + 1) hsx hnx hL hR hS h)
      · rcases SH_18 a (by rw [k]; rfl) with k3 | k3
        · subst k3
          exact va_tlen (N := 8) hx hb hF0.1 hS rfl hdg (ih tl ls (.int (Int32.ofNat (SH 1).2) :: r) σ H locs lsA (pc + 1) hsx hnx hL hR hS h)
        · subst k3
          exact va_tlen (N := 8) hx hb hF0.2.2.1 hS rfl hdg (ih tl ls (.int (Int32.ofNat (SH 3).2) :: r) σ H locs lsA (pc + 1) hsx hnx hL hR hS h)
    · exact (nsm h).elim
set_option maxHeartbeats 100000 in
theorem st_getstatic {q : Option Value × Sg} (Y : Hyp p l e R s m args below meth c cells slots Q sc D cy ad A cc mL own d cd cal q) (ii : Nat) : StK p l e R s m args below meth c cells slots Q sc D cy ad A cc mL own d cd cal q (.getstatic ii) := by
  intro n ih pc len x y z tb tl ls st σ H locs lsA hmem hI hdg hsx hnx hL hR hS h
  obtain ⟨C0, hcr, hM, hch, hdc, hok, hAll, hfin⟩ := Y
  have C1 := C0
  obtain ⟨⟨hx, hb, hml, hown, hts⟩, hK, hF0, hF1, hN, hroom⟩ := C1
  have hwd : ∀ {pp : Nat} {w : Qw}, wdi pp w = true → goodWord (dw w) = true → (dw w).before args s = true := fun h1 h2 => hts _ (mem_good (wd_of h1) h2)
  match y, h, hI with
  | 0, h, _ => exact (nsm h).elim
  | n + 2, h, _ => exact (nsm h).elim
  | 1, h, hI =>
    match x, hI, h with
    | 0, hI, _ => exact absurd (show false = true from (an hI).2) (by decide)
    | 1, hI, h =>
      obtain ⟨h1, h2⟩ := an (show (Nat.beq len 3 && (bif decide (z = 0) then wdx (pl1 tb) (.fieldLink (ocl own) ii "NamedToWed" "STEP_LETTERS" "[C") else wdx (pl1 tb) (.fieldLinkNest (ocl own) ii "NamedToWed" "STEP_LETTERS" "[C" "NamedToWed"))) = true from hI)
      have hl := beqN h1; subst hl
      cases hz : decide (z = 0) with
      | true =>
        rw [hz] at h2
        exact va_gets hx hb hF0.2.2.2.1 hS hown (hts _ (mem_good (wx_of h2) rfl)) (fun _ h9 => h9) hdg (ih tl ls (.ref 1 :: st) σ H locs lsA (pc + 3) hsx hnx hL hR hS h)
      | false =>
        rw [hz] at h2
        exact va_getsN hx hb hF0.2.2.2.1 hS hown (va_Nw.use rfl (hN _ (wx_of h2) rfl)) (fun _ h9 => h9) hdg (ih tl ls (.ref 1 :: st) σ H locs lsA (pc + 3) hsx hnx hL hR hS h)
    | 2, hI, h =>
      obtain ⟨h1, h2⟩ := an (show (Nat.beq len 3 && (decide (z = 0) && wdx (pl1 tb) (.fieldLink (ocl own) ii "NamedToWed$Changes" "FACTORIALS" "[I"))) = true from hI)
      have hl := beqN h1; subst hl
      exact va_gets hx hb hF0.2.2.2.2.1 hS hown (hts _ (mem_good (wx_of (an h2).2) rfl)) (fun _ h9 => h9) hdg (ih tl ls (.ref 2 :: st) σ H locs lsA (pc + 3) hsx hnx hL hR hS h)
    | 3, hI, h =>
      obtain ⟨h1, h2⟩ := an (show (Nat.beq len 3 && (decide (z = 0) && wdx (pl1 tb) (.fieldLink (ocl own) ii "NamedToWed$LawReader" "LETTERS" "[C"))) = true from hI)
      have hl := beqN h1; subst hl
      exact va_gets hx hb hF0.2.2.2.2.2 hS hown (hts _ (mem_good (wx_of (an h2).2) rfl)) (fun _ h9 => h9) hdg (ih tl ls (.ref 3 :: st) σ H locs lsA (pc + 3) hsx hnx hL hR hS h)
    | k + 4, hI, _ => exact absurd (show false = true from (an hI).2) (by decide)
set_option maxHeartbeats 100000 in
theorem st_invokevirtual {q : Option Value × Sg} (Y : Hyp p l e R s m args below meth c cells slots Q sc D cy ad A cc mL own d cd cal q) (ii : Nat) : StK p l e R s m args below meth c cells slots Q sc D cy ad A cc mL own d cd cal q (.invokevirtual ii) := by
  intro n ih pc len x y z tb tl ls st σ H locs lsA hmem hI hdg hsx hnx hL hR hS h
  obtain ⟨C0, hcr, hM, hch, hdc, hok, hAll, hfin⟩ := Y
  have C1 := C0
  obtain ⟨⟨hx, hb, hml, hown, hts⟩, hK, hF0, hF1, hN, hroom⟩ := C1
  have hwd : ∀ {pp : Nat} {w : Qw}, wdi pp w = true → goodWord (dw w) = true → (dw w).before args s = true := fun h1 h2 => hts _ (mem_good (wd_of h1) h2)
  exact sim_ivk C0 hcr hM hch hdc hok hAll ih (Or.inl rfl) hI hdg hsx hnx hL hR hS h
set_option maxHeartbeats 100000 in
theorem st_invokestatic {q : Option Value × Sg} (Y : Hyp p l e R s m args below meth c cells slots Q sc D cy ad A cc mL own d cd cal q) (ii : Nat) : StK p l e R s m args below meth c cells slots Q sc D cy ad A cc mL own d cd cal q (.invokestatic ii) := by
  intro n ih pc len x y z tb tl ls st σ H locs lsA hmem hI hdg hsx hnx hL hR hS h
  obtain ⟨C0, hcr, hM, hch, hdc, hok, hAll, hfin⟩ := Y
  have C1 := C0
  obtain ⟨⟨hx, hb, hml, hown, hts⟩, hK, hF0, hF1, hN, hroom⟩ := C1
  have hwd : ∀ {pp : Nat} {w : Qw}, wdi pp w = true → goodWord (dw w) = true → (dw w).before args s = true := fun h1 h2 => hts _ (mem_good (wd_of h1) h2)
  exact sim_ivk C0 hcr hM hch hdc hok hAll ih (Or.inr rfl) hI hdg hsx hnx hL hR hS h
set_option maxHeartbeats 100000 in
theorem st_return_ {q : Option Value × Sg} (Y : Hyp p l e R s m args below meth c cells slots Q sc D cy ad A cc mL own d cd cal q)  : StK p l e R s m args below meth c cells slots Q sc D cy ad A cc mL own d cd cal q (.return_) := by
  intro n ih pc len x y z tb tl ls st σ H locs lsA hmem hI hdg hsx hnx hL hR hS h
  obtain ⟨C0, hcr, hM, hch, hdc, hok, hAll, hfin⟩ := Y
  have C1 := C0
  obtain ⟨⟨hx, hb, hml, hown, hts⟩, hK, hF0, hF1, hN, hroom⟩ := C1
  have hwd : ∀ {pp : Nat} {w : Qw}, wdi pp w = true → goodWord (dw w) = true → (dw w).before args s = true := fun h1 h2 => hts _ (mem_good (wd_of h1) h2)
  have hl := beqN hI; subst hl
  match st, h with
  | [], h =>
    have e1 := Option.some.inj h
    subst e1
    exact (hfin _ H locs lsA hmem hR hS).1 rfl rfl rfl
  | _ :: _, h => exact (nsm h).elim
set_option maxHeartbeats 100000 in
theorem st_ireturn {q : Option Value × Sg} (Y : Hyp p l e R s m args below meth c cells slots Q sc D cy ad A cc mL own d cd cal q)  : StK p l e R s m args below meth c cells slots Q sc D cy ad A cc mL own d cd cal q (.ireturn) := by
  intro n ih pc len x y z tb tl ls st σ H locs lsA hmem hI hdg hsx hnx hL hR hS h
  obtain ⟨C0, hcr, hM, hch, hdc, hok, hAll, hfin⟩ := Y
  have C1 := C0
  obtain ⟨⟨hx, hb, hml, hown, hts⟩, hK, hF0, hF1, hN, hroom⟩ := C1
  have hwd : ∀ {pp : Nat} {w : Qw}, wdi pp w = true → goodWord (dw w) = true → (dw w).before args s = true := fun h1 h2 => hts _ (mem_good (wd_of h1) h2)
  have hl := beqN hI; subst hl
  match st, h with
  | [], h => exact (nsm h).elim
  | [.int v], h =>
    match x, h, hmem with
    | 0, h, hmem =>
      have e1 := Option.some.inj (show some (some (Value.int v), σ) = some q from h)
      subst e1
      exact (hfin _ H locs lsA hmem hR hS).2.1 v rfl rfl rfl (Or.inl rfl)
    | k + 1, h, hmem =>
      have h : rZ v σ = some q := h
      unfold rZ at h
      split at h
      · rename_i hv
        have e1 := Option.some.inj (show some (some (Value.int v), σ) = some q from h)
        subst e1
        exact (hfin _ H locs lsA hmem hR hS).2.1 v rfl rfl rfl (Or.inr hv)
      · exact (nsm h).elim
  | .int _ :: _ :: _, h => exact (nsm h).elim
  | .long _ :: _, h => exact (nsm h).elim
  | .float _ :: _, h => exact (nsm h).elim
  | .double _ :: _, h => exact (nsm h).elim
  | .null :: _, h => exact (nsm h).elim
  | .ref _ :: _, h => exact (nsm h).elim
  | .retAddr _ :: _, h => exact (nsm h).elim
set_option maxHeartbeats 100000 in
theorem st_lreturn {q : Option Value × Sg} (Y : Hyp p l e R s m args below meth c cells slots Q sc D cy ad A cc mL own d cd cal q)  : StK p l e R s m args below meth c cells slots Q sc D cy ad A cc mL own d cd cal q (.lreturn) := by
  intro n ih pc len x y z tb tl ls st σ H locs lsA hmem hI hdg hsx hnx hL hR hS h
  obtain ⟨C0, hcr, hM, hch, hdc, hok, hAll, hfin⟩ := Y
  have C1 := C0
  obtain ⟨⟨hx, hb, hml, hown, hts⟩, hK, hF0, hF1, hN, hroom⟩ := C1
  have hwd : ∀ {pp : Nat} {w : Qw}, wdi pp w = true → goodWord (dw w) = true → (dw w).before args s = true := fun h1 h2 => hts _ (mem_good (wd_of h1) h2)
  have hl := beqN hI; subst hl
  match st, h with
  | [], h => exact (nsm h).elim
  | [.long v], h =>
    have e1 := Option.some.inj (show some (some (Value.long v), σ) = some q from h)
    subst e1
    exact (hfin _ H locs lsA hmem hR hS).2.2 v rfl rfl rfl
  | .long _ :: _ :: _, h => exact (nsm h).elim
  | .int _ :: _, h => exact (nsm h).elim
  | .float _ :: _, h => exact (nsm h).elim
  | .double _ :: _, h => exact (nsm h).elim
  | .null :: _, h => exact (nsm h).elim
  | .ref _ :: _, h => exact (nsm h).elim
  | .retAddr _ :: _, h => exact (nsm h).elim
end Sim2
end
section
section Sim3
variable {p : Program} {l : Launch} {e : Env} {R : Room} {s : State} {m : MethodId} {args : Array Value} {below : List Frame} {meth : Method} {c : Code} {cells slots : Nat} {Q : State → Prop}
variable {sc : Scr} {D : va_G} {cy : Nat → ClassId} {ad : Nat → Nat} {A : Nat → Prop} {cc : ByteArray} {mL own d : Nat} {cd : Cod} {cal : Nat → List Value → Sg → Rs}
set_option maxHeartbeats 4000000 in
theorem st_all {q : Option Value × Sg} (Y : Hyp p l e R s m args below meth c cells slots Q sc D cy ad A cc mL own d cd cal q) (ins : Instr) : StK p l e R s m args below meth c cells slots Q sc D cy ad A cc mL own d cd cal q ins := by
  cases ins
  case iconst v0 => exact st_iconst Y v0
  case bipush v0 => exact st_bipush Y v0
  case sipush v0 => exact st_sipush Y v0
  case ldc v0 => exact st_ldc Y v0
  case ldc_w v0 => exact st_ldc_w Y v0
  case ldc2_w v0 => exact st_ldc2_w Y v0
  case lconst v0 => exact st_lconst Y v0
  case iload v0 => exact st_iload Y v0
  case aload v0 => exact st_aload Y v0
  case iload_n v0 => exact st_iload_n Y v0
  case aload_n v0 => exact st_aload_n Y v0
  case lload_n v0 => exact st_lload_n Y v0
  case istore v0 => exact st_istore Y v0
  case istore_n v0 => exact st_istore_n Y v0
  case astore v0 => exact st_astore Y v0
  case astore_n v0 => exact st_astore_n Y v0
  case iinc v0 v1 => exact st_iinc Y v0 v1
  case iadd => exact st_iadd Y
  case isub => exact st_isub Y
  case imul => exact st_imul Y
  case iand => exact st_iand Y
  case ior => exact st_ior Y
  case ixor => exact st_ixor Y
  case ishl => exact st_ishl Y
  case ishr => exact st_ishr Y
  case iushr => exact st_iushr Y
  case idiv => exact st_idiv Y
  case irem => exact st_irem Y
  case ladd => exact st_ladd Y
  case lcmp => exact st_lcmp Y
  case i2b => exact st_i2b Y
  case i2c => exact st_i2c Y
  case dup => exact st_dup Y
  case pop => exact st_pop Y
  case dup2 => exact st_dup2 Y
  case dup_x1 => exact st_dup_x1 Y
  case goto v0 => exact st_goto Y v0
  case if_icmp v0 v1 => exact st_if_icmp Y v0 v1
  case ifCond v0 v1 => exact st_ifCond Y v0 v1
  case tableswitch v0 v1 v2 v3 => exact st_tableswitch Y v0 v1 v2 v3
  case lookupswitch v0 v1 => exact st_lookupswitch Y v0 v1
  case getfield v0 => exact st_getfield Y v0
  case putfield v0 => exact st_putfield Y v0
  case iaload => exact st_iaload Y
  case caload => exact st_caload Y
  case baload => exact st_baload Y
  case laload => exact st_laload Y
  case iastore => exact st_iastore Y
  case castore => exact st_castore Y
  case bastore => exact st_bastore Y
  case lastore => exact st_lastore Y
  case arraylength => exact st_arraylength Y
  case getstatic v0 => exact st_getstatic Y v0
  case invokevirtual v0 => exact st_invokevirtual Y v0
  case invokestatic v0 => exact st_invokestatic Y v0
  case return_ => exact st_return_ Y
  case ireturn => exact st_ireturn Y
  case lreturn => exact st_lreturn Y
  all_goals
    intro n ih pc len x y z tb tl ls st σ H locs lsA hmem hI hdg hsx hnx hL hR hS h
    exact (nsm h).elim
theorem okD_at {it : Itm} (h : okD cc cd = true) (hm : it ∈ cd) : decode cc it.1 = .ok (it.2.1, it.2.2.1) := by
  unfold okD at h
  exact of_decide_eq_true (List.all_eq_true.mp h it hm)
theorem sim_go {q : Option Value × Sg} (Y : Hyp p l e R s m args below meth c cells slots Q sc D cy ad A cc mL own d cd cal q) (n : Nat) : Go p l e R s m args below meth c cells slots Q sc D cy ad A mL cd cal q n := by
  induction n with
  | zero => exact fun sx ls st σ H locs lsA pc _ _ _ _ _ h => (nsm h).elim
  | succ n ih =>
    intro sx ls st σ H locs lsA pc0 hsx0 hpc hL hR hS h
    have Y1 := Y
    obtain ⟨-, -, -, hch, hdc, hok, -, -⟩ := Y1
    cases sx with
    | nil => exact (nsm h).elim
    | cons it tl =>
      have hmem := hsx0.mem
      have hnx := hsx0.nx hch
      have hpc := hpc _ _ rfl
      have hdg := okD_at hdc hmem
      have hI := List.all_eq_true.mp hok _ hmem
      obtain ⟨pc, ins, len, x, y, z, tb⟩ := it
      dsimp only at hpc hdg hI hnx
      subst hpc
      rw [run] at h
      exact st_all Y ins n ih pc len x y z tb tl ls st σ H locs lsA hmem hI hdg hsx0.tl hnx hL hR hS h
end Sim3
theorem okA_it {k : Nat} (h : okA k = true) : chn (mcd k) = true ∧ (mcd k).all (okI (mow k) (mmL k)) = true ∧ ∀ it ∈ mcd k, retI k it = true := by
  unfold okA at h
  obtain ⟨h, h3⟩ := an h
  obtain ⟨h1, h2⟩ := an h
  refine ⟨h2, ?_, fun it hi => (an (List.all_eq_true.mp h3 it hi)).2⟩
  rw [List.all_eq_true]
  exact fun it hi => (an (List.all_eq_true.mp h3 it hi)).1
theorem okB_hd {k : Nat} (h : okB k = true) : hdp 0 (mcd k) := by
  unfold okB at h
  obtain ⟨-, h⟩ := an h
  intro it tl e
  rw [e] at h
  exact beqN h
theorem okB_pl {k : Nat} (h : okB k = true) : plainName (mY k).cls = true := by
  unfold okB at h
  obtain ⟨h, -⟩ := an h
  obtain ⟨h, -⟩ := an h
  exact (an h).1
set_option maxHeartbeats 4000000 in
/-- every method does what the small machine does -/
theorem simM (l : Launch) (D : va_G) (cy : Nat → ClassId) (ad : Nat → Nat) (A : Nat → Prop) (hAll : ∀ k, k < 340 → okA k = true) (hD : ∀ k, k < 340 → okD (mby k) (mcd k) = true) : ∀ d : Nat, CalOK l D cy ad A (ev d) d
  | 0 => fun x as σ o σ' hx hB h => (nsm h).elim
  | d + 1 => by
    intro x as σ o σ' hx3 hB h
    have ih := simM l D cy ad A hAll hD d
    have hAx := hAll x hx3
    obtain ⟨g1, g2, g3⟩ := okA_it hAx
    rw [ev] at h
    cases hle : Nat.ble (lay as).length (mmL x) with
    | false => rw [hle] at h; exact (nsm h).elim
    | true =>
    rw [hle] at h
    have hle := Nat.le_of_ble_eq_true hle
    obtain ⟨n, hrun⟩ := evAt_some h
    have hx1 : x ≠ 1 := fun e => by subst e; exact absurd (okB_pl hB) (by decide +kernel)
    have hx5 : Nat.beq x 55 = false := by
      cases hq : Nat.beq x 55 with
      | false => rfl
      | true => have := beqN hq; subst this; exact absurd (okB_pl hB) (by decide +kernel)
    have hx6 : Nat.beq x 56 = false := by
      cases hq : Nat.beq x 56 with
      | false => rfl
      | true => have := beqN hq; subst this; exact absurd (okB_pl hB) (by decide +kernel)
    obtain ⟨hW0, -⟩ := okW_of hAll hx3 hx1 hx5 hx6
    obtain ⟨w1, w2, w3, w4, w5, w6⟩ := okW_split hW0
    refine Met.ofW (cc := mby x) (maxL := mmL x) (ret := mret x) (okB_pl hB) rfl ?_
    intro p e s m args below meth c s₁ B hml hv
    obtain ⟨rfl, hK, hR, hF, hN⟩ := hv
    have hts := atoms_spec (ws := mws x) B.pre
    have hown : s.vm.findClass (mY x).cls = some m.cls := findClass_of_methodNamed B.named
    have hx := B.exec
    have hb := B.bytes
    have hr := B.returns
    have hlocks := B.notSynchronized
    rw [lg_entry_eq]
    have Y : Hyp p l e (headSpec (mws x) (mrm (d + 1))).room s m (as.map (tr ad)).toArray below meth c 0 0 (MQ below (PosA D cy ad A o σ') (as.map (tr ad)).toArray s 0 0 A) sc0 D cy ad A (mby x) (mmL x) (mow x) d (mcd x) (ev d) (o, σ') := by
      refine ⟨⟨⟨hx, hb, hml, by rw [w3]; exact hown, fun w hw => hts w (List.mem_cons_of_mem _ hw)⟩, hK, hF, Or.inl rfl, hN, ⟨Nat.le_refl _, ?_⟩⟩, ⟨Nat.zero_le _, Nat.zero_le _⟩, ih, g1, hD x hx3, g2, hAll, ?_⟩
      · show 60 + 60 * d ≤ 60 * (d + 1)
        omega
      · intro it H locs lsA hit hRp hS
        have hdg : decode (mby x) it.1 = .ok (it.2.1, it.2.2.1) := of_decide_eq_true (List.all_eq_true.mp (hD x hx3) _ hit)
        have hri := g3 it hit
        refine ⟨fun e1 e2 e3 => ?_, fun v e1 e2 e3 e4 => ?_, fun v e1 e2 e3 => ?_⟩
        · have e3 : o = none := e3
          subst e3
          unfold retI at hri
          rw [e1] at hri hdg
          rw [e2] at hdg
          have hri := of_decide_eq_true hri
          exact W.vret hx hb (by rw [hr, hri]) (fun t ht hW => ⟨⟨(), rfl, trivial, va_K.moved hW.alike hK, by rw [ht]; exact hRp⟩, hS.F ht⟩) hS.2.2 hdg
        · have e3 : o = some (.int v) := e3
          subst e3
          unfold retI at hri
          rw [e1] at hri hdg
          rw [e2] at hdg
          have fin : ∀ t : State, t.heap = H → s.WarmedH t.vm → PosA D cy ad A (some (.int v)) σ' (as.map (tr ad)).toArray s (.returned (some (.int v))) t :=
            fun t ht hW => ⟨⟨v, (), rfl, rfl, va_K.moved hW.alike hK, by rw [ht]; exact hRp⟩, hS.F ht⟩
          cases hm : mret x with
          | none => rw [hm] at hri; exact absurd (show false = true from hri) (by decide)
          | some ty =>
            rw [hm] at hri
            cases ty with
            | int => exact W.iret hx hb (by rw [hr, hm]) fin hS.2.2 hdg
            | boolean =>
              have e5 := beqN (show Nat.beq it.2.2.2.1 1 = true from hri)
              have e6 : v = 0 ∨ v = 1 := e4.elim (fun q => by rw [e5] at q; cases q) id
              exact W.zret (ty := .boolean) hx hb (by rw [hr, hm]) (by rcases e6 with rfl | rfl <;> rfl) fin hS.2.2 hdg
            | _ => exact absurd (show false = true from hri) (by decide)
        · have e3 : o = some (.long v) := e3
          subst e3
          unfold retI at hri
          rw [e1] at hri hdg
          rw [e2] at hdg
          have hri := of_decide_eq_true hri
          exact W.lret hx hb (by rw [hr, hri]) (fun t ht hW => ⟨⟨v, (), rfl, rfl, va_K.moved hW.alike hK, by rw [ht]; exact hRp⟩, hS.F ht⟩) hS.2.2 hdg
    exact sim_go Y n (mcd x) (lfl (mmL x) (lay as)) [] σ s.heap [] _ 0 ⟨[], rfl⟩ (okB_hd hB) (Lr.start hle) hR va_S.rf hrun
end
