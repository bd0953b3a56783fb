section
-- ===== PART A: goes FIRST, ahead of the names: the tables' words, and 'selects' of the private methods out of them =====
/-- a private method of a class that the tables say can be made, by its rows of tables_1 -/
def lw_okq (q : MethodName × Nat) : Prop := (q.1.cls ≠ "java/lang/invoke/MethodHandle" ∧ q.1.cls ≠ "java/lang/invoke/VarHandle") ∧ Cond.instantiable q.1.cls q.2 ∈ tables_1 ∧ Cond.privateMethod q.1 ∈ tables_1 ∧ Cond.instanceMethod q.1 ∈ tables_1
theorem lw_p0 : lw_okq (⟨"OneTooFew$Text", "doLine", "()Z"⟩, 8) := ⟨⟨by decide +kernel, by decide +kernel⟩, List.mem_of_getElem? (i := 83) (by decide +kernel), List.mem_of_getElem? (i := 329) (by decide +kernel), List.mem_of_getElem? (i := 330) (by decide +kernel)⟩
theorem lw_p1 : lw_okq (⟨"OneTooFew$Text", "nextToken", "()V"⟩, 8) := ⟨⟨by decide +kernel, by decide +kernel⟩, List.mem_of_getElem? (i := 83) (by decide +kernel), List.mem_of_getElem? (i := 333) (by decide +kernel), List.mem_of_getElem? (i := 334) (by decide +kernel)⟩
theorem lw_p2 : lw_okq (⟨"OneTooFew$Text", "isWord", "(Ljava/lang/String;)Z"⟩, 8) := ⟨⟨by decide +kernel, by decide +kernel⟩, List.mem_of_getElem? (i := 83) (by decide +kernel), List.mem_of_getElem? (i := 344) (by decide +kernel), List.mem_of_getElem? (i := 345) (by decide +kernel)⟩
theorem lw_p3 : lw_okq (⟨"OneTooFew$Text", "doInn", "()Z"⟩, 8) := ⟨⟨by decide +kernel, by decide +kernel⟩, List.mem_of_getElem? (i := 83) (by decide +kernel), List.mem_of_getElem? (i := 396) (by decide +kernel), List.mem_of_getElem? (i := 397) (by decide +kernel)⟩
theorem lw_p4 : lw_okq (⟨"OneTooFew$Text", "readNumber", "(II)Z"⟩, 8) := ⟨⟨by decide +kernel, by decide +kernel⟩, List.mem_of_getElem? (i := 83) (by decide +kernel), List.mem_of_getElem? (i := 400) (by decide +kernel), List.mem_of_getElem? (i := 401) (by decide +kernel)⟩
theorem lw_p5 : lw_okq (⟨"OneTooFew$Text", "doChair", "(Z)Z"⟩, 8) := ⟨⟨by decide +kernel, by decide +kernel⟩, List.mem_of_getElem? (i := 83) (by decide +kernel), List.mem_of_getElem? (i := 409) (by decide +kernel), List.mem_of_getElem? (i := 410) (by decide +kernel)⟩
theorem lw_p6 : lw_okq (⟨"OneTooFew$Text", "kindOfWord", "()I"⟩, 8) := ⟨⟨by decide +kernel, by decide +kernel⟩, List.mem_of_getElem? (i := 83) (by decide +kernel), List.mem_of_getElem? (i := 426) (by decide +kernel), List.mem_of_getElem? (i := 427) (by decide +kernel)⟩
theorem lw_p7 : lw_okq (⟨"OneTooFew$Text", "doGuest", "(I)Z"⟩, 8) := ⟨⟨by decide +kernel, by decide +kernel⟩, List.mem_of_getElem? (i := 83) (by decide +kernel), List.mem_of_getElem? (i := 434) (by decide +kernel), List.mem_of_getElem? (i := 435) (by decide +kernel)⟩
theorem lw_p8 : lw_okq (⟨"OneTooFew$Text", "mostOf", "(I)I"⟩, 8) := ⟨⟨by decide +kernel, by decide +kernel⟩, List.mem_of_getElem? (i := 83) (by decide +kernel), List.mem_of_getElem? (i := 438) (by decide +kernel), List.mem_of_getElem? (i := 439) (by decide +kernel)⟩
theorem lw_p9 : lw_okq (⟨"OneTooFew$Seating", "seatAll", "(I)I"⟩, 6) := ⟨⟨by decide +kernel, by decide +kernel⟩, List.mem_of_getElem? (i := 119) (by decide +kernel), List.mem_of_getElem? (i := 536) (by decide +kernel), List.mem_of_getElem? (i := 537) (by decide +kernel)⟩
theorem lw_p10 : lw_okq (⟨"OneTooFew$Seating", "seatOne", "(II)V"⟩, 6) := ⟨⟨by decide +kernel, by decide +kernel⟩, List.mem_of_getElem? (i := 119) (by decide +kernel), List.mem_of_getElem? (i := 544) (by decide +kernel), List.mem_of_getElem? (i := 545) (by decide +kernel)⟩
theorem lw_p11 : lw_okq (⟨"OneTooFew$Seating", "take", "(II)V"⟩, 6) := ⟨⟨by decide +kernel, by decide +kernel⟩, List.mem_of_getElem? (i := 119) (by decide +kernel), List.mem_of_getElem? (i := 548) (by decide +kernel), List.mem_of_getElem? (i := 549) (by decide +kernel)⟩
theorem lw_p12 : lw_okq (⟨"OneTooFew$Foretold", "goTo", "(I)V"⟩, 7) := ⟨⟨by decide +kernel, by decide +kernel⟩, List.mem_of_getElem? (i := 149) (by decide +kernel), List.mem_of_getElem? (i := 608) (by decide +kernel), List.mem_of_getElem? (i := 609) (by decide +kernel)⟩
theorem lw_p13 : lw_okq (⟨"OneTooFew$Foretold", "minutesLikeTo", "(II)I"⟩, 7) := ⟨⟨by decide +kernel, by decide +kernel⟩, List.mem_of_getElem? (i := 149) (by decide +kernel), List.mem_of_getElem? (i := 630) (by decide +kernel), List.mem_of_getElem? (i := 631) (by decide +kernel)⟩
theorem lw_p14 : lw_okq (⟨"OneTooFew$Foretold", "addTimes", "(II)V"⟩, 7) := ⟨⟨by decide +kernel, by decide +kernel⟩, List.mem_of_getElem? (i := 149) (by decide +kernel), List.mem_of_getElem? (i := 634) (by decide +kernel), List.mem_of_getElem? (i := 635) (by decide +kernel)⟩
theorem lw_p15 : lw_okq (⟨"OneTooFew$Finder", "nobodyWouldChange", "(I)Z"⟩, 7) := ⟨⟨by decide +kernel, by decide +kernel⟩, List.mem_of_getElem? (i := 183) (by decide +kernel), List.mem_of_getElem? (i := 662) (by decide +kernel), List.mem_of_getElem? (i := 663) (by decide +kernel)⟩
def lw_privs_1 : List (MethodName × Nat) := [(⟨"OneTooFew$Text", "doLine", "()Z"⟩, 8), (⟨"OneTooFew$Text", "nextToken", "()V"⟩, 8), (⟨"OneTooFew$Text", "isWord", "(Ljava/lang/String;)Z"⟩, 8), (⟨"OneTooFew$Text", "doInn", "()Z"⟩, 8), (⟨"OneTooFew$Text", "readNumber", "(II)Z"⟩, 8), (⟨"OneTooFew$Text", "doChair", "(Z)Z"⟩, 8), (⟨"OneTooFew$Text", "kindOfWord", "()I"⟩, 8), (⟨"OneTooFew$Text", "doGuest", "(I)Z"⟩, 8), (⟨"OneTooFew$Text", "mostOf", "(I)I"⟩, 8), (⟨"OneTooFew$Seating", "seatAll", "(I)I"⟩, 6), (⟨"OneTooFew$Seating", "seatOne", "(II)V"⟩, 6), (⟨"OneTooFew$Seating", "take", "(II)V"⟩, 6), (⟨"OneTooFew$Foretold", "goTo", "(I)V"⟩, 7), (⟨"OneTooFew$Foretold", "minutesLikeTo", "(II)I"⟩, 7), (⟨"OneTooFew$Foretold", "addTimes", "(II)V"⟩, 7), (⟨"OneTooFew$Finder", "nobodyWouldChange", "(I)Z"⟩, 7)]
theorem lw_r1 : ∀ q ∈ lw_privs_1, lw_okq q := List.forall_mem_cons.mpr ⟨lw_p0, List.forall_mem_cons.mpr ⟨lw_p1, List.forall_mem_cons.mpr ⟨lw_p2, List.forall_mem_cons.mpr ⟨lw_p3, List.forall_mem_cons.mpr ⟨lw_p4, List.forall_mem_cons.mpr ⟨lw_p5, List.forall_mem_cons.mpr ⟨lw_p6, List.forall_mem_cons.mpr ⟨lw_p7, List.forall_mem_cons.mpr ⟨lw_p8, List.forall_mem_cons.mpr ⟨lw_p9, List.forall_mem_cons.mpr ⟨lw_p10, List.forall_mem_cons.mpr ⟨lw_p11, List.forall_mem_cons.mpr ⟨lw_p12, List.forall_mem_cons.mpr ⟨lw_p13, List.forall_mem_cons.mpr ⟨lw_p14, List.forall_mem_cons.mpr ⟨lw_p15, fun _ h => absurd h List.not_mem_nil⟩⟩⟩⟩⟩⟩⟩⟩⟩⟩⟩⟩⟩⟩⟩⟩
theorem lw_p16 : lw_okq (⟨"OneTooFew$Finder", "keepStill", "(I)V"⟩, 7) := ⟨⟨by decide +kernel, by decide +kernel⟩, List.mem_of_getElem? (i := 183) (by decide +kernel), List.mem_of_getElem? (i := 681) (by decide +kernel), List.mem_of_getElem? (i := 682) (by decide +kernel)⟩
theorem lw_p17 : lw_okq (⟨"OneTooFewModel", "begin", "()V"⟩, 31) := ⟨⟨by decide +kernel, by decide +kernel⟩, List.mem_of_getElem? (i := 754) (by decide +kernel), List.mem_of_getElem? (i := 760) (by decide +kernel), List.mem_of_getElem? (i := 761) (by decide +kernel)⟩
theorem lw_p18 : lw_okq (⟨"OneTooFewModel", "token", "()V"⟩, 31) := ⟨⟨by decide +kernel, by decide +kernel⟩, List.mem_of_getElem? (i := 754) (by decide +kernel), List.mem_of_getElem? (i := 878) (by decide +kernel), List.mem_of_getElem? (i := 879) (by decide +kernel)⟩
theorem lw_p19 : lw_okq (⟨"OneTooFewModel", "readsLine", "()Z"⟩, 31) := ⟨⟨by decide +kernel, by decide +kernel⟩, List.mem_of_getElem? (i := 754) (by decide +kernel), List.mem_of_getElem? (i := 885) (by decide +kernel), List.mem_of_getElem? (i := 886) (by decide +kernel)⟩
theorem lw_p20 : lw_okq (⟨"OneTooFewModel", "wordOf", "()I"⟩, 31) := ⟨⟨by decide +kernel, by decide +kernel⟩, List.mem_of_getElem? (i := 754) (by decide +kernel), List.mem_of_getElem? (i := 889) (by decide +kernel), List.mem_of_getElem? (i := 890) (by decide +kernel)⟩
theorem lw_p21 : lw_okq (⟨"OneTooFewModel", "guestWord", "()I"⟩, 31) := ⟨⟨by decide +kernel, by decide +kernel⟩, List.mem_of_getElem? (i := 754) (by decide +kernel), List.mem_of_getElem? (i := 893) (by decide +kernel), List.mem_of_getElem? (i := 894) (by decide +kernel)⟩
theorem lw_p22 : lw_okq (⟨"OneTooFewModel", "isWord", "(II)Z"⟩, 31) := ⟨⟨by decide +kernel, by decide +kernel⟩, List.mem_of_getElem? (i := 754) (by decide +kernel), List.mem_of_getElem? (i := 898) (by decide +kernel), List.mem_of_getElem? (i := 899) (by decide +kernel)⟩
theorem lw_p23 : lw_okq (⟨"OneTooFewModel", "readsRest", "(I)Z"⟩, 31) := ⟨⟨by decide +kernel, by decide +kernel⟩, List.mem_of_getElem? (i := 754) (by decide +kernel), List.mem_of_getElem? (i := 912) (by decide +kernel), List.mem_of_getElem? (i := 913) (by decide +kernel)⟩
theorem lw_p24 : lw_okq (⟨"OneTooFewModel", "numberHere", "()I"⟩, 31) := ⟨⟨by decide +kernel, by decide +kernel⟩, List.mem_of_getElem? (i := 754) (by decide +kernel), List.mem_of_getElem? (i := 916) (by decide +kernel), List.mem_of_getElem? (i := 917) (by decide +kernel)⟩
theorem lw_p25 : lw_okq (⟨"OneTooFewModel", "reads", "(III)Z"⟩, 31) := ⟨⟨by decide +kernel, by decide +kernel⟩, List.mem_of_getElem? (i := 754) (by decide +kernel), List.mem_of_getElem? (i := 920) (by decide +kernel), List.mem_of_getElem? (i := 921) (by decide +kernel)⟩
theorem lw_p26 : lw_okq (⟨"OneTooFewModel", "readsGuest", "()Z"⟩, 31) := ⟨⟨by decide +kernel, by decide +kernel⟩, List.mem_of_getElem? (i := 754) (by decide +kernel), List.mem_of_getElem? (i := 927) (by decide +kernel), List.mem_of_getElem? (i := 928) (by decide +kernel)⟩
theorem lw_p27 : lw_okq (⟨"OneTooFewModel", "tell", "(I)V"⟩, 31) := ⟨⟨by decide +kernel, by decide +kernel⟩, List.mem_of_getElem? (i := 754) (by decide +kernel), List.mem_of_getElem? (i := 936) (by decide +kernel), List.mem_of_getElem? (i := 937) (by decide +kernel)⟩
theorem lw_p28 : lw_okq (⟨"OneTooFewModel", "isPlace", "(I)Z"⟩, 31) := ⟨⟨by decide +kernel, by decide +kernel⟩, List.mem_of_getElem? (i := 754) (by decide +kernel), List.mem_of_getElem? (i := 944) (by decide +kernel), List.mem_of_getElem? (i := 945) (by decide +kernel)⟩
theorem lw_p29 : lw_okq (⟨"OneTooFewModel", "isGuest", "(I)Z"⟩, 31) := ⟨⟨by decide +kernel, by decide +kernel⟩, List.mem_of_getElem? (i := 754) (by decide +kernel), List.mem_of_getElem? (i := 952) (by decide +kernel), List.mem_of_getElem? (i := 953) (by decide +kernel)⟩
theorem lw_p30 : lw_okq (⟨"OneTooFewModel", "effort", "(III)I"⟩, 31) := ⟨⟨by decide +kernel, by decide +kernel⟩, List.mem_of_getElem? (i := 754) (by decide +kernel), List.mem_of_getElem? (i := 961) (by decide +kernel), List.mem_of_getElem? (i := 962) (by decide +kernel)⟩
theorem lw_p31 : lw_okq (⟨"OneTooFewModel", "far", "(II)I"⟩, 31) := ⟨⟨by decide +kernel, by decide +kernel⟩, List.mem_of_getElem? (i := 754) (by decide +kernel), List.mem_of_getElem? (i := 965) (by decide +kernel), List.mem_of_getElem? (i := 966) (by decide +kernel)⟩
def lw_privs_2 : List (MethodName × Nat) := [(⟨"OneTooFew$Finder", "keepStill", "(I)V"⟩, 7), (⟨"OneTooFewModel", "begin", "()V"⟩, 31), (⟨"OneTooFewModel", "token", "()V"⟩, 31), (⟨"OneTooFewModel", "readsLine", "()Z"⟩, 31), (⟨"OneTooFewModel", "wordOf", "()I"⟩, 31), (⟨"OneTooFewModel", "guestWord", "()I"⟩, 31), (⟨"OneTooFewModel", "isWord", "(II)Z"⟩, 31), (⟨"OneTooFewModel", "readsRest", "(I)Z"⟩, 31), (⟨"OneTooFewModel", "numberHere", "()I"⟩, 31), (⟨"OneTooFewModel", "reads", "(III)Z"⟩, 31), (⟨"OneTooFewModel", "readsGuest", "()Z"⟩, 31), (⟨"OneTooFewModel", "tell", "(I)V"⟩, 31), (⟨"OneTooFewModel", "isPlace", "(I)Z"⟩, 31), (⟨"OneTooFewModel", "isGuest", "(I)Z"⟩, 31), (⟨"OneTooFewModel", "effort", "(III)I"⟩, 31), (⟨"OneTooFewModel", "far", "(II)I"⟩, 31)]
theorem lw_r2 : ∀ q ∈ lw_privs_2, lw_okq q := List.forall_mem_cons.mpr ⟨lw_p16, List.forall_mem_cons.mpr ⟨lw_p17, List.forall_mem_cons.mpr ⟨lw_p18, List.forall_mem_cons.mpr ⟨lw_p19, List.forall_mem_cons.mpr ⟨lw_p20, List.forall_mem_cons.mpr ⟨lw_p21, List.forall_mem_cons.mpr ⟨lw_p22, List.forall_mem_cons.mpr ⟨lw_p23, List.forall_mem_cons.mpr ⟨lw_p24, List.forall_mem_cons.mpr ⟨lw_p25, List.forall_mem_cons.mpr ⟨lw_p26, List.forall_mem_cons.mpr ⟨lw_p27, List.forall_mem_cons.mpr ⟨lw_p28, List.forall_mem_cons.mpr ⟨lw_p29, List.forall_mem_cons.mpr ⟨lw_p30, List.forall_mem_cons.mpr ⟨lw_p31, fun _ h => absurd h List.not_mem_nil⟩⟩⟩⟩⟩⟩⟩⟩⟩⟩⟩⟩⟩⟩⟩⟩
theorem lw_p32 : lw_okq (⟨"OneTooFewModel", "walked", "(IIII)I"⟩, 31) := ⟨⟨by decide +kernel, by decide +kernel⟩, List.mem_of_getElem? (i := 754) (by decide +kernel), List.mem_of_getElem? (i := 974) (by decide +kernel), List.mem_of_getElem? (i := 975) (by decide +kernel)⟩
theorem lw_p33 : lw_okq (⟨"OneTooFewModel", "everybody", "()I"⟩, 31) := ⟨⟨by decide +kernel, by decide +kernel⟩, List.mem_of_getElem? (i := 754) (by decide +kernel), List.mem_of_getElem? (i := 982) (by decide +kernel), List.mem_of_getElem? (i := 983) (by decide +kernel)⟩
theorem lw_p34 : lw_okq (⟨"OneTooFewModel", "stops", "(II)I"⟩, 31) := ⟨⟨by decide +kernel, by decide +kernel⟩, List.mem_of_getElem? (i := 754) (by decide +kernel), List.mem_of_getElem? (i := 986) (by decide +kernel), List.mem_of_getElem? (i := 987) (by decide +kernel)⟩
theorem lw_p35 : lw_okq (⟨"OneTooFewModel", "faint", "()I"⟩, 31) := ⟨⟨by decide +kernel, by decide +kernel⟩, List.mem_of_getElem? (i := 754) (by decide +kernel), List.mem_of_getElem? (i := 990) (by decide +kernel), List.mem_of_getElem? (i := 991) (by decide +kernel)⟩
theorem lw_p36 : lw_okq (⟨"OneTooFewModel", "seat", "(I)V"⟩, 31) := ⟨⟨by decide +kernel, by decide +kernel⟩, List.mem_of_getElem? (i := 754) (by decide +kernel), List.mem_of_getElem? (i := 994) (by decide +kernel), List.mem_of_getElem? (i := 995) (by decide +kernel)⟩
theorem lw_p37 : lw_okq (⟨"OneTooFewModel", "findsTwo", "(I)Z"⟩, 31) := ⟨⟨by decide +kernel, by decide +kernel⟩, List.mem_of_getElem? (i := 754) (by decide +kernel), List.mem_of_getElem? (i := 998) (by decide +kernel), List.mem_of_getElem? (i := 999) (by decide +kernel)⟩
theorem lw_p38 : lw_okq (⟨"OneTooFewModel", "takeSecond", "(I)V"⟩, 31) := ⟨⟨by decide +kernel, by decide +kernel⟩, List.mem_of_getElem? (i := 754) (by decide +kernel), List.mem_of_getElem? (i := 1002) (by decide +kernel), List.mem_of_getElem? (i := 1003) (by decide +kernel)⟩
theorem lw_p39 : lw_okq (⟨"OneTooFewModel", "copy", "(II)V"⟩, 31) := ⟨⟨by decide +kernel, by decide +kernel⟩, List.mem_of_getElem? (i := 754) (by decide +kernel), List.mem_of_getElem? (i := 1017) (by decide +kernel), List.mem_of_getElem? (i := 1018) (by decide +kernel)⟩
theorem lw_p40 : lw_okq (⟨"OneTooFewModel", "standingAt", "(I)I"⟩, 31) := ⟨⟨by decide +kernel, by decide +kernel⟩, List.mem_of_getElem? (i := 754) (by decide +kernel), List.mem_of_getElem? (i := 1032) (by decide +kernel), List.mem_of_getElem? (i := 1033) (by decide +kernel)⟩
theorem lw_p41 : lw_okq (⟨"OneTooFewModel", "layAts", "(I)V"⟩, 31) := ⟨⟨by decide +kernel, by decide +kernel⟩, List.mem_of_getElem? (i := 754) (by decide +kernel), List.mem_of_getElem? (i := 1036) (by decide +kernel), List.mem_of_getElem? (i := 1037) (by decide +kernel)⟩
theorem lw_p42 : lw_okq (⟨"OneTooFewModel", "minutesOf", "(III)I"⟩, 31) := ⟨⟨by decide +kernel, by decide +kernel⟩, List.mem_of_getElem? (i := 754) (by decide +kernel), List.mem_of_getElem? (i := 1047) (by decide +kernel), List.mem_of_getElem? (i := 1048) (by decide +kernel)⟩
theorem lw_p43 : lw_okq (⟨"OneTooFewModel", "savePaces", "()V"⟩, 31) := ⟨⟨by decide +kernel, by decide +kernel⟩, List.mem_of_getElem? (i := 754) (by decide +kernel), List.mem_of_getElem? (i := 1060) (by decide +kernel), List.mem_of_getElem? (i := 1061) (by decide +kernel)⟩
theorem lw_p44 : lw_okq (⟨"OneTooFewModel", "layStands", "(III)V"⟩, 31) := ⟨⟨by decide +kernel, by decide +kernel⟩, List.mem_of_getElem? (i := 754) (by decide +kernel), List.mem_of_getElem? (i := 1064) (by decide +kernel), List.mem_of_getElem? (i := 1065) (by decide +kernel)⟩
theorem lw_p45 : lw_okq (⟨"OneTooFewModel", "restorePaces", "()V"⟩, 31) := ⟨⟨by decide +kernel, by decide +kernel⟩, List.mem_of_getElem? (i := 754) (by decide +kernel), List.mem_of_getElem? (i := 1068) (by decide +kernel), List.mem_of_getElem? (i := 1069) (by decide +kernel)⟩
theorem lw_p46 : lw_okq (⟨"OneTooFewModel", "isStill", "(I)Z"⟩, 31) := ⟨⟨by decide +kernel, by decide +kernel⟩, List.mem_of_getElem? (i := 754) (by decide +kernel), List.mem_of_getElem? (i := 1072) (by decide +kernel), List.mem_of_getElem? (i := 1073) (by decide +kernel)⟩
theorem lw_p47 : lw_okq (⟨"OneTooFewModel", "apart", "(III)I"⟩, 31) := ⟨⟨by decide +kernel, by decide +kernel⟩, List.mem_of_getElem? (i := 754) (by decide +kernel), List.mem_of_getElem? (i := 1088) (by decide +kernel), List.mem_of_getElem? (i := 1089) (by decide +kernel)⟩
def lw_privs_3 : List (MethodName × Nat) := [(⟨"OneTooFewModel", "walked", "(IIII)I"⟩, 31), (⟨"OneTooFewModel", "everybody", "()I"⟩, 31), (⟨"OneTooFewModel", "stops", "(II)I"⟩, 31), (⟨"OneTooFewModel", "faint", "()I"⟩, 31), (⟨"OneTooFewModel", "seat", "(I)V"⟩, 31), (⟨"OneTooFewModel", "findsTwo", "(I)Z"⟩, 31), (⟨"OneTooFewModel", "takeSecond", "(I)V"⟩, 31), (⟨"OneTooFewModel", "copy", "(II)V"⟩, 31), (⟨"OneTooFewModel", "standingAt", "(I)I"⟩, 31), (⟨"OneTooFewModel", "layAts", "(I)V"⟩, 31), (⟨"OneTooFewModel", "minutesOf", "(III)I"⟩, 31), (⟨"OneTooFewModel", "savePaces", "()V"⟩, 31), (⟨"OneTooFewModel", "layStands", "(III)V"⟩, 31), (⟨"OneTooFewModel", "restorePaces", "()V"⟩, 31), (⟨"OneTooFewModel", "isStill", "(I)Z"⟩, 31), (⟨"OneTooFewModel", "apart", "(III)I"⟩, 31)]
theorem lw_r3 : ∀ q ∈ lw_privs_3, lw_okq q := List.forall_mem_cons.mpr ⟨lw_p32, List.forall_mem_cons.mpr ⟨lw_p33, List.forall_mem_cons.mpr ⟨lw_p34, List.forall_mem_cons.mpr ⟨lw_p35, List.forall_mem_cons.mpr ⟨lw_p36, List.forall_mem_cons.mpr ⟨lw_p37, List.forall_mem_cons.mpr ⟨lw_p38, List.forall_mem_cons.mpr ⟨lw_p39, List.forall_mem_cons.mpr ⟨lw_p40, List.forall_mem_cons.mpr ⟨lw_p41, List.forall_mem_cons.mpr ⟨lw_p42, List.forall_mem_cons.mpr ⟨lw_p43, List.forall_mem_cons.mpr ⟨lw_p44, List.forall_mem_cons.mpr ⟨lw_p45, List.forall_mem_cons.mpr ⟨lw_p46, List.forall_mem_cons.mpr ⟨lw_p47, fun _ h => absurd h List.not_mem_nil⟩⟩⟩⟩⟩⟩⟩⟩⟩⟩⟩⟩⟩⟩⟩⟩
def lw_privs : List (MethodName × Nat) := lw_privs_1 ++ (lw_privs_2 ++ (lw_privs_3))
def lw_tbl : List Cond := k2_sels lw_privs ++ tables_1
theorem lw_privs_ok : ∀ q ∈ lw_privs, lw_okq q := by
  show ∀ q ∈ lw_privs_1 ++ (lw_privs_2 ++ (lw_privs_3)), lw_okq q
  exact List.forall_mem_append.mpr ⟨lw_r1, List.forall_mem_append.mpr ⟨lw_r2, lw_r3⟩⟩
end
section
def RX0 : String := "OneTooFew$Evening"
def TX0 : u_T := fun k => match k with
  | 0 => ("OneTooFew$Evening", "minutes", "I", false)
  | 1 => ("OneTooFew$Evening", "plays", "Z", false)
  | 2 => ("OneTooFew$Evening", "isKept", "Z", false)
  | 3 => ("OneTooFew$Evening", "stood", "I", false)
  | 4 => ("OneTooFew$Evening", "at", "[I", true)
  | 5 => ("OneTooFew$Evening", "seat", "[I", true)
  | 6 => ("OneTooFew$Evening", "holder", "[I", true)
  | _ => ("OneTooFew$Evening", "paid", "[I", true)
def tyX0 : Nat → FieldType := fun k => match k with
  | 0 => .int
  | 1 => .boolean
  | 2 => .boolean
  | 3 => .int
  | 4 => .array .int
  | 5 => .array .int
  | 6 => .array .int
  | _ => .array .int
theorem nmX0 : ∀ a, a < 8 → ∀ b, b < 8 → a ≠ b → (TX0 a).2.1 ≠ (TX0 b).2.1 := by decide +kernel
theorem tyX0_ok : ∀ k, k < 8 → parseFieldDescriptor (TX0 k).2.2.1 = some (tyX0 k) := by decide +kernel
abbrev cX0_init : ByteArray := prog_2_method_1_code
def yX0_init : MethodName := ⟨RX0, "<init>", "()V"⟩
abbrev cX0_begin : ByteArray := prog_2_method_2_code
def yX0_begin : MethodName := ⟨RX0, "begin", "(LOneTooFew$Told;)V"⟩
abbrev cX0_copyFrom : ByteArray := prog_2_method_3_code
def yX0_copyFrom : MethodName := ⟨RX0, "copyFrom", "(LOneTooFew$Evening;)V"⟩
abbrev cX0_whoIsAt : ByteArray := prog_2_method_4_code
def yX0_whoIsAt : MethodName := ⟨RX0, "whoIsAt", "(II)I"⟩
abbrev cX0_goOn : ByteArray := prog_2_method_5_code
def yX0_goOn : MethodName := ⟨RX0, "goOn", "(LOneTooFew$Told;I)V"⟩
abbrev cX0_end : ByteArray := prog_2_method_6_code
def yX0_end : MethodName := ⟨RX0, "end", "(LOneTooFew$Told;LOneTooFew$Seating;I)V"⟩
abbrev cX0_getUp : ByteArray := prog_2_method_7_code
def yX0_getUp : MethodName := ⟨RX0, "getUp", "()V"⟩
def RX1 : String := "OneTooFew$Finder"
def TX1 : u_T := fun k => match k with
  | 0 => ("OneTooFew$Finder", "told", "LOneTooFew$Told;", true)
  | 1 => ("OneTooFew$Finder", "foretold", "LOneTooFew$Foretold;", true)
  | 2 => ("OneTooFew$Finder", "rows", "[I", true)
  | 3 => ("OneTooFew$Finder", "best", "I", false)
  | 4 => ("OneTooFew$Finder", "bestSet", "I", false)
  | 5 => ("OneTooFew$Finder", "bestPace", "I", false)
  | _ => ("OneTooFew$Finder", "bestWay", "I", false)
def tyX1 : Nat → FieldType := fun k => match k with
  | 0 => .object "OneTooFew$Told"
  | 1 => .object "OneTooFew$Foretold"
  | 2 => .array .int
  | 3 => .int
  | 4 => .int
  | 5 => .int
  | _ => .int
theorem nmX1 : ∀ a, a < 7 → ∀ b, b < 7 → a ≠ b → (TX1 a).2.1 ≠ (TX1 b).2.1 := by decide +kernel
theorem tyX1_ok : ∀ k, k < 7 → parseFieldDescriptor (TX1 k).2.2.1 = some (tyX1 k) := by decide +kernel
abbrev cX1_init : ByteArray := prog_3_method_1_code
def yX1_init : MethodName := ⟨RX1, "<init>", "(LOneTooFew$Told;LOneTooFew$Foretold;)V"⟩
abbrev cX1_findSurest : ByteArray := prog_3_method_2_code
def yX1_findSurest : MethodName := ⟨RX1, "findSurest", "(III)V"⟩
abbrev cX1_findStill : ByteArray := prog_3_method_3_code
def yX1_findStill : MethodName := ⟨RX1, "findStill", "(II)V"⟩
abbrev cX1_nobodyWouldChange : ByteArray := prog_3_method_4_code
def yX1_nobodyWouldChange : MethodName := ⟨RX1, "nobodyWouldChange", "(I)Z"⟩
abbrev cX1_findPlot : ByteArray := prog_3_method_5_code
def yX1_findPlot : MethodName := ⟨RX1, "findPlot", "(III)V"⟩
abbrev cX1_keepStill : ByteArray := prog_3_method_6_code
def yX1_keepStill : MethodName := ⟨RX1, "keepStill", "(I)V"⟩
abbrev cX1_findLaid : ByteArray := prog_3_method_7_code
def yX1_findLaid : MethodName := ⟨RX1, "findLaid", "(III)V"⟩
abbrev cX1_findFits : ByteArray := prog_3_method_8_code
def yX1_findFits : MethodName := ⟨RX1, "findFits", "(LOneTooFew$Sights;)V"⟩
def RX2 : String := "OneTooFew$Foretold"
def TX2 : u_T := fun k => match k with
  | 0 => ("OneTooFew$Foretold", "told", "LOneTooFew$Told;", true)
  | 1 => ("OneTooFew$Foretold", "seating", "LOneTooFew$Seating;", true)
  | 2 => ("OneTooFew$Foretold", "pace", "[I", true)
  | 3 => ("OneTooFew$Foretold", "way", "[I", true)
  | 4 => ("OneTooFew$Foretold", "times", "[I", true)
  | 5 => ("OneTooFew$Foretold", "among", "I", false)
  | _ => ("OneTooFew$Foretold", "chairs", "I", false)
def tyX2 : Nat → FieldType := fun k => match k with
  | 0 => .object "OneTooFew$Told"
  | 1 => .object "OneTooFew$Seating"
  | 2 => .array .int
  | 3 => .array .int
  | 4 => .array .int
  | 5 => .int
  | _ => .int
theorem nmX2 : ∀ a, a < 7 → ∀ b, b < 7 → a ≠ b → (TX2 a).2.1 ≠ (TX2 b).2.1 := by decide +kernel
theorem tyX2_ok : ∀ k, k < 7 → parseFieldDescriptor (TX2 k).2.2.1 = some (tyX2 k) := by decide +kernel
abbrev cX2_init : ByteArray := prog_4_method_1_code
def yX2_init : MethodName := ⟨RX2, "<init>", "(LOneTooFew$Told;LOneTooFew$Seating;)V"⟩
abbrev cX2_asTold : ByteArray := prog_4_method_2_code
def yX2_asTold : MethodName := ⟨RX2, "asTold", "()V"⟩
abbrev cX2_stoodAt : ByteArray := prog_4_method_3_code
def yX2_stoodAt : MethodName := ⟨RX2, "stoodAt", "(I)I"⟩
abbrev cX2_goTo : ByteArray := prog_4_method_4_code
def yX2_goTo : MethodName := ⟨RX2, "goTo", "(I)V"⟩
abbrev cX2_tally : ByteArray := prog_4_method_5_code
def yX2_tally : MethodName := ⟨RX2, "tally", "(II)V"⟩
abbrev cX2_addTimes : ByteArray := prog_4_method_6_code
def yX2_addTimes : MethodName := ⟨RX2, "addTimes", "(II)V"⟩
abbrev cX2_minutesLike : ByteArray := prog_4_method_7_code
def yX2_minutesLike : MethodName := ⟨RX2, "minutesLike", "(III)I"⟩
abbrev cX2_minutesLikeTo : ByteArray := prog_4_method_8_code
def yX2_minutesLikeTo : MethodName := ⟨RX2, "minutesLikeTo", "(II)I"⟩
abbrev cX2_spread : ByteArray := prog_4_method_9_code
def yX2_spread : MethodName := ⟨RX2, "spread", "()I"⟩
abbrev cX2_playRounds : ByteArray := prog_4_method_10_code
def yX2_playRounds : MethodName := ⟨RX2, "playRounds", "(I)I"⟩
def RX3 : String := "OneTooFew$Seating"
def TX3 : u_T := fun k => match k with
  | 0 => ("OneTooFew$Seating", "told", "LOneTooFew$Told;", true)
  | 1 => ("OneTooFew$Seating", "at", "[I", true)
  | 2 => ("OneTooFew$Seating", "seat", "[I", true)
  | 3 => ("OneTooFew$Seating", "holder", "[I", true)
  | 4 => ("OneTooFew$Seating", "second", "Z", false)
  | _ => ("OneTooFew$Seating", "free", "I", false)
def tyX3 : Nat → FieldType := fun k => match k with
  | 0 => .object "OneTooFew$Told"
  | 1 => .array .int
  | 2 => .array .int
  | 3 => .array .int
  | 4 => .boolean
  | _ => .int
theorem nmX3 : ∀ a, a < 6 → ∀ b, b < 6 → a ≠ b → (TX3 a).2.1 ≠ (TX3 b).2.1 := by decide +kernel
theorem tyX3_ok : ∀ k, k < 6 → parseFieldDescriptor (TX3 k).2.2.1 = some (tyX3 k) := by decide +kernel
abbrev cX3_init : ByteArray := prog_5_method_1_code
def yX3_init : MethodName := ⟨RX3, "<init>", "(LOneTooFew$Told;)V"⟩
abbrev cX3_settle : ByteArray := prog_5_method_2_code
def yX3_settle : MethodName := ⟨RX3, "settle", "(II)I"⟩
abbrev cX3_settleFaint : ByteArray := prog_5_method_3_code
def yX3_settleFaint : MethodName := ⟨RX3, "settleFaint", "(I)V"⟩
abbrev cX3_seatAll : ByteArray := prog_5_method_4_code
def yX3_seatAll : MethodName := ⟨RX3, "seatAll", "(I)I"⟩
abbrev cX3_seatOne : ByteArray := prog_5_method_5_code
def yX3_seatOne : MethodName := ⟨RX3, "seatOne", "(II)V"⟩
abbrev cX3_take : ByteArray := prog_5_method_6_code
def yX3_take : MethodName := ⟨RX3, "take", "(II)V"⟩
def RX4 : String := "OneTooFew$Sights"
def TX4 : u_T := fun k => match k with
  | 0 => ("OneTooFew$Sights", "number", "I", false)
  | 1 => ("OneTooFew$Sights", "who", "[I", true)
  | _ => ("OneTooFew$Sights", "how", "[I", true)
def tyX4 : Nat → FieldType := fun k => match k with
  | 0 => .int
  | 1 => .array .int
  | _ => .array .int
theorem nmX4 : ∀ a, a < 3 → ∀ b, b < 3 → a ≠ b → (TX4 a).2.1 ≠ (TX4 b).2.1 := by decide +kernel
theorem tyX4_ok : ∀ k, k < 3 → parseFieldDescriptor (TX4 k).2.2.1 = some (tyX4 k) := by decide +kernel
abbrev cX4_init : ByteArray := prog_6_method_1_code
def yX4_init : MethodName := ⟨RX4, "<init>", "()V"⟩
abbrev cX4_add : ByteArray := prog_6_method_2_code
def yX4_add : MethodName := ⟨RX4, "add", "(II)V"⟩
abbrev cX4_fit : ByteArray := prog_6_method_3_code
def yX4_fit : MethodName := ⟨RX4, "fit", "(I)Z"⟩
def RX5 : String := "OneTooFew$Text"
def TX5 : u_T := fun k => match k with
  | 0 => ("OneTooFew$Text", "bytes", "[I", true)
  | 1 => ("OneTooFew$Text", "length", "I", false)
  | 2 => ("OneTooFew$Text", "draft", "LOneTooFew$Told;", true)
  | 3 => ("OneTooFew$Text", "lines", "I", false)
  | 4 => ("OneTooFew$Text", "begin", "I", false)
  | 5 => ("OneTooFew$Text", "end", "I", false)
  | 6 => ("OneTooFew$Text", "value", "I", false)
  | _ => ("OneTooFew$Text", "numbers", "[I", true)
def tyX5 : Nat → FieldType := fun k => match k with
  | 0 => .array .int
  | 1 => .int
  | 2 => .object "OneTooFew$Told"
  | 3 => .int
  | 4 => .int
  | 5 => .int
  | 6 => .int
  | _ => .array .int
theorem nmX5 : ∀ a, a < 8 → ∀ b, b < 8 → a ≠ b → (TX5 a).2.1 ≠ (TX5 b).2.1 := by decide +kernel
theorem tyX5_ok : ∀ k, k < 8 → parseFieldDescriptor (TX5 k).2.2.1 = some (tyX5 k) := by decide +kernel
abbrev cX5_init : ByteArray := prog_7_method_1_code
def yX5_init : MethodName := ⟨RX5, "<init>", "()V"⟩
abbrev cX5_append : ByteArray := prog_7_method_2_code
def yX5_append : MethodName := ⟨RX5, "append", "(I)V"⟩
abbrev cX5_read : ByteArray := prog_7_method_3_code
def yX5_read : MethodName := ⟨RX5, "read", "(LOneTooFew$Told;)I"⟩
abbrev cX5_nextToken : ByteArray := prog_7_method_4_code
def yX5_nextToken : MethodName := ⟨RX5, "nextToken", "()V"⟩
abbrev cX5_isLetter : ByteArray := prog_7_method_5_code
def yX5_isLetter : MethodName := ⟨RX5, "isLetter", "(I)Z"⟩
abbrev cX5_isDigit : ByteArray := prog_7_method_6_code
def yX5_isDigit : MethodName := ⟨RX5, "isDigit", "(I)Z"⟩
abbrev cX5_isWord : ByteArray := prog_7_method_7_code
def yX5_isWord : MethodName := ⟨RX5, "isWord", "(Ljava/lang/String;)Z"⟩
abbrev cX5_doLine : ByteArray := prog_7_method_8_code
def yX5_doLine : MethodName := ⟨RX5, "doLine", "()Z"⟩
abbrev cX5_kindOfWord : ByteArray := prog_7_method_9_code
def yX5_kindOfWord : MethodName := ⟨RX5, "kindOfWord", "()I"⟩
abbrev cX5_doInn : ByteArray := prog_7_method_10_code
def yX5_doInn : MethodName := ⟨RX5, "doInn", "()Z"⟩
abbrev cX5_doChair : ByteArray := prog_7_method_11_code
def yX5_doChair : MethodName := ⟨RX5, "doChair", "(Z)Z"⟩
abbrev cX5_doGuest : ByteArray := prog_7_method_12_code
def yX5_doGuest : MethodName := ⟨RX5, "doGuest", "(I)Z"⟩
abbrev cX5_mostOf : ByteArray := prog_7_method_13_code
def yX5_mostOf : MethodName := ⟨RX5, "mostOf", "(I)I"⟩
abbrev cX5_readNumber : ByteArray := prog_7_method_14_code
def yX5_readNumber : MethodName := ⟨RX5, "readNumber", "(II)Z"⟩
def RX6 : String := "OneTooFew$Told"
def TX6 : u_T := fun k => match k with
  | 0 => ("OneTooFew$Told", "places", "I", false)
  | 1 => ("OneTooFew$Told", "chairs", "I", false)
  | 2 => ("OneTooFew$Told", "guests", "I", false)
  | 3 => ("OneTooFew$Told", "kind", "[I", true)
  | 4 => ("OneTooFew$Told", "start", "[I", true)
  | 5 => ("OneTooFew$Told", "pace", "[I", true)
  | 6 => ("OneTooFew$Told", "way", "[I", true)
  | _ => ("OneTooFew$Told", "worth", "[I", true)
def tyX6 : Nat → FieldType := fun k => match k with
  | 0 => .int
  | 1 => .int
  | 2 => .int
  | 3 => .array .int
  | 4 => .array .int
  | 5 => .array .int
  | 6 => .array .int
  | _ => .array .int
theorem nmX6 : ∀ a, a < 8 → ∀ b, b < 8 → a ≠ b → (TX6 a).2.1 ≠ (TX6 b).2.1 := by decide +kernel
theorem tyX6_ok : ∀ k, k < 8 → parseFieldDescriptor (TX6 k).2.2.1 = some (tyX6 k) := by decide +kernel
abbrev cX6_init : ByteArray := prog_8_method_1_code
def yX6_init : MethodName := ⟨RX6, "<init>", "()V"⟩
abbrev cX6_copyFrom : ByteArray := prog_8_method_2_code
def yX6_copyFrom : MethodName := ⟨RX6, "copyFrom", "(LOneTooFew$Told;)V"⟩
abbrev cX6_hasPlace : ByteArray := prog_8_method_3_code
def yX6_hasPlace : MethodName := ⟨RX6, "hasPlace", "(I)Z"⟩
abbrev cX6_hasChair : ByteArray := prog_8_method_4_code
def yX6_hasChair : MethodName := ⟨RX6, "hasChair", "(I)Z"⟩
abbrev cX6_hasGuest : ByteArray := prog_8_method_5_code
def yX6_hasGuest : MethodName := ⟨RX6, "hasGuest", "(I)Z"⟩
abbrev cX6_hasAll : ByteArray := prog_8_method_6_code
def yX6_hasAll : MethodName := ⟨RX6, "hasAll", "(I)Z"⟩
abbrev cX6_everyone : ByteArray := prog_8_method_7_code
def yX6_everyone : MethodName := ⟨RX6, "everyone", "()I"⟩
abbrev cX6_allOfKind : ByteArray := prog_8_method_8_code
def yX6_allOfKind : MethodName := ⟨RX6, "allOfKind", "(I)I"⟩
abbrev cX6_isA : ByteArray := prog_8_method_9_code
def yX6_isA : MethodName := ⟨RX6, "isA", "(II)Z"⟩
abbrev cX6_ease : ByteArray := prog_8_method_10_code
def yX6_ease : MethodName := ⟨RX6, "ease", "(I)I"⟩
abbrev cX6_placeAfter : ByteArray := prog_8_method_11_code
def yX6_placeAfter : MethodName := ⟨RX6, "placeAfter", "(III)I"⟩
abbrev cX6_farthest : ByteArray := prog_8_method_12_code
def yX6_farthest : MethodName := ⟨RX6, "farthest", "()I"⟩
abbrev cX6_leastAt : ByteArray := prog_8_method_13_code
def yX6_leastAt : MethodName := ⟨RX6, "leastAt", "(III)I"⟩
abbrev cX6_nearestChair : ByteArray := prog_8_method_14_code
def yX6_nearestChair : MethodName := ⟨RX6, "nearestChair", "(I)I"⟩
abbrev cX6_allWorth : ByteArray := prog_8_method_15_code
def yX6_allWorth : MethodName := ⟨RX6, "allWorth", "()I"⟩
abbrev cX6_greatestWorth : ByteArray := prog_8_method_16_code
def yX6_greatestWorth : MethodName := ⟨RX6, "greatestWorth", "(I)I"⟩
abbrev cX6_beginInn : ByteArray := prog_8_method_17_code
def yX6_beginInn : MethodName := ⟨RX6, "beginInn", "(I)V"⟩
abbrev cX6_addGuest : ByteArray := prog_8_method_18_code
def yX6_addGuest : MethodName := ⟨RX6, "addGuest", "(I[I)Z"⟩
def RX7 : String := "OneTooFew"
def TX7 : u_T := fun k => match k with
  | 0 => ("OneTooFew", "told", "LOneTooFew$Told;", true)
  | 1 => ("OneTooFew", "text", "LOneTooFew$Text;", true)
  | 2 => ("OneTooFew", "seating", "LOneTooFew$Seating;", true)
  | 3 => ("OneTooFew", "foretold", "LOneTooFew$Foretold;", true)
  | 4 => ("OneTooFew", "finder", "LOneTooFew$Finder;", true)
  | 5 => ("OneTooFew", "evening", "LOneTooFew$Evening;", true)
  | 6 => ("OneTooFew", "firstKept", "LOneTooFew$Evening;", true)
  | 7 => ("OneTooFew", "secondKept", "LOneTooFew$Evening;", true)
  | _ => ("OneTooFew", "sights", "LOneTooFew$Sights;", true)
def tyX7 : Nat → FieldType := fun k => match k with
  | 0 => .object "OneTooFew$Told"
  | 1 => .object "OneTooFew$Text"
  | 2 => .object "OneTooFew$Seating"
  | 3 => .object "OneTooFew$Foretold"
  | 4 => .object "OneTooFew$Finder"
  | 5 => .object "OneTooFew$Evening"
  | 6 => .object "OneTooFew$Evening"
  | 7 => .object "OneTooFew$Evening"
  | _ => .object "OneTooFew$Sights"
theorem nmX7 : ∀ a, a < 9 → ∀ b, b < 9 → a ≠ b → (TX7 a).2.1 ≠ (TX7 b).2.1 := by decide +kernel
theorem tyX7_ok : ∀ k, k < 9 → parseFieldDescriptor (TX7 k).2.2.1 = some (tyX7 k) := by decide +kernel
abbrev cX7_init : ByteArray := prog_1_method_1_code
def yX7_init : MethodName := ⟨RX7, "<init>", "()V"⟩
abbrev cX7_write : ByteArray := prog_1_method_2_code
def yX7_write : MethodName := ⟨RX7, "write", "(JI)I"⟩
abbrev cX7_erase : ByteArray := prog_1_method_3_code
def yX7_erase : MethodName := ⟨RX7, "erase", "()I"⟩
abbrev cX7_fault : ByteArray := prog_1_method_4_code
def yX7_fault : MethodName := ⟨RX7, "fault", "()I"⟩
abbrev cX7_inn : ByteArray := prog_1_method_5_code
def yX7_inn : MethodName := ⟨RX7, "inn", "()I"⟩
abbrev cX7_place : ByteArray := prog_1_method_6_code
def yX7_place : MethodName := ⟨RX7, "place", "(II)I"⟩
abbrev cX7_guest : ByteArray := prog_1_method_7_code
def yX7_guest : MethodName := ⟨RX7, "guest", "(II)I"⟩
abbrev cX7_as : ByteArray := prog_1_method_8_code
def yX7_as : MethodName := ⟨RX7, "as", "(II)I"⟩
abbrev cX7_walk : ByteArray := prog_1_method_9_code
def yX7_walk : MethodName := ⟨RX7, "walk", "(I)I"⟩
abbrev cX7_stop : ByteArray := prog_1_method_10_code
def yX7_stop : MethodName := ⟨RX7, "stop", "()I"⟩
abbrev cX7_play : ByteArray := prog_1_method_11_code
def yX7_play : MethodName := ⟨RX7, "play", "()I"⟩
abbrev cX7_keep : ByteArray := prog_1_method_12_code
def yX7_keep : MethodName := ⟨RX7, "keep", "(I)I"⟩
abbrev cX7_back : ByteArray := prog_1_method_13_code
def yX7_back : MethodName := ⟨RX7, "back", "(I)I"⟩
abbrev cX7_standing : ByteArray := prog_1_method_14_code
def yX7_standing : MethodName := ⟨RX7, "standing", "(I)I"⟩
abbrev cX7_odds : ByteArray := prog_1_method_15_code
def yX7_odds : MethodName := ⟨RX7, "odds", "(IIII)I"⟩
abbrev cX7_surest : ByteArray := prog_1_method_16_code
def yX7_surest : MethodName := ⟨RX7, "surest", "(IIII)I"⟩
abbrev cX7_still : ByteArray := prog_1_method_17_code
def yX7_still : MethodName := ⟨RX7, "still", "(III)I"⟩
abbrev cX7_plot : ByteArray := prog_1_method_18_code
def yX7_plot : MethodName := ⟨RX7, "plot", "(IIII)I"⟩
abbrev cX7_price : ByteArray := prog_1_method_19_code
def yX7_price : MethodName := ⟨RX7, "price", "(I)I"⟩
abbrev cX7_laid : ByteArray := prog_1_method_20_code
def yX7_laid : MethodName := ⟨RX7, "laid", "(IIII)I"⟩
abbrev cX7_left : ByteArray := prog_1_method_21_code
def yX7_left : MethodName := ⟨RX7, "left", "(II)I"⟩
abbrev cX7_seen : ByteArray := prog_1_method_22_code
def yX7_seen : MethodName := ⟨RX7, "seen", "(II)I"⟩
abbrev cX7_forget : ByteArray := prog_1_method_23_code
def yX7_forget : MethodName := ⟨RX7, "forget", "()I"⟩
abbrev cX7_fits : ByteArray := prog_1_method_24_code
def yX7_fits : MethodName := ⟨RX7, "fits", "(I)I"⟩
abbrev cX7_count : ByteArray := prog_1_method_25_code
def yX7_count : MethodName := ⟨RX7, "count", "(I)I"⟩
abbrev cX7_isMinute : ByteArray := prog_1_method_26_code
def yX7_isMinute : MethodName := ⟨RX7, "isMinute", "(I)Z"⟩
abbrev cX7_areMinutes : ByteArray := prog_1_method_27_code
def yX7_areMinutes : MethodName := ⟨RX7, "areMinutes", "(II)Z"⟩
abbrev cX7_isEither : ByteArray := prog_1_method_28_code
def yX7_isEither : MethodName := ⟨RX7, "isEither", "(I)Z"⟩
abbrev cX7_holds : ByteArray := prog_1_method_29_code
def yX7_holds : MethodName := ⟨RX7, "holds", "(II)Z"⟩
abbrev cX7_commonDivisor : ByteArray := prog_1_method_30_code
def yX7_commonDivisor : MethodName := ⟨RX7, "commonDivisor", "(II)I"⟩
def RX8 : String := "OneTooFewModel"
def TX8 : u_T := fun k => match k with
  | 0 => ("OneTooFewModel", "row", "[I", true)
  | 1 => ("OneTooFewModel", "isKept", "[Z", true)
  | 2 => ("OneTooFewModel", "text", "[I", true)
  | 3 => ("OneTooFewModel", "length", "I", false)
  | 4 => ("OneTooFewModel", "read", "[I", true)
  | 5 => ("OneTooFewModel", "readMany", "I", false)
  | 6 => ("OneTooFewModel", "places", "I", false)
  | 7 => ("OneTooFewModel", "chairs", "I", false)
  | 8 => ("OneTooFewModel", "kinds", "[I", true)
  | 9 => ("OneTooFewModel", "told", "[I", true)
  | 10 => ("OneTooFewModel", "paces", "[I", true)
  | 11 => ("OneTooFewModel", "ways", "[I", true)
  | 12 => ("OneTooFewModel", "worths", "[I", true)
  | 13 => ("OneTooFewModel", "many", "I", false)
  | 14 => ("OneTooFewModel", "at", "I", false)
  | 15 => ("OneTooFewModel", "place", "I", false)
  | 16 => ("OneTooFewModel", "end", "I", false)
  | 17 => ("OneTooFewModel", "readPlaces", "I", false)
  | 18 => ("OneTooFewModel", "readChairs", "I", false)
  | 19 => ("OneTooFewModel", "readGuests", "I", false)
  | 20 => ("OneTooFewModel", "ats", "[I", true)
  | 21 => ("OneTooFewModel", "firsts", "[I", true)
  | 22 => ("OneTooFewModel", "seconds", "[I", true)
  | 23 => ("OneTooFewModel", "freeChairs", "I", false)
  | 24 => ("OneTooFewModel", "nextGuest", "I", false)
  | 25 => ("OneTooFewModel", "nextChair", "I", false)
  | 26 => ("OneTooFewModel", "hadPaces", "[I", true)
  | 27 => ("OneTooFewModel", "stands", "[I", true)
  | 28 => ("OneTooFewModel", "counts", "[I", true)
  | 29 => ("OneTooFewModel", "sights", "[I", true)
  | _ => ("OneTooFewModel", "seenMany", "I", false)
def tyX8 : Nat → FieldType := fun k => match k with
  | 0 => .array .int
  | 1 => .array .boolean
  | 2 => .array .int
  | 3 => .int
  | 4 => .array .int
  | 5 => .int
  | 6 => .int
  | 7 => .int
  | 8 => .array .int
  | 9 => .array .int
  | 10 => .array .int
  | 11 => .array .int
  | 12 => .array .int
  | 13 => .int
  | 14 => .int
  | 15 => .int
  | 16 => .int
  | 17 => .int
  | 18 => .int
  | 19 => .int
  | 20 => .array .int
  | 21 => .array .int
  | 22 => .array .int
  | 23 => .int
  | 24 => .int
  | 25 => .int
  | 26 => .array .int
  | 27 => .array .int
  | 28 => .array .int
  | 29 => .array .int
  | _ => .int
theorem nmX8 : ∀ a, a < 31 → ∀ b, b < 31 → a ≠ b → (TX8 a).2.1 ≠ (TX8 b).2.1 := by decide +kernel
theorem tyX8_ok : ∀ k, k < 31 → parseFieldDescriptor (TX8 k).2.2.1 = some (tyX8 k) := by decide +kernel
abbrev cX8_init : ByteArray := prog_10_method_1_code
def yX8_init : MethodName := ⟨RX8, "<init>", "()V"⟩
abbrev cX8_in : ByteArray := prog_10_method_2_code
def yX8_in : MethodName := ⟨RX8, "in", "(JJJ)Z"⟩
abbrev cX8_has : ByteArray := prog_10_method_3_code
def yX8_has : MethodName := ⟨RX8, "has", "(II)Z"⟩
abbrev cX8_bits : ByteArray := prog_10_method_4_code
def yX8_bits : MethodName := ⟨RX8, "bits", "(I)I"⟩
abbrev cX8_begin : ByteArray := prog_10_method_5_code
def yX8_begin : MethodName := ⟨RX8, "begin", "()V"⟩
abbrev cX8_write : ByteArray := prog_10_method_6_code
def yX8_write : MethodName := ⟨RX8, "write", "(JI)I"⟩
abbrev cX8_erase : ByteArray := prog_10_method_7_code
def yX8_erase : MethodName := ⟨RX8, "erase", "()I"⟩
abbrev cX8_sort : ByteArray := prog_10_method_8_code
def yX8_sort : MethodName := ⟨RX8, "sort", "(I)I"⟩
abbrev cX8_token : ByteArray := prog_10_method_9_code
def yX8_token : MethodName := ⟨RX8, "token", "()V"⟩
abbrev cX8_isWord : ByteArray := prog_10_method_10_code
def yX8_isWord : MethodName := ⟨RX8, "isWord", "(II)Z"⟩
abbrev cX8_guestWord : ByteArray := prog_10_method_11_code
def yX8_guestWord : MethodName := ⟨RX8, "guestWord", "()I"⟩
abbrev cX8_wordOf : ByteArray := prog_10_method_12_code
def yX8_wordOf : MethodName := ⟨RX8, "wordOf", "()I"⟩
abbrev cX8_numberHere : ByteArray := prog_10_method_13_code
def yX8_numberHere : MethodName := ⟨RX8, "numberHere", "()I"⟩
abbrev cX8_reads : ByteArray := prog_10_method_14_code
def yX8_reads : MethodName := ⟨RX8, "reads", "(III)Z"⟩
abbrev cX8_readsGuest : ByteArray := prog_10_method_15_code
def yX8_readsGuest : MethodName := ⟨RX8, "readsGuest", "()Z"⟩
abbrev cX8_readsRest : ByteArray := prog_10_method_16_code
def yX8_readsRest : MethodName := ⟨RX8, "readsRest", "(I)Z"⟩
abbrev cX8_isGuestWord : ByteArray := prog_10_method_17_code
def yX8_isGuestWord : MethodName := ⟨RX8, "isGuestWord", "(I)Z"⟩
abbrev cX8_readsLine : ByteArray := prog_10_method_18_code
def yX8_readsLine : MethodName := ⟨RX8, "readsLine", "()Z"⟩
abbrev cX8_fault : ByteArray := prog_10_method_19_code
def yX8_fault : MethodName := ⟨RX8, "fault", "()I"⟩
abbrev cX8_tell : ByteArray := prog_10_method_20_code
def yX8_tell : MethodName := ⟨RX8, "tell", "(I)V"⟩
abbrev cX8_inn : ByteArray := prog_10_method_21_code
def yX8_inn : MethodName := ⟨RX8, "inn", "()I"⟩
abbrev cX8_isPlace : ByteArray := prog_10_method_22_code
def yX8_isPlace : MethodName := ⟨RX8, "isPlace", "(I)Z"⟩
abbrev cX8_isGuest : ByteArray := prog_10_method_23_code
def yX8_isGuest : MethodName := ⟨RX8, "isGuest", "(I)Z"⟩
abbrev cX8_place : ByteArray := prog_10_method_24_code
def yX8_place : MethodName := ⟨RX8, "place", "(II)I"⟩
abbrev cX8_guest : ByteArray := prog_10_method_25_code
def yX8_guest : MethodName := ⟨RX8, "guest", "(II)I"⟩
abbrev cX8_far : ByteArray := prog_10_method_26_code
def yX8_far : MethodName := ⟨RX8, "far", "(II)I"⟩
abbrev cX8_effort : ByteArray := prog_10_method_27_code
def yX8_effort : MethodName := ⟨RX8, "effort", "(III)I"⟩
abbrev cX8_as : ByteArray := prog_10_method_28_code
def yX8_as : MethodName := ⟨RX8, "as", "(II)I"⟩
abbrev cX8_findsTwo : ByteArray := prog_10_method_29_code
def yX8_findsTwo : MethodName := ⟨RX8, "findsTwo", "(I)Z"⟩
abbrev cX8_takeSecond : ByteArray := prog_10_method_30_code
def yX8_takeSecond : MethodName := ⟨RX8, "takeSecond", "(I)V"⟩
abbrev cX8_seat : ByteArray := prog_10_method_31_code
def yX8_seat : MethodName := ⟨RX8, "seat", "(I)V"⟩
abbrev cX8_faint : ByteArray := prog_10_method_32_code
def yX8_faint : MethodName := ⟨RX8, "faint", "()I"⟩
abbrev cX8_stops : ByteArray := prog_10_method_33_code
def yX8_stops : MethodName := ⟨RX8, "stops", "(II)I"⟩
abbrev cX8_everybody : ByteArray := prog_10_method_34_code
def yX8_everybody : MethodName := ⟨RX8, "everybody", "()I"⟩
abbrev cX8_walked : ByteArray := prog_10_method_35_code
def yX8_walked : MethodName := ⟨RX8, "walked", "(IIII)I"⟩
abbrev cX8_walk : ByteArray := prog_10_method_36_code
def yX8_walk : MethodName := ⟨RX8, "walk", "(I)I"⟩
abbrev cX8_stop : ByteArray := prog_10_method_37_code
def yX8_stop : MethodName := ⟨RX8, "stop", "()I"⟩
abbrev cX8_play : ByteArray := prog_10_method_38_code
def yX8_play : MethodName := ⟨RX8, "play", "()I"⟩
abbrev cX8_copy : ByteArray := prog_10_method_39_code
def yX8_copy : MethodName := ⟨RX8, "copy", "(II)V"⟩
abbrev cX8_keep : ByteArray := prog_10_method_40_code
def yX8_keep : MethodName := ⟨RX8, "keep", "(I)I"⟩
abbrev cX8_back : ByteArray := prog_10_method_41_code
def yX8_back : MethodName := ⟨RX8, "back", "(I)I"⟩
abbrev cX8_layAts : ByteArray := prog_10_method_42_code
def yX8_layAts : MethodName := ⟨RX8, "layAts", "(I)V"⟩
abbrev cX8_standingAt : ByteArray := prog_10_method_43_code
def yX8_standingAt : MethodName := ⟨RX8, "standingAt", "(I)I"⟩
abbrev cX8_isTime : ByteArray := prog_10_method_44_code
def yX8_isTime : MethodName := ⟨RX8, "isTime", "(I)Z"⟩
abbrev cX8_isSpan : ByteArray := prog_10_method_45_code
def yX8_isSpan : MethodName := ⟨RX8, "isSpan", "(II)Z"⟩
abbrev cX8_standing : ByteArray := prog_10_method_46_code
def yX8_standing : MethodName := ⟨RX8, "standing", "(I)I"⟩
abbrev cX8_minutesOf : ByteArray := prog_10_method_47_code
def yX8_minutesOf : MethodName := ⟨RX8, "minutesOf", "(III)I"⟩
abbrev cX8_odds : ByteArray := prog_10_method_48_code
def yX8_odds : MethodName := ⟨RX8, "odds", "(IIII)I"⟩
abbrev cX8_surest : ByteArray := prog_10_method_49_code
def yX8_surest : MethodName := ⟨RX8, "surest", "(IIII)I"⟩
abbrev cX8_savePaces : ByteArray := prog_10_method_50_code
def yX8_savePaces : MethodName := ⟨RX8, "savePaces", "()V"⟩
abbrev cX8_restorePaces : ByteArray := prog_10_method_51_code
def yX8_restorePaces : MethodName := ⟨RX8, "restorePaces", "()V"⟩
abbrev cX8_layStands : ByteArray := prog_10_method_52_code
def yX8_layStands : MethodName := ⟨RX8, "layStands", "(III)V"⟩
abbrev cX8_isStill : ByteArray := prog_10_method_53_code
def yX8_isStill : MethodName := ⟨RX8, "isStill", "(I)Z"⟩
abbrev cX8_still : ByteArray := prog_10_method_54_code
def yX8_still : MethodName := ⟨RX8, "still", "(III)I"⟩
abbrev cX8_plot : ByteArray := prog_10_method_55_code
def yX8_plot : MethodName := ⟨RX8, "plot", "(IIII)I"⟩
abbrev cX8_price : ByteArray := prog_10_method_56_code
def yX8_price : MethodName := ⟨RX8, "price", "(I)I"⟩
abbrev cX8_apart : ByteArray := prog_10_method_57_code
def yX8_apart : MethodName := ⟨RX8, "apart", "(III)I"⟩
abbrev cX8_laid : ByteArray := prog_10_method_58_code
def yX8_laid : MethodName := ⟨RX8, "laid", "(IIII)I"⟩
abbrev cX8_leastOf : ByteArray := prog_10_method_59_code
def yX8_leastOf : MethodName := ⟨RX8, "leastOf", "(I)I"⟩
abbrev cX8_left : ByteArray := prog_10_method_60_code
def yX8_left : MethodName := ⟨RX8, "left", "(II)I"⟩
abbrev cX8_seen : ByteArray := prog_10_method_61_code
def yX8_seen : MethodName := ⟨RX8, "seen", "(II)I"⟩
abbrev cX8_forget : ByteArray := prog_10_method_62_code
def yX8_forget : MethodName := ⟨RX8, "forget", "()I"⟩
abbrev cX8_fits : ByteArray := prog_10_method_63_code
def yX8_fits : MethodName := ⟨RX8, "fits", "(I)I"⟩
abbrev cX8_count : ByteArray := prog_10_method_64_code
def yX8_count : MethodName := ⟨RX8, "count", "(I)I"⟩
def RJx145de : String := "java/io/Serializable"
def RJx9f9b0 : String := "java/lang/CharSequence"
def RJxb160c : String := "java/lang/Comparable"
def RJ6 : String := "java/lang/Integer"
abbrev cJ6_bitCount_0f7a4 : ByteArray := prog_11_method_49_code
def yJ6_bitCount_0f7a4 : MethodName := ⟨RJ6, "bitCount", "(I)I"⟩
def RJ9 : String := "java/lang/Math"
abbrev cJ9_floorMod_7cf53 : ByteArray := prog_12_method_50_code
def yJ9_floorMod_7cf53 : MethodName := ⟨RJ9, "floorMod", "(II)I"⟩
abbrev cJ9_max_7cf53 : ByteArray := prog_12_method_65_code
def yJ9_max_7cf53 : MethodName := ⟨RJ9, "max", "(II)I"⟩
abbrev cJ9_min_7cf53 : ByteArray := prog_12_method_69_code
def yJ9_min_7cf53 : MethodName := ⟨RJ9, "min", "(II)I"⟩
def RJ0 : String := "java/lang/String"
abbrev cJ0_length_8abf5 : ByteArray := prog_13_method_54_code
def yJ0_length_8abf5 : MethodName := ⟨RJ0, "length", "()I"⟩
abbrev cJ0_charAt_5068e : ByteArray := prog_13_method_56_code
def yJ0_charAt_5068e : MethodName := ⟨RJ0, "charAt", "(I)C"⟩
abbrev cJ0_coder_7d493 : ByteArray := prog_13_method_152_code
def yJ0_coder_7d493 : MethodName := ⟨RJ0, "coder", "()B"⟩
abbrev cJ0_isLatin1_aae02 : ByteArray := prog_13_method_154_code
def yJ0_isLatin1_aae02 : MethodName := ⟨RJ0, "isLatin1", "()Z"⟩
abbrev cJ0_checkIndex_df160 : ByteArray := prog_13_method_155_code
def yJ0_checkIndex_df160 : MethodName := ⟨RJ0, "checkIndex", "(II)V"⟩
def RJ1 : String := "java/lang/StringLatin1"
abbrev cJ1_charAt_3b067 : ByteArray := prog_14_method_2_code
def yJ1_charAt_3b067 : MethodName := ⟨RJ1, "charAt", "([BI)C"⟩
def RJ2 : String := "java/lang/StringUTF16"
abbrev cJ2_getChar_3b067 : ByteArray := prog_15_method_5_code
def yJ2_getChar_3b067 : MethodName := ⟨RJ2, "getChar", "([BI)C"⟩
abbrev cJ2_length_9d52b : ByteArray := prog_15_method_6_code
def yJ2_length_9d52b : MethodName := ⟨RJ2, "length", "([B)I"⟩
abbrev cJ2_charAt_3b067 : ByteArray := prog_15_method_83_code
def yJ2_charAt_3b067 : MethodName := ⟨RJ2, "charAt", "([BI)C"⟩
abbrev cJ2_checkIndex_2214a : ByteArray := prog_15_method_91_code
def yJ2_checkIndex_2214a : MethodName := ⟨RJ2, "checkIndex", "(I[B)V"⟩
def RJ10 : String := "java/lang/System"
def RJxfd54e : String := "java/lang/constant/Constable"
def RJx3cf43 : String := "java/lang/constant/ConstantDesc"
def RJ7 : String := "java/util/Arrays"
abbrev cJ7_fill_53178 : ByteArray := prog_17_method_103_code
def yJ7_fill_53178 : MethodName := ⟨RJ7, "fill", "([II)V"⟩
def RJ3 : String := "jdk/internal/util/Preconditions"
abbrev cJ3_checkIndex_8e157 : ByteArray := prog_18_method_11_code
def yJ3_checkIndex_8e157 : MethodName := ⟨RJ3, "checkIndex", "(IILjava/util/function/BiFunction;)I"⟩
def RL : String := "OneTooFewLaw"
abbrev cL_law : ByteArray := code
def yL_law : MethodName := ⟨RL, "law", "([I)Z"⟩
abbrev CL : List vw_C := [(RX0, TX0, 8), (RX1, TX1, 7), (RX2, TX2, 7), (RX3, TX3, 6), (RX4, TX4, 3), (RX5, TX5, 8), (RX6, TX6, 8), (RX7, TX7, 9), (RX8, TX8, 31)]
def TB : List Cond := lw_tbl.filter goodWord
theorem TB_good : GoodIn TB TB := fun w h => ⟨h, good_of_word (List.mem_filter.mp h).2⟩
theorem TB_at {w : Cond} (i : Nat) (h : lw_tbl[i]? = some w) (hg : goodWord w = true) : w ∈ TB := List.mem_filter.mpr ⟨List.mem_of_getElem? h, hg⟩
theorem TB_sub {args : Array Value} {s : State} (h : ∀ w ∈ lw_tbl, w.before args s = true) : ∀ w ∈ TB, w.before args s = true := fun w hw => h w (List.mem_filter.mp hw).1
end
section
/-! method descriptors, cells, words by their places: written by a program out of the printed claim -/
abbrev MD : Type := MethodName × ByteArray × Nat × Option FieldType × Room
def mX7_init : MD := (yX7_init, cX7_init, 1, none, { frames := 3, cells := 43, slots := 863, locals := 120 })
def mX6_init : MD := (yX6_init, cX6_init, 1, none, { frames := 1, cells := 5, slots := 30, locals := 40 })
def mX5_init : MD := (yX5_init, cX5_init, 1, none, { frames := 2, cells := 8, slots := 242, locals := 80 })
def mX3_init : MD := (yX3_init, cX3_init, 2, none, { frames := 1, cells := 3, slots := 24, locals := 40 })
def mX2_init : MD := (yX2_init, cX2_init, 3, none, { frames := 1, cells := 3, slots := 18, locals := 40 })
def mX1_init : MD := (yX1_init, cX1_init, 3, none, { frames := 1, cells := 1, slots := 384, locals := 40 })
def mX0_init : MD := (yX0_init, cX0_init, 1, none, { frames := 1, cells := 4, slots := 30, locals := 40 })
def mJ7_fill_53178 : MD := (yJ7_fill_53178, cJ7_fill_53178, 4, none, { frames := 0, cells := 0, slots := 0, locals := 0 })
def mX4_init : MD := (yX4_init, cX4_init, 1, none, { frames := 1, cells := 2, slots := 12, locals := 40 })
def mX7_write : MD := (yX7_write, cX7_write, 5, (some .int), { frames := 1, cells := 0, slots := 0, locals := 40 })
def mX5_append : MD := (yX5_append, cX5_append, 2, none, { frames := 0, cells := 0, slots := 0, locals := 0 })
def mX7_erase : MD := (yX7_erase, cX7_erase, 2, (some .int), { frames := 0, cells := 0, slots := 0, locals := 0 })
def mX7_fault : MD := (yX7_fault, cX7_fault, 1, (some .int), { frames := 9, cells := 0, slots := 0, locals := 360 })
def mX5_read : MD := (yX5_read, cX5_read, 2, (some .int), { frames := 8, cells := 0, slots := 0, locals := 320 })
def mX6_copyFrom : MD := (yX6_copyFrom, cX6_copyFrom, 2, none, { frames := 1, cells := 0, slots := 0, locals := 40 })
def mX5_doLine : MD := (yX5_doLine, cX5_doLine, 2, (some .boolean), { frames := 7, cells := 0, slots := 0, locals := 280 })
def mX5_nextToken : MD := (yX5_nextToken, cX5_nextToken, 1, none, { frames := 1, cells := 0, slots := 0, locals := 40 })
def mX5_isLetter : MD := (yX5_isLetter, cX5_isLetter, 1, (some .boolean), { frames := 0, cells := 0, slots := 0, locals := 0 })
def mX5_isDigit : MD := (yX5_isDigit, cX5_isDigit, 1, (some .boolean), { frames := 0, cells := 0, slots := 0, locals := 0 })
def mX5_isWord : MD := (yX5_isWord, cX5_isWord, 3, (some .boolean), { frames := 5, cells := 0, slots := 0, locals := 200 })
def mJ0_length_8abf5 : MD := (yJ0_length_8abf5, cJ0_length_8abf5, 1, (some .int), { frames := 1, cells := 0, slots := 0, locals := 40 })
def mJ0_coder_7d493 : MD := (yJ0_coder_7d493, cJ0_coder_7d493, 1, (some .byte), { frames := 0, cells := 0, slots := 0, locals := 0 })
def mJ0_charAt_5068e : MD := (yJ0_charAt_5068e, cJ0_charAt_5068e, 2, (some .char), { frames := 4, cells := 0, slots := 0, locals := 160 })
def mJ0_isLatin1_aae02 : MD := (yJ0_isLatin1_aae02, cJ0_isLatin1_aae02, 1, (some .boolean), { frames := 0, cells := 0, slots := 0, locals := 0 })
def mJ1_charAt_3b067 : MD := (yJ1_charAt_3b067, cJ1_charAt_3b067, 2, (some .char), { frames := 2, cells := 0, slots := 0, locals := 80 })
def mJ0_checkIndex_df160 : MD := (yJ0_checkIndex_df160, cJ0_checkIndex_df160, 2, none, { frames := 1, cells := 0, slots := 0, locals := 40 })
def mJ3_checkIndex_8e157 : MD := (yJ3_checkIndex_8e157, cJ3_checkIndex_8e157, 3, (some .int), { frames := 0, cells := 0, slots := 0, locals := 0 })
def mJ2_charAt_3b067 : MD := (yJ2_charAt_3b067, cJ2_charAt_3b067, 2, (some .char), { frames := 3, cells := 0, slots := 0, locals := 120 })
def mJ2_checkIndex_2214a : MD := (yJ2_checkIndex_2214a, cJ2_checkIndex_2214a, 2, none, { frames := 2, cells := 0, slots := 0, locals := 80 })
def mJ2_length_9d52b : MD := (yJ2_length_9d52b, cJ2_length_9d52b, 1, (some .int), { frames := 0, cells := 0, slots := 0, locals := 0 })
def mJ2_getChar_3b067 : MD := (yJ2_getChar_3b067, cJ2_getChar_3b067, 2, (some .char), { frames := 1, cells := 0, slots := 0, locals := 40 })
def mX5_doInn : MD := (yX5_doInn, cX5_doInn, 1, (some .boolean), { frames := 3, cells := 0, slots := 0, locals := 120 })
def mX5_readNumber : MD := (yX5_readNumber, cX5_readNumber, 4, (some .boolean), { frames := 2, cells := 0, slots := 0, locals := 80 })
def mX6_beginInn : MD := (yX6_beginInn, cX6_beginInn, 2, none, { frames := 0, cells := 0, slots := 0, locals := 0 })
def mX5_doChair : MD := (yX5_doChair, cX5_doChair, 2, (some .boolean), { frames := 3, cells := 0, slots := 0, locals := 120 })
def mX6_hasChair : MD := (yX6_hasChair, cX6_hasChair, 2, (some .boolean), { frames := 1, cells := 0, slots := 0, locals := 40 })
def mX6_hasPlace : MD := (yX6_hasPlace, cX6_hasPlace, 2, (some .boolean), { frames := 0, cells := 0, slots := 0, locals := 0 })
def mX7_holds : MD := (yX7_holds, cX7_holds, 2, (some .boolean), { frames := 0, cells := 0, slots := 0, locals := 0 })
def mX5_kindOfWord : MD := (yX5_kindOfWord, cX5_kindOfWord, 1, (some .int), { frames := 6, cells := 0, slots := 0, locals := 240 })
def mX5_doGuest : MD := (yX5_doGuest, cX5_doGuest, 3, (some .boolean), { frames := 3, cells := 0, slots := 0, locals := 120 })
def mX5_mostOf : MD := (yX5_mostOf, cX5_mostOf, 2, (some .int), { frames := 0, cells := 0, slots := 0, locals := 0 })
def mX6_addGuest : MD := (yX6_addGuest, cX6_addGuest, 3, (some .boolean), { frames := 0, cells := 0, slots := 0, locals := 0 })
def mX7_inn : MD := (yX7_inn, cX7_inn, 1, (some .int), { frames := 9, cells := 0, slots := 0, locals := 360 })
def mX0_begin : MD := (yX0_begin, cX0_begin, 2, none, { frames := 2, cells := 0, slots := 0, locals := 80 })
def mX0_getUp : MD := (yX0_getUp, cX0_getUp, 1, none, { frames := 1, cells := 0, slots := 0, locals := 40 })
def mX7_place : MD := (yX7_place, cX7_place, 3, (some .int), { frames := 2, cells := 0, slots := 0, locals := 80 })
def mX0_whoIsAt : MD := (yX0_whoIsAt, cX0_whoIsAt, 5, (some .int), { frames := 0, cells := 0, slots := 0, locals := 0 })
def mX7_guest : MD := (yX7_guest, cX7_guest, 3, (some .int), { frames := 1, cells := 0, slots := 0, locals := 40 })
def mX6_hasGuest : MD := (yX6_hasGuest, cX6_hasGuest, 2, (some .boolean), { frames := 0, cells := 0, slots := 0, locals := 0 })
def mX7_as : MD := (yX7_as, cX7_as, 4, (some .int), { frames := 3, cells := 0, slots := 0, locals := 120 })
def mX6_isA : MD := (yX6_isA, cX6_isA, 3, (some .boolean), { frames := 0, cells := 0, slots := 0, locals := 0 })
def mX6_nearestChair : MD := (yX6_nearestChair, cX6_nearestChair, 3, (some .int), { frames := 2, cells := 0, slots := 0, locals := 80 })
def mX6_farthest : MD := (yX6_farthest, cX6_farthest, 1, (some .int), { frames := 0, cells := 0, slots := 0, locals := 0 })
def mX6_leastAt : MD := (yX6_leastAt, cX6_leastAt, 8, (some .int), { frames := 1, cells := 0, slots := 0, locals := 40 })
def mX6_ease : MD := (yX6_ease, cX6_ease, 2, (some .int), { frames := 0, cells := 0, slots := 0, locals := 0 })
def mX7_walk : MD := (yX7_walk, cX7_walk, 2, (some .int), { frames := 3, cells := 0, slots := 0, locals := 120 })
def mX0_goOn : MD := (yX0_goOn, cX0_goOn, 4, none, { frames := 2, cells := 0, slots := 0, locals := 80 })
def mX6_placeAfter : MD := (yX6_placeAfter, cX6_placeAfter, 5, (some .int), { frames := 1, cells := 0, slots := 0, locals := 40 })
def mJ9_floorMod_7cf53 : MD := (yJ9_floorMod_7cf53, cJ9_floorMod_7cf53, 3, (some .int), { frames := 0, cells := 0, slots := 0, locals := 0 })
def mX7_stop : MD := (yX7_stop, cX7_stop, 2, (some .int), { frames := 5, cells := 0, slots := 0, locals := 200 })
def mX6_everyone : MD := (yX6_everyone, cX6_everyone, 1, (some .int), { frames := 0, cells := 0, slots := 0, locals := 0 })
def mX3_settle : MD := (yX3_settle, cX3_settle, 3, (some .int), { frames := 4, cells := 0, slots := 0, locals := 160 })
def mX6_allOfKind : MD := (yX6_allOfKind, cX6_allOfKind, 4, (some .int), { frames := 0, cells := 0, slots := 0, locals := 0 })
def mX3_seatAll : MD := (yX3_seatAll, cX3_seatAll, 6, (some .int), { frames := 3, cells := 0, slots := 0, locals := 120 })
def mX3_seatOne : MD := (yX3_seatOne, cX3_seatOne, 5, none, { frames := 2, cells := 0, slots := 0, locals := 80 })
def mX3_take : MD := (yX3_take, cX3_take, 3, none, { frames := 0, cells := 0, slots := 0, locals := 0 })
def mX3_settleFaint : MD := (yX3_settleFaint, cX3_settleFaint, 2, none, { frames := 4, cells := 0, slots := 0, locals := 160 })
def mX0_end : MD := (yX0_end, cX0_end, 7, none, { frames := 1, cells := 0, slots := 0, locals := 40 })
def mJ6_bitCount_0f7a4 : MD := (yJ6_bitCount_0f7a4, cJ6_bitCount_0f7a4, 1, (some .int), { frames := 0, cells := 0, slots := 0, locals := 0 })
def mX6_allWorth : MD := (yX6_allWorth, cX6_allWorth, 3, (some .int), { frames := 0, cells := 0, slots := 0, locals := 0 })
def mX7_play : MD := (yX7_play, cX7_play, 1, (some .int), { frames := 2, cells := 0, slots := 0, locals := 80 })
def mX7_keep : MD := (yX7_keep, cX7_keep, 3, (some .int), { frames := 2, cells := 0, slots := 0, locals := 80 })
def mX7_isEither : MD := (yX7_isEither, cX7_isEither, 1, (some .boolean), { frames := 0, cells := 0, slots := 0, locals := 0 })
def mX0_copyFrom : MD := (yX0_copyFrom, cX0_copyFrom, 2, none, { frames := 1, cells := 0, slots := 0, locals := 40 })
def mX7_back : MD := (yX7_back, cX7_back, 3, (some .int), { frames := 2, cells := 0, slots := 0, locals := 80 })
def mX7_standing : MD := (yX7_standing, cX7_standing, 2, (some .int), { frames := 6, cells := 0, slots := 0, locals := 240 })
def mX7_isMinute : MD := (yX7_isMinute, cX7_isMinute, 1, (some .boolean), { frames := 0, cells := 0, slots := 0, locals := 0 })
def mX2_asTold : MD := (yX2_asTold, cX2_asTold, 1, none, { frames := 1, cells := 0, slots := 0, locals := 40 })
def mX2_stoodAt : MD := (yX2_stoodAt, cX2_stoodAt, 2, (some .int), { frames := 5, cells := 0, slots := 0, locals := 200 })
def mX2_goTo : MD := (yX2_goTo, cX2_goTo, 3, none, { frames := 2, cells := 0, slots := 0, locals := 80 })
def mX7_odds : MD := (yX7_odds, cX7_odds, 8, (some .int), { frames := 6, cells := 0, slots := 0, locals := 240 })
def mX7_areMinutes : MD := (yX7_areMinutes, cX7_areMinutes, 2, (some .boolean), { frames := 1, cells := 0, slots := 0, locals := 40 })
def mX2_tally : MD := (yX2_tally, cX2_tally, 5, none, { frames := 5, cells := 0, slots := 0, locals := 200 })
def mX2_minutesLike : MD := (yX2_minutesLike, cX2_minutesLike, 4, (some .int), { frames := 1, cells := 0, slots := 0, locals := 40 })
def mX2_minutesLikeTo : MD := (yX2_minutesLikeTo, cX2_minutesLikeTo, 3, (some .int), { frames := 0, cells := 0, slots := 0, locals := 0 })
def mX2_addTimes : MD := (yX2_addTimes, cX2_addTimes, 4, none, { frames := 1, cells := 0, slots := 0, locals := 40 })
def mX7_commonDivisor : MD := (yX7_commonDivisor, cX7_commonDivisor, 6, (some .int), { frames := 0, cells := 0, slots := 0, locals := 0 })
def mX7_surest : MD := (yX7_surest, cX7_surest, 5, (some .int), { frames := 7, cells := 0, slots := 0, locals := 280 })
def mX1_findSurest : MD := (yX1_findSurest, cX1_findSurest, 6, none, { frames := 6, cells := 0, slots := 0, locals := 240 })
def mX7_still : MD := (yX7_still, cX7_still, 4, (some .int), { frames := 7, cells := 0, slots := 0, locals := 280 })
def mX1_findStill : MD := (yX1_findStill, cX1_findStill, 5, none, { frames := 6, cells := 0, slots := 0, locals := 240 })
def mX1_nobodyWouldChange : MD := (yX1_nobodyWouldChange, cX1_nobodyWouldChange, 4, (some .boolean), { frames := 0, cells := 0, slots := 0, locals := 0 })
def mX7_plot : MD := (yX7_plot, cX7_plot, 5, (some .int), { frames := 7, cells := 0, slots := 0, locals := 280 })
def mX6_hasAll : MD := (yX6_hasAll, cX6_hasAll, 2, (some .boolean), { frames := 1, cells := 0, slots := 0, locals := 40 })
def mX1_findPlot : MD := (yX1_findPlot, cX1_findPlot, 6, none, { frames := 6, cells := 0, slots := 0, locals := 240 })
def mX1_keepStill : MD := (yX1_keepStill, cX1_keepStill, 3, none, { frames := 2, cells := 0, slots := 0, locals := 80 })
def mX7_price : MD := (yX7_price, cX7_price, 3, (some .int), { frames := 6, cells := 0, slots := 0, locals := 240 })
def mX6_greatestWorth : MD := (yX6_greatestWorth, cX6_greatestWorth, 4, (some .int), { frames := 1, cells := 0, slots := 0, locals := 40 })
def mJ9_max_7cf53 : MD := (yJ9_max_7cf53, cJ9_max_7cf53, 2, (some .int), { frames := 0, cells := 0, slots := 0, locals := 0 })
def mX7_laid : MD := (yX7_laid, cX7_laid, 5, (some .int), { frames := 7, cells := 0, slots := 0, locals := 280 })
def mX1_findLaid : MD := (yX1_findLaid, cX1_findLaid, 6, none, { frames := 6, cells := 0, slots := 0, locals := 240 })
def mX2_spread : MD := (yX2_spread, cX2_spread, 4, (some .int), { frames := 1, cells := 0, slots := 0, locals := 40 })
def mJ9_min_7cf53 : MD := (yJ9_min_7cf53, cJ9_min_7cf53, 2, (some .int), { frames := 0, cells := 0, slots := 0, locals := 0 })
def mX7_left : MD := (yX7_left, cX7_left, 4, (some .int), { frames := 7, cells := 0, slots := 0, locals := 280 })
def mX2_playRounds : MD := (yX2_playRounds, cX2_playRounds, 4, (some .int), { frames := 6, cells := 0, slots := 0, locals := 240 })
def mX7_seen : MD := (yX7_seen, cX7_seen, 3, (some .int), { frames := 1, cells := 0, slots := 0, locals := 40 })
def mX4_add : MD := (yX4_add, cX4_add, 3, none, { frames := 0, cells := 0, slots := 0, locals := 0 })
def mX7_forget : MD := (yX7_forget, cX7_forget, 2, (some .int), { frames := 0, cells := 0, slots := 0, locals := 0 })
def mX7_fits : MD := (yX7_fits, cX7_fits, 2, (some .int), { frames := 7, cells := 0, slots := 0, locals := 280 })
def mX1_findFits : MD := (yX1_findFits, cX1_findFits, 3, none, { frames := 6, cells := 0, slots := 0, locals := 240 })
def mX4_fit : MD := (yX4_fit, cX4_fit, 3, (some .boolean), { frames := 0, cells := 0, slots := 0, locals := 0 })
def mX7_count : MD := (yX7_count, cX7_count, 2, (some .int), { frames := 0, cells := 0, slots := 0, locals := 0 })
def mX8_init : MD := (yX8_init, cX8_init, 1, none, { frames := 2, cells := 16, slots := 799, locals := 80 })
def mX8_begin : MD := (yX8_begin, cX8_begin, 2, none, { frames := 1, cells := 0, slots := 0, locals := 40 })
def mX8_in : MD := (yX8_in, cX8_in, 6, (some .boolean), { frames := 0, cells := 0, slots := 0, locals := 0 })
def mX8_write : MD := (yX8_write, cX8_write, 5, (some .int), { frames := 1, cells := 0, slots := 0, locals := 40 })
def mX8_erase : MD := (yX8_erase, cX8_erase, 2, (some .int), { frames := 0, cells := 0, slots := 0, locals := 0 })
def mX8_fault : MD := (yX8_fault, cX8_fault, 2, (some .int), { frames := 6, cells := 0, slots := 0, locals := 240 })
def mX8_token : MD := (yX8_token, cX8_token, 1, none, { frames := 1, cells := 0, slots := 0, locals := 40 })
def mX8_sort : MD := (yX8_sort, cX8_sort, 1, (some .int), { frames := 0, cells := 0, slots := 0, locals := 0 })
def mX8_readsLine : MD := (yX8_readsLine, cX8_readsLine, 3, (some .boolean), { frames := 5, cells := 0, slots := 0, locals := 200 })
def mX8_wordOf : MD := (yX8_wordOf, cX8_wordOf, 2, (some .int), { frames := 2, cells := 0, slots := 0, locals := 80 })
def mX8_guestWord : MD := (yX8_guestWord, cX8_guestWord, 1, (some .int), { frames := 1, cells := 0, slots := 0, locals := 40 })
def mX8_isWord : MD := (yX8_isWord, cX8_isWord, 5, (some .boolean), { frames := 0, cells := 0, slots := 0, locals := 0 })
def mX8_isGuestWord : MD := (yX8_isGuestWord, cX8_isGuestWord, 1, (some .boolean), { frames := 1, cells := 0, slots := 0, locals := 40 })
def mX8_readsRest : MD := (yX8_readsRest, cX8_readsRest, 4, (some .boolean), { frames := 4, cells := 0, slots := 0, locals := 160 })
def mX8_numberHere : MD := (yX8_numberHere, cX8_numberHere, 3, (some .int), { frames := 1, cells := 0, slots := 0, locals := 40 })
def mX8_reads : MD := (yX8_reads, cX8_reads, 5, (some .boolean), { frames := 2, cells := 0, slots := 0, locals := 80 })
def mX8_has : MD := (yX8_has, cX8_has, 2, (some .boolean), { frames := 0, cells := 0, slots := 0, locals := 0 })
def mX8_readsGuest : MD := (yX8_readsGuest, cX8_readsGuest, 1, (some .boolean), { frames := 3, cells := 0, slots := 0, locals := 120 })
def mX8_inn : MD := (yX8_inn, cX8_inn, 2, (some .int), { frames := 7, cells := 0, slots := 0, locals := 280 })
def mX8_tell : MD := (yX8_tell, cX8_tell, 3, none, { frames := 0, cells := 0, slots := 0, locals := 0 })
def mX8_place : MD := (yX8_place, cX8_place, 6, (some .int), { frames := 2, cells := 0, slots := 0, locals := 80 })
def mX8_isPlace : MD := (yX8_isPlace, cX8_isPlace, 2, (some .boolean), { frames := 1, cells := 0, slots := 0, locals := 40 })
def mX8_guest : MD := (yX8_guest, cX8_guest, 3, (some .int), { frames := 2, cells := 0, slots := 0, locals := 80 })
def mX8_isGuest : MD := (yX8_isGuest, cX8_isGuest, 2, (some .boolean), { frames := 1, cells := 0, slots := 0, locals := 40 })
def mX8_as : MD := (yX8_as, cX8_as, 8, (some .int), { frames := 2, cells := 0, slots := 0, locals := 80 })
def mX8_effort : MD := (yX8_effort, cX8_effort, 4, (some .int), { frames := 1, cells := 0, slots := 0, locals := 40 })
def mX8_far : MD := (yX8_far, cX8_far, 4, (some .int), { frames := 0, cells := 0, slots := 0, locals := 0 })
def mX8_walk : MD := (yX8_walk, cX8_walk, 3, (some .int), { frames := 1, cells := 0, slots := 0, locals := 40 })
def mX8_walked : MD := (yX8_walked, cX8_walked, 6, (some .int), { frames := 0, cells := 0, slots := 0, locals := 0 })
def mX8_stop : MD := (yX8_stop, cX8_stop, 4, (some .int), { frames := 5, cells := 0, slots := 0, locals := 200 })
def mX8_everybody : MD := (yX8_everybody, cX8_everybody, 1, (some .int), { frames := 0, cells := 0, slots := 0, locals := 0 })
def mX8_stops : MD := (yX8_stops, cX8_stops, 5, (some .int), { frames := 4, cells := 0, slots := 0, locals := 160 })
def mX8_faint : MD := (yX8_faint, cX8_faint, 3, (some .int), { frames := 0, cells := 0, slots := 0, locals := 0 })
def mX8_seat : MD := (yX8_seat, cX8_seat, 2, none, { frames := 3, cells := 0, slots := 0, locals := 120 })
def mX8_findsTwo : MD := (yX8_findsTwo, cX8_findsTwo, 7, (some .boolean), { frames := 2, cells := 0, slots := 0, locals := 80 })
def mX8_takeSecond : MD := (yX8_takeSecond, cX8_takeSecond, 6, none, { frames := 1, cells := 0, slots := 0, locals := 40 })
def mX8_bits : MD := (yX8_bits, cX8_bits, 3, (some .int), { frames := 0, cells := 0, slots := 0, locals := 0 })
def mX8_play : MD := (yX8_play, cX8_play, 2, (some .int), { frames := 0, cells := 0, slots := 0, locals := 0 })
def mX8_keep : MD := (yX8_keep, cX8_keep, 2, (some .int), { frames := 1, cells := 0, slots := 0, locals := 40 })
def mX8_copy : MD := (yX8_copy, cX8_copy, 4, none, { frames := 0, cells := 0, slots := 0, locals := 0 })
def mX8_back : MD := (yX8_back, cX8_back, 2, (some .int), { frames := 1, cells := 0, slots := 0, locals := 40 })
def mX8_standing : MD := (yX8_standing, cX8_standing, 2, (some .int), { frames := 6, cells := 0, slots := 0, locals := 240 })
def mX8_isTime : MD := (yX8_isTime, cX8_isTime, 1, (some .boolean), { frames := 1, cells := 0, slots := 0, locals := 40 })
def mX8_standingAt : MD := (yX8_standingAt, cX8_standingAt, 2, (some .int), { frames := 5, cells := 0, slots := 0, locals := 200 })
def mX8_layAts : MD := (yX8_layAts, cX8_layAts, 3, none, { frames := 1, cells := 0, slots := 0, locals := 40 })
def mX8_odds : MD := (yX8_odds, cX8_odds, 10, (some .int), { frames := 7, cells := 0, slots := 0, locals := 280 })
def mX8_isSpan : MD := (yX8_isSpan, cX8_isSpan, 2, (some .boolean), { frames := 2, cells := 0, slots := 0, locals := 80 })
def mX8_minutesOf : MD := (yX8_minutesOf, cX8_minutesOf, 6, (some .int), { frames := 6, cells := 0, slots := 0, locals := 240 })
def mX8_surest : MD := (yX8_surest, cX8_surest, 11, (some .int), { frames := 7, cells := 0, slots := 0, locals := 280 })
def mX8_still : MD := (yX8_still, cX8_still, 7, (some .int), { frames := 7, cells := 0, slots := 0, locals := 280 })
def mX8_savePaces : MD := (yX8_savePaces, cX8_savePaces, 2, none, { frames := 0, cells := 0, slots := 0, locals := 0 })
def mX8_layStands : MD := (yX8_layStands, cX8_layStands, 7, none, { frames := 6, cells := 0, slots := 0, locals := 240 })
def mX8_restorePaces : MD := (yX8_restorePaces, cX8_restorePaces, 2, none, { frames := 0, cells := 0, slots := 0, locals := 0 })
def mX8_isStill : MD := (yX8_isStill, cX8_isStill, 4, (some .boolean), { frames := 0, cells := 0, slots := 0, locals := 0 })
def mX8_plot : MD := (yX8_plot, cX8_plot, 8, (some .int), { frames := 6, cells := 0, slots := 0, locals := 240 })
def mX8_price : MD := (yX8_price, cX8_price, 6, (some .int), { frames := 6, cells := 0, slots := 0, locals := 240 })
def mX8_laid : MD := (yX8_laid, cX8_laid, 9, (some .int), { frames := 6, cells := 0, slots := 0, locals := 240 })
def mX8_apart : MD := (yX8_apart, cX8_apart, 7, (some .int), { frames := 5, cells := 0, slots := 0, locals := 200 })
def mX8_left : MD := (yX8_left, cX8_left, 8, (some .int), { frames := 5, cells := 0, slots := 0, locals := 200 })
def mX8_leastOf : MD := (yX8_leastOf, cX8_leastOf, 1, (some .int), { frames := 0, cells := 0, slots := 0, locals := 0 })
def mX8_seen : MD := (yX8_seen, cX8_seen, 3, (some .int), { frames := 2, cells := 0, slots := 0, locals := 80 })
def mX8_forget : MD := (yX8_forget, cX8_forget, 2, (some .int), { frames := 0, cells := 0, slots := 0, locals := 0 })
def mX8_fits : MD := (yX8_fits, cX8_fits, 8, (some .int), { frames := 6, cells := 0, slots := 0, locals := 240 })
def mX8_count : MD := (yX8_count, cX8_count, 2, (some .int), { frames := 0, cells := 0, slots := 0, locals := 0 })
def mL_law : MD := (yL_law, cL_law, 4, (some .boolean), { frames := 12, cells := 61, slots := 1702, locals := 420 })
/-- a cell by its number: (0, n) an int array, (1, n) a boolean array, (2, c) an object of class c of CL -/
def shp : List (Nat × Nat) := [(2, 7), (2, 6), (0, 6), (0, 6), (0, 6), (0, 6), (0, 6), (2, 5), (0, 200), (2, 6), (0, 6), (0, 6), (0, 6), (0, 6), (0, 6), (0, 4), (2, 3), (0, 6), (0, 6), (0, 12), (2, 2), (0, 6), (0, 6), (0, 6), (2, 1), (0, 384), (2, 0), (0, 6), (0, 6), (0, 12), (0, 6), (2, 0), (0, 6), (0, 6), (0, 12), (0, 6), (2, 0), (0, 6), (0, 6), (0, 12), (0, 6), (2, 4), (0, 6), (0, 6), (2, 8), (0, 81), (1, 2), (0, 200), (0, 60), (0, 6), (0, 6), (0, 6), (0, 6), (0, 6), (0, 6), (0, 6), (0, 6), (0, 6), (0, 384), (0, 6), (0, 12)]
def rtab : List (List Bool) := [[false, false, false, false, true, true, true, true], [true, true, true, false, false, false, false], [true, true, true, true, true, false, false], [true, true, true, true, false, false], [false, true, true], [true, false, true, false, false, false, false, true], [false, false, false, true, true, true, true, true], [true, true, true, true, true, true, true, true, true], [true, true, true, false, true, false, false, false, true, true, true, true, true, false, false, false, false, false, false, false, true, true, true, false, false, false, true, true, true, true, false]]
def R0 : List (List (Option Nat)) := [[some 1, some 7, some 16, some 20, some 24, some 26, some 31, some 36, some 41], [none, none, none, some 2, some 3, some 4, some 5, some 6], [], [], [], [], [], [some 8, none, some 9, none, none, none, none, some 15], [], [none, none, none, some 10, some 11, some 12, some 13, some 14], [], [], [], [], [], [], [some 1, some 17, some 18, some 19, none, none], [], [], [], [some 1, some 16, some 21, some 22, some 23, none, none], [], [], [], [some 1, some 20, some 25, none, none, none, none], [], [none, none, none, none, some 27, some 28, some 29, some 30], [], [], [], [], [none, none, none, none, some 32, some 33, some 34, some 35], [], [], [], [], [none, none, none, none, some 37, some 38, some 39, some 40], [], [], [], [], [none, some 42, some 43], [], [], [some 45, some 46, some 47, none, some 48, none, none, none, some 49, some 50, some 51, some 52, some 53, none, none, none, none, none, none, none, some 54, some 55, some 56, none, none, none, some 57, some 58, some 59, some 60, none], [], [], [], [], [], [], [], [], [], [], [], [], [], [], [], []]
def q_F (own : String) (idx ci j : Nat) : Prop := ∃ C T N, CL[ci]? = some (C, T, N) ∧ j < N ∧ Cond.fieldLink own idx (T j).1 (T j).2.1 (T j).2.2.1 ∈ TB
def q_D (y : MethodName) (n : Nat) : Prop := y.cls ≠ "java/lang/invoke/MethodHandle" ∧ y.cls ≠ "java/lang/invoke/VarHandle" ∧ (parseMethodDescriptor y.desc).map (fun d => d.parameters.length) = some n
def q_C (md : MD) : Prop := Cond.initialized md.1.cls ∈ TB ∧ Cond.code md.1 md.2.1 md.2.2.1 md.2.2.2.1 ∈ TB
def q_V (own : String) (idx : Nat) (md : MD) (n : Nat) : Prop := Cond.methodLink own idx md.1 ∈ TB ∧ (Cond.instanceMethod md.1 ∈ TB ∧ Cond.selects md.1.cls md.1 md.1 ∈ TB) ∧ q_C md ∧ q_D md.1 n
def q_S (own : String) (idx : Nat) (md : MD) (n : Nat) : Prop := Cond.methodLink own idx md.1 ∈ TB ∧ Cond.static md.1 ∈ TB ∧ q_C md ∧ q_D md.1 n
def q_SN (own : String) (idx : Nat) (md : MD) (n : Nat) : Prop := (∃ host, Cond.methodLinkNest own idx md.1 host ∈ lw_tbl) ∧ Cond.static md.1 ∈ TB ∧ q_C md ∧ q_D md.1 n
def q_I (own : String) (idx : Nat) (md : MD) (n : Nat) : Prop := Cond.methodLink own idx md.1 ∈ TB ∧ (Cond.instanceMethod md.1 ∈ TB ∧ md.1.name = "<init>") ∧ q_C md ∧ q_D md.1 n
def q_IN (own : String) (idx : Nat) (md : MD) (n : Nat) : Prop := (∃ host, Cond.methodLinkNest own idx md.1 host ∈ lw_tbl) ∧ (Cond.instanceMethod md.1 ∈ TB ∧ md.1.name = "<init>") ∧ q_C md ∧ q_D md.1 n
set_option maxRecDepth 20000 in
theorem lc_mX7_init : q_C mX7_init := ⟨TB_at 49 (by decide +kernel) (by decide), TB_at 70 (by rfl) (by decide)⟩
set_option maxRecDepth 20000 in
theorem lc_mX6_init : q_C mX6_init := ⟨TB_at 50 (by decide +kernel) (by decide), TB_at 78 (by rfl) (by decide)⟩
set_option maxRecDepth 20000 in
theorem lc_mX5_init : q_C mX5_init := ⟨TB_at 51 (by decide +kernel) (by decide), TB_at 134 (by rfl) (by decide)⟩
set_option maxRecDepth 20000 in
theorem lc_mX3_init : q_C mX3_init := ⟨TB_at 52 (by decide +kernel) (by decide), TB_at 170 (by rfl) (by decide)⟩
set_option maxRecDepth 20000 in
theorem lc_mX2_init : q_C mX2_init := ⟨TB_at 53 (by decide +kernel) (by decide), TB_at 200 (by rfl) (by decide)⟩
set_option maxRecDepth 20000 in
theorem lc_mX1_init : q_C mX1_init := ⟨TB_at 54 (by decide +kernel) (by decide), TB_at 234 (by rfl) (by decide)⟩
set_option maxRecDepth 20000 in
theorem lc_mX0_init : q_C mX0_init := ⟨TB_at 55 (by decide +kernel) (by decide), TB_at 266 (by rfl) (by decide)⟩
set_option maxRecDepth 20000 in
theorem lc_mJ7_fill_53178 : q_C mJ7_fill_53178 := ⟨TB_at 56 (by decide +kernel) (by decide), TB_at 270 (by rfl) (by decide)⟩
set_option maxRecDepth 20000 in
theorem lc_mX4_init : q_C mX4_init := ⟨TB_at 57 (by decide +kernel) (by decide), TB_at 307 (by rfl) (by decide)⟩
set_option maxRecDepth 20000 in
theorem lc_mX7_write : q_C mX7_write := ⟨TB_at 49 (by decide +kernel) (by decide), TB_at 351 (by rfl) (by decide)⟩
set_option maxRecDepth 20000 in
theorem lc_mX5_append : q_C mX5_append := ⟨TB_at 51 (by decide +kernel) (by decide), TB_at 356 (by rfl) (by decide)⟩
set_option maxRecDepth 20000 in
theorem lc_mX7_erase : q_C mX7_erase := ⟨TB_at 49 (by decide +kernel) (by decide), TB_at 360 (by rfl) (by decide)⟩
set_option maxRecDepth 20000 in
theorem lc_mX7_fault : q_C mX7_fault := ⟨TB_at 49 (by decide +kernel) (by decide), TB_at 364 (by rfl) (by decide)⟩
set_option maxRecDepth 20000 in
theorem lc_mX5_read : q_C mX5_read := ⟨TB_at 51 (by decide +kernel) (by decide), TB_at 368 (by rfl) (by decide)⟩
set_option maxRecDepth 20000 in
theorem lc_mX6_copyFrom : q_C mX6_copyFrom := ⟨TB_at 50 (by decide +kernel) (by decide), TB_at 372 (by rfl) (by decide)⟩
set_option maxRecDepth 20000 in
theorem lc_mX5_doLine : q_C mX5_doLine := ⟨TB_at 51 (by decide +kernel) (by decide), TB_at 379 (by rfl) (by decide)⟩
set_option maxRecDepth 20000 in
theorem lc_mX5_nextToken : q_C mX5_nextToken := ⟨TB_at 51 (by decide +kernel) (by decide), TB_at 383 (by rfl) (by decide)⟩
set_option maxRecDepth 20000 in
theorem lc_mX5_isLetter : q_C mX5_isLetter := ⟨TB_at 51 (by decide +kernel) (by decide), TB_at 386 (by rfl) (by decide)⟩
set_option maxRecDepth 20000 in
theorem lc_mX5_isDigit : q_C mX5_isDigit := ⟨TB_at 51 (by decide +kernel) (by decide), TB_at 389 (by rfl) (by decide)⟩
set_option maxRecDepth 20000 in
theorem lc_mX5_isWord : q_C mX5_isWord := ⟨TB_at 51 (by decide +kernel) (by decide), TB_at 394 (by rfl) (by decide)⟩
set_option maxRecDepth 20000 in
theorem lc_mJ0_length_8abf5 : q_C mJ0_length_8abf5 := ⟨TB_at 60 (by decide +kernel) (by decide), TB_at 398 (by rfl) (by decide)⟩
set_option maxRecDepth 20000 in
theorem lc_mJ0_coder_7d493 : q_C mJ0_coder_7d493 := ⟨TB_at 60 (by decide +kernel) (by decide), TB_at 402 (by rfl) (by decide)⟩
set_option maxRecDepth 20000 in
theorem lc_mJ0_charAt_5068e : q_C mJ0_charAt_5068e := ⟨TB_at 60 (by decide +kernel) (by decide), TB_at 408 (by rfl) (by decide)⟩
set_option maxRecDepth 20000 in
theorem lc_mJ0_isLatin1_aae02 : q_C mJ0_isLatin1_aae02 := ⟨TB_at 60 (by decide +kernel) (by decide), TB_at 412 (by rfl) (by decide)⟩
set_option maxRecDepth 20000 in
theorem lc_mJ1_charAt_3b067 : q_C mJ1_charAt_3b067 := ⟨TB_at 61 (by decide +kernel) (by decide), TB_at 415 (by rfl) (by decide)⟩
set_option maxRecDepth 20000 in
theorem lc_mX5_doInn : q_C mX5_doInn := ⟨TB_at 51 (by decide +kernel) (by decide), TB_at 446 (by rfl) (by decide)⟩
set_option maxRecDepth 20000 in
theorem lc_mX5_readNumber : q_C mX5_readNumber := ⟨TB_at 51 (by decide +kernel) (by decide), TB_at 450 (by rfl) (by decide)⟩
set_option maxRecDepth 20000 in
theorem lc_mX6_beginInn : q_C mX6_beginInn := ⟨TB_at 50 (by decide +kernel) (by decide), TB_at 454 (by rfl) (by decide)⟩
set_option maxRecDepth 20000 in
theorem lc_mX5_doChair : q_C mX5_doChair := ⟨TB_at 51 (by decide +kernel) (by decide), TB_at 459 (by rfl) (by decide)⟩
set_option maxRecDepth 20000 in
theorem lc_mX6_hasChair : q_C mX6_hasChair := ⟨TB_at 50 (by decide +kernel) (by decide), TB_at 463 (by rfl) (by decide)⟩
set_option maxRecDepth 20000 in
theorem lc_mX6_hasPlace : q_C mX6_hasPlace := ⟨TB_at 50 (by decide +kernel) (by decide), TB_at 467 (by rfl) (by decide)⟩
set_option maxRecDepth 20000 in
theorem lc_mX7_holds : q_C mX7_holds := ⟨TB_at 49 (by decide +kernel) (by decide), TB_at 470 (by rfl) (by decide)⟩
set_option maxRecDepth 20000 in
theorem lc_mX5_kindOfWord : q_C mX5_kindOfWord := ⟨TB_at 51 (by decide +kernel) (by decide), TB_at 476 (by rfl) (by decide)⟩
set_option maxRecDepth 20000 in
theorem lc_mX5_doGuest : q_C mX5_doGuest := ⟨TB_at 51 (by decide +kernel) (by decide), TB_at 484 (by rfl) (by decide)⟩
set_option maxRecDepth 20000 in
theorem lc_mX5_mostOf : q_C mX5_mostOf := ⟨TB_at 51 (by decide +kernel) (by decide), TB_at 488 (by rfl) (by decide)⟩
set_option maxRecDepth 20000 in
theorem lc_mX6_addGuest : q_C mX6_addGuest := ⟨TB_at 50 (by decide +kernel) (by decide), TB_at 492 (by rfl) (by decide)⟩
set_option maxRecDepth 20000 in
theorem lc_mX7_inn : q_C mX7_inn := ⟨TB_at 49 (by decide +kernel) (by decide), TB_at 497 (by rfl) (by decide)⟩
set_option maxRecDepth 20000 in
theorem lc_mX0_begin : q_C mX0_begin := ⟨TB_at 55 (by decide +kernel) (by decide), TB_at 502 (by rfl) (by decide)⟩
set_option maxRecDepth 20000 in
theorem lc_mX0_getUp : q_C mX0_getUp := ⟨TB_at 55 (by decide +kernel) (by decide), TB_at 507 (by rfl) (by decide)⟩
set_option maxRecDepth 20000 in
theorem lc_mX7_place : q_C mX7_place := ⟨TB_at 49 (by decide +kernel) (by decide), TB_at 511 (by rfl) (by decide)⟩
set_option maxRecDepth 20000 in
theorem lc_mX0_whoIsAt : q_C mX0_whoIsAt := ⟨TB_at 55 (by decide +kernel) (by decide), TB_at 517 (by rfl) (by decide)⟩
set_option maxRecDepth 20000 in
theorem lc_mX7_guest : q_C mX7_guest := ⟨TB_at 49 (by decide +kernel) (by decide), TB_at 521 (by rfl) (by decide)⟩
set_option maxRecDepth 20000 in
theorem lc_mX6_hasGuest : q_C mX6_hasGuest := ⟨TB_at 50 (by decide +kernel) (by decide), TB_at 525 (by rfl) (by decide)⟩
set_option maxRecDepth 20000 in
theorem lc_mX7_as : q_C mX7_as := ⟨TB_at 49 (by decide +kernel) (by decide), TB_at 529 (by rfl) (by decide)⟩
set_option maxRecDepth 20000 in
theorem lc_mX6_isA : q_C mX6_isA := ⟨TB_at 50 (by decide +kernel) (by decide), TB_at 533 (by rfl) (by decide)⟩
set_option maxRecDepth 20000 in
theorem lc_mX6_nearestChair : q_C mX6_nearestChair := ⟨TB_at 50 (by decide +kernel) (by decide), TB_at 537 (by rfl) (by decide)⟩
set_option maxRecDepth 20000 in
theorem lc_mX6_farthest : q_C mX6_farthest := ⟨TB_at 50 (by decide +kernel) (by decide), TB_at 541 (by rfl) (by decide)⟩
set_option maxRecDepth 20000 in
theorem lc_mX6_leastAt : q_C mX6_leastAt := ⟨TB_at 50 (by decide +kernel) (by decide), TB_at 545 (by rfl) (by decide)⟩
set_option maxRecDepth 20000 in
theorem lc_mX6_ease : q_C mX6_ease := ⟨TB_at 50 (by decide +kernel) (by decide), TB_at 549 (by rfl) (by decide)⟩
set_option maxRecDepth 20000 in
theorem lc_mX7_walk : q_C mX7_walk := ⟨TB_at 49 (by decide +kernel) (by decide), TB_at 553 (by rfl) (by decide)⟩
set_option maxRecDepth 20000 in
theorem lc_mX0_goOn : q_C mX0_goOn := ⟨TB_at 55 (by decide +kernel) (by decide), TB_at 557 (by rfl) (by decide)⟩
set_option maxRecDepth 20000 in
theorem lc_mX6_placeAfter : q_C mX6_placeAfter := ⟨TB_at 50 (by decide +kernel) (by decide), TB_at 561 (by rfl) (by decide)⟩
set_option maxRecDepth 20000 in
theorem lc_mJ9_floorMod_7cf53 : q_C mJ9_floorMod_7cf53 := ⟨TB_at 64 (by decide +kernel) (by decide), TB_at 564 (by rfl) (by decide)⟩
set_option maxRecDepth 20000 in
theorem lc_mX7_stop : q_C mX7_stop := ⟨TB_at 49 (by decide +kernel) (by decide), TB_at 568 (by rfl) (by decide)⟩
set_option maxRecDepth 20000 in
theorem lc_mX6_everyone : q_C mX6_everyone := ⟨TB_at 50 (by decide +kernel) (by decide), TB_at 573 (by rfl) (by decide)⟩
set_option maxRecDepth 20000 in
theorem lc_mX3_settle : q_C mX3_settle := ⟨TB_at 52 (by decide +kernel) (by decide), TB_at 577 (by rfl) (by decide)⟩
set_option maxRecDepth 20000 in
theorem lc_mX6_allOfKind : q_C mX6_allOfKind := ⟨TB_at 50 (by decide +kernel) (by decide), TB_at 582 (by rfl) (by decide)⟩
set_option maxRecDepth 20000 in
theorem lc_mX3_seatAll : q_C mX3_seatAll := ⟨TB_at 52 (by decide +kernel) (by decide), TB_at 586 (by rfl) (by decide)⟩
set_option maxRecDepth 20000 in
theorem lc_mX3_seatOne : q_C mX3_seatOne := ⟨TB_at 52 (by decide +kernel) (by decide), TB_at 594 (by rfl) (by decide)⟩
set_option maxRecDepth 20000 in
theorem lc_mX3_take : q_C mX3_take := ⟨TB_at 52 (by decide +kernel) (by decide), TB_at 598 (by rfl) (by decide)⟩
set_option maxRecDepth 20000 in
theorem lc_mX3_settleFaint : q_C mX3_settleFaint := ⟨TB_at 52 (by decide +kernel) (by decide), TB_at 602 (by rfl) (by decide)⟩
set_option maxRecDepth 20000 in
theorem lc_mX0_end : q_C mX0_end := ⟨TB_at 55 (by decide +kernel) (by decide), TB_at 606 (by rfl) (by decide)⟩
set_option maxRecDepth 20000 in
theorem lc_mJ6_bitCount_0f7a4 : q_C mJ6_bitCount_0f7a4 := ⟨TB_at 65 (by decide +kernel) (by decide), TB_at 609 (by rfl) (by decide)⟩
set_option maxRecDepth 20000 in
theorem lc_mX6_allWorth : q_C mX6_allWorth := ⟨TB_at 50 (by decide +kernel) (by decide), TB_at 616 (by rfl) (by decide)⟩
set_option maxRecDepth 20000 in
theorem lc_mX7_play : q_C mX7_play := ⟨TB_at 49 (by decide +kernel) (by decide), TB_at 621 (by rfl) (by decide)⟩
set_option maxRecDepth 20000 in
theorem lc_mX7_keep : q_C mX7_keep := ⟨TB_at 49 (by decide +kernel) (by decide), TB_at 626 (by rfl) (by decide)⟩
set_option maxRecDepth 20000 in
theorem lc_mX7_isEither : q_C mX7_isEither := ⟨TB_at 49 (by decide +kernel) (by decide), TB_at 629 (by rfl) (by decide)⟩
set_option maxRecDepth 20000 in
theorem lc_mX0_copyFrom : q_C mX0_copyFrom := ⟨TB_at 55 (by decide +kernel) (by decide), TB_at 633 (by rfl) (by decide)⟩
set_option maxRecDepth 20000 in
theorem lc_mX7_back : q_C mX7_back := ⟨TB_at 49 (by decide +kernel) (by decide), TB_at 637 (by rfl) (by decide)⟩
set_option maxRecDepth 20000 in
theorem lc_mX7_standing : q_C mX7_standing := ⟨TB_at 49 (by decide +kernel) (by decide), TB_at 641 (by rfl) (by decide)⟩
set_option maxRecDepth 20000 in
theorem lc_mX7_isMinute : q_C mX7_isMinute := ⟨TB_at 49 (by decide +kernel) (by decide), TB_at 644 (by rfl) (by decide)⟩
set_option maxRecDepth 20000 in
theorem lc_mX2_asTold : q_C mX2_asTold := ⟨TB_at 53 (by decide +kernel) (by decide), TB_at 648 (by rfl) (by decide)⟩
set_option maxRecDepth 20000 in
theorem lc_mX2_stoodAt : q_C mX2_stoodAt := ⟨TB_at 53 (by decide +kernel) (by decide), TB_at 654 (by rfl) (by decide)⟩
set_option maxRecDepth 20000 in
theorem lc_mX2_goTo : q_C mX2_goTo := ⟨TB_at 53 (by decide +kernel) (by decide), TB_at 658 (by rfl) (by decide)⟩
set_option maxRecDepth 20000 in
theorem lc_mX7_odds : q_C mX7_odds := ⟨TB_at 49 (by decide +kernel) (by decide), TB_at 664 (by rfl) (by decide)⟩
set_option maxRecDepth 20000 in
theorem lc_mX7_areMinutes : q_C mX7_areMinutes := ⟨TB_at 49 (by decide +kernel) (by decide), TB_at 667 (by rfl) (by decide)⟩
set_option maxRecDepth 20000 in
theorem lc_mX2_tally : q_C mX2_tally := ⟨TB_at 53 (by decide +kernel) (by decide), TB_at 671 (by rfl) (by decide)⟩
set_option maxRecDepth 20000 in
theorem lc_mX2_minutesLike : q_C mX2_minutesLike := ⟨TB_at 53 (by decide +kernel) (by decide), TB_at 676 (by rfl) (by decide)⟩
set_option maxRecDepth 20000 in
theorem lc_mX2_minutesLikeTo : q_C mX2_minutesLikeTo := ⟨TB_at 53 (by decide +kernel) (by decide), TB_at 680 (by rfl) (by decide)⟩
set_option maxRecDepth 20000 in
theorem lc_mX2_addTimes : q_C mX2_addTimes := ⟨TB_at 53 (by decide +kernel) (by decide), TB_at 684 (by rfl) (by decide)⟩
set_option maxRecDepth 20000 in
theorem lc_mX7_commonDivisor : q_C mX7_commonDivisor := ⟨TB_at 49 (by decide +kernel) (by decide), TB_at 688 (by rfl) (by decide)⟩
set_option maxRecDepth 20000 in
theorem lc_mX7_surest : q_C mX7_surest := ⟨TB_at 49 (by decide +kernel) (by decide), TB_at 692 (by rfl) (by decide)⟩
set_option maxRecDepth 20000 in
theorem lc_mX1_findSurest : q_C mX1_findSurest := ⟨TB_at 54 (by decide +kernel) (by decide), TB_at 696 (by rfl) (by decide)⟩
set_option maxRecDepth 20000 in
theorem lc_mX7_still : q_C mX7_still := ⟨TB_at 49 (by decide +kernel) (by decide), TB_at 702 (by rfl) (by decide)⟩
set_option maxRecDepth 20000 in
theorem lc_mX1_findStill : q_C mX1_findStill := ⟨TB_at 54 (by decide +kernel) (by decide), TB_at 706 (by rfl) (by decide)⟩
set_option maxRecDepth 20000 in
theorem lc_mX1_nobodyWouldChange : q_C mX1_nobodyWouldChange := ⟨TB_at 54 (by decide +kernel) (by decide), TB_at 712 (by rfl) (by decide)⟩
set_option maxRecDepth 20000 in
theorem lc_mX7_plot : q_C mX7_plot := ⟨TB_at 49 (by decide +kernel) (by decide), TB_at 716 (by rfl) (by decide)⟩
set_option maxRecDepth 20000 in
theorem lc_mX6_hasAll : q_C mX6_hasAll := ⟨TB_at 50 (by decide +kernel) (by decide), TB_at 720 (by rfl) (by decide)⟩
set_option maxRecDepth 20000 in
theorem lc_mX1_findPlot : q_C mX1_findPlot := ⟨TB_at 54 (by decide +kernel) (by decide), TB_at 726 (by rfl) (by decide)⟩
set_option maxRecDepth 20000 in
theorem lc_mX1_keepStill : q_C mX1_keepStill := ⟨TB_at 54 (by decide +kernel) (by decide), TB_at 731 (by rfl) (by decide)⟩
set_option maxRecDepth 20000 in
theorem lc_mX7_price : q_C mX7_price := ⟨TB_at 49 (by decide +kernel) (by decide), TB_at 737 (by rfl) (by decide)⟩
set_option maxRecDepth 20000 in
theorem lc_mX6_greatestWorth : q_C mX6_greatestWorth := ⟨TB_at 50 (by decide +kernel) (by decide), TB_at 741 (by rfl) (by decide)⟩
set_option maxRecDepth 20000 in
theorem lc_mJ9_max_7cf53 : q_C mJ9_max_7cf53 := ⟨TB_at 64 (by decide +kernel) (by decide), TB_at 744 (by rfl) (by decide)⟩
set_option maxRecDepth 20000 in
theorem lc_mX7_laid : q_C mX7_laid := ⟨TB_at 49 (by decide +kernel) (by decide), TB_at 748 (by rfl) (by decide)⟩
set_option maxRecDepth 20000 in
theorem lc_mX1_findLaid : q_C mX1_findLaid := ⟨TB_at 54 (by decide +kernel) (by decide), TB_at 752 (by rfl) (by decide)⟩
set_option maxRecDepth 20000 in
theorem lc_mX2_spread : q_C mX2_spread := ⟨TB_at 53 (by decide +kernel) (by decide), TB_at 756 (by rfl) (by decide)⟩
set_option maxRecDepth 20000 in
theorem lc_mJ9_min_7cf53 : q_C mJ9_min_7cf53 := ⟨TB_at 64 (by decide +kernel) (by decide), TB_at 760 (by rfl) (by decide)⟩
set_option maxRecDepth 20000 in
theorem lc_mX7_left : q_C mX7_left := ⟨TB_at 49 (by decide +kernel) (by decide), TB_at 764 (by rfl) (by decide)⟩
set_option maxRecDepth 20000 in
theorem lc_mX2_playRounds : q_C mX2_playRounds := ⟨TB_at 53 (by decide +kernel) (by decide), TB_at 768 (by rfl) (by decide)⟩
set_option maxRecDepth 20000 in
theorem lc_mX7_seen : q_C mX7_seen := ⟨TB_at 49 (by decide +kernel) (by decide), TB_at 775 (by rfl) (by decide)⟩
set_option maxRecDepth 20000 in
theorem lc_mX4_add : q_C mX4_add := ⟨TB_at 57 (by decide +kernel) (by decide), TB_at 779 (by rfl) (by decide)⟩
set_option maxRecDepth 20000 in
theorem lc_mX7_forget : q_C mX7_forget := ⟨TB_at 49 (by decide +kernel) (by decide), TB_at 783 (by rfl) (by decide)⟩
set_option maxRecDepth 20000 in
theorem lc_mX7_fits : q_C mX7_fits := ⟨TB_at 49 (by decide +kernel) (by decide), TB_at 787 (by rfl) (by decide)⟩
set_option maxRecDepth 20000 in
theorem lc_mX1_findFits : q_C mX1_findFits := ⟨TB_at 54 (by decide +kernel) (by decide), TB_at 791 (by rfl) (by decide)⟩
set_option maxRecDepth 20000 in
theorem lc_mX4_fit : q_C mX4_fit := ⟨TB_at 57 (by decide +kernel) (by decide), TB_at 795 (by rfl) (by decide)⟩
set_option maxRecDepth 20000 in
theorem lc_mX7_count : q_C mX7_count := ⟨TB_at 49 (by decide +kernel) (by decide), TB_at 800 (by rfl) (by decide)⟩
set_option maxRecDepth 20000 in
theorem lc_mX8_init : q_C mX8_init := ⟨TB_at 58 (by decide +kernel) (by decide), TB_at 805 (by rfl) (by decide)⟩
set_option maxRecDepth 20000 in
theorem lc_mX8_begin : q_C mX8_begin := ⟨TB_at 58 (by decide +kernel) (by decide), TB_at 810 (by rfl) (by decide)⟩
set_option maxRecDepth 20000 in
theorem lc_mX8_in : q_C mX8_in := ⟨TB_at 58 (by decide +kernel) (by decide), TB_at 815 (by rfl) (by decide)⟩
set_option maxRecDepth 20000 in
theorem lc_mX8_write : q_C mX8_write := ⟨TB_at 58 (by decide +kernel) (by decide), TB_at 914 (by rfl) (by decide)⟩
set_option maxRecDepth 20000 in
theorem lc_mX8_erase : q_C mX8_erase := ⟨TB_at 58 (by decide +kernel) (by decide), TB_at 920 (by rfl) (by decide)⟩
set_option maxRecDepth 20000 in
theorem lc_mX8_fault : q_C mX8_fault := ⟨TB_at 58 (by decide +kernel) (by decide), TB_at 924 (by rfl) (by decide)⟩
set_option maxRecDepth 20000 in
theorem lc_mX8_token : q_C mX8_token := ⟨TB_at 58 (by decide +kernel) (by decide), TB_at 928 (by rfl) (by decide)⟩
set_option maxRecDepth 20000 in
theorem lc_mX8_sort : q_C mX8_sort := ⟨TB_at 58 (by decide +kernel) (by decide), TB_at 931 (by rfl) (by decide)⟩
set_option maxRecDepth 20000 in
theorem lc_mX8_readsLine : q_C mX8_readsLine := ⟨TB_at 58 (by decide +kernel) (by decide), TB_at 935 (by rfl) (by decide)⟩
set_option maxRecDepth 20000 in
theorem lc_mX8_wordOf : q_C mX8_wordOf := ⟨TB_at 58 (by decide +kernel) (by decide), TB_at 939 (by rfl) (by decide)⟩
set_option maxRecDepth 20000 in
theorem lc_mX8_guestWord : q_C mX8_guestWord := ⟨TB_at 58 (by decide +kernel) (by decide), TB_at 943 (by rfl) (by decide)⟩
set_option maxRecDepth 20000 in
theorem lc_mX8_isWord : q_C mX8_isWord := ⟨TB_at 58 (by decide +kernel) (by decide), TB_at 948 (by rfl) (by decide)⟩
set_option maxRecDepth 20000 in
theorem lc_mX8_isGuestWord : q_C mX8_isGuestWord := ⟨TB_at 58 (by decide +kernel) (by decide), TB_at 956 (by rfl) (by decide)⟩
set_option maxRecDepth 20000 in
theorem lc_mX8_readsRest : q_C mX8_readsRest := ⟨TB_at 58 (by decide +kernel) (by decide), TB_at 962 (by rfl) (by decide)⟩
set_option maxRecDepth 20000 in
theorem lc_mX8_numberHere : q_C mX8_numberHere := ⟨TB_at 58 (by decide +kernel) (by decide), TB_at 966 (by rfl) (by decide)⟩
set_option maxRecDepth 20000 in
theorem lc_mX8_reads : q_C mX8_reads := ⟨TB_at 58 (by decide +kernel) (by decide), TB_at 970 (by rfl) (by decide)⟩
set_option maxRecDepth 20000 in
theorem lc_mX8_has : q_C mX8_has := ⟨TB_at 58 (by decide +kernel) (by decide), TB_at 973 (by rfl) (by decide)⟩
set_option maxRecDepth 20000 in
theorem lc_mX8_readsGuest : q_C mX8_readsGuest := ⟨TB_at 58 (by decide +kernel) (by decide), TB_at 977 (by rfl) (by decide)⟩
set_option maxRecDepth 20000 in
theorem lc_mX8_inn : q_C mX8_inn := ⟨TB_at 58 (by decide +kernel) (by decide), TB_at 981 (by rfl) (by decide)⟩
set_option maxRecDepth 20000 in
theorem lc_mX8_tell : q_C mX8_tell := ⟨TB_at 58 (by decide +kernel) (by decide), TB_at 986 (by rfl) (by decide)⟩
set_option maxRecDepth 20000 in
theorem lc_mX8_place : q_C mX8_place := ⟨TB_at 58 (by decide +kernel) (by decide), TB_at 990 (by rfl) (by decide)⟩
set_option maxRecDepth 20000 in
theorem lc_mX8_isPlace : q_C mX8_isPlace := ⟨TB_at 58 (by decide +kernel) (by decide), TB_at 994 (by rfl) (by decide)⟩
set_option maxRecDepth 20000 in
theorem lc_mX8_guest : q_C mX8_guest := ⟨TB_at 58 (by decide +kernel) (by decide), TB_at 998 (by rfl) (by decide)⟩
set_option maxRecDepth 20000 in
theorem lc_mX8_isGuest : q_C mX8_isGuest := ⟨TB_at 58 (by decide +kernel) (by decide), TB_at 1002 (by rfl) (by decide)⟩
set_option maxRecDepth 20000 in
theorem lc_mX8_as : q_C mX8_as := ⟨TB_at 58 (by decide +kernel) (by decide), TB_at 1006 (by rfl) (by decide)⟩
set_option maxRecDepth 20000 in
theorem lc_mX8_effort : q_C mX8_effort := ⟨TB_at 58 (by decide +kernel) (by decide), TB_at 1011 (by rfl) (by decide)⟩
set_option maxRecDepth 20000 in
theorem lc_mX8_far : q_C mX8_far := ⟨TB_at 58 (by decide +kernel) (by decide), TB_at 1015 (by rfl) (by decide)⟩
set_option maxRecDepth 20000 in
theorem lc_mX8_walk : q_C mX8_walk := ⟨TB_at 58 (by decide +kernel) (by decide), TB_at 1019 (by rfl) (by decide)⟩
set_option maxRecDepth 20000 in
theorem lc_mX8_walked : q_C mX8_walked := ⟨TB_at 58 (by decide +kernel) (by decide), TB_at 1024 (by rfl) (by decide)⟩
set_option maxRecDepth 20000 in
theorem lc_mX8_stop : q_C mX8_stop := ⟨TB_at 58 (by decide +kernel) (by decide), TB_at 1028 (by rfl) (by decide)⟩
set_option maxRecDepth 20000 in
theorem lc_mX8_everybody : q_C mX8_everybody := ⟨TB_at 58 (by decide +kernel) (by decide), TB_at 1032 (by rfl) (by decide)⟩
set_option maxRecDepth 20000 in
theorem lc_mX8_stops : q_C mX8_stops := ⟨TB_at 58 (by decide +kernel) (by decide), TB_at 1036 (by rfl) (by decide)⟩
set_option maxRecDepth 20000 in
theorem lc_mX8_faint : q_C mX8_faint := ⟨TB_at 58 (by decide +kernel) (by decide), TB_at 1040 (by rfl) (by decide)⟩
set_option maxRecDepth 20000 in
theorem lc_mX8_seat : q_C mX8_seat := ⟨TB_at 58 (by decide +kernel) (by decide), TB_at 1044 (by rfl) (by decide)⟩
set_option maxRecDepth 20000 in
theorem lc_mX8_findsTwo : q_C mX8_findsTwo := ⟨TB_at 58 (by decide +kernel) (by decide), TB_at 1048 (by rfl) (by decide)⟩
set_option maxRecDepth 20000 in
theorem lc_mX8_takeSecond : q_C mX8_takeSecond := ⟨TB_at 58 (by decide +kernel) (by decide), TB_at 1052 (by rfl) (by decide)⟩
set_option maxRecDepth 20000 in
theorem lc_mX8_bits : q_C mX8_bits := ⟨TB_at 58 (by decide +kernel) (by decide), TB_at 1055 (by rfl) (by decide)⟩
set_option maxRecDepth 20000 in
theorem lc_mX8_play : q_C mX8_play := ⟨TB_at 58 (by decide +kernel) (by decide), TB_at 1059 (by rfl) (by decide)⟩
set_option maxRecDepth 20000 in
theorem lc_mX8_keep : q_C mX8_keep := ⟨TB_at 58 (by decide +kernel) (by decide), TB_at 1063 (by rfl) (by decide)⟩
set_option maxRecDepth 20000 in
theorem lc_mX8_copy : q_C mX8_copy := ⟨TB_at 58 (by decide +kernel) (by decide), TB_at 1067 (by rfl) (by decide)⟩
set_option maxRecDepth 20000 in
theorem lc_mX8_back : q_C mX8_back := ⟨TB_at 58 (by decide +kernel) (by decide), TB_at 1071 (by rfl) (by decide)⟩
set_option maxRecDepth 20000 in
theorem lc_mX8_standing : q_C mX8_standing := ⟨TB_at 58 (by decide +kernel) (by decide), TB_at 1075 (by rfl) (by decide)⟩
set_option maxRecDepth 20000 in
theorem lc_mX8_isTime : q_C mX8_isTime := ⟨TB_at 58 (by decide +kernel) (by decide), TB_at 1078 (by rfl) (by decide)⟩
set_option maxRecDepth 20000 in
theorem lc_mX8_standingAt : q_C mX8_standingAt := ⟨TB_at 58 (by decide +kernel) (by decide), TB_at 1082 (by rfl) (by decide)⟩
set_option maxRecDepth 20000 in
theorem lc_mX8_layAts : q_C mX8_layAts := ⟨TB_at 58 (by decide +kernel) (by decide), TB_at 1086 (by rfl) (by decide)⟩
set_option maxRecDepth 20000 in
theorem lc_mX8_odds : q_C mX8_odds := ⟨TB_at 58 (by decide +kernel) (by decide), TB_at 1090 (by rfl) (by decide)⟩
set_option maxRecDepth 20000 in
theorem lc_mX8_isSpan : q_C mX8_isSpan := ⟨TB_at 58 (by decide +kernel) (by decide), TB_at 1093 (by rfl) (by decide)⟩
set_option maxRecDepth 20000 in
theorem lc_mX8_minutesOf : q_C mX8_minutesOf := ⟨TB_at 58 (by decide +kernel) (by decide), TB_at 1097 (by rfl) (by decide)⟩
set_option maxRecDepth 20000 in
theorem lc_mX8_surest : q_C mX8_surest := ⟨TB_at 58 (by decide +kernel) (by decide), TB_at 1101 (by rfl) (by decide)⟩
set_option maxRecDepth 20000 in
theorem lc_mX8_still : q_C mX8_still := ⟨TB_at 58 (by decide +kernel) (by decide), TB_at 1106 (by rfl) (by decide)⟩
set_option maxRecDepth 20000 in
theorem lc_mX8_savePaces : q_C mX8_savePaces := ⟨TB_at 58 (by decide +kernel) (by decide), TB_at 1110 (by rfl) (by decide)⟩
set_option maxRecDepth 20000 in
theorem lc_mX8_layStands : q_C mX8_layStands := ⟨TB_at 58 (by decide +kernel) (by decide), TB_at 1114 (by rfl) (by decide)⟩
set_option maxRecDepth 20000 in
theorem lc_mX8_restorePaces : q_C mX8_restorePaces := ⟨TB_at 58 (by decide +kernel) (by decide), TB_at 1118 (by rfl) (by decide)⟩
set_option maxRecDepth 20000 in
theorem lc_mX8_isStill : q_C mX8_isStill := ⟨TB_at 58 (by decide +kernel) (by decide), TB_at 1122 (by rfl) (by decide)⟩
set_option maxRecDepth 20000 in
theorem lc_mX8_plot : q_C mX8_plot := ⟨TB_at 58 (by decide +kernel) (by decide), TB_at 1126 (by rfl) (by decide)⟩
set_option maxRecDepth 20000 in
theorem lc_mX8_price : q_C mX8_price := ⟨TB_at 58 (by decide +kernel) (by decide), TB_at 1130 (by rfl) (by decide)⟩
set_option maxRecDepth 20000 in
theorem lc_mX8_laid : q_C mX8_laid := ⟨TB_at 58 (by decide +kernel) (by decide), TB_at 1134 (by rfl) (by decide)⟩
set_option maxRecDepth 20000 in
theorem lc_mX8_apart : q_C mX8_apart := ⟨TB_at 58 (by decide +kernel) (by decide), TB_at 1138 (by rfl) (by decide)⟩
set_option maxRecDepth 20000 in
theorem lc_mX8_left : q_C mX8_left := ⟨TB_at 58 (by decide +kernel) (by decide), TB_at 1142 (by rfl) (by decide)⟩
set_option maxRecDepth 20000 in
theorem lc_mX8_leastOf : q_C mX8_leastOf := ⟨TB_at 58 (by decide +kernel) (by decide), TB_at 1145 (by rfl) (by decide)⟩
set_option maxRecDepth 20000 in
theorem lc_mX8_seen : q_C mX8_seen := ⟨TB_at 58 (by decide +kernel) (by decide), TB_at 1149 (by rfl) (by decide)⟩
set_option maxRecDepth 20000 in
theorem lc_mX8_forget : q_C mX8_forget := ⟨TB_at 58 (by decide +kernel) (by decide), TB_at 1153 (by rfl) (by decide)⟩
set_option maxRecDepth 20000 in
theorem lc_mX8_fits : q_C mX8_fits := ⟨TB_at 58 (by decide +kernel) (by decide), TB_at 1157 (by rfl) (by decide)⟩
set_option maxRecDepth 20000 in
theorem lc_mX8_count : q_C mX8_count := ⟨TB_at 58 (by decide +kernel) (by decide), TB_at 1161 (by rfl) (by decide)⟩
theorem lqL_7 : Cond.classLink RL 7 RX7 ∈ TB := TB_at 66 (by decide +kernel) (by decide)
set_option maxRecDepth 20000 in
theorem lmL_9 : q_I RL 9 mX7_init 0 := ⟨TB_at 68 (by decide +kernel) (by decide), ⟨TB_at 69 (by decide +kernel) (by decide), rfl⟩, lc_mX7_init, ⟨by decide +kernel, by decide +kernel, by decide +kernel⟩⟩
theorem lqX7_7 : Cond.classLink RX7 7 RX6 ∈ TB := TB_at 74 (by decide +kernel) (by decide)
set_option maxRecDepth 20000 in
theorem lmX7_9 : q_IN RX7 9 mX6_init 0 := ⟨⟨_, List.mem_of_getElem? (i := 76) (by rfl)⟩, ⟨TB_at 77 (by decide +kernel) (by decide), rfl⟩, lc_mX6_init, ⟨by decide +kernel, by decide +kernel, by decide +kernel⟩⟩
theorem lfX6_9 : q_F RX6 9 6 0 := ⟨RX6, TX6, 8, rfl, by decide, TB_at 80 (by decide +kernel) (by decide)⟩
theorem lfX2_80 : q_F RX2 80 6 0 := ⟨RX6, TX6, 8, rfl, by decide, TB_at 81 (by decide +kernel) (by decide)⟩
theorem lfX1_90 : q_F RX1 90 6 0 := ⟨RX6, TX6, 8, rfl, by decide, TB_at 82 (by decide +kernel) (by decide)⟩
theorem lfX5_112 : q_F RX5 112 6 0 := ⟨RX6, TX6, 8, rfl, by decide, TB_at 83 (by decide +kernel) (by decide)⟩
theorem lfX7_255 : q_F RX7 255 6 0 := ⟨RX6, TX6, 8, rfl, by decide, TB_at 84 (by decide +kernel) (by decide)⟩
theorem lfX6_31 : q_F RX6 31 6 1 := ⟨RX6, TX6, 8, rfl, by decide, TB_at 85 (by decide +kernel) (by decide)⟩
theorem lfX2_47 : q_F RX2 47 6 1 := ⟨RX6, TX6, 8, rfl, by decide, TB_at 86 (by decide +kernel) (by decide)⟩
theorem lfX7_177 : q_F RX7 177 6 1 := ⟨RX6, TX6, 8, rfl, by decide, TB_at 87 (by decide +kernel) (by decide)⟩
theorem lfX5_118 : q_F RX5 118 6 1 := ⟨RX6, TX6, 8, rfl, by decide, TB_at 88 (by decide +kernel) (by decide)⟩
theorem lfX6_34 : q_F RX6 34 6 2 := ⟨RX6, TX6, 8, rfl, by decide, TB_at 89 (by decide +kernel) (by decide)⟩
theorem lfX1_57 : q_F RX1 57 6 2 := ⟨RX6, TX6, 8, rfl, by decide, TB_at 90 (by decide +kernel) (by decide)⟩
theorem lfX2_61 : q_F RX2 61 6 2 := ⟨RX6, TX6, 8, rfl, by decide, TB_at 91 (by decide +kernel) (by decide)⟩
theorem lfX3_52 : q_F RX3 52 6 2 := ⟨RX6, TX6, 8, rfl, by decide, TB_at 92 (by decide +kernel) (by decide)⟩
theorem lfX0_55 : q_F RX0 55 6 2 := ⟨RX6, TX6, 8, rfl, by decide, TB_at 93 (by decide +kernel) (by decide)⟩
theorem lfX7_114 : q_F RX7 114 6 2 := ⟨RX6, TX6, 8, rfl, by decide, TB_at 94 (by decide +kernel) (by decide)⟩
theorem lfX5_84 : q_F RX5 84 6 2 := ⟨RX6, TX6, 8, rfl, by decide, TB_at 95 (by decide +kernel) (by decide)⟩
theorem lfX6_15 : q_F RX6 15 6 3 := ⟨RX6, TX6, 8, rfl, by decide, TB_at 96 (by decide +kernel) (by decide)⟩
theorem lfX3_73 : q_F RX3 73 6 3 := ⟨RX6, TX6, 8, rfl, by decide, TB_at 97 (by decide +kernel) (by decide)⟩
theorem lfX7_124 : q_F RX7 124 6 3 := ⟨RX6, TX6, 8, rfl, by decide, TB_at 98 (by decide +kernel) (by decide)⟩
theorem lfX6_19 : q_F RX6 19 6 4 := ⟨RX6, TX6, 8, rfl, by decide, TB_at 99 (by decide +kernel) (by decide)⟩
theorem lfX0_38 : q_F RX0 38 6 4 := ⟨RX6, TX6, 8, rfl, by decide, TB_at 100 (by decide +kernel) (by decide)⟩
theorem lfX2_67 : q_F RX2 67 6 4 := ⟨RX6, TX6, 8, rfl, by decide, TB_at 101 (by decide +kernel) (by decide)⟩
theorem lfX6_22 : q_F RX6 22 6 5 := ⟨RX6, TX6, 8, rfl, by decide, TB_at 102 (by decide +kernel) (by decide)⟩
theorem lfX2_29 : q_F RX2 29 6 5 := ⟨RX6, TX6, 8, rfl, by decide, TB_at 103 (by decide +kernel) (by decide)⟩
theorem lfX0_58 : q_F RX0 58 6 5 := ⟨RX6, TX6, 8, rfl, by decide, TB_at 104 (by decide +kernel) (by decide)⟩
theorem lfX7_130 : q_F RX7 130 6 5 := ⟨RX6, TX6, 8, rfl, by decide, TB_at 105 (by decide +kernel) (by decide)⟩
theorem lfX6_25 : q_F RX6 25 6 6 := ⟨RX6, TX6, 8, rfl, by decide, TB_at 106 (by decide +kernel) (by decide)⟩
theorem lfX2_38 : q_F RX2 38 6 6 := ⟨RX6, TX6, 8, rfl, by decide, TB_at 107 (by decide +kernel) (by decide)⟩
theorem lfX0_61 : q_F RX0 61 6 6 := ⟨RX6, TX6, 8, rfl, by decide, TB_at 108 (by decide +kernel) (by decide)⟩
theorem lfX7_133 : q_F RX7 133 6 6 := ⟨RX6, TX6, 8, rfl, by decide, TB_at 109 (by decide +kernel) (by decide)⟩
theorem lfX6_28 : q_F RX6 28 6 7 := ⟨RX6, TX6, 8, rfl, by decide, TB_at 110 (by decide +kernel) (by decide)⟩
theorem lfX7_136 : q_F RX7 136 6 7 := ⟨RX6, TX6, 8, rfl, by decide, TB_at 111 (by decide +kernel) (by decide)⟩
theorem lqX7_16 : Cond.classLink RX7 16 RX5 ∈ TB := TB_at 130 (by decide +kernel) (by decide)
set_option maxRecDepth 20000 in
theorem lmX7_18 : q_IN RX7 18 mX5_init 0 := ⟨⟨_, List.mem_of_getElem? (i := 132) (by rfl)⟩, ⟨TB_at 133 (by decide +kernel) (by decide), rfl⟩, lc_mX5_init, ⟨by decide +kernel, by decide +kernel, by decide +kernel⟩⟩
theorem lqX5_15 : Cond.classLink RX5 15 RX6 ∈ TB := TB_at 136 (by decide +kernel) (by decide)
set_option maxRecDepth 20000 in
theorem lmX5_17 : q_IN RX5 17 mX6_init 0 := ⟨⟨_, List.mem_of_getElem? (i := 137) (by rfl)⟩, ⟨TB_at 77 (by decide +kernel) (by decide), rfl⟩, lc_mX6_init, ⟨by decide +kernel, by decide +kernel, by decide +kernel⟩⟩
theorem lfX5_9 : q_F RX5 9 5 0 := ⟨RX5, TX5, 8, rfl, by decide, TB_at 138 (by decide +kernel) (by decide)⟩
theorem lfX5_25 : q_F RX5 25 5 1 := ⟨RX5, TX5, 8, rfl, by decide, TB_at 139 (by decide +kernel) (by decide)⟩
theorem lfX7_70 : q_F RX7 70 5 1 := ⟨RX5, TX5, 8, rfl, by decide, TB_at 140 (by decide +kernel) (by decide)⟩
theorem lfX5_18 : q_F RX5 18 5 2 := ⟨RX5, TX5, 8, rfl, by decide, TB_at 141 (by decide +kernel) (by decide)⟩
theorem lfX7_84 : q_F RX7 84 5 2 := ⟨RX5, TX5, 8, rfl, by decide, TB_at 142 (by decide +kernel) (by decide)⟩
theorem lfX5_36 : q_F RX5 36 5 3 := ⟨RX5, TX5, 8, rfl, by decide, TB_at 143 (by decide +kernel) (by decide)⟩
theorem lfX7_100 : q_F RX7 100 5 3 := ⟨RX5, TX5, 8, rfl, by decide, TB_at 144 (by decide +kernel) (by decide)⟩
theorem lfX5_43 : q_F RX5 43 5 4 := ⟨RX5, TX5, 8, rfl, by decide, TB_at 145 (by decide +kernel) (by decide)⟩
theorem lfX5_33 : q_F RX5 33 5 5 := ⟨RX5, TX5, 8, rfl, by decide, TB_at 146 (by decide +kernel) (by decide)⟩
theorem lfX5_105 : q_F RX5 105 5 6 := ⟨RX5, TX5, 8, rfl, by decide, TB_at 147 (by decide +kernel) (by decide)⟩
theorem lfX5_22 : q_F RX5 22 5 7 := ⟨RX5, TX5, 8, rfl, by decide, TB_at 148 (by decide +kernel) (by decide)⟩
theorem lqX7_23 : Cond.classLink RX7 23 RX3 ∈ TB := TB_at 166 (by decide +kernel) (by decide)
set_option maxRecDepth 20000 in
theorem lmX7_25 : q_I RX7 25 mX3_init 1 := ⟨TB_at 168 (by decide +kernel) (by decide), ⟨TB_at 169 (by decide +kernel) (by decide), rfl⟩, lc_mX3_init, ⟨by decide +kernel, by decide +kernel, by decide +kernel⟩⟩
theorem lfX3_21 : q_F RX3 21 3 0 := ⟨RX3, TX3, 6, rfl, by decide, TB_at 172 (by decide +kernel) (by decide)⟩
theorem lfX3_9 : q_F RX3 9 3 1 := ⟨RX3, TX3, 6, rfl, by decide, TB_at 173 (by decide +kernel) (by decide)⟩
theorem lfX2_64 : q_F RX2 64 3 1 := ⟨RX3, TX3, 6, rfl, by decide, TB_at 174 (by decide +kernel) (by decide)⟩
theorem lfX7_166 : q_F RX7 166 3 1 := ⟨RX3, TX3, 6, rfl, by decide, TB_at 175 (by decide +kernel) (by decide)⟩
theorem lfX3_15 : q_F RX3 15 3 2 := ⟨RX3, TX3, 6, rfl, by decide, TB_at 176 (by decide +kernel) (by decide)⟩
theorem lfX0_68 : q_F RX0 68 3 2 := ⟨RX3, TX3, 6, rfl, by decide, TB_at 177 (by decide +kernel) (by decide)⟩
theorem lfX3_18 : q_F RX3 18 3 3 := ⟨RX3, TX3, 6, rfl, by decide, TB_at 178 (by decide +kernel) (by decide)⟩
theorem lfX0_71 : q_F RX0 71 3 3 := ⟨RX3, TX3, 6, rfl, by decide, TB_at 179 (by decide +kernel) (by decide)⟩
theorem lfX3_31 : q_F RX3 31 3 4 := ⟨RX3, TX3, 6, rfl, by decide, TB_at 180 (by decide +kernel) (by decide)⟩
theorem lfX7_249 : q_F RX7 249 3 4 := ⟨RX3, TX3, 6, rfl, by decide, TB_at 181 (by decide +kernel) (by decide)⟩
theorem lfX3_35 : q_F RX3 35 3 5 := ⟨RX3, TX3, 6, rfl, by decide, TB_at 182 (by decide +kernel) (by decide)⟩
theorem lqX7_32 : Cond.classLink RX7 32 RX2 ∈ TB := TB_at 196 (by decide +kernel) (by decide)
set_option maxRecDepth 20000 in
theorem lmX7_34 : q_I RX7 34 mX2_init 2 := ⟨TB_at 198 (by decide +kernel) (by decide), ⟨TB_at 199 (by decide +kernel) (by decide), rfl⟩, lc_mX2_init, ⟨by decide +kernel, by decide +kernel, by decide +kernel⟩⟩
theorem lfX2_21 : q_F RX2 21 2 0 := ⟨RX2, TX2, 7, rfl, by decide, TB_at 202 (by decide +kernel) (by decide)⟩
theorem lfX2_25 : q_F RX2 25 2 1 := ⟨RX2, TX2, 7, rfl, by decide, TB_at 203 (by decide +kernel) (by decide)⟩
theorem lfX2_9 : q_F RX2 9 2 2 := ⟨RX2, TX2, 7, rfl, by decide, TB_at 204 (by decide +kernel) (by decide)⟩
theorem lfX1_32 : q_F RX1 32 2 2 := ⟨RX2, TX2, 7, rfl, by decide, TB_at 205 (by decide +kernel) (by decide)⟩
theorem lfX2_15 : q_F RX2 15 2 3 := ⟨RX2, TX2, 7, rfl, by decide, TB_at 206 (by decide +kernel) (by decide)⟩
theorem lfX1_35 : q_F RX1 35 2 3 := ⟨RX2, TX2, 7, rfl, by decide, TB_at 207 (by decide +kernel) (by decide)⟩
theorem lfX2_18 : q_F RX2 18 2 4 := ⟨RX2, TX2, 7, rfl, by decide, TB_at 208 (by decide +kernel) (by decide)⟩
theorem lfX1_42 : q_F RX1 42 2 4 := ⟨RX2, TX2, 7, rfl, by decide, TB_at 209 (by decide +kernel) (by decide)⟩
theorem lfX7_215 : q_F RX7 215 2 4 := ⟨RX2, TX2, 7, rfl, by decide, TB_at 210 (by decide +kernel) (by decide)⟩
theorem lfX2_43 : q_F RX2 43 2 5 := ⟨RX2, TX2, 7, rfl, by decide, TB_at 211 (by decide +kernel) (by decide)⟩
theorem lfX7_264 : q_F RX7 264 2 5 := ⟨RX2, TX2, 7, rfl, by decide, TB_at 212 (by decide +kernel) (by decide)⟩
theorem lfX2_50 : q_F RX2 50 2 6 := ⟨RX2, TX2, 7, rfl, by decide, TB_at 213 (by decide +kernel) (by decide)⟩
theorem lfX1_93 : q_F RX1 93 2 6 := ⟨RX2, TX2, 7, rfl, by decide, TB_at 214 (by decide +kernel) (by decide)⟩
theorem lqX7_41 : Cond.classLink RX7 41 RX1 ∈ TB := TB_at 230 (by decide +kernel) (by decide)
set_option maxRecDepth 20000 in
theorem lmX7_43 : q_I RX7 43 mX1_init 2 := ⟨TB_at 232 (by decide +kernel) (by decide), ⟨TB_at 233 (by decide +kernel) (by decide), rfl⟩, lc_mX1_init, ⟨by decide +kernel, by decide +kernel, by decide +kernel⟩⟩
theorem lfX1_15 : q_F RX1 15 1 0 := ⟨RX1, TX1, 7, rfl, by decide, TB_at 236 (by decide +kernel) (by decide)⟩
theorem lfX1_19 : q_F RX1 19 1 1 := ⟨RX1, TX1, 7, rfl, by decide, TB_at 237 (by decide +kernel) (by decide)⟩
theorem lfX1_9 : q_F RX1 9 1 2 := ⟨RX1, TX1, 7, rfl, by decide, TB_at 238 (by decide +kernel) (by decide)⟩
theorem lfX1_28 : q_F RX1 28 1 3 := ⟨RX1, TX1, 7, rfl, by decide, TB_at 239 (by decide +kernel) (by decide)⟩
theorem lfX7_231 : q_F RX7 231 1 3 := ⟨RX1, TX1, 7, rfl, by decide, TB_at 240 (by decide +kernel) (by decide)⟩
theorem lfX1_66 : q_F RX1 66 1 4 := ⟨RX1, TX1, 7, rfl, by decide, TB_at 241 (by decide +kernel) (by decide)⟩
theorem lfX7_237 : q_F RX7 237 1 4 := ⟨RX1, TX1, 7, rfl, by decide, TB_at 242 (by decide +kernel) (by decide)⟩
theorem lfX1_45 : q_F RX1 45 1 5 := ⟨RX1, TX1, 7, rfl, by decide, TB_at 243 (by decide +kernel) (by decide)⟩
theorem lfX7_225 : q_F RX7 225 1 5 := ⟨RX1, TX1, 7, rfl, by decide, TB_at 244 (by decide +kernel) (by decide)⟩
theorem lfX1_48 : q_F RX1 48 1 6 := ⟨RX1, TX1, 7, rfl, by decide, TB_at 245 (by decide +kernel) (by decide)⟩
theorem lfX7_228 : q_F RX7 228 1 6 := ⟨RX1, TX1, 7, rfl, by decide, TB_at 246 (by decide +kernel) (by decide)⟩
theorem lqX7_50 : Cond.classLink RX7 50 RX0 ∈ TB := TB_at 262 (by decide +kernel) (by decide)
set_option maxRecDepth 20000 in
theorem lmX7_52 : q_I RX7 52 mX0_init 0 := ⟨TB_at 264 (by decide +kernel) (by decide), ⟨TB_at 265 (by decide +kernel) (by decide), rfl⟩, lc_mX0_init, ⟨by decide +kernel, by decide +kernel, by decide +kernel⟩⟩
set_option maxRecDepth 20000 in
theorem lmX0_28 : q_S RX0 28 mJ7_fill_53178 2 := ⟨TB_at 268 (by decide +kernel) (by decide), TB_at 269 (by decide +kernel) (by decide), lc_mJ7_fill_53178, ⟨by decide +kernel, by decide +kernel, by decide +kernel⟩⟩
theorem lfX0_34 : q_F RX0 34 0 0 := ⟨RX0, TX0, 8, rfl, by decide, TB_at 271 (by decide +kernel) (by decide)⟩
theorem lfX7_159 : q_F RX7 159 0 0 := ⟨RX0, TX0, 8, rfl, by decide, TB_at 272 (by decide +kernel) (by decide)⟩
theorem lfX0_9 : q_F RX0 9 0 1 := ⟨RX0, TX0, 8, rfl, by decide, TB_at 273 (by decide +kernel) (by decide)⟩
theorem lfX7_156 : q_F RX7 156 0 1 := ⟨RX0, TX0, 8, rfl, by decide, TB_at 274 (by decide +kernel) (by decide)⟩
theorem lfX7_93 : q_F RX7 93 0 2 := ⟨RX0, TX0, 8, rfl, by decide, TB_at 275 (by decide +kernel) (by decide)⟩
theorem lfX0_52 : q_F RX0 52 0 3 := ⟨RX0, TX0, 8, rfl, by decide, TB_at 276 (by decide +kernel) (by decide)⟩
theorem lfX7_274 : q_F RX7 274 0 3 := ⟨RX0, TX0, 8, rfl, by decide, TB_at 277 (by decide +kernel) (by decide)⟩
theorem lfX0_15 : q_F RX0 15 0 4 := ⟨RX0, TX0, 8, rfl, by decide, TB_at 278 (by decide +kernel) (by decide)⟩
theorem lfX7_127 : q_F RX7 127 0 4 := ⟨RX0, TX0, 8, rfl, by decide, TB_at 279 (by decide +kernel) (by decide)⟩
theorem lfX0_19 : q_F RX0 19 0 5 := ⟨RX0, TX0, 8, rfl, by decide, TB_at 280 (by decide +kernel) (by decide)⟩
theorem lfX7_139 : q_F RX7 139 0 5 := ⟨RX0, TX0, 8, rfl, by decide, TB_at 281 (by decide +kernel) (by decide)⟩
theorem lfX0_22 : q_F RX0 22 0 6 := ⟨RX0, TX0, 8, rfl, by decide, TB_at 282 (by decide +kernel) (by decide)⟩
theorem lfX7_110 : q_F RX7 110 0 6 := ⟨RX0, TX0, 8, rfl, by decide, TB_at 283 (by decide +kernel) (by decide)⟩
theorem lfX0_25 : q_F RX0 25 0 7 := ⟨RX0, TX0, 8, rfl, by decide, TB_at 284 (by decide +kernel) (by decide)⟩
theorem lfX7_142 : q_F RX7 142 0 7 := ⟨RX0, TX0, 8, rfl, by decide, TB_at 285 (by decide +kernel) (by decide)⟩
theorem lqX7_63 : Cond.classLink RX7 63 RX4 ∈ TB := TB_at 303 (by decide +kernel) (by decide)
set_option maxRecDepth 20000 in
theorem lmX7_65 : q_IN RX7 65 mX4_init 0 := ⟨⟨_, List.mem_of_getElem? (i := 305) (by rfl)⟩, ⟨TB_at 306 (by decide +kernel) (by decide), rfl⟩, lc_mX4_init, ⟨by decide +kernel, by decide +kernel, by decide +kernel⟩⟩
theorem lfX4_18 : q_F RX4 18 4 0 := ⟨RX4, TX4, 3, rfl, by decide, TB_at 309 (by decide +kernel) (by decide)⟩
theorem lfX7_97 : q_F RX7 97 4 0 := ⟨RX4, TX4, 3, rfl, by decide, TB_at 310 (by decide +kernel) (by decide)⟩
theorem lfX4_9 : q_F RX4 9 4 1 := ⟨RX4, TX4, 3, rfl, by decide, TB_at 311 (by decide +kernel) (by decide)⟩
theorem lfX4_15 : q_F RX4 15 4 2 := ⟨RX4, TX4, 3, rfl, by decide, TB_at 312 (by decide +kernel) (by decide)⟩
theorem lfX7_10 : q_F RX7 10 7 0 := ⟨RX7, TX7, 9, rfl, by decide, TB_at 320 (by decide +kernel) (by decide)⟩
theorem lfX7_19 : q_F RX7 19 7 1 := ⟨RX7, TX7, 9, rfl, by decide, TB_at 321 (by decide +kernel) (by decide)⟩
theorem lfX7_28 : q_F RX7 28 7 2 := ⟨RX7, TX7, 9, rfl, by decide, TB_at 322 (by decide +kernel) (by decide)⟩
theorem lfX7_37 : q_F RX7 37 7 3 := ⟨RX7, TX7, 9, rfl, by decide, TB_at 323 (by decide +kernel) (by decide)⟩
theorem lfX7_46 : q_F RX7 46 7 4 := ⟨RX7, TX7, 9, rfl, by decide, TB_at 324 (by decide +kernel) (by decide)⟩
theorem lfX7_53 : q_F RX7 53 7 5 := ⟨RX7, TX7, 9, rfl, by decide, TB_at 325 (by decide +kernel) (by decide)⟩
theorem lfX7_57 : q_F RX7 57 7 6 := ⟨RX7, TX7, 9, rfl, by decide, TB_at 326 (by decide +kernel) (by decide)⟩
theorem lfX7_60 : q_F RX7 60 7 7 := ⟨RX7, TX7, 9, rfl, by decide, TB_at 327 (by decide +kernel) (by decide)⟩
theorem lfX7_66 : q_F RX7 66 7 8 := ⟨RX7, TX7, 9, rfl, by decide, TB_at 328 (by decide +kernel) (by decide)⟩
set_option maxRecDepth 20000 in
theorem lmL_15 : q_V RL 15 mX7_write 2 := ⟨TB_at 348 (by decide +kernel) (by decide), ⟨TB_at 349 (by decide +kernel) (by decide), TB_at 350 (by decide +kernel) (by decide)⟩, lc_mX7_write, ⟨by decide +kernel, by decide +kernel, by decide +kernel⟩⟩
theorem lkX7_74 : Cond.constantLong RX7 74 (255 : Int64) ∈ TB := TB_at 352 (by decide +kernel) (by decide)
set_option maxRecDepth 20000 in
theorem lmX7_76 : q_V RX7 76 mX5_append 1 := ⟨TB_at 353 (by decide +kernel) (by decide), ⟨TB_at 354 (by decide +kernel) (by decide), TB_at 355 (by decide +kernel) (by decide)⟩, lc_mX5_append, ⟨by decide +kernel, by decide +kernel, by decide +kernel⟩⟩
set_option maxRecDepth 20000 in
theorem lmL_20 : q_V RL 20 mX7_erase 0 := ⟨TB_at 357 (by decide +kernel) (by decide), ⟨TB_at 358 (by decide +kernel) (by decide), TB_at 359 (by decide +kernel) (by decide)⟩, lc_mX7_erase, ⟨by decide +kernel, by decide +kernel, by decide +kernel⟩⟩
set_option maxRecDepth 20000 in
theorem lmL_25 : q_V RL 25 mX7_fault 0 := ⟨TB_at 361 (by decide +kernel) (by decide), ⟨TB_at 362 (by decide +kernel) (by decide), TB_at 363 (by decide +kernel) (by decide)⟩, lc_mX7_fault, ⟨by decide +kernel, by decide +kernel, by decide +kernel⟩⟩
set_option maxRecDepth 20000 in
theorem lmX7_80 : q_V RX7 80 mX5_read 1 := ⟨TB_at 365 (by decide +kernel) (by decide), ⟨TB_at 366 (by decide +kernel) (by decide), TB_at 367 (by decide +kernel) (by decide)⟩, lc_mX5_read, ⟨by decide +kernel, by decide +kernel, by decide +kernel⟩⟩
set_option maxRecDepth 20000 in
theorem lmX5_29 : q_V RX5 29 mX6_copyFrom 1 := ⟨TB_at 369 (by decide +kernel) (by decide), ⟨TB_at 370 (by decide +kernel) (by decide), TB_at 371 (by decide +kernel) (by decide)⟩, lc_mX6_copyFrom, ⟨by decide +kernel, by decide +kernel, by decide +kernel⟩⟩
set_option maxRecDepth 20000 in
theorem lmX5_39 : q_V RX5 39 mX5_doLine 0 := ⟨TB_at 376 (by decide +kernel) (by decide), ⟨TB_at 378 (by decide +kernel) (by decide), TB_at 0 (by decide +kernel) (by decide)⟩, lc_mX5_doLine, ⟨by decide +kernel, by decide +kernel, by decide +kernel⟩⟩
set_option maxRecDepth 20000 in
theorem lmX5_46 : q_V RX5 46 mX5_nextToken 0 := ⟨TB_at 380 (by decide +kernel) (by decide), ⟨TB_at 382 (by decide +kernel) (by decide), TB_at 1 (by decide +kernel) (by decide)⟩, lc_mX5_nextToken, ⟨by decide +kernel, by decide +kernel, by decide +kernel⟩⟩
set_option maxRecDepth 20000 in
theorem lmX5_49 : q_S RX5 49 mX5_isLetter 1 := ⟨TB_at 384 (by decide +kernel) (by decide), TB_at 385 (by decide +kernel) (by decide), lc_mX5_isLetter, ⟨by decide +kernel, by decide +kernel, by decide +kernel⟩⟩
set_option maxRecDepth 20000 in
theorem lmX5_53 : q_S RX5 53 mX5_isDigit 1 := ⟨TB_at 387 (by decide +kernel) (by decide), TB_at 388 (by decide +kernel) (by decide), lc_mX5_isDigit, ⟨by decide +kernel, by decide +kernel, by decide +kernel⟩⟩
set_option maxRecDepth 20000 in
theorem lmX5_67 : q_V RX5 67 mX5_isWord 1 := ⟨TB_at 391 (by decide +kernel) (by decide), ⟨TB_at 393 (by decide +kernel) (by decide), TB_at 2 (by decide +kernel) (by decide)⟩, lc_mX5_isWord, ⟨by decide +kernel, by decide +kernel, by decide +kernel⟩⟩
set_option maxRecDepth 20000 in
theorem lmX5_56 : q_V RX5 56 mJ0_length_8abf5 0 := ⟨TB_at 395 (by decide +kernel) (by decide), ⟨TB_at 396 (by decide +kernel) (by decide), TB_at 397 (by decide +kernel) (by decide)⟩, lc_mJ0_length_8abf5, ⟨by decide +kernel, by decide +kernel, by decide +kernel⟩⟩
set_option maxRecDepth 20000 in
theorem lmJ0_335 : q_V RJ0 335 mJ0_coder_7d493 0 := ⟨TB_at 399 (by decide +kernel) (by decide), ⟨TB_at 400 (by decide +kernel) (by decide), TB_at 401 (by decide +kernel) (by decide)⟩, lc_mJ0_coder_7d493, ⟨by decide +kernel, by decide +kernel, by decide +kernel⟩⟩
set_option maxRecDepth 20000 in
theorem lmX5_61 : q_V RX5 61 mJ0_charAt_5068e 1 := ⟨TB_at 405 (by decide +kernel) (by decide), ⟨TB_at 406 (by decide +kernel) (by decide), TB_at 407 (by decide +kernel) (by decide)⟩, lc_mJ0_charAt_5068e, ⟨by decide +kernel, by decide +kernel, by decide +kernel⟩⟩
set_option maxRecDepth 20000 in
theorem lmJ0_492 : q_V RJ0 492 mJ0_isLatin1_aae02 0 := ⟨TB_at 409 (by decide +kernel) (by decide), ⟨TB_at 410 (by decide +kernel) (by decide), TB_at 411 (by decide +kernel) (by decide)⟩, lc_mJ0_isLatin1_aae02, ⟨by decide +kernel, by decide +kernel, by decide +kernel⟩⟩
set_option maxRecDepth 20000 in
theorem lmJ0_495 : q_S RJ0 495 mJ1_charAt_3b067 2 := ⟨TB_at 413 (by decide +kernel) (by decide), TB_at 414 (by decide +kernel) (by decide), lc_mJ1_charAt_3b067, ⟨by decide +kernel, by decide +kernel, by decide +kernel⟩⟩
set_option maxRecDepth 20000 in
theorem lmX5_71 : q_V RX5 71 mX5_doInn 0 := ⟨TB_at 443 (by decide +kernel) (by decide), ⟨TB_at 445 (by decide +kernel) (by decide), TB_at 3 (by decide +kernel) (by decide)⟩, lc_mX5_doInn, ⟨by decide +kernel, by decide +kernel, by decide +kernel⟩⟩
set_option maxRecDepth 20000 in
theorem lmX5_101 : q_V RX5 101 mX5_readNumber 2 := ⟨TB_at 447 (by decide +kernel) (by decide), ⟨TB_at 449 (by decide +kernel) (by decide), TB_at 4 (by decide +kernel) (by decide)⟩, lc_mX5_readNumber, ⟨by decide +kernel, by decide +kernel, by decide +kernel⟩⟩
set_option maxRecDepth 20000 in
theorem lmX5_108 : q_V RX5 108 mX6_beginInn 1 := ⟨TB_at 451 (by decide +kernel) (by decide), ⟨TB_at 452 (by decide +kernel) (by decide), TB_at 453 (by decide +kernel) (by decide)⟩, lc_mX6_beginInn, ⟨by decide +kernel, by decide +kernel, by decide +kernel⟩⟩
set_option maxRecDepth 20000 in
theorem lmX5_76 : q_V RX5 76 mX5_doChair 1 := ⟨TB_at 456 (by decide +kernel) (by decide), ⟨TB_at 458 (by decide +kernel) (by decide), TB_at 5 (by decide +kernel) (by decide)⟩, lc_mX5_doChair, ⟨by decide +kernel, by decide +kernel, by decide +kernel⟩⟩
set_option maxRecDepth 20000 in
theorem lmX5_115 : q_V RX5 115 mX6_hasChair 1 := ⟨TB_at 460 (by decide +kernel) (by decide), ⟨TB_at 461 (by decide +kernel) (by decide), TB_at 462 (by decide +kernel) (by decide)⟩, lc_mX6_hasChair, ⟨by decide +kernel, by decide +kernel, by decide +kernel⟩⟩
set_option maxRecDepth 20000 in
theorem lmX6_43 : q_V RX6 43 mX6_hasPlace 1 := ⟨TB_at 464 (by decide +kernel) (by decide), ⟨TB_at 465 (by decide +kernel) (by decide), TB_at 466 (by decide +kernel) (by decide)⟩, lc_mX6_hasPlace, ⟨by decide +kernel, by decide +kernel, by decide +kernel⟩⟩
set_option maxRecDepth 20000 in
theorem lmX6_47 : q_SN RX6 47 mX7_holds 2 := ⟨⟨_, List.mem_of_getElem? (i := 468) (by rfl)⟩, TB_at 469 (by decide +kernel) (by decide), lc_mX7_holds, ⟨by decide +kernel, by decide +kernel, by decide +kernel⟩⟩
set_option maxRecDepth 20000 in
theorem lmX5_87 : q_V RX5 87 mX5_kindOfWord 0 := ⟨TB_at 473 (by decide +kernel) (by decide), ⟨TB_at 475 (by decide +kernel) (by decide), TB_at 6 (by decide +kernel) (by decide)⟩, lc_mX5_kindOfWord, ⟨by decide +kernel, by decide +kernel, by decide +kernel⟩⟩
set_option maxRecDepth 20000 in
theorem lmX5_90 : q_V RX5 90 mX5_doGuest 1 := ⟨TB_at 481 (by decide +kernel) (by decide), ⟨TB_at 483 (by decide +kernel) (by decide), TB_at 7 (by decide +kernel) (by decide)⟩, lc_mX5_doGuest, ⟨by decide +kernel, by decide +kernel, by decide +kernel⟩⟩
set_option maxRecDepth 20000 in
theorem lmX5_121 : q_V RX5 121 mX5_mostOf 1 := ⟨TB_at 485 (by decide +kernel) (by decide), ⟨TB_at 487 (by decide +kernel) (by decide), TB_at 8 (by decide +kernel) (by decide)⟩, lc_mX5_mostOf, ⟨by decide +kernel, by decide +kernel, by decide +kernel⟩⟩
set_option maxRecDepth 20000 in
theorem lmX5_125 : q_V RX5 125 mX6_addGuest 2 := ⟨TB_at 489 (by decide +kernel) (by decide), ⟨TB_at 490 (by decide +kernel) (by decide), TB_at 491 (by decide +kernel) (by decide)⟩, lc_mX6_addGuest, ⟨by decide +kernel, by decide +kernel, by decide +kernel⟩⟩
set_option maxRecDepth 20000 in
theorem lmL_29 : q_V RL 29 mX7_inn 0 := ⟨TB_at 494 (by decide +kernel) (by decide), ⟨TB_at 495 (by decide +kernel) (by decide), TB_at 496 (by decide +kernel) (by decide)⟩, lc_mX7_inn, ⟨by decide +kernel, by decide +kernel, by decide +kernel⟩⟩
set_option maxRecDepth 20000 in
theorem lmX7_87 : q_V RX7 87 mX6_copyFrom 1 := ⟨TB_at 498 (by decide +kernel) (by decide), ⟨TB_at 370 (by decide +kernel) (by decide), TB_at 371 (by decide +kernel) (by decide)⟩, lc_mX6_copyFrom, ⟨by decide +kernel, by decide +kernel, by decide +kernel⟩⟩
set_option maxRecDepth 20000 in
theorem lmX7_90 : q_V RX7 90 mX0_begin 1 := ⟨TB_at 499 (by decide +kernel) (by decide), ⟨TB_at 500 (by decide +kernel) (by decide), TB_at 501 (by decide +kernel) (by decide)⟩, lc_mX0_begin, ⟨by decide +kernel, by decide +kernel, by decide +kernel⟩⟩
set_option maxRecDepth 20000 in
theorem lmX0_49 : q_V RX0 49 mX0_getUp 0 := ⟨TB_at 504 (by decide +kernel) (by decide), ⟨TB_at 505 (by decide +kernel) (by decide), TB_at 506 (by decide +kernel) (by decide)⟩, lc_mX0_getUp, ⟨by decide +kernel, by decide +kernel, by decide +kernel⟩⟩
set_option maxRecDepth 20000 in
theorem lmL_33 : q_V RL 33 mX7_place 2 := ⟨TB_at 508 (by decide +kernel) (by decide), ⟨TB_at 509 (by decide +kernel) (by decide), TB_at 510 (by decide +kernel) (by decide)⟩, lc_mX7_place, ⟨by decide +kernel, by decide +kernel, by decide +kernel⟩⟩
set_option maxRecDepth 20000 in
theorem lmX7_103 : q_V RX7 103 mX6_hasPlace 1 := ⟨TB_at 512 (by decide +kernel) (by decide), ⟨TB_at 465 (by decide +kernel) (by decide), TB_at 466 (by decide +kernel) (by decide)⟩, lc_mX6_hasPlace, ⟨by decide +kernel, by decide +kernel, by decide +kernel⟩⟩
set_option maxRecDepth 20000 in
theorem lmX7_107 : q_V RX7 107 mX6_hasChair 1 := ⟨TB_at 513 (by decide +kernel) (by decide), ⟨TB_at 461 (by decide +kernel) (by decide), TB_at 462 (by decide +kernel) (by decide)⟩, lc_mX6_hasChair, ⟨by decide +kernel, by decide +kernel, by decide +kernel⟩⟩
set_option maxRecDepth 20000 in
theorem lmX7_117 : q_V RX7 117 mX0_whoIsAt 2 := ⟨TB_at 514 (by decide +kernel) (by decide), ⟨TB_at 515 (by decide +kernel) (by decide), TB_at 516 (by decide +kernel) (by decide)⟩, lc_mX0_whoIsAt, ⟨by decide +kernel, by decide +kernel, by decide +kernel⟩⟩
set_option maxRecDepth 20000 in
theorem lmL_38 : q_V RL 38 mX7_guest 2 := ⟨TB_at 518 (by decide +kernel) (by decide), ⟨TB_at 519 (by decide +kernel) (by decide), TB_at 520 (by decide +kernel) (by decide)⟩, lc_mX7_guest, ⟨by decide +kernel, by decide +kernel, by decide +kernel⟩⟩
set_option maxRecDepth 20000 in
theorem lmX7_121 : q_V RX7 121 mX6_hasGuest 1 := ⟨TB_at 522 (by decide +kernel) (by decide), ⟨TB_at 523 (by decide +kernel) (by decide), TB_at 524 (by decide +kernel) (by decide)⟩, lc_mX6_hasGuest, ⟨by decide +kernel, by decide +kernel, by decide +kernel⟩⟩
set_option maxRecDepth 20000 in
theorem lmL_42 : q_V RL 42 mX7_as 2 := ⟨TB_at 526 (by decide +kernel) (by decide), ⟨TB_at 527 (by decide +kernel) (by decide), TB_at 528 (by decide +kernel) (by decide)⟩, lc_mX7_as, ⟨by decide +kernel, by decide +kernel, by decide +kernel⟩⟩
set_option maxRecDepth 20000 in
theorem lmX7_145 : q_V RX7 145 mX6_isA 2 := ⟨TB_at 530 (by decide +kernel) (by decide), ⟨TB_at 531 (by decide +kernel) (by decide), TB_at 532 (by decide +kernel) (by decide)⟩, lc_mX6_isA, ⟨by decide +kernel, by decide +kernel, by decide +kernel⟩⟩
set_option maxRecDepth 20000 in
theorem lmX7_149 : q_V RX7 149 mX6_nearestChair 1 := ⟨TB_at 534 (by decide +kernel) (by decide), ⟨TB_at 535 (by decide +kernel) (by decide), TB_at 536 (by decide +kernel) (by decide)⟩, lc_mX6_nearestChair, ⟨by decide +kernel, by decide +kernel, by decide +kernel⟩⟩
set_option maxRecDepth 20000 in
theorem lmX6_61 : q_V RX6 61 mX6_farthest 0 := ⟨TB_at 538 (by decide +kernel) (by decide), ⟨TB_at 539 (by decide +kernel) (by decide), TB_at 540 (by decide +kernel) (by decide)⟩, lc_mX6_farthest, ⟨by decide +kernel, by decide +kernel, by decide +kernel⟩⟩
set_option maxRecDepth 20000 in
theorem lmX6_64 : q_V RX6 64 mX6_leastAt 3 := ⟨TB_at 542 (by decide +kernel) (by decide), ⟨TB_at 543 (by decide +kernel) (by decide), TB_at 544 (by decide +kernel) (by decide)⟩, lc_mX6_leastAt, ⟨by decide +kernel, by decide +kernel, by decide +kernel⟩⟩
set_option maxRecDepth 20000 in
theorem lmX7_153 : q_V RX7 153 mX6_ease 1 := ⟨TB_at 546 (by decide +kernel) (by decide), ⟨TB_at 547 (by decide +kernel) (by decide), TB_at 548 (by decide +kernel) (by decide)⟩, lc_mX6_ease, ⟨by decide +kernel, by decide +kernel, by decide +kernel⟩⟩
set_option maxRecDepth 20000 in
theorem lmL_46 : q_V RL 46 mX7_walk 1 := ⟨TB_at 550 (by decide +kernel) (by decide), ⟨TB_at 551 (by decide +kernel) (by decide), TB_at 552 (by decide +kernel) (by decide)⟩, lc_mX7_walk, ⟨by decide +kernel, by decide +kernel, by decide +kernel⟩⟩
set_option maxRecDepth 20000 in
theorem lmX7_162 : q_V RX7 162 mX0_goOn 2 := ⟨TB_at 554 (by decide +kernel) (by decide), ⟨TB_at 555 (by decide +kernel) (by decide), TB_at 556 (by decide +kernel) (by decide)⟩, lc_mX0_goOn, ⟨by decide +kernel, by decide +kernel, by decide +kernel⟩⟩
set_option maxRecDepth 20000 in
theorem lmX0_64 : q_V RX0 64 mX6_placeAfter 3 := ⟨TB_at 558 (by decide +kernel) (by decide), ⟨TB_at 559 (by decide +kernel) (by decide), TB_at 560 (by decide +kernel) (by decide)⟩, lc_mX6_placeAfter, ⟨by decide +kernel, by decide +kernel, by decide +kernel⟩⟩
set_option maxRecDepth 20000 in
theorem lmX6_55 : q_S RX6 55 mJ9_floorMod_7cf53 2 := ⟨TB_at 562 (by decide +kernel) (by decide), TB_at 563 (by decide +kernel) (by decide), lc_mJ9_floorMod_7cf53, ⟨by decide +kernel, by decide +kernel, by decide +kernel⟩⟩
set_option maxRecDepth 20000 in
theorem lmL_51 : q_V RL 51 mX7_stop 0 := ⟨TB_at 565 (by decide +kernel) (by decide), ⟨TB_at 566 (by decide +kernel) (by decide), TB_at 567 (by decide +kernel) (by decide)⟩, lc_mX7_stop, ⟨by decide +kernel, by decide +kernel, by decide +kernel⟩⟩
set_option maxRecDepth 20000 in
theorem lmX7_173 : q_V RX7 173 mX6_everyone 0 := ⟨TB_at 570 (by decide +kernel) (by decide), ⟨TB_at 571 (by decide +kernel) (by decide), TB_at 572 (by decide +kernel) (by decide)⟩, lc_mX6_everyone, ⟨by decide +kernel, by decide +kernel, by decide +kernel⟩⟩
set_option maxRecDepth 20000 in
theorem lmX7_180 : q_V RX7 180 mX3_settle 2 := ⟨TB_at 574 (by decide +kernel) (by decide), ⟨TB_at 575 (by decide +kernel) (by decide), TB_at 576 (by decide +kernel) (by decide)⟩, lc_mX3_settle, ⟨by decide +kernel, by decide +kernel, by decide +kernel⟩⟩
set_option maxRecDepth 20000 in
theorem lmX3_25 : q_S RX3 25 mJ7_fill_53178 2 := ⟨TB_at 578 (by decide +kernel) (by decide), TB_at 269 (by decide +kernel) (by decide), lc_mJ7_fill_53178, ⟨by decide +kernel, by decide +kernel, by decide +kernel⟩⟩
set_option maxRecDepth 20000 in
theorem lmX3_39 : q_V RX3 39 mX6_allOfKind 1 := ⟨TB_at 579 (by decide +kernel) (by decide), ⟨TB_at 580 (by decide +kernel) (by decide), TB_at 581 (by decide +kernel) (by decide)⟩, lc_mX6_allOfKind, ⟨by decide +kernel, by decide +kernel, by decide +kernel⟩⟩
set_option maxRecDepth 20000 in
theorem lmX3_45 : q_V RX3 45 mX3_seatAll 1 := ⟨TB_at 583 (by decide +kernel) (by decide), ⟨TB_at 585 (by decide +kernel) (by decide), TB_at 9 (by decide +kernel) (by decide)⟩, lc_mX3_seatAll, ⟨by decide +kernel, by decide +kernel, by decide +kernel⟩⟩
set_option maxRecDepth 20000 in
theorem lmX3_48 : q_V RX3 48 mX6_farthest 0 := ⟨TB_at 587 (by decide +kernel) (by decide), ⟨TB_at 539 (by decide +kernel) (by decide), TB_at 540 (by decide +kernel) (by decide)⟩, lc_mX6_farthest, ⟨by decide +kernel, by decide +kernel, by decide +kernel⟩⟩
set_option maxRecDepth 20000 in
theorem lmX3_55 : q_SN RX3 55 mX7_holds 2 := ⟨⟨_, List.mem_of_getElem? (i := 588) (by rfl)⟩, TB_at 469 (by decide +kernel) (by decide), lc_mX7_holds, ⟨by decide +kernel, by decide +kernel, by decide +kernel⟩⟩
set_option maxRecDepth 20000 in
theorem lmX3_59 : q_V RX3 59 mX6_ease 1 := ⟨TB_at 589 (by decide +kernel) (by decide), ⟨TB_at 547 (by decide +kernel) (by decide), TB_at 548 (by decide +kernel) (by decide)⟩, lc_mX6_ease, ⟨by decide +kernel, by decide +kernel, by decide +kernel⟩⟩
set_option maxRecDepth 20000 in
theorem lmX3_62 : q_V RX3 62 mX6_leastAt 3 := ⟨TB_at 590 (by decide +kernel) (by decide), ⟨TB_at 543 (by decide +kernel) (by decide), TB_at 544 (by decide +kernel) (by decide)⟩, lc_mX6_leastAt, ⟨by decide +kernel, by decide +kernel, by decide +kernel⟩⟩
set_option maxRecDepth 20000 in
theorem lmX3_66 : q_V RX3 66 mX3_seatOne 2 := ⟨TB_at 591 (by decide +kernel) (by decide), ⟨TB_at 593 (by decide +kernel) (by decide), TB_at 10 (by decide +kernel) (by decide)⟩, lc_mX3_seatOne, ⟨by decide +kernel, by decide +kernel, by decide +kernel⟩⟩
set_option maxRecDepth 20000 in
theorem lmX3_70 : q_V RX3 70 mX3_take 2 := ⟨TB_at 595 (by decide +kernel) (by decide), ⟨TB_at 597 (by decide +kernel) (by decide), TB_at 11 (by decide +kernel) (by decide)⟩, lc_mX3_take, ⟨by decide +kernel, by decide +kernel, by decide +kernel⟩⟩
set_option maxRecDepth 20000 in
theorem lmX7_183 : q_V RX7 183 mX3_settleFaint 1 := ⟨TB_at 599 (by decide +kernel) (by decide), ⟨TB_at 600 (by decide +kernel) (by decide), TB_at 601 (by decide +kernel) (by decide)⟩, lc_mX3_settleFaint, ⟨by decide +kernel, by decide +kernel, by decide +kernel⟩⟩
set_option maxRecDepth 20000 in
theorem lmX7_186 : q_V RX7 186 mX0_end 3 := ⟨TB_at 603 (by decide +kernel) (by decide), ⟨TB_at 604 (by decide +kernel) (by decide), TB_at 605 (by decide +kernel) (by decide)⟩, lc_mX0_end, ⟨by decide +kernel, by decide +kernel, by decide +kernel⟩⟩
set_option maxRecDepth 20000 in
theorem lmX0_72 : q_S RX0 72 mJ6_bitCount_0f7a4 1 := ⟨TB_at 607 (by decide +kernel) (by decide), TB_at 608 (by decide +kernel) (by decide), lc_mJ6_bitCount_0f7a4, ⟨by decide +kernel, by decide +kernel, by decide +kernel⟩⟩
theorem lkJ6_265 : Cond.constant RJ6 265 (1431655765 : Int32) ∈ TB := TB_at 610 (by decide +kernel) (by decide)
theorem lkJ6_266 : Cond.constant RJ6 266 (858993459 : Int32) ∈ TB := TB_at 611 (by decide +kernel) (by decide)
theorem lkJ6_267 : Cond.constant RJ6 267 (252645135 : Int32) ∈ TB := TB_at 612 (by decide +kernel) (by decide)
set_option maxRecDepth 20000 in
theorem lmX0_78 : q_V RX0 78 mX6_allWorth 0 := ⟨TB_at 613 (by decide +kernel) (by decide), ⟨TB_at 614 (by decide +kernel) (by decide), TB_at 615 (by decide +kernel) (by decide)⟩, lc_mX6_allWorth, ⟨by decide +kernel, by decide +kernel, by decide +kernel⟩⟩
set_option maxRecDepth 20000 in
theorem lmX0_82 : q_SN RX0 82 mX7_holds 2 := ⟨⟨_, List.mem_of_getElem? (i := 617) (by rfl)⟩, TB_at 469 (by decide +kernel) (by decide), lc_mX7_holds, ⟨by decide +kernel, by decide +kernel, by decide +kernel⟩⟩
set_option maxRecDepth 20000 in
theorem lmL_55 : q_V RL 55 mX7_play 0 := ⟨TB_at 618 (by decide +kernel) (by decide), ⟨TB_at 619 (by decide +kernel) (by decide), TB_at 620 (by decide +kernel) (by decide)⟩, lc_mX7_play, ⟨by decide +kernel, by decide +kernel, by decide +kernel⟩⟩
set_option maxRecDepth 20000 in
theorem lmX7_190 : q_V RX7 190 mX0_getUp 0 := ⟨TB_at 622 (by decide +kernel) (by decide), ⟨TB_at 505 (by decide +kernel) (by decide), TB_at 506 (by decide +kernel) (by decide)⟩, lc_mX0_getUp, ⟨by decide +kernel, by decide +kernel, by decide +kernel⟩⟩
set_option maxRecDepth 20000 in
theorem lmL_59 : q_V RL 59 mX7_keep 1 := ⟨TB_at 623 (by decide +kernel) (by decide), ⟨TB_at 624 (by decide +kernel) (by decide), TB_at 625 (by decide +kernel) (by decide)⟩, lc_mX7_keep, ⟨by decide +kernel, by decide +kernel, by decide +kernel⟩⟩
set_option maxRecDepth 20000 in
theorem lmX7_193 : q_S RX7 193 mX7_isEither 1 := ⟨TB_at 627 (by decide +kernel) (by decide), TB_at 628 (by decide +kernel) (by decide), lc_mX7_isEither, ⟨by decide +kernel, by decide +kernel, by decide +kernel⟩⟩
set_option maxRecDepth 20000 in
theorem lmX7_196 : q_V RX7 196 mX0_copyFrom 1 := ⟨TB_at 630 (by decide +kernel) (by decide), ⟨TB_at 631 (by decide +kernel) (by decide), TB_at 632 (by decide +kernel) (by decide)⟩, lc_mX0_copyFrom, ⟨by decide +kernel, by decide +kernel, by decide +kernel⟩⟩
set_option maxRecDepth 20000 in
theorem lmL_63 : q_V RL 63 mX7_back 1 := ⟨TB_at 634 (by decide +kernel) (by decide), ⟨TB_at 635 (by decide +kernel) (by decide), TB_at 636 (by decide +kernel) (by decide)⟩, lc_mX7_back, ⟨by decide +kernel, by decide +kernel, by decide +kernel⟩⟩
set_option maxRecDepth 20000 in
theorem lmL_67 : q_V RL 67 mX7_standing 1 := ⟨TB_at 638 (by decide +kernel) (by decide), ⟨TB_at 639 (by decide +kernel) (by decide), TB_at 640 (by decide +kernel) (by decide)⟩, lc_mX7_standing, ⟨by decide +kernel, by decide +kernel, by decide +kernel⟩⟩
set_option maxRecDepth 20000 in
theorem lmX7_199 : q_S RX7 199 mX7_isMinute 1 := ⟨TB_at 642 (by decide +kernel) (by decide), TB_at 643 (by decide +kernel) (by decide), lc_mX7_isMinute, ⟨by decide +kernel, by decide +kernel, by decide +kernel⟩⟩
set_option maxRecDepth 20000 in
theorem lmX7_202 : q_V RX7 202 mX2_asTold 0 := ⟨TB_at 645 (by decide +kernel) (by decide), ⟨TB_at 646 (by decide +kernel) (by decide), TB_at 647 (by decide +kernel) (by decide)⟩, lc_mX2_asTold, ⟨by decide +kernel, by decide +kernel, by decide +kernel⟩⟩
set_option maxRecDepth 20000 in
theorem lmX2_39 : q_V RX2 39 mX6_everyone 0 := ⟨TB_at 650 (by decide +kernel) (by decide), ⟨TB_at 571 (by decide +kernel) (by decide), TB_at 572 (by decide +kernel) (by decide)⟩, lc_mX6_everyone, ⟨by decide +kernel, by decide +kernel, by decide +kernel⟩⟩
set_option maxRecDepth 20000 in
theorem lmX7_205 : q_V RX7 205 mX2_stoodAt 1 := ⟨TB_at 651 (by decide +kernel) (by decide), ⟨TB_at 652 (by decide +kernel) (by decide), TB_at 653 (by decide +kernel) (by decide)⟩, lc_mX2_stoodAt, ⟨by decide +kernel, by decide +kernel, by decide +kernel⟩⟩
set_option maxRecDepth 20000 in
theorem lmX2_51 : q_V RX2 51 mX2_goTo 1 := ⟨TB_at 655 (by decide +kernel) (by decide), ⟨TB_at 657 (by decide +kernel) (by decide), TB_at 12 (by decide +kernel) (by decide)⟩, lc_mX2_goTo, ⟨by decide +kernel, by decide +kernel, by decide +kernel⟩⟩
set_option maxRecDepth 20000 in
theorem lmX2_70 : q_V RX2 70 mX6_placeAfter 3 := ⟨TB_at 659 (by decide +kernel) (by decide), ⟨TB_at 559 (by decide +kernel) (by decide), TB_at 560 (by decide +kernel) (by decide)⟩, lc_mX6_placeAfter, ⟨by decide +kernel, by decide +kernel, by decide +kernel⟩⟩
set_option maxRecDepth 20000 in
theorem lmX2_55 : q_V RX2 55 mX3_settle 2 := ⟨TB_at 660 (by decide +kernel) (by decide), ⟨TB_at 575 (by decide +kernel) (by decide), TB_at 576 (by decide +kernel) (by decide)⟩, lc_mX3_settle, ⟨by decide +kernel, by decide +kernel, by decide +kernel⟩⟩
set_option maxRecDepth 20000 in
theorem lmL_71 : q_V RL 71 mX7_odds 4 := ⟨TB_at 661 (by decide +kernel) (by decide), ⟨TB_at 662 (by decide +kernel) (by decide), TB_at 663 (by decide +kernel) (by decide)⟩, lc_mX7_odds, ⟨by decide +kernel, by decide +kernel, by decide +kernel⟩⟩
set_option maxRecDepth 20000 in
theorem lmX7_208 : q_S RX7 208 mX7_areMinutes 2 := ⟨TB_at 665 (by decide +kernel) (by decide), TB_at 666 (by decide +kernel) (by decide), lc_mX7_areMinutes, ⟨by decide +kernel, by decide +kernel, by decide +kernel⟩⟩
set_option maxRecDepth 20000 in
theorem lmX7_211 : q_V RX7 211 mX2_tally 2 := ⟨TB_at 668 (by decide +kernel) (by decide), ⟨TB_at 669 (by decide +kernel) (by decide), TB_at 670 (by decide +kernel) (by decide)⟩, lc_mX2_tally, ⟨by decide +kernel, by decide +kernel, by decide +kernel⟩⟩
set_option maxRecDepth 20000 in
theorem lmX2_74 : q_S RX2 74 mJ7_fill_53178 2 := ⟨TB_at 672 (by decide +kernel) (by decide), TB_at 269 (by decide +kernel) (by decide), lc_mJ7_fill_53178, ⟨by decide +kernel, by decide +kernel, by decide +kernel⟩⟩
set_option maxRecDepth 20000 in
theorem lmX2_83 : q_V RX2 83 mX2_minutesLike 3 := ⟨TB_at 673 (by decide +kernel) (by decide), ⟨TB_at 674 (by decide +kernel) (by decide), TB_at 675 (by decide +kernel) (by decide)⟩, lc_mX2_minutesLike, ⟨by decide +kernel, by decide +kernel, by decide +kernel⟩⟩
set_option maxRecDepth 20000 in
theorem lmX2_94 : q_V RX2 94 mX2_minutesLikeTo 2 := ⟨TB_at 677 (by decide +kernel) (by decide), ⟨TB_at 679 (by decide +kernel) (by decide), TB_at 13 (by decide +kernel) (by decide)⟩, lc_mX2_minutesLikeTo, ⟨by decide +kernel, by decide +kernel, by decide +kernel⟩⟩
set_option maxRecDepth 20000 in
theorem lmX2_86 : q_V RX2 86 mX2_addTimes 2 := ⟨TB_at 681 (by decide +kernel) (by decide), ⟨TB_at 683 (by decide +kernel) (by decide), TB_at 14 (by decide +kernel) (by decide)⟩, lc_mX2_addTimes, ⟨by decide +kernel, by decide +kernel, by decide +kernel⟩⟩
set_option maxRecDepth 20000 in
theorem lmX2_90 : q_SN RX2 90 mX7_holds 2 := ⟨⟨_, List.mem_of_getElem? (i := 685) (by rfl)⟩, TB_at 469 (by decide +kernel) (by decide), lc_mX7_holds, ⟨by decide +kernel, by decide +kernel, by decide +kernel⟩⟩
set_option maxRecDepth 20000 in
theorem lmX7_218 : q_S RX7 218 mX7_commonDivisor 2 := ⟨TB_at 686 (by decide +kernel) (by decide), TB_at 687 (by decide +kernel) (by decide), lc_mX7_commonDivisor, ⟨by decide +kernel, by decide +kernel, by decide +kernel⟩⟩
set_option maxRecDepth 20000 in
theorem lmL_76 : q_V RL 76 mX7_surest 4 := ⟨TB_at 689 (by decide +kernel) (by decide), ⟨TB_at 690 (by decide +kernel) (by decide), TB_at 691 (by decide +kernel) (by decide)⟩, lc_mX7_surest, ⟨by decide +kernel, by decide +kernel, by decide +kernel⟩⟩
set_option maxRecDepth 20000 in
theorem lmX7_221 : q_V RX7 221 mX1_findSurest 3 := ⟨TB_at 693 (by decide +kernel) (by decide), ⟨TB_at 694 (by decide +kernel) (by decide), TB_at 695 (by decide +kernel) (by decide)⟩, lc_mX1_findSurest, ⟨by decide +kernel, by decide +kernel, by decide +kernel⟩⟩
set_option maxRecDepth 20000 in
theorem lmX1_23 : q_V RX1 23 mX2_asTold 0 := ⟨TB_at 697 (by decide +kernel) (by decide), ⟨TB_at 646 (by decide +kernel) (by decide), TB_at 647 (by decide +kernel) (by decide)⟩, lc_mX2_asTold, ⟨by decide +kernel, by decide +kernel, by decide +kernel⟩⟩
set_option maxRecDepth 20000 in
theorem lmX1_38 : q_V RX1 38 mX2_tally 2 := ⟨TB_at 698 (by decide +kernel) (by decide), ⟨TB_at 669 (by decide +kernel) (by decide), TB_at 670 (by decide +kernel) (by decide)⟩, lc_mX2_tally, ⟨by decide +kernel, by decide +kernel, by decide +kernel⟩⟩
set_option maxRecDepth 20000 in
theorem lmL_80 : q_V RL 80 mX7_still 3 := ⟨TB_at 699 (by decide +kernel) (by decide), ⟨TB_at 700 (by decide +kernel) (by decide), TB_at 701 (by decide +kernel) (by decide)⟩, lc_mX7_still, ⟨by decide +kernel, by decide +kernel, by decide +kernel⟩⟩
set_option maxRecDepth 20000 in
theorem lmX7_234 : q_V RX7 234 mX1_findStill 2 := ⟨TB_at 703 (by decide +kernel) (by decide), ⟨TB_at 704 (by decide +kernel) (by decide), TB_at 705 (by decide +kernel) (by decide)⟩, lc_mX1_findStill, ⟨by decide +kernel, by decide +kernel, by decide +kernel⟩⟩
set_option maxRecDepth 20000 in
theorem lmX1_51 : q_V RX1 51 mX6_everyone 0 := ⟨TB_at 707 (by decide +kernel) (by decide), ⟨TB_at 571 (by decide +kernel) (by decide), TB_at 572 (by decide +kernel) (by decide)⟩, lc_mX6_everyone, ⟨by decide +kernel, by decide +kernel, by decide +kernel⟩⟩
set_option maxRecDepth 20000 in
theorem lmX1_69 : q_V RX1 69 mX1_nobodyWouldChange 1 := ⟨TB_at 709 (by decide +kernel) (by decide), ⟨TB_at 711 (by decide +kernel) (by decide), TB_at 15 (by decide +kernel) (by decide)⟩, lc_mX1_nobodyWouldChange, ⟨by decide +kernel, by decide +kernel, by decide +kernel⟩⟩
set_option maxRecDepth 20000 in
theorem lmL_85 : q_V RL 85 mX7_plot 4 := ⟨TB_at 713 (by decide +kernel) (by decide), ⟨TB_at 714 (by decide +kernel) (by decide), TB_at 715 (by decide +kernel) (by decide)⟩, lc_mX7_plot, ⟨by decide +kernel, by decide +kernel, by decide +kernel⟩⟩
set_option maxRecDepth 20000 in
theorem lmX7_240 : q_V RX7 240 mX6_hasAll 1 := ⟨TB_at 717 (by decide +kernel) (by decide), ⟨TB_at 718 (by decide +kernel) (by decide), TB_at 719 (by decide +kernel) (by decide)⟩, lc_mX6_hasAll, ⟨by decide +kernel, by decide +kernel, by decide +kernel⟩⟩
set_option maxRecDepth 20000 in
theorem lmX6_51 : q_V RX6 51 mX6_everyone 0 := ⟨TB_at 721 (by decide +kernel) (by decide), ⟨TB_at 571 (by decide +kernel) (by decide), TB_at 572 (by decide +kernel) (by decide)⟩, lc_mX6_everyone, ⟨by decide +kernel, by decide +kernel, by decide +kernel⟩⟩
set_option maxRecDepth 20000 in
theorem lmX7_243 : q_S RX7 243 mX7_holds 2 := ⟨TB_at 722 (by decide +kernel) (by decide), TB_at 469 (by decide +kernel) (by decide), lc_mX7_holds, ⟨by decide +kernel, by decide +kernel, by decide +kernel⟩⟩
set_option maxRecDepth 20000 in
theorem lmX7_246 : q_V RX7 246 mX1_findPlot 3 := ⟨TB_at 723 (by decide +kernel) (by decide), ⟨TB_at 724 (by decide +kernel) (by decide), TB_at 725 (by decide +kernel) (by decide)⟩, lc_mX1_findPlot, ⟨by decide +kernel, by decide +kernel, by decide +kernel⟩⟩
set_option maxRecDepth 20000 in
theorem lmX1_73 : q_S RX1 73 mJ6_bitCount_0f7a4 1 := ⟨TB_at 727 (by decide +kernel) (by decide), TB_at 608 (by decide +kernel) (by decide), lc_mJ6_bitCount_0f7a4, ⟨by decide +kernel, by decide +kernel, by decide +kernel⟩⟩
set_option maxRecDepth 20000 in
theorem lmX1_79 : q_V RX1 79 mX1_keepStill 1 := ⟨TB_at 728 (by decide +kernel) (by decide), ⟨TB_at 730 (by decide +kernel) (by decide), TB_at 16 (by decide +kernel) (by decide)⟩, lc_mX1_keepStill, ⟨by decide +kernel, by decide +kernel, by decide +kernel⟩⟩
set_option maxRecDepth 20000 in
theorem lmX1_86 : q_SN RX1 86 mX7_holds 2 := ⟨⟨_, List.mem_of_getElem? (i := 732) (by rfl)⟩, TB_at 469 (by decide +kernel) (by decide), lc_mX7_holds, ⟨by decide +kernel, by decide +kernel, by decide +kernel⟩⟩
set_option maxRecDepth 20000 in
theorem lmX1_83 : q_V RX1 83 mX2_stoodAt 1 := ⟨TB_at 733 (by decide +kernel) (by decide), ⟨TB_at 652 (by decide +kernel) (by decide), TB_at 653 (by decide +kernel) (by decide)⟩, lc_mX2_stoodAt, ⟨by decide +kernel, by decide +kernel, by decide +kernel⟩⟩
set_option maxRecDepth 20000 in
theorem lmL_89 : q_V RL 89 mX7_price 1 := ⟨TB_at 734 (by decide +kernel) (by decide), ⟨TB_at 735 (by decide +kernel) (by decide), TB_at 736 (by decide +kernel) (by decide)⟩, lc_mX7_price, ⟨by decide +kernel, by decide +kernel, by decide +kernel⟩⟩
set_option maxRecDepth 20000 in
theorem lmX7_252 : q_V RX7 252 mX6_greatestWorth 1 := ⟨TB_at 738 (by decide +kernel) (by decide), ⟨TB_at 739 (by decide +kernel) (by decide), TB_at 740 (by decide +kernel) (by decide)⟩, lc_mX6_greatestWorth, ⟨by decide +kernel, by decide +kernel, by decide +kernel⟩⟩
set_option maxRecDepth 20000 in
theorem lmX6_68 : q_S RX6 68 mJ9_max_7cf53 2 := ⟨TB_at 742 (by decide +kernel) (by decide), TB_at 743 (by decide +kernel) (by decide), lc_mJ9_max_7cf53, ⟨by decide +kernel, by decide +kernel, by decide +kernel⟩⟩
set_option maxRecDepth 20000 in
theorem lmL_93 : q_V RL 93 mX7_laid 4 := ⟨TB_at 745 (by decide +kernel) (by decide), ⟨TB_at 746 (by decide +kernel) (by decide), TB_at 747 (by decide +kernel) (by decide)⟩, lc_mX7_laid, ⟨by decide +kernel, by decide +kernel, by decide +kernel⟩⟩
set_option maxRecDepth 20000 in
theorem lmX7_258 : q_V RX7 258 mX1_findLaid 3 := ⟨TB_at 749 (by decide +kernel) (by decide), ⟨TB_at 750 (by decide +kernel) (by decide), TB_at 751 (by decide +kernel) (by decide)⟩, lc_mX1_findLaid, ⟨by decide +kernel, by decide +kernel, by decide +kernel⟩⟩
set_option maxRecDepth 20000 in
theorem lmX1_96 : q_V RX1 96 mX2_spread 0 := ⟨TB_at 753 (by decide +kernel) (by decide), ⟨TB_at 754 (by decide +kernel) (by decide), TB_at 755 (by decide +kernel) (by decide)⟩, lc_mX2_spread, ⟨by decide +kernel, by decide +kernel, by decide +kernel⟩⟩
set_option maxRecDepth 20000 in
theorem lmX2_97 : q_S RX2 97 mJ9_max_7cf53 2 := ⟨TB_at 757 (by decide +kernel) (by decide), TB_at 743 (by decide +kernel) (by decide), lc_mJ9_max_7cf53, ⟨by decide +kernel, by decide +kernel, by decide +kernel⟩⟩
set_option maxRecDepth 20000 in
theorem lmX2_102 : q_S RX2 102 mJ9_min_7cf53 2 := ⟨TB_at 758 (by decide +kernel) (by decide), TB_at 759 (by decide +kernel) (by decide), lc_mJ9_min_7cf53, ⟨by decide +kernel, by decide +kernel, by decide +kernel⟩⟩
set_option maxRecDepth 20000 in
theorem lmL_97 : q_V RL 97 mX7_left 2 := ⟨TB_at 761 (by decide +kernel) (by decide), ⟨TB_at 762 (by decide +kernel) (by decide), TB_at 763 (by decide +kernel) (by decide)⟩, lc_mX7_left, ⟨by decide +kernel, by decide +kernel, by decide +kernel⟩⟩
set_option maxRecDepth 20000 in
theorem lmX7_261 : q_V RX7 261 mX2_playRounds 1 := ⟨TB_at 765 (by decide +kernel) (by decide), ⟨TB_at 766 (by decide +kernel) (by decide), TB_at 767 (by decide +kernel) (by decide)⟩, lc_mX2_playRounds, ⟨by decide +kernel, by decide +kernel, by decide +kernel⟩⟩
set_option maxRecDepth 20000 in
theorem lmX2_105 : q_V RX2 105 mX2_asTold 0 := ⟨TB_at 769 (by decide +kernel) (by decide), ⟨TB_at 646 (by decide +kernel) (by decide), TB_at 647 (by decide +kernel) (by decide)⟩, lc_mX2_asTold, ⟨by decide +kernel, by decide +kernel, by decide +kernel⟩⟩
set_option maxRecDepth 20000 in
theorem lmX2_108 : q_S RX2 108 mJ6_bitCount_0f7a4 1 := ⟨TB_at 770 (by decide +kernel) (by decide), TB_at 608 (by decide +kernel) (by decide), lc_mJ6_bitCount_0f7a4, ⟨by decide +kernel, by decide +kernel, by decide +kernel⟩⟩
set_option maxRecDepth 20000 in
theorem lmX2_114 : q_V RX2 114 mX2_stoodAt 1 := ⟨TB_at 771 (by decide +kernel) (by decide), ⟨TB_at 652 (by decide +kernel) (by decide), TB_at 653 (by decide +kernel) (by decide)⟩, lc_mX2_stoodAt, ⟨by decide +kernel, by decide +kernel, by decide +kernel⟩⟩
set_option maxRecDepth 20000 in
theorem lmL_101 : q_V RL 101 mX7_seen 2 := ⟨TB_at 772 (by decide +kernel) (by decide), ⟨TB_at 773 (by decide +kernel) (by decide), TB_at 774 (by decide +kernel) (by decide)⟩, lc_mX7_seen, ⟨by decide +kernel, by decide +kernel, by decide +kernel⟩⟩
set_option maxRecDepth 20000 in
theorem lmX7_267 : q_V RX7 267 mX4_add 2 := ⟨TB_at 776 (by decide +kernel) (by decide), ⟨TB_at 777 (by decide +kernel) (by decide), TB_at 778 (by decide +kernel) (by decide)⟩, lc_mX4_add, ⟨by decide +kernel, by decide +kernel, by decide +kernel⟩⟩
set_option maxRecDepth 20000 in
theorem lmL_105 : q_V RL 105 mX7_forget 0 := ⟨TB_at 780 (by decide +kernel) (by decide), ⟨TB_at 781 (by decide +kernel) (by decide), TB_at 782 (by decide +kernel) (by decide)⟩, lc_mX7_forget, ⟨by decide +kernel, by decide +kernel, by decide +kernel⟩⟩
set_option maxRecDepth 20000 in
theorem lmL_109 : q_V RL 109 mX7_fits 1 := ⟨TB_at 784 (by decide +kernel) (by decide), ⟨TB_at 785 (by decide +kernel) (by decide), TB_at 786 (by decide +kernel) (by decide)⟩, lc_mX7_fits, ⟨by decide +kernel, by decide +kernel, by decide +kernel⟩⟩
set_option maxRecDepth 20000 in
theorem lmX7_270 : q_V RX7 270 mX1_findFits 1 := ⟨TB_at 788 (by decide +kernel) (by decide), ⟨TB_at 789 (by decide +kernel) (by decide), TB_at 790 (by decide +kernel) (by decide)⟩, lc_mX1_findFits, ⟨by decide +kernel, by decide +kernel, by decide +kernel⟩⟩
set_option maxRecDepth 20000 in
theorem lmX1_99 : q_V RX1 99 mX4_fit 1 := ⟨TB_at 792 (by decide +kernel) (by decide), ⟨TB_at 793 (by decide +kernel) (by decide), TB_at 794 (by decide +kernel) (by decide)⟩, lc_mX4_fit, ⟨by decide +kernel, by decide +kernel, by decide +kernel⟩⟩
set_option maxRecDepth 20000 in
theorem lmX1_104 : q_V RX1 104 mX2_minutesLike 3 := ⟨TB_at 796 (by decide +kernel) (by decide), ⟨TB_at 674 (by decide +kernel) (by decide), TB_at 675 (by decide +kernel) (by decide)⟩, lc_mX2_minutesLike, ⟨by decide +kernel, by decide +kernel, by decide +kernel⟩⟩
set_option maxRecDepth 20000 in
theorem lmL_113 : q_V RL 113 mX7_count 1 := ⟨TB_at 797 (by decide +kernel) (by decide), ⟨TB_at 798 (by decide +kernel) (by decide), TB_at 799 (by decide +kernel) (by decide)⟩, lc_mX7_count, ⟨by decide +kernel, by decide +kernel, by decide +kernel⟩⟩
theorem lqL_10 : Cond.classLink RL 10 RX8 ∈ TB := TB_at 801 (by decide +kernel) (by decide)
set_option maxRecDepth 20000 in
theorem lmL_12 : q_I RL 12 mX8_init 0 := ⟨TB_at 803 (by decide +kernel) (by decide), ⟨TB_at 804 (by decide +kernel) (by decide), rfl⟩, lc_mX8_init, ⟨by decide +kernel, by decide +kernel, by decide +kernel⟩⟩
set_option maxRecDepth 20000 in
theorem lmX8_63 : q_V RX8 63 mX8_begin 0 := ⟨TB_at 807 (by decide +kernel) (by decide), ⟨TB_at 809 (by decide +kernel) (by decide), TB_at 17 (by decide +kernel) (by decide)⟩, lc_mX8_begin, ⟨by decide +kernel, by decide +kernel, by decide +kernel⟩⟩
theorem lkX8_66 : Cond.constantLong RX8 66 (9 : Int64) ∈ TB := TB_at 811 (by decide +kernel) (by decide)
theorem lkX8_68 : Cond.constantLong RX8 68 (20 : Int64) ∈ TB := TB_at 812 (by decide +kernel) (by decide)
set_option maxRecDepth 20000 in
theorem lmX8_70 : q_S RX8 70 mX8_in 3 := ⟨TB_at 813 (by decide +kernel) (by decide), TB_at 814 (by decide +kernel) (by decide), lc_mX8_in, ⟨by decide +kernel, by decide +kernel, by decide +kernel⟩⟩
theorem lfX8_7 : q_F RX8 7 8 0 := ⟨RX8, TX8, 31, rfl, by decide, TB_at 816 (by decide +kernel) (by decide)⟩
theorem lfX8_13 : q_F RX8 13 8 1 := ⟨RX8, TX8, 31, rfl, by decide, TB_at 817 (by decide +kernel) (by decide)⟩
theorem lfX8_17 : q_F RX8 17 8 2 := ⟨RX8, TX8, 31, rfl, by decide, TB_at 818 (by decide +kernel) (by decide)⟩
theorem lfX8_79 : q_F RX8 79 8 3 := ⟨RX8, TX8, 31, rfl, by decide, TB_at 819 (by decide +kernel) (by decide)⟩
theorem lfX8_20 : q_F RX8 20 8 4 := ⟨RX8, TX8, 31, rfl, by decide, TB_at 820 (by decide +kernel) (by decide)⟩
theorem lfX8_114 : q_F RX8 114 8 5 := ⟨RX8, TX8, 31, rfl, by decide, TB_at 821 (by decide +kernel) (by decide)⟩
theorem lfX8_23 : q_F RX8 23 8 6 := ⟨RX8, TX8, 31, rfl, by decide, TB_at 822 (by decide +kernel) (by decide)⟩
theorem lfX8_154 : q_F RX8 154 8 7 := ⟨RX8, TX8, 31, rfl, by decide, TB_at 823 (by decide +kernel) (by decide)⟩
theorem lfX8_27 : q_F RX8 27 8 8 := ⟨RX8, TX8, 31, rfl, by decide, TB_at 824 (by decide +kernel) (by decide)⟩
theorem lfX8_30 : q_F RX8 30 8 9 := ⟨RX8, TX8, 31, rfl, by decide, TB_at 825 (by decide +kernel) (by decide)⟩
theorem lfX8_33 : q_F RX8 33 8 10 := ⟨RX8, TX8, 31, rfl, by decide, TB_at 826 (by decide +kernel) (by decide)⟩
theorem lfX8_36 : q_F RX8 36 8 11 := ⟨RX8, TX8, 31, rfl, by decide, TB_at 827 (by decide +kernel) (by decide)⟩
theorem lfX8_39 : q_F RX8 39 8 12 := ⟨RX8, TX8, 31, rfl, by decide, TB_at 828 (by decide +kernel) (by decide)⟩
theorem lfX8_74 : q_F RX8 74 8 13 := ⟨RX8, TX8, 31, rfl, by decide, TB_at 829 (by decide +kernel) (by decide)⟩
theorem lfX8_84 : q_F RX8 84 8 14 := ⟨RX8, TX8, 31, rfl, by decide, TB_at 830 (by decide +kernel) (by decide)⟩
theorem lfX8_87 : q_F RX8 87 8 15 := ⟨RX8, TX8, 31, rfl, by decide, TB_at 831 (by decide +kernel) (by decide)⟩
theorem lfX8_94 : q_F RX8 94 8 16 := ⟨RX8, TX8, 31, rfl, by decide, TB_at 832 (by decide +kernel) (by decide)⟩
theorem lfX8_120 : q_F RX8 120 8 17 := ⟨RX8, TX8, 31, rfl, by decide, TB_at 833 (by decide +kernel) (by decide)⟩
theorem lfX8_127 : q_F RX8 127 8 18 := ⟨RX8, TX8, 31, rfl, by decide, TB_at 834 (by decide +kernel) (by decide)⟩
theorem lfX8_148 : q_F RX8 148 8 19 := ⟨RX8, TX8, 31, rfl, by decide, TB_at 835 (by decide +kernel) (by decide)⟩
theorem lfX8_42 : q_F RX8 42 8 20 := ⟨RX8, TX8, 31, rfl, by decide, TB_at 836 (by decide +kernel) (by decide)⟩
theorem lfX8_45 : q_F RX8 45 8 21 := ⟨RX8, TX8, 31, rfl, by decide, TB_at 837 (by decide +kernel) (by decide)⟩
theorem lfX8_48 : q_F RX8 48 8 22 := ⟨RX8, TX8, 31, rfl, by decide, TB_at 838 (by decide +kernel) (by decide)⟩
theorem lfX8_186 : q_F RX8 186 8 23 := ⟨RX8, TX8, 31, rfl, by decide, TB_at 839 (by decide +kernel) (by decide)⟩
theorem lfX8_189 : q_F RX8 189 8 24 := ⟨RX8, TX8, 31, rfl, by decide, TB_at 840 (by decide +kernel) (by decide)⟩
theorem lfX8_192 : q_F RX8 192 8 25 := ⟨RX8, TX8, 31, rfl, by decide, TB_at 841 (by decide +kernel) (by decide)⟩
theorem lfX8_51 : q_F RX8 51 8 26 := ⟨RX8, TX8, 31, rfl, by decide, TB_at 842 (by decide +kernel) (by decide)⟩
theorem lfX8_54 : q_F RX8 54 8 27 := ⟨RX8, TX8, 31, rfl, by decide, TB_at 843 (by decide +kernel) (by decide)⟩
theorem lfX8_57 : q_F RX8 57 8 28 := ⟨RX8, TX8, 31, rfl, by decide, TB_at 844 (by decide +kernel) (by decide)⟩
theorem lfX8_60 : q_F RX8 60 8 29 := ⟨RX8, TX8, 31, rfl, by decide, TB_at 845 (by decide +kernel) (by decide)⟩
theorem lfX8_167 : q_F RX8 167 8 30 := ⟨RX8, TX8, 31, rfl, by decide, TB_at 846 (by decide +kernel) (by decide)⟩
set_option maxRecDepth 20000 in
theorem lmL_19 : q_V RL 19 mX8_write 2 := ⟨TB_at 911 (by decide +kernel) (by decide), ⟨TB_at 912 (by decide +kernel) (by decide), TB_at 913 (by decide +kernel) (by decide)⟩, lc_mX8_write, ⟨by decide +kernel, by decide +kernel, by decide +kernel⟩⟩
theorem lkX8_77 : Cond.constantLong RX8 77 (8 : Int64) ∈ TB := TB_at 915 (by decide +kernel) (by decide)
theorem lkX8_82 : Cond.constantLong RX8 82 (255 : Int64) ∈ TB := TB_at 916 (by decide +kernel) (by decide)
set_option maxRecDepth 20000 in
theorem lmL_24 : q_V RL 24 mX8_erase 0 := ⟨TB_at 917 (by decide +kernel) (by decide), ⟨TB_at 918 (by decide +kernel) (by decide), TB_at 919 (by decide +kernel) (by decide)⟩, lc_mX8_erase, ⟨by decide +kernel, by decide +kernel, by decide +kernel⟩⟩
set_option maxRecDepth 20000 in
theorem lmL_28 : q_V RL 28 mX8_fault 0 := ⟨TB_at 921 (by decide +kernel) (by decide), ⟨TB_at 922 (by decide +kernel) (by decide), TB_at 923 (by decide +kernel) (by decide)⟩, lc_mX8_fault, ⟨by decide +kernel, by decide +kernel, by decide +kernel⟩⟩
set_option maxRecDepth 20000 in
theorem lmX8_117 : q_V RX8 117 mX8_token 0 := ⟨TB_at 925 (by decide +kernel) (by decide), ⟨TB_at 927 (by decide +kernel) (by decide), TB_at 18 (by decide +kernel) (by decide)⟩, lc_mX8_token, ⟨by decide +kernel, by decide +kernel, by decide +kernel⟩⟩
set_option maxRecDepth 20000 in
theorem lmX8_90 : q_S RX8 90 mX8_sort 1 := ⟨TB_at 929 (by decide +kernel) (by decide), TB_at 930 (by decide +kernel) (by decide), lc_mX8_sort, ⟨by decide +kernel, by decide +kernel, by decide +kernel⟩⟩
set_option maxRecDepth 20000 in
theorem lmX8_157 : q_V RX8 157 mX8_readsLine 0 := ⟨TB_at 932 (by decide +kernel) (by decide), ⟨TB_at 934 (by decide +kernel) (by decide), TB_at 19 (by decide +kernel) (by decide)⟩, lc_mX8_readsLine, ⟨by decide +kernel, by decide +kernel, by decide +kernel⟩⟩
set_option maxRecDepth 20000 in
theorem lmX8_141 : q_V RX8 141 mX8_wordOf 0 := ⟨TB_at 936 (by decide +kernel) (by decide), ⟨TB_at 938 (by decide +kernel) (by decide), TB_at 20 (by decide +kernel) (by decide)⟩, lc_mX8_wordOf, ⟨by decide +kernel, by decide +kernel, by decide +kernel⟩⟩
set_option maxRecDepth 20000 in
theorem lmX8_104 : q_V RX8 104 mX8_guestWord 0 := ⟨TB_at 940 (by decide +kernel) (by decide), ⟨TB_at 942 (by decide +kernel) (by decide), TB_at 21 (by decide +kernel) (by decide)⟩, lc_mX8_guestWord, ⟨by decide +kernel, by decide +kernel, by decide +kernel⟩⟩
theorem lkX8_97 : Cond.constant RX8 97 (14976400 : Int32) ∈ TB := TB_at 944 (by decide +kernel) (by decide)
set_option maxRecDepth 20000 in
theorem lmX8_98 : q_V RX8 98 mX8_isWord 2 := ⟨TB_at 945 (by decide +kernel) (by decide), ⟨TB_at 947 (by decide +kernel) (by decide), TB_at 22 (by decide +kernel) (by decide)⟩, lc_mX8_isWord, ⟨by decide +kernel, by decide +kernel, by decide +kernel⟩⟩
theorem lkX8_102 : Cond.constant RX8 102 (21439526 : Int32) ∈ TB := TB_at 949 (by decide +kernel) (by decide)
theorem lkX8_103 : Cond.constant RX8 103 (21675667 : Int32) ∈ TB := TB_at 950 (by decide +kernel) (by decide)
theorem lkX8_108 : Cond.constant RX8 108 (19170563 : Int32) ∈ TB := TB_at 951 (by decide +kernel) (by decide)
theorem lkX8_109 : Cond.constant RX8 109 (175156 : Int32) ∈ TB := TB_at 952 (by decide +kernel) (by decide)
theorem lkX8_110 : Cond.constant RX8 110 (843549166 : Int32) ∈ TB := TB_at 953 (by decide +kernel) (by decide)
set_option maxRecDepth 20000 in
theorem lmX8_144 : q_S RX8 144 mX8_isGuestWord 1 := ⟨TB_at 954 (by decide +kernel) (by decide), TB_at 955 (by decide +kernel) (by decide), lc_mX8_isGuestWord, ⟨by decide +kernel, by decide +kernel, by decide +kernel⟩⟩
theorem lkX8_137 : Cond.constantLong RX8 137 (3 : Int64) ∈ TB := TB_at 957 (by decide +kernel) (by decide)
theorem lkX8_139 : Cond.constantLong RX8 139 (6 : Int64) ∈ TB := TB_at 958 (by decide +kernel) (by decide)
set_option maxRecDepth 20000 in
theorem lmX8_151 : q_V RX8 151 mX8_readsRest 1 := ⟨TB_at 959 (by decide +kernel) (by decide), ⟨TB_at 961 (by decide +kernel) (by decide), TB_at 23 (by decide +kernel) (by decide)⟩, lc_mX8_readsRest, ⟨by decide +kernel, by decide +kernel, by decide +kernel⟩⟩
set_option maxRecDepth 20000 in
theorem lmX8_111 : q_V RX8 111 mX8_numberHere 0 := ⟨TB_at 963 (by decide +kernel) (by decide), ⟨TB_at 965 (by decide +kernel) (by decide), TB_at 24 (by decide +kernel) (by decide)⟩, lc_mX8_numberHere, ⟨by decide +kernel, by decide +kernel, by decide +kernel⟩⟩
set_option maxRecDepth 20000 in
theorem lmX8_123 : q_V RX8 123 mX8_reads 3 := ⟨TB_at 967 (by decide +kernel) (by decide), ⟨TB_at 969 (by decide +kernel) (by decide), TB_at 25 (by decide +kernel) (by decide)⟩, lc_mX8_reads, ⟨by decide +kernel, by decide +kernel, by decide +kernel⟩⟩
set_option maxRecDepth 20000 in
theorem lmX8_130 : q_S RX8 130 mX8_has 2 := ⟨TB_at 971 (by decide +kernel) (by decide), TB_at 972 (by decide +kernel) (by decide), lc_mX8_has, ⟨by decide +kernel, by decide +kernel, by decide +kernel⟩⟩
set_option maxRecDepth 20000 in
theorem lmX8_133 : q_V RX8 133 mX8_readsGuest 0 := ⟨TB_at 974 (by decide +kernel) (by decide), ⟨TB_at 976 (by decide +kernel) (by decide), TB_at 26 (by decide +kernel) (by decide)⟩, lc_mX8_readsGuest, ⟨by decide +kernel, by decide +kernel, by decide +kernel⟩⟩
set_option maxRecDepth 20000 in
theorem lmL_32 : q_V RL 32 mX8_inn 0 := ⟨TB_at 978 (by decide +kernel) (by decide), ⟨TB_at 979 (by decide +kernel) (by decide), TB_at 980 (by decide +kernel) (by decide)⟩, lc_mX8_inn, ⟨by decide +kernel, by decide +kernel, by decide +kernel⟩⟩
set_option maxRecDepth 20000 in
theorem lmX8_160 : q_V RX8 160 mX8_fault 0 := ⟨TB_at 982 (by decide +kernel) (by decide), ⟨TB_at 922 (by decide +kernel) (by decide), TB_at 923 (by decide +kernel) (by decide)⟩, lc_mX8_fault, ⟨by decide +kernel, by decide +kernel, by decide +kernel⟩⟩
set_option maxRecDepth 20000 in
theorem lmX8_163 : q_V RX8 163 mX8_tell 1 := ⟨TB_at 983 (by decide +kernel) (by decide), ⟨TB_at 985 (by decide +kernel) (by decide), TB_at 27 (by decide +kernel) (by decide)⟩, lc_mX8_tell, ⟨by decide +kernel, by decide +kernel, by decide +kernel⟩⟩
set_option maxRecDepth 20000 in
theorem lmL_37 : q_V RL 37 mX8_place 2 := ⟨TB_at 987 (by decide +kernel) (by decide), ⟨TB_at 988 (by decide +kernel) (by decide), TB_at 989 (by decide +kernel) (by decide)⟩, lc_mX8_place, ⟨by decide +kernel, by decide +kernel, by decide +kernel⟩⟩
set_option maxRecDepth 20000 in
theorem lmX8_170 : q_V RX8 170 mX8_isPlace 1 := ⟨TB_at 991 (by decide +kernel) (by decide), ⟨TB_at 993 (by decide +kernel) (by decide), TB_at 28 (by decide +kernel) (by decide)⟩, lc_mX8_isPlace, ⟨by decide +kernel, by decide +kernel, by decide +kernel⟩⟩
set_option maxRecDepth 20000 in
theorem lmL_41 : q_V RL 41 mX8_guest 2 := ⟨TB_at 995 (by decide +kernel) (by decide), ⟨TB_at 996 (by decide +kernel) (by decide), TB_at 997 (by decide +kernel) (by decide)⟩, lc_mX8_guest, ⟨by decide +kernel, by decide +kernel, by decide +kernel⟩⟩
set_option maxRecDepth 20000 in
theorem lmX8_173 : q_V RX8 173 mX8_isGuest 1 := ⟨TB_at 999 (by decide +kernel) (by decide), ⟨TB_at 1001 (by decide +kernel) (by decide), TB_at 29 (by decide +kernel) (by decide)⟩, lc_mX8_isGuest, ⟨by decide +kernel, by decide +kernel, by decide +kernel⟩⟩
set_option maxRecDepth 20000 in
theorem lmL_45 : q_V RL 45 mX8_as 2 := ⟨TB_at 1003 (by decide +kernel) (by decide), ⟨TB_at 1004 (by decide +kernel) (by decide), TB_at 1005 (by decide +kernel) (by decide)⟩, lc_mX8_as, ⟨by decide +kernel, by decide +kernel, by decide +kernel⟩⟩
theorem lkX8_180 : Cond.constantLong RX8 180 (4 : Int64) ∈ TB := TB_at 1007 (by decide +kernel) (by decide)
set_option maxRecDepth 20000 in
theorem lmX8_182 : q_V RX8 182 mX8_effort 3 := ⟨TB_at 1008 (by decide +kernel) (by decide), ⟨TB_at 1010 (by decide +kernel) (by decide), TB_at 30 (by decide +kernel) (by decide)⟩, lc_mX8_effort, ⟨by decide +kernel, by decide +kernel, by decide +kernel⟩⟩
set_option maxRecDepth 20000 in
theorem lmX8_176 : q_V RX8 176 mX8_far 2 := ⟨TB_at 1012 (by decide +kernel) (by decide), ⟨TB_at 1014 (by decide +kernel) (by decide), TB_at 31 (by decide +kernel) (by decide)⟩, lc_mX8_far, ⟨by decide +kernel, by decide +kernel, by decide +kernel⟩⟩
set_option maxRecDepth 20000 in
theorem lmL_50 : q_V RL 50 mX8_walk 1 := ⟨TB_at 1016 (by decide +kernel) (by decide), ⟨TB_at 1017 (by decide +kernel) (by decide), TB_at 1018 (by decide +kernel) (by decide)⟩, lc_mX8_walk, ⟨by decide +kernel, by decide +kernel, by decide +kernel⟩⟩
theorem lkX8_207 : Cond.constantLong RX8 207 (99 : Int64) ∈ TB := TB_at 1020 (by decide +kernel) (by decide)
set_option maxRecDepth 20000 in
theorem lmX8_209 : q_V RX8 209 mX8_walked 4 := ⟨TB_at 1021 (by decide +kernel) (by decide), ⟨TB_at 1023 (by decide +kernel) (by decide), TB_at 32 (by decide +kernel) (by decide)⟩, lc_mX8_walked, ⟨by decide +kernel, by decide +kernel, by decide +kernel⟩⟩
set_option maxRecDepth 20000 in
theorem lmL_54 : q_V RL 54 mX8_stop 0 := ⟨TB_at 1025 (by decide +kernel) (by decide), ⟨TB_at 1026 (by decide +kernel) (by decide), TB_at 1027 (by decide +kernel) (by decide)⟩, lc_mX8_stop, ⟨by decide +kernel, by decide +kernel, by decide +kernel⟩⟩
set_option maxRecDepth 20000 in
theorem lmX8_213 : q_V RX8 213 mX8_everybody 0 := ⟨TB_at 1029 (by decide +kernel) (by decide), ⟨TB_at 1031 (by decide +kernel) (by decide), TB_at 33 (by decide +kernel) (by decide)⟩, lc_mX8_everybody, ⟨by decide +kernel, by decide +kernel, by decide +kernel⟩⟩
set_option maxRecDepth 20000 in
theorem lmX8_216 : q_V RX8 216 mX8_stops 2 := ⟨TB_at 1033 (by decide +kernel) (by decide), ⟨TB_at 1035 (by decide +kernel) (by decide), TB_at 34 (by decide +kernel) (by decide)⟩, lc_mX8_stops, ⟨by decide +kernel, by decide +kernel, by decide +kernel⟩⟩
set_option maxRecDepth 20000 in
theorem lmX8_201 : q_V RX8 201 mX8_faint 0 := ⟨TB_at 1037 (by decide +kernel) (by decide), ⟨TB_at 1039 (by decide +kernel) (by decide), TB_at 35 (by decide +kernel) (by decide)⟩, lc_mX8_faint, ⟨by decide +kernel, by decide +kernel, by decide +kernel⟩⟩
set_option maxRecDepth 20000 in
theorem lmX8_204 : q_V RX8 204 mX8_seat 1 := ⟨TB_at 1041 (by decide +kernel) (by decide), ⟨TB_at 1043 (by decide +kernel) (by decide), TB_at 36 (by decide +kernel) (by decide)⟩, lc_mX8_seat, ⟨by decide +kernel, by decide +kernel, by decide +kernel⟩⟩
set_option maxRecDepth 20000 in
theorem lmX8_195 : q_V RX8 195 mX8_findsTwo 1 := ⟨TB_at 1045 (by decide +kernel) (by decide), ⟨TB_at 1047 (by decide +kernel) (by decide), TB_at 37 (by decide +kernel) (by decide)⟩, lc_mX8_findsTwo, ⟨by decide +kernel, by decide +kernel, by decide +kernel⟩⟩
set_option maxRecDepth 20000 in
theorem lmX8_198 : q_V RX8 198 mX8_takeSecond 1 := ⟨TB_at 1049 (by decide +kernel) (by decide), ⟨TB_at 1051 (by decide +kernel) (by decide), TB_at 38 (by decide +kernel) (by decide)⟩, lc_mX8_takeSecond, ⟨by decide +kernel, by decide +kernel, by decide +kernel⟩⟩
set_option maxRecDepth 20000 in
theorem lmX8_219 : q_S RX8 219 mX8_bits 1 := ⟨TB_at 1053 (by decide +kernel) (by decide), TB_at 1054 (by decide +kernel) (by decide), lc_mX8_bits, ⟨by decide +kernel, by decide +kernel, by decide +kernel⟩⟩
set_option maxRecDepth 20000 in
theorem lmL_58 : q_V RL 58 mX8_play 0 := ⟨TB_at 1056 (by decide +kernel) (by decide), ⟨TB_at 1057 (by decide +kernel) (by decide), TB_at 1058 (by decide +kernel) (by decide)⟩, lc_mX8_play, ⟨by decide +kernel, by decide +kernel, by decide +kernel⟩⟩
set_option maxRecDepth 20000 in
theorem lmL_62 : q_V RL 62 mX8_keep 1 := ⟨TB_at 1060 (by decide +kernel) (by decide), ⟨TB_at 1061 (by decide +kernel) (by decide), TB_at 1062 (by decide +kernel) (by decide)⟩, lc_mX8_keep, ⟨by decide +kernel, by decide +kernel, by decide +kernel⟩⟩
set_option maxRecDepth 20000 in
theorem lmX8_222 : q_V RX8 222 mX8_copy 2 := ⟨TB_at 1064 (by decide +kernel) (by decide), ⟨TB_at 1066 (by decide +kernel) (by decide), TB_at 39 (by decide +kernel) (by decide)⟩, lc_mX8_copy, ⟨by decide +kernel, by decide +kernel, by decide +kernel⟩⟩
set_option maxRecDepth 20000 in
theorem lmL_66 : q_V RL 66 mX8_back 1 := ⟨TB_at 1068 (by decide +kernel) (by decide), ⟨TB_at 1069 (by decide +kernel) (by decide), TB_at 1070 (by decide +kernel) (by decide)⟩, lc_mX8_back, ⟨by decide +kernel, by decide +kernel, by decide +kernel⟩⟩
set_option maxRecDepth 20000 in
theorem lmL_70 : q_V RL 70 mX8_standing 1 := ⟨TB_at 1072 (by decide +kernel) (by decide), ⟨TB_at 1073 (by decide +kernel) (by decide), TB_at 1074 (by decide +kernel) (by decide)⟩, lc_mX8_standing, ⟨by decide +kernel, by decide +kernel, by decide +kernel⟩⟩
set_option maxRecDepth 20000 in
theorem lmX8_229 : q_S RX8 229 mX8_isTime 1 := ⟨TB_at 1076 (by decide +kernel) (by decide), TB_at 1077 (by decide +kernel) (by decide), lc_mX8_isTime, ⟨by decide +kernel, by decide +kernel, by decide +kernel⟩⟩
set_option maxRecDepth 20000 in
theorem lmX8_232 : q_V RX8 232 mX8_standingAt 1 := ⟨TB_at 1079 (by decide +kernel) (by decide), ⟨TB_at 1081 (by decide +kernel) (by decide), TB_at 40 (by decide +kernel) (by decide)⟩, lc_mX8_standingAt, ⟨by decide +kernel, by decide +kernel, by decide +kernel⟩⟩
set_option maxRecDepth 20000 in
theorem lmX8_226 : q_V RX8 226 mX8_layAts 1 := ⟨TB_at 1083 (by decide +kernel) (by decide), ⟨TB_at 1085 (by decide +kernel) (by decide), TB_at 41 (by decide +kernel) (by decide)⟩, lc_mX8_layAts, ⟨by decide +kernel, by decide +kernel, by decide +kernel⟩⟩
set_option maxRecDepth 20000 in
theorem lmL_75 : q_V RL 75 mX8_odds 4 := ⟨TB_at 1087 (by decide +kernel) (by decide), ⟨TB_at 1088 (by decide +kernel) (by decide), TB_at 1089 (by decide +kernel) (by decide)⟩, lc_mX8_odds, ⟨by decide +kernel, by decide +kernel, by decide +kernel⟩⟩
set_option maxRecDepth 20000 in
theorem lmX8_235 : q_S RX8 235 mX8_isSpan 2 := ⟨TB_at 1091 (by decide +kernel) (by decide), TB_at 1092 (by decide +kernel) (by decide), lc_mX8_isSpan, ⟨by decide +kernel, by decide +kernel, by decide +kernel⟩⟩
set_option maxRecDepth 20000 in
theorem lmX8_238 : q_V RX8 238 mX8_minutesOf 3 := ⟨TB_at 1094 (by decide +kernel) (by decide), ⟨TB_at 1096 (by decide +kernel) (by decide), TB_at 42 (by decide +kernel) (by decide)⟩, lc_mX8_minutesOf, ⟨by decide +kernel, by decide +kernel, by decide +kernel⟩⟩
set_option maxRecDepth 20000 in
theorem lmL_79 : q_V RL 79 mX8_surest 4 := ⟨TB_at 1098 (by decide +kernel) (by decide), ⟨TB_at 1099 (by decide +kernel) (by decide), TB_at 1100 (by decide +kernel) (by decide)⟩, lc_mX8_surest, ⟨by decide +kernel, by decide +kernel, by decide +kernel⟩⟩
theorem lkX8_241 : Cond.constantLong RX8 241 (2 : Int64) ∈ TB := TB_at 1102 (by decide +kernel) (by decide)
set_option maxRecDepth 20000 in
theorem lmL_84 : q_V RL 84 mX8_still 3 := ⟨TB_at 1103 (by decide +kernel) (by decide), ⟨TB_at 1104 (by decide +kernel) (by decide), TB_at 1105 (by decide +kernel) (by decide)⟩, lc_mX8_still, ⟨by decide +kernel, by decide +kernel, by decide +kernel⟩⟩
set_option maxRecDepth 20000 in
theorem lmX8_243 : q_V RX8 243 mX8_savePaces 0 := ⟨TB_at 1107 (by decide +kernel) (by decide), ⟨TB_at 1109 (by decide +kernel) (by decide), TB_at 43 (by decide +kernel) (by decide)⟩, lc_mX8_savePaces, ⟨by decide +kernel, by decide +kernel, by decide +kernel⟩⟩
set_option maxRecDepth 20000 in
theorem lmX8_246 : q_V RX8 246 mX8_layStands 3 := ⟨TB_at 1111 (by decide +kernel) (by decide), ⟨TB_at 1113 (by decide +kernel) (by decide), TB_at 44 (by decide +kernel) (by decide)⟩, lc_mX8_layStands, ⟨by decide +kernel, by decide +kernel, by decide +kernel⟩⟩
set_option maxRecDepth 20000 in
theorem lmX8_250 : q_V RX8 250 mX8_restorePaces 0 := ⟨TB_at 1115 (by decide +kernel) (by decide), ⟨TB_at 1117 (by decide +kernel) (by decide), TB_at 45 (by decide +kernel) (by decide)⟩, lc_mX8_restorePaces, ⟨by decide +kernel, by decide +kernel, by decide +kernel⟩⟩
set_option maxRecDepth 20000 in
theorem lmX8_253 : q_V RX8 253 mX8_isStill 1 := ⟨TB_at 1119 (by decide +kernel) (by decide), ⟨TB_at 1121 (by decide +kernel) (by decide), TB_at 46 (by decide +kernel) (by decide)⟩, lc_mX8_isStill, ⟨by decide +kernel, by decide +kernel, by decide +kernel⟩⟩
set_option maxRecDepth 20000 in
theorem lmL_88 : q_V RL 88 mX8_plot 4 := ⟨TB_at 1123 (by decide +kernel) (by decide), ⟨TB_at 1124 (by decide +kernel) (by decide), TB_at 1125 (by decide +kernel) (by decide)⟩, lc_mX8_plot, ⟨by decide +kernel, by decide +kernel, by decide +kernel⟩⟩
set_option maxRecDepth 20000 in
theorem lmL_92 : q_V RL 92 mX8_price 1 := ⟨TB_at 1127 (by decide +kernel) (by decide), ⟨TB_at 1128 (by decide +kernel) (by decide), TB_at 1129 (by decide +kernel) (by decide)⟩, lc_mX8_price, ⟨by decide +kernel, by decide +kernel, by decide +kernel⟩⟩
set_option maxRecDepth 20000 in
theorem lmL_96 : q_V RL 96 mX8_laid 4 := ⟨TB_at 1131 (by decide +kernel) (by decide), ⟨TB_at 1132 (by decide +kernel) (by decide), TB_at 1133 (by decide +kernel) (by decide)⟩, lc_mX8_laid, ⟨by decide +kernel, by decide +kernel, by decide +kernel⟩⟩
set_option maxRecDepth 20000 in
theorem lmX8_256 : q_V RX8 256 mX8_apart 3 := ⟨TB_at 1135 (by decide +kernel) (by decide), ⟨TB_at 1137 (by decide +kernel) (by decide), TB_at 47 (by decide +kernel) (by decide)⟩, lc_mX8_apart, ⟨by decide +kernel, by decide +kernel, by decide +kernel⟩⟩
set_option maxRecDepth 20000 in
theorem lmL_100 : q_V RL 100 mX8_left 2 := ⟨TB_at 1139 (by decide +kernel) (by decide), ⟨TB_at 1140 (by decide +kernel) (by decide), TB_at 1141 (by decide +kernel) (by decide)⟩, lc_mX8_left, ⟨by decide +kernel, by decide +kernel, by decide +kernel⟩⟩
set_option maxRecDepth 20000 in
theorem lmX8_259 : q_S RX8 259 mX8_leastOf 1 := ⟨TB_at 1143 (by decide +kernel) (by decide), TB_at 1144 (by decide +kernel) (by decide), lc_mX8_leastOf, ⟨by decide +kernel, by decide +kernel, by decide +kernel⟩⟩
set_option maxRecDepth 20000 in
theorem lmL_104 : q_V RL 104 mX8_seen 2 := ⟨TB_at 1146 (by decide +kernel) (by decide), ⟨TB_at 1147 (by decide +kernel) (by decide), TB_at 1148 (by decide +kernel) (by decide)⟩, lc_mX8_seen, ⟨by decide +kernel, by decide +kernel, by decide +kernel⟩⟩
set_option maxRecDepth 20000 in
theorem lmL_108 : q_V RL 108 mX8_forget 0 := ⟨TB_at 1150 (by decide +kernel) (by decide), ⟨TB_at 1151 (by decide +kernel) (by decide), TB_at 1152 (by decide +kernel) (by decide)⟩, lc_mX8_forget, ⟨by decide +kernel, by decide +kernel, by decide +kernel⟩⟩
set_option maxRecDepth 20000 in
theorem lmL_112 : q_V RL 112 mX8_fits 1 := ⟨TB_at 1154 (by decide +kernel) (by decide), ⟨TB_at 1155 (by decide +kernel) (by decide), TB_at 1156 (by decide +kernel) (by decide)⟩, lc_mX8_fits, ⟨by decide +kernel, by decide +kernel, by decide +kernel⟩⟩
set_option maxRecDepth 20000 in
theorem lmL_116 : q_V RL 116 mX8_count 1 := ⟨TB_at 1158 (by decide +kernel) (by decide), ⟨TB_at 1159 (by decide +kernel) (by decide), TB_at 1160 (by decide +kernel) (by decide)⟩, lc_mX8_count, ⟨by decide +kernel, by decide +kernel, by decide +kernel⟩⟩
theorem lkL_13 : Cond.constantLong RL 13 (4294967295 : Int64) ∈ TB := TB_at 1162 (by decide +kernel) (by decide)
theorem ib0 : Cond.instantiable RX0 8 ∈ TB := TB_at 263 (by decide +kernel) (by decide)
theorem ii0 : Cond.initialized RX0 ∈ TB := TB_at 55 (by decide +kernel) (by decide)
theorem iw0 : ∀ w ∈ u_ws RX0 TX0 8, w ∈ TB := by
  have h : ∀ w ∈ u_ws RX0 TX0 8, w ∈ lw_tbl ∧ goodWord w = true := by decide +kernel
  exact fun w hw => List.mem_filter.mpr ⟨(h w hw).1, (h w hw).2⟩
theorem ib1 : Cond.instantiable RX1 7 ∈ TB := TB_at 231 (by decide +kernel) (by decide)
theorem ii1 : Cond.initialized RX1 ∈ TB := TB_at 54 (by decide +kernel) (by decide)
theorem iw1 : ∀ w ∈ u_ws RX1 TX1 7, w ∈ TB := by
  have h : ∀ w ∈ u_ws RX1 TX1 7, w ∈ lw_tbl ∧ goodWord w = true := by decide +kernel
  exact fun w hw => List.mem_filter.mpr ⟨(h w hw).1, (h w hw).2⟩
theorem ib2 : Cond.instantiable RX2 7 ∈ TB := TB_at 197 (by decide +kernel) (by decide)
theorem ii2 : Cond.initialized RX2 ∈ TB := TB_at 53 (by decide +kernel) (by decide)
theorem iw2 : ∀ w ∈ u_ws RX2 TX2 7, w ∈ TB := by
  have h : ∀ w ∈ u_ws RX2 TX2 7, w ∈ lw_tbl ∧ goodWord w = true := by decide +kernel
  exact fun w hw => List.mem_filter.mpr ⟨(h w hw).1, (h w hw).2⟩
theorem ib3 : Cond.instantiable RX3 6 ∈ TB := TB_at 167 (by decide +kernel) (by decide)
theorem ii3 : Cond.initialized RX3 ∈ TB := TB_at 52 (by decide +kernel) (by decide)
theorem iw3 : ∀ w ∈ u_ws RX3 TX3 6, w ∈ TB := by
  have h : ∀ w ∈ u_ws RX3 TX3 6, w ∈ lw_tbl ∧ goodWord w = true := by decide +kernel
  exact fun w hw => List.mem_filter.mpr ⟨(h w hw).1, (h w hw).2⟩
theorem ib4 : Cond.instantiable RX4 3 ∈ TB := TB_at 304 (by decide +kernel) (by decide)
theorem ii4 : Cond.initialized RX4 ∈ TB := TB_at 57 (by decide +kernel) (by decide)
theorem iw4 : ∀ w ∈ u_ws RX4 TX4 3, w ∈ TB := by
  have h : ∀ w ∈ u_ws RX4 TX4 3, w ∈ lw_tbl ∧ goodWord w = true := by decide +kernel
  exact fun w hw => List.mem_filter.mpr ⟨(h w hw).1, (h w hw).2⟩
theorem ib5 : Cond.instantiable RX5 8 ∈ TB := TB_at 131 (by decide +kernel) (by decide)
theorem ii5 : Cond.initialized RX5 ∈ TB := TB_at 51 (by decide +kernel) (by decide)
theorem iw5 : ∀ w ∈ u_ws RX5 TX5 8, w ∈ TB := by
  have h : ∀ w ∈ u_ws RX5 TX5 8, w ∈ lw_tbl ∧ goodWord w = true := by decide +kernel
  exact fun w hw => List.mem_filter.mpr ⟨(h w hw).1, (h w hw).2⟩
theorem ib6 : Cond.instantiable RX6 8 ∈ TB := TB_at 75 (by decide +kernel) (by decide)
theorem ii6 : Cond.initialized RX6 ∈ TB := TB_at 50 (by decide +kernel) (by decide)
theorem iw6 : ∀ w ∈ u_ws RX6 TX6 8, w ∈ TB := by
  have h : ∀ w ∈ u_ws RX6 TX6 8, w ∈ lw_tbl ∧ goodWord w = true := by decide +kernel
  exact fun w hw => List.mem_filter.mpr ⟨(h w hw).1, (h w hw).2⟩
theorem ib7 : Cond.instantiable RX7 9 ∈ TB := TB_at 67 (by decide +kernel) (by decide)
theorem ii7 : Cond.initialized RX7 ∈ TB := TB_at 49 (by decide +kernel) (by decide)
theorem iw7 : ∀ w ∈ u_ws RX7 TX7 9, w ∈ TB := by
  have h : ∀ w ∈ u_ws RX7 TX7 9, w ∈ lw_tbl ∧ goodWord w = true := by decide +kernel
  exact fun w hw => List.mem_filter.mpr ⟨(h w hw).1, (h w hw).2⟩
theorem ib8 : Cond.instantiable RX8 31 ∈ TB := TB_at 802 (by decide +kernel) (by decide)
theorem ii8 : Cond.initialized RX8 ∈ TB := TB_at 58 (by decide +kernel) (by decide)
theorem iw8 : ∀ w ∈ u_ws RX8 TX8 31, w ∈ TB := by
  have h : ∀ w ∈ u_ws RX8 TX8 31, w ∈ lw_tbl ∧ goodWord w = true := by decide +kernel
  exact fun w hw => List.mem_filter.mpr ⟨(h w hw).1, (h w hw).2⟩
end
section
/-! A PURE MACHINE over the cells that the law makes, numbered by their making: cell k lies at base + k. A pure heap is (references, ints). QW: the kit's W, over all contexts, at a pure state. -/
abbrev QH : Type := List (List (Option Nat)) × (Nat → Nat → Int32)
abbrev QG : Type := Launch × State × va_G × (ClassId × ClassId) × (Nat → Nat) × Nat × (Nat → Int32)
def q_l (g : QG) : Launch := g.1
def q_s (g : QG) : State := g.2.1
def q_D0 (g : QG) : va_G := g.2.2.1
def q_cI (g : QG) : ClassId := g.2.2.2.1.1
def q_cZ (g : QG) : ClassId := g.2.2.2.1.2
def q_o (g : QG) : Nat → Nat := g.2.2.2.2.1
def q_L (g : QG) : Nat := g.2.2.2.2.2.1
def q_x (g : QG) : Nat → Int32 := g.2.2.2.2.2.2
def q_b (g : QG) : Nat := (q_s g).heap.size
abbrev q_y (md : MD) : MethodName := md.1
abbrev q_c (md : MD) : ByteArray := md.2.1
abbrev q_n (md : MD) : Nat := md.2.2.1
abbrev q_t (md : MD) : Option FieldType := md.2.2.2.1
abbrev q_r (md : MD) : Room := md.2.2.2.2
def q_w (md : MD) : List Cond := Cond.code (q_y md) (q_c md) (q_n md) (q_t md) :: TB
/-- a pure value's real one -/
def q_tv (g : QG) (v : Value) : Value := match v with
  | .ref k => .ref (if k < 1000 then q_b g + k else q_o g k)
  | v => v
def q_isR (ci j : Nat) : Bool := (rtab.getD ci []).getD j false
def q_fld (g : QG) (ph : QH) (k ci : Nat) : List Value := (List.range ((CL.getD ci ("", TX0, 0)).2.2)).map (fun j => if q_isR ci j = true then va_rf (((ph.1.getD k []).getD j none).map (fun q => q_b g + q)) else .int (ph.2 k j))
def q_cel (g : QG) (ph : QH) (k : Nat) : va_E := match (shp.getD k (9, 0)).1 with
  | 0 => .inl (q_cI g, (shp.getD k (9, 0)).2, .inl (ph.2 k))
  | 1 => .inl (q_cZ g, (shp.getD k (9, 0)).2, .inl (ph.2 k))
  | _ => .inr ((shp.getD k (9, 0)).2, q_fld g ph k (shp.getD k (9, 0)).2)
def q_pw (g : QG) (ph : QH) : va_W := (List.range ph.1.length).map (fun k => (q_b g + k, q_cel g ph k))
def q_A (g : QG) : Nat → Prop := fun q => q_b g ≤ q
abbrev q_T (g : QG) : List (ClassId × FieldType) := [(q_cI g, .int), (q_cZ g, .boolean)]
theorem q_pw_at {g : QG} {ph : QH} {k : Nat} (h : k < ph.1.length) : (q_pw g ph)[k]? = some (q_b g + k, q_cel g ph k) := by
  unfold q_pw
  rw [List.getElem?_map, List.getElem?_range h]
  rfl
theorem q_pw_D (g : QG) (ph : QH) : va_D (q_A g) (q_pw g ph) := by
  have key : ∀ (k : Nat) (q : Nat × va_E), (q_pw g ph)[k]? = some q → q.1 = q_b g + k := by
    intro k q hk
    unfold q_pw at hk
    rw [List.getElem?_map] at hk
    by_cases h : k < ph.1.length
    · rw [List.getElem?_range h] at hk
      cases hk
      rfl
    · rw [List.getElem?_eq_none (by rw [List.length_range]; omega)] at hk
      cases hk
  refine ⟨fun i j p q hi hj e => ?_, fun k q hk => ?_⟩
  · have := key i p hi
    have := key j q hj
    omega
  · show q_b g ≤ q.1
    rw [key k q hk]
    omega
/-- one cell changed -/
theorem q_pw_set {g : QG} {ph ph' : QH} {k : Nat} {E : va_E} (hl : ph'.1.length = ph.1.length) (hk : k < ph.1.length) (he : q_cel g ph' k = E) (ho : ∀ j, j ≠ k → q_cel g ph' j = q_cel g ph j) : (q_pw g ph).set k (q_b g + k, E) = q_pw g ph' := by
  apply List.ext_getElem?
  intro j
  by_cases hj : j = k
  · subst hj
    rw [List.getElem?_set_self (by unfold q_pw; simpa using hk), q_pw_at (by omega), he]
  · rw [List.getElem?_set_ne (Ne.symm hj)]
    by_cases h : j < ph.1.length
    · rw [q_pw_at h, q_pw_at (by omega), ho j hj]
    · rw [List.getElem?_eq_none (by unfold q_pw; simpa using h), List.getElem?_eq_none (by unfold q_pw; rw [List.length_map, List.length_range, hl]; omega)]
theorem q_pw_push {g : QG} {ph ph' : QH} {E : va_E} (hl : ph'.1.length = ph.1.length + 1) (he : q_cel g ph' ph.1.length = E) (ho : ∀ j, j < ph.1.length → q_cel g ph' j = q_cel g ph j) : q_pw g ph ++ [(q_b g + ph.1.length, E)] = q_pw g ph' := by
  apply List.ext_getElem?
  intro j
  have hlen : (q_pw g ph).length = ph.1.length := by unfold q_pw; simp
  by_cases h : j < ph.1.length
  · rw [List.getElem?_append_left (by omega), q_pw_at h, q_pw_at (by omega), ho j h]
  · rw [List.getElem?_append_right (by omega), hlen]
    by_cases h2 : j = ph.1.length
    · subst h2
      rw [Nat.sub_self, q_pw_at (by omega), he]
      rfl
    · rw [List.getElem?_eq_none (by simp; omega), List.getElem?_eq_none (by unfold q_pw; rw [List.length_map, List.length_range, hl]; omega)]
/-- ints of a heap, one changed -/
def q_up (h : Nat → Nat → Int32) (k j : Nat) (v : Int32) : Nat → Nat → Int32 := fun q => if q = k then upd (h k) j v else h q
def q_upA (h : Nat → Nat → Int32) (k : Nat) (f : Nat → Int32) : Nat → Nat → Int32 := fun q => if q = k then f else h q
/-- the String constants: their places in Text's pool, texts, lengths, bytes; String i is the old cell 2000 + i, its bytes 3000 + i -/
def q_strI : List Nat := [65, 74, 80, 82, 93, 95, 97, 99]
def q_strT : List String := ["inn", "chair", "take", "nobody", "plain", "sly", "faint", "stout"]
def q_strL : List Nat := [3, 5, 4, 6, 5, 3, 5, 5]
def q_strB : List (List Int32) := [[105, 110, 110], [99, 104, 97, 105, 114], [116, 97, 107, 101], [110, 111, 98, 111, 100, 121], [112, 108, 97, 105, 110], [115, 108, 121], [102, 97, 105, 110, 116], [115, 116, 111, 117, 116]]
def q_Str (g : QG) : Prop := (∀ i : Nat, i < 8 → vk_R RX5 (q_strI.getD i 0) (q_strT.getD i "") (q_o g (2000 + i)) (q_s g)) ∧ vk_S 8 q_strL q_strB (fun i => q_o g (2000 + i)) (fun i => q_o g (3000 + i)) (q_A g) (q_s g) (q_s g).heap ∧ va_Z "java/lang/String" "COMPACT_STRINGS" "Z" (.int 1) (q_A g) (q_s g) (q_s g).heap
/-- the tables' words that a nest mate's link needs -/
def q_GN (g : QG) : Prop := ∀ w ∈ lw_tbl, ∀ a i y h, w = Cond.methodLinkNest a i y h → va_Nw w (q_s g)
def QOK (g : QG) : Prop := va_K (q_D0 g) CL (q_T g) (q_s g) ∧ q_GN g ∧ va_X (q_o g 1000) (q_L g) (q_x g) (q_s g) (q_s g).heap ∧ q_o g 1000 < q_b g ∧ q_Str g
def QHR (g : QG) (ph : QH) (s : State) (H : Heap) (locs : List Loc) : Prop := (ph.1.length < 61 → H.size = q_b g + ph.1.length) ∧ (∀ q : Nat, q < q_b g → H[q]? = (q_s g).heap[q]?) ∧ (∀ q ∈ locs, q_b g ≤ q.base) ∧ va_P (q_D0 g) CL (q_pw g ph) H ∧ s.heap.size ≤ H.size
def QEnt (g : QG) (ph : QH) (U : State) : Prop := (q_s g).WarmedH U.vm ∧ QHR g ph U U.heap []
def QCx (g : QG) (md : MD) (p : Program) (s : State) (m : MethodId) (args : Array Value) (meth : Method) (c : Code) : Prop :=
  p.tables.exec = Jvm.exec ∧ c.code = q_c md ∧ meth.sig.returnType = q_t md ∧ c.maxLocals = q_n md ∧ s.vm.findClass (q_y md).cls = some m.cls ∧ (∀ w ∈ TB, w.before args s = true) ∧ meth.locks = false ∧ meth.name = (q_y md).name ∧ (q_s g).WarmedH s.vm ∧ (∀ q : Nat, q < q_b g → s.heap[q]? = (q_s g).heap[q]?) ∧ q_b g ≤ s.heap.size
def QLR (g : QG) (ls : Array Slot) (nL : Nat) (l : List (Option Value)) : Prop := ls.size = nL ∧ lv_wf ls ∧ ∀ (i : Nat) (v : Value), l[i]? = some (some v) → ls[i]? = some (.val (q_tv g v))
def QRet (g : QG) (md : MD) (p : Program) (e : Env) (s : State) (m : MethodId) (args : Array Value) (below : List Frame) (meth : Method) (c : Code) (Q : State → Prop) (K : Option Int32 → QH → Prop) : Prop :=
  ∀ (ph : QH) (H : Heap) (locs : List Loc) (ls : Array Slot) (pc : Nat) (v : Option Int32), QHR g ph s H locs → K v ph → (match v with | none => q_t md = none ∧ decode (q_c md) pc = .ok (.return_, 1) | some x => (∃ ty, q_t md = some ty ∧ narrow ty (.int x) = .int x) ∧ decode (q_c md) pc = .ok (.ireturn, 1)) →
    W p (q_l g) e (q_r md) s m args below meth c H locs (q_r md).cells (q_r md).slots Q (F0 m pc ls (v.toList.map Value.int))
def QW (g : QG) (md : MD) (pc : Nat) (l : List (Option Value)) (st : List Value) (ph : QH) (ce sl : Nat) (K : Option Int32 → QH → Prop) : Prop :=
  ∀ (p : Program) (e : Env) (s : State) (m : MethodId) (args : Array Value) (below : List Frame) (meth : Method) (c : Code) (H : Heap) (locs : List Loc) (ls : Array Slot) (Q : State → Prop),
    QOK g → QCx g md p s m args meth c → QHR g ph s H locs → QLR g ls (q_n md) l → QRet g md p e s m args below meth c Q K →
    W p (q_l g) e (q_r md) s m args below meth c H locs ce sl Q (F0 m pc ls (st.map (q_tv g)))
/-- a method's call -/
def QC (g : QG) (md : MD) (av : List Value) (ph : QH) (K : Option Int32 → QH → Prop) : Prop :=
  QOK g → Met (q_l g) (q_y md) (q_w md) (q_r md) (va_Pc (av.map (q_tv g)) (QEnt g ph)) (fun _ st o t => ∃ (v : Option Int32) (ph' : QH), o = .returned (v.map Value.int) ∧ K v ph' ∧ QEnt g ph' t ∧ st.heap.size ≤ t.heap.size) (q_r md).cells (q_r md).slots (q_A g)
end
section
/-! the pure machine's rows: an instruction, a row -/
section QWr
variable {g : QG} {md : MD} {pc : Nat} {l : List (Option Value)} {st : List Value} {ph : QH} {ce sl : Nat} {K : Option Int32 → QH → Prop}
theorem QW.go {pc2 : Nat} {st2 : List Value} (h : ∀ (p : Program) (e : Env) (s : State) (m : MethodId) (args : Array Value) (below : List Frame) (meth : Method) (c : Code) (H : Heap) (locs : List Loc) (ls : Array Slot) (Q : State → Prop), p.tables.exec = Jvm.exec → c.code = q_c md → (∀ (i : Nat) (v : Value), l[i]? = some (some v) → ls[i]? = some (.val (q_tv g v))) → W p (q_l g) e (q_r md) s m args below meth c H locs ce sl Q (F0 m pc2 ls (st2.map (q_tv g))) → W p (q_l g) e (q_r md) s m args below meth c H locs ce sl Q (F0 m pc ls (st.map (q_tv g))))
    (k : QW g md pc2 l st2 ph ce sl K) : QW g md pc l st ph ce sl K := fun p e s m args below meth c H locs ls Q h1 h2 h3 h4 h5 => h p e s m args below meth c H locs ls Q h2.1 h2.2.1 h4.2.2 (k p e s m args below meth c H locs ls Q h1 h2 h3 h4 h5)
/-- the same, with the tables' words -/
theorem QW.goT {pc2 : Nat} {st2 : List Value} (h : ∀ (p : Program) (e : Env) (s : State) (m : MethodId) (args : Array Value) (below : List Frame) (meth : Method) (c : Code) (H : Heap) (locs : List Loc) (ls : Array Slot) (Q : State → Prop), QOK g → QCx g md p s m args meth c → QHR g ph s H locs → ls.size = q_n md → W p (q_l g) e (q_r md) s m args below meth c H locs ce sl Q (F0 m pc2 ls (st2.map (q_tv g))) → W p (q_l g) e (q_r md) s m args below meth c H locs ce sl Q (F0 m pc ls (st.map (q_tv g))))
    (k : QW g md pc2 l st2 ph ce sl K) : QW g md pc l st ph ce sl K := fun p e s m args below meth c H locs ls Q h1 h2 h3 h4 h5 => h p e s m args below meth c H locs ls Q h1 h2 h3 h4.1 (k p e s m args below meth c H locs ls Q h1 h2 h3 h4 h5)

theorem QW.iconst {n : Int} (v : Int32) (hv : Int32.ofInt n = v) (hd : decode (q_c md) pc = .ok (.iconst n, 1)) (k : QW g md (pc + 1) l (.int v :: st) ph ce sl K) : QW g md pc l (st) ph ce sl K := QW.go (fun _ _ _ _ _ _ _ _ _ _ _ _ hx hb hl w => lv_iconst hx hb hd hv w) k
theorem QW.bipush {n : Int} (v : Int32) (hv : (Int8.ofInt n).toInt32 = v) (hd : decode (q_c md) pc = .ok (.bipush n, 2)) (k : QW g md (pc + 2) l (.int v :: st) ph ce sl K) : QW g md pc l (st) ph ce sl K := QW.go (fun _ _ _ _ _ _ _ _ _ _ _ _ hx hb hl w => lv_bipush hx hb hd hv w) k
theorem QW.sipush {n : Int} (v : Int32) (hv : (Int16.ofInt n).toInt32 = v) (hd : decode (q_c md) pc = .ok (.sipush n, 3)) (k : QW g md (pc + 3) l (.int v :: st) ph ce sl K) : QW g md pc l (st) ph ce sl K := QW.go (fun _ _ _ _ _ _ _ _ _ _ _ _ hx hb hl w => lv_sipush hx hb hd hv w) k
theorem QW.lconst {n : Fin 2} (v : Int64) (hv : Int64.ofNat (n : Nat) = v) (hd : decode (q_c md) pc = .ok (.lconst n, 1)) (k : QW g md (pc + 1) l (.long v :: st) ph ce sl K) : QW g md pc l (st) ph ce sl K := QW.go (fun _ _ _ _ _ _ _ _ _ _ _ _ hx hb hl w => lv_lconst hx hb hd hv w) k
theorem QW.iload_n {k : Fin 4} {x : Int32} (hd : decode (q_c md) pc = .ok (.iload_n k, 1)) (h0 : l[(k : Nat)]? = some (some (.int x))) (k : QW g md (pc + 1) l (.int x :: st) ph ce sl K) : QW g md pc l (st) ph ce sl K := QW.go (fun _ _ _ _ _ _ _ _ _ _ _ _ hx hb hl w => lv_iload_n hx hb hd rfl (hl _ _ h0) w) k
theorem QW.iload {k : Nat} {x : Int32} (hd : decode (q_c md) pc = .ok (.iload k, 2)) (h0 : l[(k : Nat)]? = some (some (.int x))) (k : QW g md (pc + 2) l (.int x :: st) ph ce sl K) : QW g md pc l (st) ph ce sl K := QW.go (fun _ _ _ _ _ _ _ _ _ _ _ _ hx hb hl w => lv_iload hx hb hd (hl _ _ h0) w) k
theorem QW.lload_n {k : Fin 4} {x : Int64} (hd : decode (q_c md) pc = .ok (.lload_n k, 1)) (h0 : l[(k : Nat)]? = some (some (.long x))) (k : QW g md (pc + 1) l (.long x :: st) ph ce sl K) : QW g md pc l (st) ph ce sl K := QW.go (fun _ _ _ _ _ _ _ _ _ _ _ _ hx hb hl w => lv_lload_n hx hb hd rfl (hl _ _ h0) w) k
theorem QW.lload {k : Nat} {x : Int64} (hd : decode (q_c md) pc = .ok (.lload k, 2)) (h0 : l[(k : Nat)]? = some (some (.long x))) (k : QW g md (pc + 2) l (.long x :: st) ph ce sl K) : QW g md pc l (st) ph ce sl K := QW.go (fun _ _ _ _ _ _ _ _ _ _ _ _ hx hb hl w => lv_lload hx hb hd (hl _ _ h0) w) k
theorem QW.aload_n {k : Fin 4} {x : Nat} (hd : decode (q_c md) pc = .ok (.aload_n k, 1)) (h0 : l[(k : Nat)]? = some (some (.ref x))) (k : QW g md (pc + 1) l (.ref x :: st) ph ce sl K) : QW g md pc l (st) ph ce sl K := QW.go (fun _ _ _ _ _ _ _ _ _ _ _ _ hx hb hl w => lv_aload_n hx hb hd rfl (hl _ _ h0) w) k
theorem QW.aload {k : Nat} {x : Nat} (hd : decode (q_c md) pc = .ok (.aload k, 2)) (h0 : l[(k : Nat)]? = some (some (.ref x))) (k : QW g md (pc + 2) l (.ref x :: st) ph ce sl K) : QW g md pc l (st) ph ce sl K := QW.go (fun _ _ _ _ _ _ _ _ _ _ _ _ hx hb hl w => lv_aload hx hb hd (hl _ _ h0) w) k
theorem QW.iadd {x y : Int32} (hd : decode (q_c md) pc = .ok (.iadd, 1)) (k : QW g md (pc + 1) l (.int (x + y) :: st) ph ce sl K) : QW g md pc l (.int y :: .int x :: st) ph ce sl K := QW.go (fun _ _ _ _ _ _ _ _ _ _ _ _ hx hb hl w => lv_iadd hx hb hd w) k
theorem QW.isub {x y : Int32} (hd : decode (q_c md) pc = .ok (.isub, 1)) (k : QW g md (pc + 1) l (.int (x - y) :: st) ph ce sl K) : QW g md pc l (.int y :: .int x :: st) ph ce sl K := QW.go (fun _ _ _ _ _ _ _ _ _ _ _ _ hx hb hl w => lv_isub hx hb hd w) k
theorem QW.imul {x y : Int32} (hd : decode (q_c md) pc = .ok (.imul, 1)) (k : QW g md (pc + 1) l (.int (x * y) :: st) ph ce sl K) : QW g md pc l (.int y :: .int x :: st) ph ce sl K := QW.go (fun _ _ _ _ _ _ _ _ _ _ _ _ hx hb hl w => lv_imul hx hb hd w) k
theorem QW.iand {x y : Int32} (hd : decode (q_c md) pc = .ok (.iand, 1)) (k : QW g md (pc + 1) l (.int (x &&& y) :: st) ph ce sl K) : QW g md pc l (.int y :: .int x :: st) ph ce sl K := QW.go (fun _ _ _ _ _ _ _ _ _ _ _ _ hx hb hl w => lv_iand hx hb hd w) k
theorem QW.ior {x y : Int32} (hd : decode (q_c md) pc = .ok (.ior, 1)) (k : QW g md (pc + 1) l (.int (x ||| y) :: st) ph ce sl K) : QW g md pc l (.int y :: .int x :: st) ph ce sl K := QW.go (fun _ _ _ _ _ _ _ _ _ _ _ _ hx hb hl w => lv_ior hx hb hd w) k
theorem QW.ixor {x y : Int32} (hd : decode (q_c md) pc = .ok (.ixor, 1)) (k : QW g md (pc + 1) l (.int (x ^^^ y) :: st) ph ce sl K) : QW g md pc l (.int y :: .int x :: st) ph ce sl K := QW.go (fun _ _ _ _ _ _ _ _ _ _ _ _ hx hb hl w => lv_ixor hx hb hd w) k
theorem QW.ishl {x y : Int32} (hd : decode (q_c md) pc = .ok (.ishl, 1)) (k : QW g md (pc + 1) l (.int (x <<< (y &&& 31)) :: st) ph ce sl K) : QW g md pc l (.int y :: .int x :: st) ph ce sl K := QW.go (fun _ _ _ _ _ _ _ _ _ _ _ _ hx hb hl w => lv_ishl hx hb hd w) k
theorem QW.ishr {x y : Int32} (hd : decode (q_c md) pc = .ok (.ishr, 1)) (k : QW g md (pc + 1) l (.int (x >>> (y &&& 31)) :: st) ph ce sl K) : QW g md pc l (.int y :: .int x :: st) ph ce sl K := QW.go (fun _ _ _ _ _ _ _ _ _ _ _ _ hx hb hl w => lv_ishr hx hb hd w) k
theorem QW.idiv {x y : Int32} (hne : ¬ y = 0) (hd : decode (q_c md) pc = .ok (.idiv, 1)) (k : QW g md (pc + 1) l (.int (x / y) :: st) ph ce sl K) : QW g md pc l (.int y :: .int x :: st) ph ce sl K := QW.go (fun _ _ _ _ _ _ _ _ _ _ _ _ hx hb hl w => lv_idiv hx hb hd hne w) k
theorem QW.irem {x y : Int32} (hne : ¬ y = 0) (hd : decode (q_c md) pc = .ok (.irem, 1)) (k : QW g md (pc + 1) l (.int (x - x / y * y) :: st) ph ce sl K) : QW g md pc l (.int y :: .int x :: st) ph ce sl K := QW.go (fun _ _ _ _ _ _ _ _ _ _ _ _ hx hb hl w => lv_irem hx hb hd hne w) k
theorem QW.ineg {x : Int32} (hd : decode (q_c md) pc = .ok (.ineg, 1)) (k : QW g md (pc + 1) l (.int (-x) :: st) ph ce sl K) : QW g md pc l (.int x :: st) ph ce sl K := QW.go (fun _ _ _ _ _ _ _ _ _ _ _ _ hx hb hl w => lv_ineg hx hb hd w) k
theorem QW.iushr {x y : Int32} (hd : decode (q_c md) pc = .ok (.iushr, 1)) (k : QW g md (pc + 1) l (.int ((x.toUInt32 >>> (y.toUInt32 &&& Int32.toUInt32 31)).toInt32) :: st) ph ce sl K) : QW g md pc l (.int y :: .int x :: st) ph ce sl K := QW.go (fun _ _ _ _ _ _ _ _ _ _ _ _ hx hb hl w => lv_iushr hx hb hd rfl w) k
theorem QW.land {x y : Int64} (hd : decode (q_c md) pc = .ok (.land, 1)) (k : QW g md (pc + 1) l (.long (x &&& y) :: st) ph ce sl K) : QW g md pc l (.long y :: .long x :: st) ph ce sl K := QW.go (fun _ _ _ _ _ _ _ _ _ _ _ _ hx hb hl w => lv_land hx hb hd w) k
theorem QW.lor {x y : Int64} (hd : decode (q_c md) pc = .ok (.lor, 1)) (k : QW g md (pc + 1) l (.long (x ||| y) :: st) ph ce sl K) : QW g md pc l (.long y :: .long x :: st) ph ce sl K := QW.go (fun _ _ _ _ _ _ _ _ _ _ _ _ hx hb hl w => lv_lor hx hb hd w) k
theorem QW.lshl {x : Int64} {y : Int32} (hd : decode (q_c md) pc = .ok (.lshl, 1)) (k : QW g md (pc + 1) l (.long (x <<< (y.toInt64 &&& 63)) :: st) ph ce sl K) : QW g md pc l (.int y :: .long x :: st) ph ce sl K := QW.go (fun _ _ _ _ _ _ _ _ _ _ _ _ hx hb hl w => lv_lshl hx hb hd rfl w) k
theorem QW.lshr {x : Int64} {y : Int32} (hd : decode (q_c md) pc = .ok (.lshr, 1)) (k : QW g md (pc + 1) l (.long (x >>> (y.toInt64 &&& 63)) :: st) ph ce sl K) : QW g md pc l (.int y :: .long x :: st) ph ce sl K := QW.go (fun _ _ _ _ _ _ _ _ _ _ _ _ hx hb hl w => lv_lshr hx hb hd rfl w) k
theorem QW.lcmp {x y : Int64} (hd : decode (q_c md) pc = .ok (.lcmp, 1)) (k : QW g md (pc + 1) l (.int (lg_cmp x y) :: st) ph ce sl K) : QW g md pc l (.long y :: .long x :: st) ph ce sl K := QW.go (fun _ _ _ _ _ _ _ _ _ _ _ _ hx hb hl w => W.lcmp hx hb hd w) k
theorem QW.i2l {x : Int32} (hd : decode (q_c md) pc = .ok (.i2l, 1)) (k : QW g md (pc + 1) l (.long x.toInt64 :: st) ph ce sl K) : QW g md pc l (.int x :: st) ph ce sl K := QW.go (fun _ _ _ _ _ _ _ _ _ _ _ _ hx hb hl w => lv_i2l hx hb hd rfl w) k
theorem QW.l2i {x : Int64} (hd : decode (q_c md) pc = .ok (.l2i, 1)) (k : QW g md (pc + 1) l (.int x.toInt32 :: st) ph ce sl K) : QW g md pc l (.long x :: st) ph ce sl K := QW.go (fun _ _ _ _ _ _ _ _ _ _ _ _ hx hb hl w => lv_l2i hx hb hd rfl w) k
theorem QW.i2c {x : Int32} (hd : decode (q_c md) pc = .ok (.i2c, 1)) (k : QW g md (pc + 1) l (.int (x.toUInt32 % 65536).toInt32 :: st) ph ce sl K) : QW g md pc l (.int x :: st) ph ce sl K := QW.go (fun _ _ _ _ _ _ _ _ _ _ _ _ hx hb hl w => lv_i2c hx hb hd rfl w) k
theorem QW.dupi {x : Int32} (hd : decode (q_c md) pc = .ok (.dup, 1)) (k : QW g md (pc + 1) l (.int x :: .int x :: st) ph ce sl K) : QW g md pc l (.int x :: st) ph ce sl K := QW.go (fun _ _ _ _ _ _ _ _ _ _ _ _ hx hb hl w => lv_dup hx hb hd rfl w) k
theorem QW.dupr {x : Nat} (hd : decode (q_c md) pc = .ok (.dup, 1)) (k : QW g md (pc + 1) l (.ref x :: .ref x :: st) ph ce sl K) : QW g md pc l (.ref x :: st) ph ce sl K := QW.go (fun _ _ _ _ _ _ _ _ _ _ _ _ hx hb hl w => lv_dup hx hb hd rfl w) k
theorem QW.popi {x : Int32} (hd : decode (q_c md) pc = .ok (.pop, 1)) (k : QW g md (pc + 1) l (st) ph ce sl K) : QW g md pc l (.int x :: st) ph ce sl K := QW.go (fun _ _ _ _ _ _ _ _ _ _ _ _ hx hb hl w => lv_pop hx hb hd rfl w) k
theorem QW.dup2ir {x : Int32} {y : Nat} (hd : decode (q_c md) pc = .ok (.dup2, 1)) (k : QW g md (pc + 1) l (.int x :: .ref y :: .int x :: .ref y :: st) ph ce sl K) : QW g md pc l (.int x :: .ref y :: st) ph ce sl K := QW.go (fun _ _ _ _ _ _ _ _ _ _ _ _ hx hb hl w => lv_dup2_11 hx hb hd rfl rfl w) k
theorem QW.if_eq {x : Int32} {off : Int} (tgt : Nat) (hd : decode (q_c md) pc = .ok (.ifCond .eq off, 3)) (ht : (pc : Int) + off = (tgt : Int)) (kt : x = 0 → QW g md tgt l st ph ce sl K) (kf : ¬ x = 0 → QW g md (pc + 3) l st ph ce sl K) : QW g md pc l (.int x :: st) ph ce sl K := fun p e s m args below meth c H locs ls Q h1 h2 h3 h4 h5 => lv_if_eq h2.1 h2.2.1 hd ht (fun z => kt z p e s m args below meth c H locs ls Q h1 h2 h3 h4 h5) (fun z => kf z p e s m args below meth c H locs ls Q h1 h2 h3 h4 h5)
theorem QW.icmp_eq {x y : Int32} {off : Int} (tgt : Nat) (hd : decode (q_c md) pc = .ok (.if_icmp .eq off, 3)) (ht : (pc : Int) + off = (tgt : Int)) (kt : x = y → QW g md tgt l st ph ce sl K) (kf : ¬ x = y → QW g md (pc + 3) l st ph ce sl K) : QW g md pc l (.int y :: .int x :: st) ph ce sl K := fun p e s m args below meth c H locs ls Q h1 h2 h3 h4 h5 => lv_icmp_eq h2.1 h2.2.1 hd ht (fun z => kt z p e s m args below meth c H locs ls Q h1 h2 h3 h4 h5) (fun z => kf z p e s m args below meth c H locs ls Q h1 h2 h3 h4 h5)
theorem QW.if_ne {x : Int32} {off : Int} (tgt : Nat) (hd : decode (q_c md) pc = .ok (.ifCond .ne off, 3)) (ht : (pc : Int) + off = (tgt : Int)) (kt : ¬ x = 0 → QW g md tgt l st ph ce sl K) (kf : x = 0 → QW g md (pc + 3) l st ph ce sl K) : QW g md pc l (.int x :: st) ph ce sl K := fun p e s m args below meth c H locs ls Q h1 h2 h3 h4 h5 => lv_if_ne h2.1 h2.2.1 hd ht (fun z => kt z p e s m args below meth c H locs ls Q h1 h2 h3 h4 h5) (fun z => kf z p e s m args below meth c H locs ls Q h1 h2 h3 h4 h5)
theorem QW.icmp_ne {x y : Int32} {off : Int} (tgt : Nat) (hd : decode (q_c md) pc = .ok (.if_icmp .ne off, 3)) (ht : (pc : Int) + off = (tgt : Int)) (kt : ¬ x = y → QW g md tgt l st ph ce sl K) (kf : x = y → QW g md (pc + 3) l st ph ce sl K) : QW g md pc l (.int y :: .int x :: st) ph ce sl K := fun p e s m args below meth c H locs ls Q h1 h2 h3 h4 h5 => lv_icmp_ne h2.1 h2.2.1 hd ht (fun z => kt z p e s m args below meth c H locs ls Q h1 h2 h3 h4 h5) (fun z => kf z p e s m args below meth c H locs ls Q h1 h2 h3 h4 h5)
theorem QW.if_lt {x : Int32} {off : Int} (tgt : Nat) (hd : decode (q_c md) pc = .ok (.ifCond .lt off, 3)) (ht : (pc : Int) + off = (tgt : Int)) (kt : x < 0 → QW g md tgt l st ph ce sl K) (kf : ¬ x < 0 → QW g md (pc + 3) l st ph ce sl K) : QW g md pc l (.int x :: st) ph ce sl K := fun p e s m args below meth c H locs ls Q h1 h2 h3 h4 h5 => lv_if_lt h2.1 h2.2.1 hd ht (fun z => kt z p e s m args below meth c H locs ls Q h1 h2 h3 h4 h5) (fun z => kf z p e s m args below meth c H locs ls Q h1 h2 h3 h4 h5)
theorem QW.icmp_lt {x y : Int32} {off : Int} (tgt : Nat) (hd : decode (q_c md) pc = .ok (.if_icmp .lt off, 3)) (ht : (pc : Int) + off = (tgt : Int)) (kt : x < y → QW g md tgt l st ph ce sl K) (kf : ¬ x < y → QW g md (pc + 3) l st ph ce sl K) : QW g md pc l (.int y :: .int x :: st) ph ce sl K := fun p e s m args below meth c H locs ls Q h1 h2 h3 h4 h5 => lv_icmp_lt h2.1 h2.2.1 hd ht (fun z => kt z p e s m args below meth c H locs ls Q h1 h2 h3 h4 h5) (fun z => kf z p e s m args below meth c H locs ls Q h1 h2 h3 h4 h5)
theorem QW.if_ge {x : Int32} {off : Int} (tgt : Nat) (hd : decode (q_c md) pc = .ok (.ifCond .ge off, 3)) (ht : (pc : Int) + off = (tgt : Int)) (kt : 0 ≤ x → QW g md tgt l st ph ce sl K) (kf : ¬ 0 ≤ x → QW g md (pc + 3) l st ph ce sl K) : QW g md pc l (.int x :: st) ph ce sl K := fun p e s m args below meth c H locs ls Q h1 h2 h3 h4 h5 => lv_if_ge h2.1 h2.2.1 hd ht (fun z => kt z p e s m args below meth c H locs ls Q h1 h2 h3 h4 h5) (fun z => kf z p e s m args below meth c H locs ls Q h1 h2 h3 h4 h5)
theorem QW.icmp_ge {x y : Int32} {off : Int} (tgt : Nat) (hd : decode (q_c md) pc = .ok (.if_icmp .ge off, 3)) (ht : (pc : Int) + off = (tgt : Int)) (kt : y ≤ x → QW g md tgt l st ph ce sl K) (kf : ¬ y ≤ x → QW g md (pc + 3) l st ph ce sl K) : QW g md pc l (.int y :: .int x :: st) ph ce sl K := fun p e s m args below meth c H locs ls Q h1 h2 h3 h4 h5 => lv_icmp_ge h2.1 h2.2.1 hd ht (fun z => kt z p e s m args below meth c H locs ls Q h1 h2 h3 h4 h5) (fun z => kf z p e s m args below meth c H locs ls Q h1 h2 h3 h4 h5)
theorem QW.if_gt {x : Int32} {off : Int} (tgt : Nat) (hd : decode (q_c md) pc = .ok (.ifCond .gt off, 3)) (ht : (pc : Int) + off = (tgt : Int)) (kt : 0 < x → QW g md tgt l st ph ce sl K) (kf : ¬ 0 < x → QW g md (pc + 3) l st ph ce sl K) : QW g md pc l (.int x :: st) ph ce sl K := fun p e s m args below meth c H locs ls Q h1 h2 h3 h4 h5 => lv_if_gt h2.1 h2.2.1 hd ht (fun z => kt z p e s m args below meth c H locs ls Q h1 h2 h3 h4 h5) (fun z => kf z p e s m args below meth c H locs ls Q h1 h2 h3 h4 h5)
theorem QW.icmp_gt {x y : Int32} {off : Int} (tgt : Nat) (hd : decode (q_c md) pc = .ok (.if_icmp .gt off, 3)) (ht : (pc : Int) + off = (tgt : Int)) (kt : y < x → QW g md tgt l st ph ce sl K) (kf : ¬ y < x → QW g md (pc + 3) l st ph ce sl K) : QW g md pc l (.int y :: .int x :: st) ph ce sl K := fun p e s m args below meth c H locs ls Q h1 h2 h3 h4 h5 => lv_icmp_gt h2.1 h2.2.1 hd ht (fun z => kt z p e s m args below meth c H locs ls Q h1 h2 h3 h4 h5) (fun z => kf z p e s m args below meth c H locs ls Q h1 h2 h3 h4 h5)
theorem QW.if_le {x : Int32} {off : Int} (tgt : Nat) (hd : decode (q_c md) pc = .ok (.ifCond .le off, 3)) (ht : (pc : Int) + off = (tgt : Int)) (kt : x ≤ 0 → QW g md tgt l st ph ce sl K) (kf : ¬ x ≤ 0 → QW g md (pc + 3) l st ph ce sl K) : QW g md pc l (.int x :: st) ph ce sl K := fun p e s m args below meth c H locs ls Q h1 h2 h3 h4 h5 => lv_if_le h2.1 h2.2.1 hd ht (fun z => kt z p e s m args below meth c H locs ls Q h1 h2 h3 h4 h5) (fun z => kf z p e s m args below meth c H locs ls Q h1 h2 h3 h4 h5)
theorem QW.icmp_le {x y : Int32} {off : Int} (tgt : Nat) (hd : decode (q_c md) pc = .ok (.if_icmp .le off, 3)) (ht : (pc : Int) + off = (tgt : Int)) (kt : x ≤ y → QW g md tgt l st ph ce sl K) (kf : ¬ x ≤ y → QW g md (pc + 3) l st ph ce sl K) : QW g md pc l (.int y :: .int x :: st) ph ce sl K := fun p e s m args below meth c H locs ls Q h1 h2 h3 h4 h5 => lv_icmp_le h2.1 h2.2.1 hd ht (fun z => kt z p e s m args below meth c H locs ls Q h1 h2 h3 h4 h5) (fun z => kf z p e s m args below meth c H locs ls Q h1 h2 h3 h4 h5)
theorem QW.goto {off : Int} (tgt : Nat) (hd : decode (q_c md) pc = .ok (.goto off, 3)) (ht : (pc : Int) + off = (tgt : Int)) (k : QW g md tgt l st ph ce sl K) : QW g md pc l st ph ce sl K := QW.go (fun _ _ _ _ _ _ _ _ _ _ _ _ hx hb hl w => lv_goto hx hb hd ht w) k
theorem QW.tabIn {dflt lo hi : Int} {offs : Array Int} {len : Nat} {x : Int32} {off : Int} (tgt : Nat) (hd : decode (q_c md) pc = .ok (.tableswitch dflt lo hi offs, len)) (h1 : ¬ x.toInt < lo) (h2 : ¬ hi < x.toInt) (ho : offs[(x.toInt - lo).toNat]? = some off) (ht : (pc : Int) + off = (tgt : Int)) (k : QW g md tgt l st ph ce sl K) : QW g md pc l (.int x :: st) ph ce sl K := QW.go (fun _ _ _ _ _ _ _ _ _ _ _ _ hx hb hl w => lv_tableIn hx hb hd h1 h2 ho ht w) k
theorem QW.tabOut {dflt lo hi : Int} {offs : Array Int} {len : Nat} {x : Int32} (tgt : Nat) (hd : decode (q_c md) pc = .ok (.tableswitch dflt lo hi offs, len)) (h : x.toInt < lo ∨ hi < x.toInt) (ht : (pc : Int) + dflt = (tgt : Int)) (k : QW g md tgt l st ph ce sl K) : QW g md pc l (.int x :: st) ph ce sl K := QW.go (fun _ _ _ _ _ _ _ _ _ _ _ _ hx hb hl w => lv_tableOut hx hb hd h ht w) k
/-- the known locals as the kit has them -/
def q_asc (g : QG) (l : List (Option Value)) : List (Nat × Value) := (List.range l.length).filterMap (fun i => (l.getD i none).map (fun v => (i, q_tv g v)))
theorem q_asc_mem {g : QG} {l : List (Option Value)} {i : Nat} {w : Value} : (i, w) ∈ q_asc g l ↔ ∃ v, l[i]? = some (some v) ∧ w = q_tv g v := by
  unfold q_asc
  rw [List.mem_filterMap]
  constructor
  · rintro ⟨j, hj, h⟩
    rw [List.getD_eq_getElem?_getD] at h
    cases hv : l[j]? with
    | none => rw [hv] at h; cases h
    | some o =>
      rw [hv] at h
      cases o with
      | none => cases h
      | some v =>
        cases h
        exact ⟨v, hv, rfl⟩
  · rintro ⟨v, hv, rfl⟩
    refine ⟨i, List.mem_range.mpr (List.getElem?_eq_some_iff.mp hv).1, ?_⟩
    rw [List.getD_eq_getElem?_getD, hv]
    rfl
theorem QLR.has {ls : Array Slot} {nL : Nat} (h : QLR g ls nL l) : lv_has ls nL (q_asc g l) := ⟨h.1, h.2.1, fun q hq => by
  obtain ⟨v, h1, h2⟩ := q_asc_mem.mp (show (q.1, q.2) ∈ q_asc g l from hq)
  rw [h2]
  exact h.2.2 q.1 v h1⟩
/-- no long lies just ahead of place i -/
def q_okst (l : List (Option Value)) (i : Nat) : Bool := match i with
  | 0 => true
  | i + 1 => match l[i]? with
    | some (some v) => v.category == 1
    | _ => true
theorem q_tv_cat (g : QG) (v : Value) : (q_tv g v).category = v.category := by cases v <;> rfl
theorem QLR.store {ls : Array Slot} {nL i : Nat} {v : Value} (ho : q_okst l i = true) (h : lv_has ls nL ((i, q_tv g v) :: (q_asc g l).filter (fun q => !(q.1 == i) && !(q.1 + 1 == i && q.2.category == 2)))) : QLR g ls nL (l.set i (some v)) := by
  refine ⟨h.1, h.2.1, fun j w hj => ?_⟩
  by_cases e : j = i
  · subst e
    have hl : j < l.length := by
      have := (List.getElem?_eq_some_iff.mp hj).1
      simpa using this
    rw [List.getElem?_set_self hl] at hj
    cases hj
    exact h.2.2 (j, q_tv g v) List.mem_cons_self
  · rw [List.getElem?_set_ne (Ne.symm e)] at hj
    refine h.2.2 (j, q_tv g w) (List.mem_cons_of_mem _ (List.mem_filter.mpr ⟨q_asc_mem.mpr ⟨w, hj, rfl⟩, ?_⟩))
    have h1 : (j == i) = false := by simpa using e
    by_cases e2 : j + 1 = i
    · subst e2
      simp only [q_okst, hj] at ho
      have hc : w.category = 1 := by simpa using ho
      simp [q_tv_cat, hc]
    · have h2 : (j + 1 == i) = false := by simpa using e2
      simp [h1, h2]

theorem QW.istore_n {k : Fin 4} {x : Int32} (l2 : List (Option Value)) (hd : decode (q_c md) pc = .ok (.istore_n k, 1)) (hn : (k : Nat) < q_n md) (ho : q_okst l (k : Nat) = true) (hl2 : l.set (k : Nat) (some (.int x)) = l2) (kk : QW g md (pc + 1) l2 st ph ce sl K) : QW g md pc l (.int x :: st) ph ce sl K := fun p e s m args below meth c H locs ls Q h1 h2 h3 h4 h5 => lv_istore_n h2.1 h2.2.1 hd rfl h4.has hn rfl (fun ls2 hl3 => kk p e s m args below meth c H locs ls2 Q h1 h2 h3 (hl2 ▸ QLR.store (v := .int x) ho hl3) h5)
theorem QW.istore {k : Nat} {x : Int32} (l2 : List (Option Value)) (hd : decode (q_c md) pc = .ok (.istore k, 2)) (hn : (k : Nat) < q_n md) (ho : q_okst l (k : Nat) = true) (hl2 : l.set (k : Nat) (some (.int x)) = l2) (kk : QW g md (pc + 2) l2 st ph ce sl K) : QW g md pc l (.int x :: st) ph ce sl K := fun p e s m args below meth c H locs ls Q h1 h2 h3 h4 h5 => lv_istore h2.1 h2.2.1 hd h4.has hn rfl (fun ls2 hl3 => kk p e s m args below meth c H locs ls2 Q h1 h2 h3 (hl2 ▸ QLR.store (v := .int x) ho hl3) h5)
theorem QW.astore_n {k : Fin 4} {x : Nat} (l2 : List (Option Value)) (hd : decode (q_c md) pc = .ok (.astore_n k, 1)) (hn : (k : Nat) < q_n md) (ho : q_okst l (k : Nat) = true) (hl2 : l.set (k : Nat) (some (.ref x)) = l2) (kk : QW g md (pc + 1) l2 st ph ce sl K) : QW g md pc l (.ref x :: st) ph ce sl K := fun p e s m args below meth c H locs ls Q h1 h2 h3 h4 h5 => lv_astore_n h2.1 h2.2.1 hd rfl h4.has hn rfl (fun ls2 hl3 => kk p e s m args below meth c H locs ls2 Q h1 h2 h3 (hl2 ▸ QLR.store (v := .ref x) ho hl3) h5)
theorem QW.astore {k : Nat} {x : Nat} (l2 : List (Option Value)) (hd : decode (q_c md) pc = .ok (.astore k, 2)) (hn : (k : Nat) < q_n md) (ho : q_okst l (k : Nat) = true) (hl2 : l.set (k : Nat) (some (.ref x)) = l2) (kk : QW g md (pc + 2) l2 st ph ce sl K) : QW g md pc l (.ref x :: st) ph ce sl K := fun p e s m args below meth c H locs ls Q h1 h2 h3 h4 h5 => lv_astore h2.1 h2.2.1 hd h4.has hn rfl (fun ls2 hl3 => kk p e s m args below meth c H locs ls2 Q h1 h2 h3 (hl2 ▸ QLR.store (v := .ref x) ho hl3) h5)
theorem QW.iinc {i : Nat} {n : Int} {x : Int32} (v : Int32) (l2 : List (Option Value)) (hd : decode (q_c md) pc = .ok (.iinc i n, 3)) (h0 : l[i]? = some (some (.int x))) (hv : x + Int32.ofInt n = v) (hn : i < q_n md) (ho : q_okst l i = true) (hl2 : l.set i (some (.int v)) = l2) (kk : QW g md (pc + 3) l2 st ph ce sl K) : QW g md pc l st ph ce sl K := fun p e s m args below meth c H locs ls Q h1 h2 h3 h4 h5 => by
  obtain ⟨k, hk⟩ := List.getElem?_of_mem (q_asc_mem (g := g).mpr ⟨_, h0, rfl⟩)
  exact lv_iinc h2.1 h2.2.1 hd h4.has hk hv hn rfl (fun ls2 hl3 => kk p e s m args below meth c H locs ls2 Q h1 h2 h3 (hl2 ▸ QLR.store (v := .int v) ho hl3) h5)
/-- fewer locals known -/
def q_le : List (Option Value) → List (Option Value) → Prop
  | [], _ => True
  | none :: a, _ :: b => q_le a b
  | some v :: a, w :: b => w = some v ∧ q_le a b
  | _, [] => False
theorem q_le_at : ∀ {a b : List (Option Value)}, q_le a b → ∀ (i : Nat) (v : Value), a[i]? = some (some v) → b[i]? = some (some v)
  | [], _, _, i, v, h => by simp at h
  | none :: a, x :: b, hl, 0, v, h => by simp at h
  | none :: a, x :: b, hl, i + 1, v, h => by
    rw [List.getElem?_cons_succ] at h ⊢
    exact q_le_at (a := a) (b := b) hl i v h
  | some w :: a, x :: b, hl, 0, v, h => by
    rw [List.getElem?_cons_zero] at h ⊢
    rw [hl.1]
    exact h
  | some w :: a, x :: b, hl, i + 1, v, h => by
    rw [List.getElem?_cons_succ] at h ⊢
    exact q_le_at (a := a) (b := b) hl.2 i v h
  | none :: a, [], hl, i, v, h => hl.elim
  | some w :: a, [], hl, i, v, h => hl.elim
theorem QW.sub {l2 : List (Option Value)} (h : q_le l2 l) (k : QW g md pc l2 st ph ce sl K) : QW g md pc l st ph ce sl K := fun p e s m args below meth c H locs ls Q h1 h2 h3 h4 h5 => k p e s m args below meth c H locs ls Q h1 h2 h3 ⟨h4.1, h4.2.1, fun i v hv => h4.2.2 i v (q_le_at h i v hv)⟩ h5
theorem QW.mono {K2 : Option Int32 → QH → Prop} (h : ∀ v ph2, K v ph2 → K2 v ph2) (k : QW g md pc l st ph ce sl K) : QW g md pc l st ph ce sl K2 := fun p e s m args below meth c H locs ls Q h1 h2 h3 h4 h5 => k p e s m args below meth c H locs ls Q h1 h2 h3 h4 (fun ph2 H2 locs2 ls2 pc2 v a b c2 => h5 ph2 H2 locs2 ls2 pc2 v a (h v ph2 b) c2)
end QWr
end
section
/-! rows that read and write the pure heap; a method's entry and end -/
theorem q_clw : ∀ (ci : Nat) (C : String) (T : u_T) (N : Nat), CL[ci]? = some (C, T, N) → ∀ w ∈ u_ws C T N, w ∈ TB
  | 0, _, _, _, h => by cases h; exact iw0
  | 1, _, _, _, h => by cases h; exact iw1
  | 2, _, _, _, h => by cases h; exact iw2
  | 3, _, _, _, h => by cases h; exact iw3
  | 4, _, _, _, h => by cases h; exact iw4
  | 5, _, _, _, h => by cases h; exact iw5
  | 6, _, _, _, h => by cases h; exact iw6
  | 7, _, _, _, h => by cases h; exact iw7
  | 8, _, _, _, h => by cases h; exact iw8
  | n + 9, _, _, _, h => by simp at h
def q_ty (ci : Nat) : Nat → FieldType := [tyX0, tyX1, tyX2, tyX3, tyX4, tyX5, tyX6, tyX7, tyX8].getD ci tyX0
theorem q_clt : ∀ (ci : Nat) (C : String) (T : u_T) (N : Nat), CL[ci]? = some (C, T, N) → ∀ k, k < N → parseFieldDescriptor (T k).2.2.1 = some (q_ty ci k)
  | 0, _, _, _, h => by cases h; exact tyX0_ok
  | 1, _, _, _, h => by cases h; exact tyX1_ok
  | 2, _, _, _, h => by cases h; exact tyX2_ok
  | 3, _, _, _, h => by cases h; exact tyX3_ok
  | 4, _, _, _, h => by cases h; exact tyX4_ok
  | 5, _, _, _, h => by cases h; exact tyX5_ok
  | 6, _, _, _, h => by cases h; exact tyX6_ok
  | 7, _, _, _, h => by cases h; exact tyX7_ok
  | 8, _, _, _, h => by cases h; exact tyX8_ok
  | n + 9, _, _, _, h => by simp at h
theorem q_cln : ∀ (ci : Nat) (C : String) (T : u_T) (N : Nat), CL[ci]? = some (C, T, N) → ∀ a, a < N → ∀ b, b < N → a ≠ b → (T a).2.1 ≠ (T b).2.1
  | 0, _, _, _, h => by cases h; exact nmX0
  | 1, _, _, _, h => by cases h; exact nmX1
  | 2, _, _, _, h => by cases h; exact nmX2
  | 3, _, _, _, h => by cases h; exact nmX3
  | 4, _, _, _, h => by cases h; exact nmX4
  | 5, _, _, _, h => by cases h; exact nmX5
  | 6, _, _, _, h => by cases h; exact nmX6
  | 7, _, _, _, h => by cases h; exact nmX7
  | 8, _, _, _, h => by cases h; exact nmX8
  | n + 9, _, _, _, h => by simp at h
theorem q_shp_lt {k a b : Nat} (h : shp.getD k (9, 0) = (a, b)) (ha : a ≠ 9) : k < 61 := by
  rcases Nat.lt_or_ge k 61 with h1 | h1
  · exact h1
  · rw [List.getD_eq_getElem?_getD, List.getElem?_eq_none (show shp.length ≤ k from h1)] at h
    cases h
    exact absurd rfl ha
theorem q_tvr (g : QG) {k : Nat} (h : k < 61) : q_tv g (.ref k) = .ref (q_b g + k) := by
  show Value.ref (if k < 1000 then q_b g + k else q_o g k) = _
  rw [if_pos (by omega)]
theorem q_cel_o {g : QG} {ph : QH} {k ci : Nat} (h : shp.getD k (9, 0) = (2, ci)) : q_cel g ph k = .inr (ci, q_fld g ph k ci) := by
  unfold q_cel; rw [h]; rfl
theorem q_cel_i {g : QG} {ph : QH} {k n : Nat} (h : shp.getD k (9, 0) = (0, n)) : q_cel g ph k = .inl (q_cI g, n, .inl (ph.2 k)) := by
  unfold q_cel; rw [h]; rfl
theorem q_cel_z {g : QG} {ph : QH} {k n : Nat} (h : shp.getD k (9, 0) = (1, n)) : q_cel g ph k = .inl (q_cZ g, n, .inl (ph.2 k)) := by
  unfold q_cel; rw [h]; rfl
theorem q_fld_len {g : QG} {ph : QH} {k ci : Nat} {C : String} {T : u_T} {N : Nat} (hc : CL[ci]? = some (C, T, N)) : (q_fld g ph k ci).length = N := by
  unfold q_fld
  rw [List.length_map, List.length_range, List.getD_eq_getElem?_getD, hc]
  rfl
theorem q_fld_i {g : QG} {ph : QH} {k ci j : Nat} {C : String} {T : u_T} {N : Nat} (hc : CL[ci]? = some (C, T, N)) (hj : j < N) (hr : q_isR ci j = false) : (q_fld g ph k ci)[j]? = some (.int (ph.2 k j)) := by
  unfold q_fld
  rw [List.getElem?_map, List.getElem?_range (by rw [List.getD_eq_getElem?_getD, hc]; exact hj)]
  simp [hr]
theorem q_fld_r {g : QG} {ph : QH} {k ci j q : Nat} {C : String} {T : u_T} {N : Nat} (hc : CL[ci]? = some (C, T, N)) (hj : j < N) (hr : q_isR ci j = true) (hq : (ph.1.getD k []).getD j none = some q) : (q_fld g ph k ci)[j]? = some (.ref (q_b g + q)) := by
  unfold q_fld
  rw [List.getElem?_map, List.getElem?_range (by rw [List.getD_eq_getElem?_getD, hc]; exact hj)]
  simp only [Option.map_some, hr, if_true, hq]
  rfl
section QWh
variable {g : QG} {md : MD} {pc : Nat} {l : List (Option Value)} {st : List Value} {ph : QH} {ce sl : Nat} {K : Option Int32 → QH → Prop}
theorem q_vK {p : Program} {s : State} {m : MethodId} {args : Array Value} {meth : Method} {c : Code} (h1 : QOK g) (h2 : QCx g md p s m args meth c) : va_K (q_D0 g) CL (q_T g) s := va_K.moved h2.2.2.2.2.2.2.2.2.1.alike h1.1
theorem q_vS {p : Program} {s : State} {m : MethodId} {args : Array Value} {meth : Method} {c : Code} {H : Heap} {locs : List Loc} (h2 : QCx g md p s m args meth c) (h3 : QHR g ph s H locs) : va_S (q_A g) s.heap H locs := by
  refine ⟨h3.2.2.2.2, fun q _ hq => ?_, h3.2.2.1⟩
  have hq' : q < q_b g := Nat.not_le.mp hq
  rw [h3.2.1 q hq', h2.2.2.2.2.2.2.2.2.2.1 q hq']
theorem QW.getI {idx k j ci : Nat} (hd : decode (q_c md) pc = .ok (.getfield idx, 3)) (hf : q_F (q_y md).cls idx ci j) (hk : k < ph.1.length) (hs : shp.getD k (9, 0) = (2, ci)) (hr : q_isR ci j = false) (kk : QW g md (pc + 3) l (.int (ph.2 k j) :: st) ph ce sl K) : QW g md pc l (.ref k :: st) ph ce sl K := by
  obtain ⟨C, T, N, hc, hj, hw⟩ := hf
  refine QW.goT (fun p e s m args below meth c H locs ls Q h1 h2 h3 hls w => ?_) kk
  rw [List.map_cons, q_tvr g (q_shp_lt hs (by decide))]
  exact va_get h2.1 h2.2.1 h2.2.2.2.2.2.1 (q_clw ci C T N hc) h2.2.2.2.2.1 (q_vK h1 h2) h3.2.2.2.1 k (by rw [q_pw_at hk, q_cel_o hs]) hc j hj (h2.2.2.2.2.2.1 _ hw) (fun _ h => h) (q_fld_i hc hj hr) hd w
theorem QW.getR {idx k j ci q : Nat} (hd : decode (q_c md) pc = .ok (.getfield idx, 3)) (hf : q_F (q_y md).cls idx ci j) (hk : k < ph.1.length) (hs : shp.getD k (9, 0) = (2, ci)) (hr : q_isR ci j = true) (hq : (ph.1.getD k []).getD j none = some q) (hq61 : q < 61) (kk : QW g md (pc + 3) l (.ref q :: st) ph ce sl K) : QW g md pc l (.ref k :: st) ph ce sl K := by
  obtain ⟨C, T, N, hc, hj, hw⟩ := hf
  refine QW.goT (fun p e s m args below meth c H locs ls Q h1 h2 h3 hls w => ?_) kk
  rw [List.map_cons, q_tvr g (q_shp_lt hs (by decide))]
  rw [List.map_cons, q_tvr g hq61] at w
  exact va_get h2.1 h2.2.1 h2.2.2.2.2.2.1 (q_clw ci C T N hc) h2.2.2.2.2.1 (q_vK h1 h2) h3.2.2.2.1 k (by rw [q_pw_at hk, q_cel_o hs]) hc j hj (h2.2.2.2.2.2.1 _ hw) (fun _ h => h) (q_fld_r hc hj hr hq) hd w
/-- a field's new value: the world behind it -/
theorem q_putw {p : Program} {e : Env} {s : State} {m : MethodId} {args : Array Value} {below : List Frame} {meth : Method} {c : Code} {H : Heap} {locs : List Loc} {ls : Array Slot} {Q : State → Prop} {idx k j ci : Nat} {v : Value} {rest : List Value} (ph2 : QH) (hd : decode (q_c md) pc = .ok (.putfield idx, 3)) (hf : q_F (q_y md).cls idx ci j) (hk : k < ph.1.length) (hs : shp.getD k (9, 0) = (2, ci)) (hn : narrow (q_ty ci j) v = v) (hfit : fits (q_ty ci j) v = true)
    (hfin : ((CL.getD ci ("", TX0, 0)).2.1 j).2.2.2 = false ∨ (((CL.getD ci ("", TX0, 0)).2.1 j).2.2.2 = true ∧ (q_y md).name = "<init>" ∧ ((CL.getD ci ("", TX0, 0)).2.1 j).1 = (q_y md).cls))
    (hl2 : ph2.1.length = ph.1.length) (hc2 : q_cel g ph2 k = .inr (ci, (q_fld g ph k ci).set j v)) (ho2 : ∀ q, q ≠ k → q_cel g ph2 q = q_cel g ph q) (h1 : QOK g) (h2 : QCx g md p s m args meth c) (h3 : QHR g ph s H locs)
    (kk : ∀ (H2 : Heap) (locs2 : List Loc), QHR g ph2 s H2 locs2 → W p (q_l g) e (q_r md) s m args below meth c H2 locs2 ce sl Q (F0 m (pc + 3) ls rest)) : W p (q_l g) e (q_r md) s m args below meth c H locs ce sl Q (F0 m pc ls (v :: .ref (q_b g + k) :: rest)) := by
  obtain ⟨C, T, N, hc, hj, hw⟩ := hf
  have hT : (CL.getD ci ("", TX0, 0)).2.1 = T := by rw [List.getD_eq_getElem?_getD, hc]; rfl
  rw [hT] at hfin
  have hK := q_vK h1 h2
  have hts := h2.2.2.2.2.2.1
  have he : (q_pw g ph)[k]? = some (q_b g + k, .inr (ci, q_fld g ph k ci)) := by rw [q_pw_at hk, q_cel_o hs]
  have hap := va_apart (own := (q_y md).cls) hts (q_clw ci C T N hc) (q_ty ci) (q_clt ci C T N hc) (q_cln ci C T N hc) hK hc
  obtain ⟨r, x1, cell, y1, y2, y3, y4⟩ := h3.2.2.2.1 k _ he
  have hr : r = (C, T, N) := Option.some.inj (x1.symm.trans hc)
  subst hr
  obtain ⟨hSl, hfc, kC, hkC, hkind⟩ := hK.1 ci _ hc
  obtain ⟨cf, kf, fi, f, hi, hsl⟩ := hSl j hj
  have hst := (u_facts hfc hkC (u_lays hts (q_clw ci C T N hc) hj) hi).1
  have hlay := hts _ (q_clw ci C T N hc _ (u_in_lay hj))
  unfold u_lay at hlay
  have fin : ∀ H2 : Heap, H2[q_b g + k]? = some (cell.setSlot f.slot v) → H2.size = H.size → (∀ q, q ≠ q_b g + k → H2[q]? = H[q]?) → QHR g ph2 s H2 (locs ++ [⟨q_b g + k, f.slot⟩]) := by
    intro H2 e1 e2 e3
    refine ⟨fun hlt => by rw [e2, hl2]; exact h3.1 (by omega), fun q hq => by rw [e3 q (by omega)]; exact h3.2.1 q hq, fun q hq => ?_, ?_, by rw [e2]; exact h3.2.2.2.2⟩
    · rcases List.mem_append.mp hq with h | h
      · exact h3.2.2.1 q h
      · rw [List.mem_singleton.mp h]
        show q_b g ≤ q_b g + k
        omega
    · rw [← q_pw_set hl2 hk hc2 ho2]
      refine h3.2.2.2.1.set (q_pw_D g ph) he ?_ e3
      rw [hsl] at e1
      exact ⟨_, hc, t_OB.to (V := updV (vp_V (q_fld g ph k ci)) j v) ⟨_, e1, y2, y3, t_set y4 hap hj v⟩ (fun i _ => vp_updV_set (by rw [q_fld_len hc]; exact hj) v i)⟩
  have hpd := q_clt ci C T N hc j hj
  rcases hfin with hfin | ⟨hfin, hin, hdecl⟩
  · rw [if_neg (by rw [hfin]; decide)] at hlay
    have h6 := u_store hfc hkC hkind hlay hi hpd hn hfit
    exact W.putK h2.1 h2.2.1 (f := f) ⟨h2.2.2.2.2.1, hts _ hw, ⟨_, _, _, hi⟩, hst⟩ (by rw [y2]; exact h6) y1 y3 (by rw [hsl]; exact k2_hasslot (y4 j hj)) rfl rfl hd fun H2 e1 e2 e3 => kk H2 _ (fin H2 e1 e2 e3)
  · rw [if_pos hfin] at hlay
    have hcf : m.cls = cf := by
      obtain ⟨_, _, c', _, _, _, -, -, hf', -, -, -, hown2, -⟩ := Cond.laysFinal_spec hlay
      have e1 : c' = cf := by have := hi.symm.trans hf'; simp at this; exact this.1.symm
      rw [hdecl] at hown2
      rw [← e1]; exact Option.some.inj (h2.2.2.2.2.1.symm.trans hown2)
    have h6 := u_fits hfc hkC hkind (Or.inr hlay) hi hpd hn hfit
    exact W.putFinK h2.1 h2.2.1 h2.2.2.2.2.1 (hts _ hw) hi hst hcf (by rw [h2.2.2.2.2.2.2.2.1]; exact hin) (by rw [y2]; exact h6) y1 y3 (by rw [hsl]; exact k2_hasslot (y4 j hj)) rfl rfl hd fun H2 e1 e2 e3 => kk H2 _ (fin H2 e1 e2 e3)
theorem q_fld_set {k ci j : Nat} {v : Int32} {C : String} {T : u_T} {N : Nat} (hc : CL[ci]? = some (C, T, N)) (hr : q_isR ci j = false) : q_fld g (ph.1, q_up ph.2 k j v) k ci = (q_fld g ph k ci).set j (.int v) := by
  apply List.ext_getElem?
  intro i
  unfold q_fld
  by_cases h : i < (CL.getD ci ("", TX0, 0)).2.2
  · rw [List.getElem?_map, List.getElem?_range h]
    by_cases e : i = j
    · subst e
      rw [List.getElem?_set_self (by simpa using h)]
      simp [hr, q_up, upd]
    · rw [List.getElem?_set_ne (Ne.symm e), List.getElem?_map, List.getElem?_range h]
      simp [q_up, upd, e]
  · rw [List.getElem?_eq_none (by simpa using h), List.getElem?_eq_none (by simpa using h)]
theorem q_up_ne {h : Nat → Nat → Int32} {k j : Nat} {v : Int32} {q : Nat} (e : q ≠ k) : q_up h k j v q = h q := by simp [q_up, e]
theorem q_cel_ne {k : Nat} {r : List (List (Option Nat))} {a b : Nat → Nat → Int32} {q : Nat} (e : a q = b q) : q_cel g (r, a) q = q_cel g (r, b) q := by
  unfold q_cel q_fld
  simp only [e]
theorem QW.putI {idx k j ci : Nat} {v : Int32} (hd : decode (q_c md) pc = .ok (.putfield idx, 3)) (hf : q_F (q_y md).cls idx ci j) (hk : k < ph.1.length) (hs : shp.getD k (9, 0) = (2, ci)) (hr : q_isR ci j = false) (hfin : ((CL.getD ci ("", TX0, 0)).2.1 j).2.2.2 = false) (hn : narrow (q_ty ci j) (.int v) = .int v) (hfit : fits (q_ty ci j) (.int v) = true) (kk : QW g md (pc + 3) l st (ph.1, q_up ph.2 k j v) ce sl K) : QW g md pc l (.int v :: .ref k :: st) ph ce sl K := by
  intro p e s m args below meth c H locs ls Q h1 h2 h3 h4 h5
  have hc := hf
  obtain ⟨C, T, N, hc, -, -⟩ := hc
  rw [List.map_cons, List.map_cons, q_tvr g (q_shp_lt hs (by decide))]
  exact q_putw (v := .int v) (ph2 := (ph.1, q_up ph.2 k j v)) hd hf hk hs hn hfit (Or.inl hfin) rfl (by rw [q_cel_o hs, q_fld_set hc hr]) (fun q hq => q_cel_ne (k := k) (q_up_ne hq)) h1 h2 h3 (fun H2 locs2 h6 => kk p e s m args below meth c H2 locs2 ls Q h1 h2 h6 h4 h5)
end QWh
end
section
/-! arrays, the script, a method's entry, its end, its calls -/
section QWa
variable {g : QG} {md : MD} {pc : Nat} {l : List (Option Value)} {st : List Value} {ph : QH} {ce sl : Nat} {K : Option Int32 → QH → Prop}
theorem QW.iald {k n : Nat} {i : Int32} (hd : decode (q_c md) pc = .ok (.iaload, 1)) (hk : k < ph.1.length) (hs : shp.getD k (9, 0) = (0, n)) (hin : vp_in i n) (kk : QW g md (pc + 1) l (.int (ph.2 k i.toNatClampNeg) :: st) ph ce sl K) : QW g md pc l (.int i :: .ref k :: st) ph ce sl K := by
  refine QW.goT (fun p e s m args below meth c H locs ls Q h1 h2 h3 hls w => ?_) kk
  rw [List.map_cons, List.map_cons, q_tvr g (q_shp_lt hs (by decide))]
  exact va_iald h2.1 h2.2.1 (q_vK h1 h2) h3.2.2.2.1 k 0 (by rw [q_pw_at hk, q_cel_i hs]) rfl hin hd w
theorem QW.zald {k n : Nat} {i : Int32} (hd : decode (q_c md) pc = .ok (.baload, 1)) (hk : k < ph.1.length) (hs : shp.getD k (9, 0) = (1, n)) (hin : vp_in i n) (kk : QW g md (pc + 1) l (.int (ph.2 k i.toNatClampNeg) :: st) ph ce sl K) : QW g md pc l (.int i :: .ref k :: st) ph ce sl K := by
  refine QW.goT (fun p e s m args below meth c H locs ls Q h1 h2 h3 hls w => ?_) kk
  rw [List.map_cons, List.map_cons, q_tvr g (q_shp_lt hs (by decide))]
  exact va_zald h2.1 h2.2.1 (q_vK h1 h2) h3.2.2.2.1 k 1 (by rw [q_pw_at hk, q_cel_z hs]) rfl hin hd w
theorem QW.alen {k n : Nat} {v : Int32} (hd : decode (q_c md) pc = .ok (.arraylength, 1)) (hk : k < ph.1.length) (hs : shp.getD k (9, 0) = (0, n)) (hv : Int32.ofNat n = v) (kk : QW g md (pc + 1) l (.int v :: st) ph ce sl K) : QW g md pc l (.ref k :: st) ph ce sl K := by
  refine QW.goT (fun p e s m args below meth c H locs ls Q h1 h2 h3 hls w => ?_) kk
  rw [List.map_cons, q_tvr g (q_shp_lt hs (by decide))]
  exact va_alen h2.1 h2.2.1 (q_vK h1 h2) h3.2.2.2.1 k 0 (by rw [q_pw_at hk, q_cel_i hs]) rfl hv hd w
theorem q_up_at (h : Nat → Nat → Int32) (k j : Nat) (v : Int32) : q_up h k j v k = upd (h k) j v := by simp [q_up]
theorem q_upA_at (h : Nat → Nat → Int32) (k : Nat) (f : Nat → Int32) : q_upA h k f k = f := by simp [q_upA]
theorem q_upA_ne {h : Nat → Nat → Int32} {k : Nat} {f : Nat → Int32} {q : Nat} (e : q ≠ k) : q_upA h k f q = h q := by simp [q_upA, e]
theorem QW.iast {k n : Nat} {i x : Int32} (hd : decode (q_c md) pc = .ok (.iastore, 1)) (hk : k < ph.1.length) (hs : shp.getD k (9, 0) = (0, n)) (hin : vp_in i n) (kk : QW g md (pc + 1) l st (ph.1, q_up ph.2 k i.toNatClampNeg x) ce sl K) : QW g md pc l (.int x :: .int i :: .ref k :: st) ph ce sl K := by
  intro p e s m args below meth c H locs ls Q h1 h2 h3 h4 h5
  rw [List.map_cons, List.map_cons, List.map_cons, q_tvr g (q_shp_lt hs (by decide))]
  have he : (q_pw g ph)[k]? = some (q_b g + k, .inl (q_cI g, n, .inl (ph.2 k))) := by rw [q_pw_at hk, q_cel_i hs]
  refine W.iast h2.1 h2.2.1 (h3.2.2.2.1 k _ he) (((q_vK h1 h2).2 0 _ rfl).1 n (fun j => .int (ph.2 k j))) (fun q => by cases q) (by show ¬ (i < 0 ∨ (arrV _ _ _).slots.size ≤ _); rw [arrV_size]; exact hin) rfl rfl hd fun H1 e1 z oq => ?_
  refine kk p e s m args below meth c H1 _ ls Q h1 h2 ⟨fun hlt => by rw [z]; exact h3.1 hlt, fun q hq => by rw [oq q (show q ≠ q_b g + k by omega)]; exact h3.2.1 q hq, fun q hq => ?_, ?_, by rw [z]; exact h3.2.2.2.2⟩ h4 h5
  · rcases List.mem_append.mp hq with h | h
    · exact h3.2.2.1 q h
    · rw [List.mem_singleton.mp h]
      show q_b g ≤ q_b g + k
      omega
  · rw [← q_pw_set (ph := ph) (ph' := (ph.1, q_up ph.2 k i.toNatClampNeg x)) (k := k) (E := .inl (q_cI g, n, .inl (upd (ph.2 k) i.toNatClampNeg x))) rfl hk (by rw [q_cel_i hs]; simp only [q_up_at]) (fun q hq => q_cel_ne (k := k) (q_up_ne hq))]
    refine h3.2.2.2.1.set (q_pw_D g ph) he ?_ oq
    show H1[q_b g + k]? = some (vp_cell _ _)
    rw [e1, vp_cell_i, vp_cell_i, arrV_store]
    congr 2
    funext q
    by_cases hq : q = i.toNatClampNeg
    · subst hq
      simp [updV, upd]
    · simp [updV, upd, hq]
theorem q_fullw {p : Program} {s : State} {m : MethodId} {args : Array Value} {meth : Method} {c : Code} {H1 : Heap} {locs1 : List Loc} {k : Nat} {E : va_E} {h2' : Nat → Nat → Int32} (hf : ph.1.length = 61) (hk : k < ph.1.length) (hc : QCx g md p s m args meth c) (he : q_cel g (ph.1, h2') k = E) (ho : ∀ q, q ≠ k → q_cel g (ph.1, h2') q = q_cel g ph q) (hP : va_P (q_D0 g) CL ((q_pw g ph).set k (q_b g + k, E)) H1) (hS : va_S (q_A g) s.heap H1 locs1) : QHR g (ph.1, h2') s H1 locs1 := by
  refine ⟨fun h => by have : ph.1.length < 61 := h; omega, fun q hq => ?_, hS.2.2, ?_, hS.1⟩
  · rw [hS.2.1 q (Nat.lt_of_lt_of_le hq hc.2.2.2.2.2.2.2.2.2.2) (Nat.not_le.mpr hq)]
    exact hc.2.2.2.2.2.2.2.2.2.1 q hq
  · rw [← q_pw_set (ph := ph) (ph' := (ph.1, h2')) (k := k) (E := E) rfl hk he ho]
    exact hP
theorem QW.zast {k n : Nat} {i x : Int32} (hf : ph.1.length = 61) (hd : decode (q_c md) pc = .ok (.bastore, 1)) (hs : shp.getD k (9, 0) = (1, n)) (hin : vp_in i n) (hx : vp_nar .boolean x = x) (kk : QW g md (pc + 1) l st (ph.1, q_up ph.2 k i.toNatClampNeg x) ce sl K) : QW g md pc l (.int x :: .int i :: .ref k :: st) ph ce sl K := by
  intro p e s m args below meth c H locs ls Q h1 h2 h3 h4 h5
  have hk : k < ph.1.length := by rw [hf]; exact q_shp_lt hs (by decide)
  rw [List.map_cons, List.map_cons, List.map_cons, q_tvr g (q_shp_lt hs (by decide))]
  have he : (q_pw g ph)[k]? = some (q_b g + k, .inl (q_cZ g, n, .inl (ph.2 k))) := by rw [q_pw_at hk, q_cel_z hs]
  refine va_zast h2.1 h2.2.1 (q_vK h1 h2) h3.2.2.2.1 (q_pw_D g ph) (q_vS h2 h3) k 1 he rfl hin hd fun H1 locs1 hP1 hD1 hS1 => ?_
  rw [hx] at hP1
  exact kk p e s m args below meth c H1 locs1 ls Q h1 h2 (q_fullw hf hk h2 (by rw [q_cel_z hs]; simp only [q_up_at]) (fun q hq => q_cel_ne (k := k) (q_up_ne hq)) hP1 hS1) h4 h5
theorem QW.copy {idx k0 k1 n0 n1 : Nat} {sp dp n : Int32} (hf : ph.1.length = 61) (hd : decode (q_c md) pc = .ok (.invokestatic idx, 3)) (hw : (Cond.methodLink (q_y md).cls idx arraycopyName ∈ TB) ∧ Cond.native arraycopyName ∈ TB ∧ Cond.static arraycopyName ∈ TB ∧ Cond.initialized "java/lang/System" ∈ TB) (hs0 : shp.getD k0 (9, 0) = (0, n0)) (hs1 : shp.getD k1 (9, 0) = (0, n1)) (h1 : ¬ sp < 0) (h2 : ¬ dp < 0) (h3 : ¬ n < 0) (h4 : sp.toNatClampNeg + n.toNatClampNeg ≤ n0) (h5 : dp.toNatClampNeg + n.toNatClampNeg ≤ n1)
    (hframes : 1 ≤ (q_r md).frames) (hlocals : (st.map fun v => v.category).sum + (nativeFrameWords "java/lang/System" "arraycopy" 5 + 11) ≤ (q_r md).locals) (kk : QW g md (pc + 3) l st (ph.1, q_upA ph.2 k1 (va_cpy (ph.2 k0) (ph.2 k1) sp.toNatClampNeg dp.toNatClampNeg n.toNatClampNeg)) ce sl K) : QW g md pc l (.int n :: .int dp :: .ref k1 :: .int sp :: .ref k0 :: st) ph ce sl K := by
  intro p e s m args below meth c H locs ls Q g1 g2 g3 g4 g5
  have hk0 : k0 < ph.1.length := by rw [hf]; exact q_shp_lt hs0 (by decide)
  have hk1 : k1 < ph.1.length := by rw [hf]; exact q_shp_lt hs1 (by decide)
  have hts := g2.2.2.2.2.2.1
  simp only [List.map_cons]
  rw [q_tvr g (q_shp_lt hs0 (by decide)), q_tvr g (q_shp_lt hs1 (by decide))]
  have he0 : (q_pw g ph)[k0]? = some (q_b g + k0, .inl (q_cI g, n0, .inl (ph.2 k0))) := by rw [q_pw_at hk0, q_cel_i hs0]
  have he1 : (q_pw g ph)[k1]? = some (q_b g + k1, .inl (q_cI g, n1, .inl (ph.2 k1))) := by rw [q_pw_at hk1, q_cel_i hs1]
  have hcat : (((st.map (q_tv g)).map fun v => v.category)) = (st.map fun v => v.category) := by rw [List.map_map]; exact List.map_congr_left (fun v _ => q_tv_cat g v)
  refine va_copyi g2.1 g2.2.1 (g2.2.2.2.1.trans g4.1.symm) g2.2.2.2.2.1 (hts _ hw.1) (hts _ hw.2.1) (hts _ hw.2.2.1) (hts _ hw.2.2.2) (q_vK g1 g2) g3.2.2.2.1 (q_pw_D g ph) (q_vS g2 g3) k0 k1 0 0 he0 he1 rfl rfl rfl h1 h2 h3 h4 h5 (fun _ _ => rfl) hframes (by rw [hcat]; exact hlocals) hd fun H1 locs1 hP1 hD1 hS1 => ?_
  exact kk p e s m args below meth c H1 locs1 ls Q g1 g2 (q_fullw hf hk1 g2 (by rw [q_cel_i hs1]; simp only [q_upA_at]) (fun q hq => q_cel_ne (k := k1) (q_upA_ne hq)) hP1 hS1) g4 g5
/-- the law's own script, the old cell 1000 -/
theorem q_vX {p : Program} {s : State} {m : MethodId} {args : Array Value} {meth : Method} {c : Code} (h1 : QOK g) (h2 : QCx g md p s m args meth c) : va_X (q_o g 1000) (q_L g) (q_x g) s s.heap := (h1.2.2.1.moved h2.2.2.2.2.2.2.2.2.1.alike).kept (h2.2.2.2.2.2.2.2.2.2.1 _ h1.2.2.2.1)
theorem QW.sld {i : Int32} (hd : decode (q_c md) pc = .ok (.iaload, 1)) (hin : vp_in i (q_L g)) (kk : QW g md (pc + 1) l (.int (q_x g i.toNatClampNeg) :: st) ph ce sl K) : QW g md pc l (.int i :: .ref 1000 :: st) ph ce sl K :=
  QW.goT (fun p e s m args below meth c H locs ls Q h1 h2 h3 hls w => va_sld h2.1 h2.2.1 (q_vX h1 h2) (Nat.lt_of_lt_of_le h1.2.2.2.1 h2.2.2.2.2.2.2.2.2.2.2) (Nat.not_le.mpr h1.2.2.2.1) (q_vS h2 h3) hin hd w) kk
theorem QW.slen (hd : decode (q_c md) pc = .ok (.arraylength, 1)) (kk : QW g md (pc + 1) l (.int (Int32.ofNat (q_L g)) :: st) ph ce sl K) : QW g md pc l (.ref 1000 :: st) ph ce sl K :=
  QW.goT (fun p e s m args below meth c H locs ls Q h1 h2 h3 hls w => va_slen h2.1 h2.2.1 (q_vX h1 h2) (Nat.lt_of_lt_of_le h1.2.2.2.1 h2.2.2.2.2.2.2.2.2.2.2) (Nat.not_le.mpr h1.2.2.2.1) (q_vS h2 h3) hd w) kk
theorem QW.ldc {idx : Nat} {v : Int32} (hd : decode (q_c md) pc = .ok (.ldc idx, 2)) (hw : Cond.constant (q_y md).cls idx v ∈ TB) (kk : QW g md (pc + 2) l (.int v :: st) ph ce sl K) : QW g md pc l st ph ce sl K :=
  QW.goT (fun p e s m args below meth c H locs ls Q h1 h2 h3 hls w => lv_ldc h2.1 h2.2.1 h2.2.2.2.2.1 (h2.2.2.2.2.2.1 _ hw) hd w) kk
theorem QW.ldcw {idx : Nat} {v : Int32} (hd : decode (q_c md) pc = .ok (.ldc_w idx, 3)) (hw : Cond.constant (q_y md).cls idx v ∈ TB) (kk : QW g md (pc + 3) l (.int v :: st) ph ce sl K) : QW g md pc l st ph ce sl K :=
  QW.goT (fun p e s m args below meth c H locs ls Q h1 h2 h3 hls w => lv_ldcw h2.1 h2.2.1 h2.2.2.2.2.1 (h2.2.2.2.2.2.1 _ hw) hd w) kk
theorem QW.ldc2 {idx : Nat} {v : Int64} (hd : decode (q_c md) pc = .ok (.ldc2_w idx, 3)) (hw : Cond.constantLong (q_y md).cls idx v ∈ TB) (kk : QW g md (pc + 3) l (.long v :: st) ph ce sl K) : QW g md pc l st ph ce sl K :=
  QW.goT (fun p e s m args below meth c H locs ls Q h1 h2 h3 hls w => lv_ldc2 h2.1 h2.2.1 h2.2.2.2.2.1 (h2.2.2.2.2.2.1 _ hw) hd w) kk
theorem QW.ldcS {idx i : Nat} (hy : (q_y md).cls = RX5) (hi : i < 8) (he : q_strI.getD i 0 = idx) (hd : decode (q_c md) pc = .ok (.ldc idx, 2)) (kk : QW g md (pc + 2) l (.ref (2000 + i) :: st) ph ce sl K) : QW g md pc l st ph ce sl K := by
  refine QW.goT (fun p e s m args below meth c H locs ls Q h1 h2 h3 hls w => ?_) kk
  have h9 := (h1.2.2.2.2.1 i hi).warm h2.2.2.2.2.2.2.2.2.1
  rw [he] at h9
  rw [List.map_cons, show q_tv g (.ref (2000 + i)) = .ref (q_o g (2000 + i)) from by show Value.ref (if 2000 + i < 1000 then _ else _) = _; rw [if_neg (by omega)]] at w
  exact va_ldcS h2.1 h2.2.1 (hy ▸ h2.2.2.2.2.1) h9 hd w
theorem QW.ireturn {x : Int32} (hd : decode (q_c md) pc = .ok (.ireturn, 1)) (hc : ce = (q_r md).cells ∧ sl = (q_r md).slots) (ht : ∃ ty, q_t md = some ty ∧ narrow ty (.int x) = .int x) (k : K (some x) ph) : QW g md pc l [.int x] ph ce sl K := fun p e s m args below meth c H locs ls Q h1 h2 h3 h4 h5 => by
  obtain ⟨rfl, rfl⟩ := hc
  exact h5 ph H locs ls pc (some x) h3 k ⟨ht, hd⟩
theorem QW.ret (hd : decode (q_c md) pc = .ok (.return_, 1)) (hc : ce = (q_r md).cells ∧ sl = (q_r md).slots) (ht : q_t md = none) (k : K none ph) : QW g md pc l [] ph ce sl K := fun p e s m args below meth c H locs ls Q h1 h2 h3 h4 h5 => by
  obtain ⟨rfl, rfl⟩ := hc
  exact h5 ph H locs ls pc none h3 k ⟨ht, hd⟩
end QWa
/-- the locals at a method's entry -/
def q_ent : List Value → List (Option Value)
  | [] => []
  | v :: vs => if v.category = 2 then some v :: none :: q_ent vs else some v :: q_ent vs
theorem q_ent_len (g : QG) : ∀ vs : List Value, (lg_sl (vs.map (q_tv g))).length = (q_ent vs).length
  | [] => rfl
  | v :: vs => by
    have ih := q_ent_len g vs
    show (lg_sl (q_tv g v :: vs.map (q_tv g))).length = _
    unfold lg_sl q_ent
    rw [List.flatMap_cons, List.length_append, q_tv_cat]
    unfold lg_sl at ih
    by_cases h : v.category = 2
    · rw [if_pos h, if_pos h]; simp [ih]; omega
    · rw [if_neg h, if_neg h]; simp [ih]; omega
theorem q_ent_at (g : QG) : ∀ (vs : List Value) (i0 i : Nat) (v : Value), (q_ent vs)[i]? = some (some v) → (i0 + i, q_tv g v) ∈ lv_args i0 (vs.map (q_tv g))
  | [], i0, i, v, h => by simp [q_ent] at h
  | w :: vs, i0, i, v, h => by
    unfold q_ent at h
    rw [List.map_cons]
    unfold lv_args
    rw [q_tv_cat]
    by_cases hc : w.category = 2
    · rw [if_pos hc] at h ⊢
      match i, h with
      | 0, h =>
        rw [List.getElem?_cons_zero] at h
        cases h
        exact List.mem_cons_self
      | 1, h => simp at h
      | i + 2, h =>
        rw [List.getElem?_cons_succ, List.getElem?_cons_succ] at h
        have := q_ent_at g vs (i0 + 2) i v h
        exact List.mem_cons_of_mem _ (by rw [show i0 + (i + 2) = i0 + 2 + i by omega]; exact this)
    · rw [if_neg hc] at h ⊢
      match i, h with
      | 0, h =>
        rw [List.getElem?_cons_zero] at h
        cases h
        exact List.mem_cons_self
      | i + 1, h =>
        rw [List.getElem?_cons_succ] at h
        have := q_ent_at g vs (i0 + 1) i v h
        exact List.mem_cons_of_mem _ (by rw [show i0 + (i + 1) = i0 + 1 + i by omega]; exact this)
theorem QLR.entry {g : QG} {vs : List Value} {n : Nat} (h : (q_ent vs).length ≤ n) (k : Nat) : QLR g ((lg_sl (vs.map (q_tv g)) ++ List.replicate (n - (lg_sl (vs.map (q_tv g))).length) Slot.unset).toArray) n (q_ent vs ++ List.replicate k none) := by
  have h1 := lv_entry (vs.map (q_tv g)) (n := n) (by rw [q_ent_len]; exact h)
  refine ⟨h1.1, h1.2.1, fun i v hv => ?_⟩
  have hv2 : (q_ent vs)[i]? = some (some v) := by
    by_cases hi : i < (q_ent vs).length
    · rw [List.getElem?_append_left hi] at hv
      exact hv
    · rw [List.getElem?_append_right (by omega), List.getElem?_replicate] at hv
      split at hv <;> cases hv
  have := q_ent_at g vs 0 i v hv2
  rw [Nat.zero_add] at this
  exact h1.2.2 _ this
theorem QC.of {g : QG} {md : MD} {av : List Value} {ph : QH} {K : Option Int32 → QH → Prop} (hy : plainName (q_y md).cls = true) (hl : (q_ent av).length ≤ q_n md) (h : QW g md 0 (q_ent av ++ List.replicate (q_n md - (q_ent av).length) none) [] ph 0 0 K) : QC g md av ph K := by
  intro hG
  refine Met.ofW (cc := q_c md) (maxL := q_n md) (ret := q_t md) hy rfl ?_
  intro p e s m args below meth c s₁ B hml hv
  obtain ⟨rfl, hW, hH⟩ := hv
  have hts : ∀ w ∈ q_w md, w.before (av.map (q_tv g)).toArray s = true := atoms_spec (ws := q_w md) B.pre
  rw [lg_entry_eq]
  refine h p e s m _ below meth c s.heap [] _ _ hG ⟨B.exec, B.bytes, B.returns, hml, findClass_of_methodNamed B.named, fun w hw => hts w (List.mem_cons_of_mem _ hw), B.notSynchronized, (name_of_methodNamed B.named B.method).1, hW, hH.2.1, ?_⟩ hH (QLR.entry hl _) ?_
  · have := hH.2.2.2.1
    rcases Nat.lt_or_ge ph.1.length 61 with h9 | h9
    · have := hH.1 h9
      omega
    · have h0 : 0 < ph.1.length := by omega
      have := (hH.2.2.2.1 0 _ (q_pw_at h0)).lt
      have h2 : q_b g + 0 < s.heap.size := this
      omega
  · intro ph2 H2 locs2 ls2 pc2 v h3 hk hv
    have hq : ∀ t : State, t.heap = H2 → s.WarmedH t.vm → ∃ (v' : Option Int32) (ph' : QH), Outcome.returned (v.map Value.int) = .returned (v'.map Value.int) ∧ K v' ph' ∧ QEnt g ph' t ∧ s.heap.size ≤ t.heap.size := by
      intro t ht hWt
      subst ht
      refine ⟨v, ph2, rfl, hk, ⟨hW.trans hWt, h3.1, h3.2.1, (fun q hq => by cases hq), h3.2.2.2.1, Nat.le_refl _⟩, h3.2.2.2.2⟩
    cases v with
    | none => exact W.vret B.exec B.bytes (B.returns.trans hv.1) (fun t ht hWt => hq t ht hWt) (fun q hq2 => h3.2.2.1 q hq2) hv.2 B.notSynchronized
    | some x =>
      obtain ⟨⟨ty, ht, hn⟩, hd⟩ := hv
      exact W.zret B.exec B.bytes (B.returns.trans ht) hn (fun t ht hWt => hq t ht hWt) (fun q hq2 => h3.2.2.1 q hq2) hd B.notSynchronized
end
section
/-! calls by contract -/
section QWc
variable {g : QG} {md md2 : MD} {pc : Nat} {l : List (Option Value)} {st stk rest av : List Value} {ph : QH} {ce sl : Nat} {K : Option Int32 → QH → Prop}
theorem q_good (h : Cond.code (q_y md2) (q_c md2) (q_n md2) (q_t md2) ∈ TB) : GoodIn TB (q_w md2) := fun w hw => (List.mem_cons.mp hw).elim (fun e => by rw [e]; exact TB_good _ h) (fun h => TB_good w h)
theorem q_blind (vs : List Value) : FrameBlind (va_Pc vs (QEnt g ph)) := fun _ _ _ _ q => q
theorem q_pre {p : Program} {s : State} {m : MethodId} {args : Array Value} {meth : Method} {c : Code} {H : Heap} {locs : List Loc} (h2 : QCx g md p s m args meth c) (h3 : QHR g ph s H locs) (vs : List Value) : ∀ U : State, U.heap = H → s.WarmedH U.vm → va_Pc vs (QEnt g ph) vs.toArray U := fun U hU hW => by
  subst hU
  exact ⟨rfl, h2.2.2.2.2.2.2.2.2.1.trans hW, h3.1, h3.2.1, (fun _ h => by cases h), h3.2.2.2.1, Nat.le_refl _⟩
abbrev q_post (g : QG) (K : Option Int32 → QH → Prop) : Array Value → State → Outcome → State → Prop := fun _ st o t => ∃ (v : Option Int32) (ph' : QH), o = .returned (v.map Value.int) ∧ K v ph' ∧ QEnt g ph' t ∧ st.heap.size ≤ t.heap.size
theorem q_back {p : Program} {e : Env} {s : State} {m : MethodId} {args : Array Value} {below : List Frame} {meth : Method} {c : Code} {H : Heap} {locs : List Loc} {ls : Array Slot} {Q : State → Prop} {mc ms : Nat} {a : Array Value} {st0 : List Value} (h1 : QOK g) (h2 : QCx g md p s m args meth c) (h3 : QHR g ph s H locs) (h4 : QLR g ls (q_n md) l) (h5 : QRet g md p e s m args below meth c Q K)
    (hr : va_Run p (q_l g) e (q_r md) s m args below meth c H locs ce sl mc ms (F0 m pc ls st0) (rest.map (q_tv g)) (q_post g (fun v ph2 => QW g md (pc + 3) l (v.toList.map Value.int ++ rest) ph2 (ce + mc) (sl + ms) K) a) (q_A g)) : W p (q_l g) e (q_r md) s m args below meth c H locs ce sl Q (F0 m pc ls st0) := by
  intro T hT X
  obtain ⟨v, st₀, t, T', L, e0, X', hL, e1, e2, ⟨v', ph', ev, hK', hE, hsz⟩, stp⟩ := hr T hT X
  have hv : v = v'.map Value.int := by cases ev; rfl
  subst hv
  obtain ⟨t2, a1, b1⟩ := hK' p e s m args below meth c T'.heap (locs ++ L) ls Q h1 h2 ⟨fun h => by rw [e1]; exact hE.2.1 h, fun q hq => by rw [e1]; exact hE.2.2.1 q hq, fun q hq => by
    rcases List.mem_append.mp hq with h | h
    · exact h3.2.2.1 q h
    · exact hL q h, by rw [e1]; exact hE.2.2.2.2.1, by rw [e1]; exact Nat.le_trans h3.2.2.2.2 (by rw [← e0]; exact hsz)⟩ h4 h5 T' rfl X'
  refine ⟨t2, stp t2 ?_, b1⟩
  have es : (v'.toList.map Value.int ++ rest).map (q_tv g) = (v'.map Value.int).toList ++ rest.map (q_tv g) := by cases v' <;> rfl
  rw [es] at a1
  exact a1
theorem q_rest (h : (rest.map fun v => v.category).sum ≤ 8) : ((rest.map (q_tv g)).map fun v => v.category).sum ≤ 8 := by
  rw [List.map_map, show ((fun v => v.category) ∘ q_tv g) = (fun v : Value => v.category) from funext (q_tv_cat g)]
  exact h
abbrev q_room (md md2 : MD) : Prop := (q_r md2).frames + 1 ≤ (q_r md).frames ∧ 8 + (q_n md2 + 11) + (q_r md2).locals ≤ (q_r md).locals
abbrev q_fit (md md2 : MD) (ce sl : Nat) : Prop := ce + (q_r md2).cells ≤ (q_r md).cells ∧ sl + (q_r md2).slots ≤ (q_r md).slots
theorem QW.callV {idx n k ci : Nat} (hstk : stk = av.reverse ++ .ref k :: rest) (hd : decode (q_c md) pc = .ok (.invokevirtual idx, 3)) (hl : q_V (q_y md).cls idx md2 n) (hk : k < ph.1.length) (hs : shp.getD k (9, 0) = (2, ci)) (hci : (CL.getD ci ("", TX0, 0)).1 = (q_y md2).cls) (hci2 : ci < 9) (hn : av.length = n) (hroom : q_room md md2) (hfit : q_fit md md2 ce sl) (hst : (rest.map fun v => v.category).sum ≤ 8)
    (kk : QC g md2 (.ref k :: av) ph (fun v ph2 => QW g md (pc + 3) l (v.toList.map Value.int ++ rest) ph2 (ce + (q_r md2).cells) (sl + (q_r md2).slots) K)) : QW g md pc l stk ph ce sl K := by
  intro p e s m args below meth c H locs ls Q h1 h2 h3 h4 h5
  subst hstk
  have hM := kk h1
  obtain ⟨hw1, ⟨hw2, hw3⟩, ⟨hw4, hw5⟩, hD⟩ := hl
  have hts := h2.2.2.2.2.2.1
  have he : (q_pw g ph)[k]? = some (q_b g + k, .inr (ci, q_fld g ph k ci)) := by rw [q_pw_at hk, q_cel_o hs]
  have hcl : CL[ci]? = some (CL.getD ci ("", TX0, 0)) := by rw [List.getD_eq_getElem?_getD, List.getElem?_eq_getElem (show ci < CL.length from hci2)]; rfl
  have hrc := va_recv (q_vK h1 h2) h3.2.2.2.1 hcl he
  rw [hci] at hrc
  rw [List.map_cons, q_tvr g (q_shp_lt hs (by decide))] at hM
  refine q_back h1 h2 h3 h4 h5 (a := (Value.ref (q_b g + k) :: av.map (q_tv g)).toArray) (va_runV (C := (q_y md2).cls) (b := q_b g + k) (As := av.map (q_tv g)) (n := n) ⟨h2.1, h2.2.1, h2.2.2.2.1, h2.2.2.2.2.1, hts⟩ hM ⟨callB_of n hts (q_good hw5) rfl rfl rfl (hts _ hw4) (hts _ hw1) hD hroom, hts _ hw2, hts _ hw3⟩ ⟨q_blind _, hrc, q_pre h2 h3 _⟩ rfl (by rw [List.length_map]; exact hn) h4.1 ?_ (lv_room (q_rest hst)) hd hfit)
  show ((av.reverse ++ .ref k :: rest).map (q_tv g)) = _
  rw [List.map_append, List.map_reverse, List.map_cons, q_tvr g (q_shp_lt hs (by decide))]
theorem QW.callS {idx n : Nat} (hstk : stk = av.reverse ++ rest) (hd : decode (q_c md) pc = .ok (.invokestatic idx, 3)) (hl : q_S (q_y md).cls idx md2 n) (hn : av.length = n) (hroom : q_room md md2) (hfit : q_fit md md2 ce sl) (hst : (rest.map fun v => v.category).sum ≤ 8)
    (kk : QC g md2 av ph (fun v ph2 => QW g md (pc + 3) l (v.toList.map Value.int ++ rest) ph2 (ce + (q_r md2).cells) (sl + (q_r md2).slots) K)) : QW g md pc l stk ph ce sl K := by
  intro p e s m args below meth c H locs ls Q h1 h2 h3 h4 h5
  subst hstk
  have hM := kk h1
  obtain ⟨hw1, hw2, ⟨hw4, hw5⟩, hD⟩ := hl
  have hts := h2.2.2.2.2.2.1
  refine q_back h1 h2 h3 h4 h5 (a := (av.map (q_tv g)).toArray) (va_runS (As := av.map (q_tv g)) (n := n) ⟨h2.1, h2.2.1, h2.2.2.2.1, h2.2.2.2.2.1, hts⟩ hM ⟨callB_of n hts (q_good hw5) rfl rfl rfl (hts _ hw4) (hts _ hw1) hD hroom, hts _ hw2⟩ ⟨q_blind _, q_pre h2 h3 _⟩ rfl (by rw [List.length_map]; exact hn) h4.1 ?_ (lv_room (q_rest hst)) hd hfit)
  show ((av.reverse ++ rest).map (q_tv g)) = _
  rw [List.map_append, List.map_reverse]
theorem QW.callSN {idx n : Nat} (hstk : stk = av.reverse ++ rest) (hd : decode (q_c md) pc = .ok (.invokestatic idx, 3)) (hl : q_SN (q_y md).cls idx md2 n) (hn : av.length = n) (hroom : q_room md md2) (hfit : q_fit md md2 ce sl) (hst : (rest.map fun v => v.category).sum ≤ 8)
    (kk : QC g md2 av ph (fun v ph2 => QW g md (pc + 3) l (v.toList.map Value.int ++ rest) ph2 (ce + (q_r md2).cells) (sl + (q_r md2).slots) K)) : QW g md pc l stk ph ce sl K := by
  intro p e s m args below meth c H locs ls Q h1 h2 h3 h4 h5
  subst hstk
  have hM := kk h1
  obtain ⟨⟨host, hw1⟩, hw2, ⟨hw4, hw5⟩, hD⟩ := hl
  have hts := h2.2.2.2.2.2.1
  have hnw := (h1.2.1 _ hw1 _ _ _ _ rfl).warmM h2.2.2.2.2.2.2.2.2.1
  refine q_back h1 h2 h3 h4 h5 (a := (av.map (q_tv g)).toArray) (va_runSN (host := host) (As := av.map (q_tv g)) (n := n) ⟨h2.1, h2.2.1, h2.2.2.2.1, h2.2.2.2.2.1, hts⟩ hM ⟨va_cnB n hts (q_good hw5) rfl rfl rfl hnw (hts _ hw4) hD hroom, hts _ hw2, trivial⟩ ⟨q_blind _, q_pre h2 h3 _⟩ rfl (by rw [List.length_map]; exact hn) h4.1 ?_ (lv_room (q_rest hst)) hd hfit)
  show ((av.reverse ++ rest).map (q_tv g)) = _
  rw [List.map_append, List.map_reverse]
theorem QW.callI {idx n k : Nat} (hk : k < 61) (hstk : stk = av.reverse ++ .ref k :: rest) (hd : decode (q_c md) pc = .ok (.invokespecial idx, 3)) (hl : q_I (q_y md).cls idx md2 n) (hnone : q_t md2 = none) (hn : av.length = n) (hroom : q_room md md2) (hfit : q_fit md md2 ce sl) (hst : (rest.map fun v => v.category).sum ≤ 8)
    (kk : QC g md2 (.ref k :: av) ph (fun v ph2 => QW g md (pc + 3) l (v.toList.map Value.int ++ rest) ph2 (ce + (q_r md2).cells) (sl + (q_r md2).slots) K)) : QW g md pc l stk ph ce sl K := by
  intro p e s m args below meth c H locs ls Q h1 h2 h3 h4 h5
  subst hstk
  have hM := kk h1
  obtain ⟨hw1, ⟨hw2, hw3⟩, ⟨hw4, hw5⟩, hD⟩ := hl
  have hts := h2.2.2.2.2.2.1
  rw [List.map_cons, q_tvr g hk] at hM
  have cb := callB_of (R := q_r md) (own := (q_y md).cls) (index := idx) n hts (q_good hw5) rfl rfl rfl (hts _ hw4) (hts _ hw1) hD hroom
  rw [hnone] at cb
  refine q_back h1 h2 h3 h4 h5 (a := (Value.ref (q_b g + k) :: av.map (q_tv g)).toArray) (va_runI (b := q_b g + k) (As := av.map (q_tv g)) (n := n) ⟨h2.1, h2.2.1, h2.2.2.2.1, h2.2.2.2.2.1, hts⟩ hM ⟨cb, hw3, hts _ hw2⟩ ⟨q_blind _, q_pre h2 h3 _⟩ rfl (by rw [List.length_map]; exact hn) h4.1 ?_ (lv_room (q_rest hst)) hd hfit)
  show ((av.reverse ++ .ref k :: rest).map (q_tv g)) = _
  rw [List.map_append, List.map_reverse, List.map_cons, q_tvr g hk]
theorem QW.callIN {idx n k : Nat} (hk : k < 61) (hstk : stk = av.reverse ++ .ref k :: rest) (hd : decode (q_c md) pc = .ok (.invokespecial idx, 3)) (hl : q_IN (q_y md).cls idx md2 n) (hnone : q_t md2 = none) (hn : av.length = n) (hroom : q_room md md2) (hfit : q_fit md md2 ce sl) (hst : (rest.map fun v => v.category).sum ≤ 8)
    (kk : QC g md2 (.ref k :: av) ph (fun v ph2 => QW g md (pc + 3) l (v.toList.map Value.int ++ rest) ph2 (ce + (q_r md2).cells) (sl + (q_r md2).slots) K)) : QW g md pc l stk ph ce sl K := by
  intro p e s m args below meth c H locs ls Q h1 h2 h3 h4 h5
  subst hstk
  have hM := kk h1
  obtain ⟨⟨host, hw1⟩, ⟨hw2, hw3⟩, ⟨hw4, hw5⟩, hD⟩ := hl
  have hts := h2.2.2.2.2.2.1
  have hnw := (h1.2.1 _ hw1 _ _ _ _ rfl).warmM h2.2.2.2.2.2.2.2.2.1
  rw [List.map_cons, q_tvr g hk] at hM
  have cb := va_cnB (R := q_r md) n hts (q_good hw5) rfl rfl rfl hnw (hts _ hw4) hD hroom
  rw [hnone] at cb
  refine q_back h1 h2 h3 h4 h5 (a := (Value.ref (q_b g + k) :: av.map (q_tv g)).toArray) (va_runIN (host := host) (b := q_b g + k) (As := av.map (q_tv g)) (n := n) ⟨h2.1, h2.2.1, h2.2.2.2.1, h2.2.2.2.2.1, hts⟩ hM ⟨cb, hw3, hts _ hw2⟩ ⟨q_blind _, q_pre h2 h3 _⟩ rfl (by rw [List.length_map]; exact hn) h4.1 ?_ (lv_room (q_rest hst)) hd hfit)
  show ((av.reverse ++ .ref k :: rest).map (q_tv g)) = _
  rw [List.map_append, List.map_reverse, List.map_cons, q_tvr g hk]
theorem QW.objInit {idx k : Nat} (hk : k < 61) (hd : decode (q_c md) pc = .ok (.invokespecial idx, 3)) (hw : Cond.methodLink (q_y md).cls idx objectInit ∈ TB ∧ Cond.instanceMethod objectInit ∈ TB ∧ Cond.code objectInit ⟨#[0xb1]⟩ 1 none ∈ TB) (hroom : 1 ≤ (q_r md).frames ∧ 20 ≤ (q_r md).locals) (hst : (st.map fun v => v.category).sum ≤ 8) (kk : QW g md (pc + 3) l st ph ce sl K) : QW g md pc l (.ref k :: st) ph ce sl K := by
  refine QW.goT (fun p e s m args below meth c H locs ls Q h1 h2 h3 hls w => ?_) kk
  have hts := h2.2.2.2.2.2.1
  rw [List.map_cons, q_tvr g hk]
  have hr := lv_room (m := m) (pc := pc) (ls := ls) (rest := .ref (q_b g + k) :: st.map (q_tv g)) (q_rest (g := g) hst)
  exact W.objInit h2.1 h2.2.1 h2.2.2.2.2.1 (hts _ hw.1) (hts _ hw.2.1) (hts _ hw.2.2) rfl (by show ls.size = c.maxLocals; rw [hls, h2.2.2.2.1]) rfl hd hroom.1 (by omega) w
theorem QC.mono {av : List Value} {K2 : Option Int32 → QH → Prop} (h : ∀ v ph2, K v ph2 → K2 v ph2) (k : QC g md av ph K) : QC g md av ph K2 := by
  intro h1 p e ha hc hk s m args below hf hap hP hK
  obtain ⟨n, o, w1, w2, w3, ⟨⟨v, ph2, e1, e2, e3⟩, e4⟩⟩ := k h1 p e ha hc hk s m args below hf hap hP hK
  exact ⟨n, o, w1, w2, w3, ⟨v, ph2, e1, h v ph2 e2, e3⟩, e4⟩
end QWc
end
section
/-! rows of constructors: new cells, references put -/
def q_sR (r : List (List (Option Nat))) (k j q : Nat) : List (List (Option Nat)) := r.set k ((r.getD k []).set j (some q))
theorem q_dfl : ∀ (ci : Nat) (C : String) (T : u_T) (N : Nat), CL[ci]? = some (C, T, N) → ∀ j, j < N → defaultValue (q_ty ci j) = if q_isR ci j = true then .null else .int 0
  | 0, _, _, _, h => by cases h; decide
  | 1, _, _, _, h => by cases h; decide
  | 2, _, _, _, h => by cases h; decide
  | 3, _, _, _, h => by cases h; decide
  | 4, _, _, _, h => by cases h; decide
  | 5, _, _, _, h => by cases h; decide
  | 6, _, _, _, h => by cases h; decide
  | 7, _, _, _, h => by cases h; decide
  | 8, _, _, _, h => by cases h; decide
  | n + 9, _, _, _, h => by simp at h
section QWm
variable {g : QG} {md : MD} {pc : Nat} {l : List (Option Value)} {st : List Value} {ph : QH} {ce sl : Nat} {K : Option Int32 → QH → Prop}
theorem q_sR_at {r : List (List (Option Nat))} {k j q : Nat} (hk : k < r.length) : (q_sR r k j q).getD k [] = (r.getD k []).set j (some q) := by
  unfold q_sR
  rw [List.getD_eq_getElem?_getD, List.getElem?_set_self hk]
  rfl
theorem q_sR_ne {r : List (List (Option Nat))} {k j q k2 : Nat} (h : k2 ≠ k) : (q_sR r k j q).getD k2 [] = r.getD k2 [] := by
  unfold q_sR
  rw [List.getD_eq_getElem?_getD, List.getElem?_set_ne (Ne.symm h), List.getD_eq_getElem?_getD]
theorem q_fld_setR {k ci j q : Nat} (hk : k < ph.1.length) (hj : j < (ph.1.getD k []).length) (hr : q_isR ci j = true) : q_fld g (q_sR ph.1 k j q, ph.2) k ci = (q_fld g ph k ci).set j (.ref (q_b g + q)) := by
  apply List.ext_getElem?
  intro i
  unfold q_fld
  by_cases h : i < (CL.getD ci ("", TX0, 0)).2.2
  · rw [List.getElem?_map, List.getElem?_range h]
    by_cases e : i = j
    · subst e
      rw [List.getElem?_set_self (by simpa using h)]
      simp only [Option.map_some, hr, if_true, q_sR_at hk]
      rw [List.getD_eq_getElem?_getD, List.getElem?_set_self hj]
      rfl
    · rw [List.getElem?_set_ne (Ne.symm e), List.getElem?_map, List.getElem?_range h]
      simp only [Option.map_some, q_sR_at hk]
      rw [show ((ph.1.getD k []).set j (some q)).getD i none = (ph.1.getD k []).getD i none from by simp only [List.getD_eq_getElem?_getD, List.getElem?_set_ne (Ne.symm e)]]
  · rw [List.getElem?_eq_none (by simpa using h), List.getElem?_eq_none (by simpa using h)]
theorem q_cel_r {r1 r2 : List (List (Option Nat))} {a : Nat → Nat → Int32} {q : Nat} (e : r1.getD q [] = r2.getD q []) : q_cel g (r1, a) q = q_cel g (r2, a) q := by
  unfold q_cel q_fld
  simp only [e]
theorem QW.putR {idx k j ci q : Nat} (hd : decode (q_c md) pc = .ok (.putfield idx, 3)) (hf : q_F (q_y md).cls idx ci j) (hk : k < ph.1.length) (hs : shp.getD k (9, 0) = (2, ci)) (hq : q < 61) (hr : q_isR ci j = true) (hj : j < (ph.1.getD k []).length) (hn : ∀ a : Nat, narrow (q_ty ci j) (.ref a) = .ref a) (hfit : ∀ a : Nat, fits (q_ty ci j) (.ref a) = true)
    (hfin : ((CL.getD ci ("", TX0, 0)).2.1 j).2.2.2 = true ∧ (q_y md).name = "<init>" ∧ ((CL.getD ci ("", TX0, 0)).2.1 j).1 = (q_y md).cls) (kk : QW g md (pc + 3) l st (q_sR ph.1 k j q, ph.2) ce sl K) : QW g md pc l (.ref q :: .ref k :: st) ph ce sl K := by
  intro p e s m args below meth c H locs ls Q h1 h2 h3 h4 h5
  rw [List.map_cons, List.map_cons, q_tvr g (q_shp_lt hs (by decide)), q_tvr g hq]
  exact q_putw (v := .ref (q_b g + q)) (ph2 := (q_sR ph.1 k j q, ph.2)) hd hf hk hs (hn _) (hfit _) (Or.inr hfin) (by unfold q_sR; simp) (by rw [q_cel_o hs, q_fld_setR hk hj hr]) (fun q2 hq2 => q_cel_r (q_sR_ne hq2)) h1 h2 h3 (fun H2 locs2 h6 => kk p e s m args below meth c H2 locs2 ls Q h1 h2 h6 h4 h5)
theorem q_cel_push {x : List (Option Nat)} {f : Nat → Int32} {j : Nat} (h : j < ph.1.length) : q_cel g (ph.1 ++ [x], q_upA ph.2 ph.1.length f) j = q_cel g ph j := by
  have e1 : (ph.1 ++ [x]).getD j [] = ph.1.getD j [] := by rw [List.getD_eq_getElem?_getD, List.getElem?_append_left h, List.getD_eq_getElem?_getD]
  have e2 : q_upA ph.2 ph.1.length f j = ph.2 j := q_upA_ne (by omega)
  unfold q_cel q_fld
  simp only [e1, e2]
theorem q_at_push (x : List (Option Nat)) : (ph.1 ++ [x]).getD ph.1.length [] = x := by
  rw [List.getD_eq_getElem?_getD, List.getElem?_append_right (Nat.le_refl _), Nat.sub_self]
  rfl
theorem q_grow {s : State} {H H1 : Heap} {locs : List Loc} {x : List (Option Nat)} (h3 : QHR g ph s H locs) (hlt : ph.1.length < 61) (z1 : H1.size = q_b g + ph.1.length + 1) (o1 : ∀ q, q < q_b g + ph.1.length → H1[q]? = H[q]?) (hat : va_at (q_D0 g) CL (q_b g + ph.1.length, q_cel g (ph.1 ++ [x], q_upA ph.2 ph.1.length (fun _ => 0)) ph.1.length) H1) : QHR g (ph.1 ++ [x], q_upA ph.2 ph.1.length (fun _ => 0)) s H1 locs := by
  have hz := h3.1 hlt
  refine ⟨fun _ => by rw [z1, List.length_append]; rfl, fun q hq => by rw [o1 q (by omega)]; exact h3.2.1 q hq, h3.2.2.1, ?_, by rw [z1]; have := h3.2.2.2.2; omega⟩
  rw [← q_pw_push (ph := ph) (ph' := (ph.1 ++ [x], q_upA ph.2 ph.1.length (fun _ => 0))) (by rw [List.length_append]; rfl) rfl (fun j hj => q_cel_push hj)]
  refine (h3.2.2.2.1.kept (fun k y hy => o1 y.1 (by have := (h3.2.2.2.1 k y hy).lt; omega))).app (fun k y hy => ?_)
  have hz : k < 1 := (List.getElem?_eq_some_iff.mp hy).1
  rw [show k = 0 by omega] at hy
  cases hy
  exact hat
theorem QW.new {idx ci n : Nat} {C : String} {T : u_T} {N : Nat} (hd : decode (q_c md) pc = .ok (.new idx, 3)) (hlen : ph.1.length = n) (hlt : n < 61) (hs : shp.getD n (9, 0) = (2, ci)) (hc : CL[ci]? = some (C, T, N)) (hw : Cond.classLink (q_y md).cls idx C ∈ TB ∧ Cond.instantiable C N ∈ TB ∧ Cond.initialized C ∈ TB) (hroom : ce + 1 ≤ (q_r md).cells ∧ sl + N ≤ (q_r md).slots)
    (kk : QW g md (pc + 3) l (.ref n :: st) (ph.1 ++ [List.replicate N none], q_upA ph.2 n (fun _ => 0)) (ce + 1) (sl + N) K) : QW g md pc l st ph ce sl K := by
  intro p e s m args below meth c H locs ls Q h1 h2 h3 h4 h5
  subst hlen
  have hts := h2.2.2.2.2.2.1
  have hK := q_vK h1 h2
  have hKn := hK.1 ci _ hc
  have hz := h3.1 hlt
  refine W.newcK h2.1 h2.2.1 h2.2.2.2.2.1 (hts _ hw.1) (hts _ hw.2.1) (hts _ hw.2.2) rfl hd hroom.1 hroom.2 hKn.2.1 hz fun H1 kC hkC e1 z1 o1 => ?_
  have w := kk p e s m args below meth c H1 locs ls Q h1 h2 (q_grow h3 hlt z1 o1 ?_) h4 h5
  · rw [List.map_cons, q_tvr g hlt] at w
    exact w
  · rw [q_cel_o hs]
    refine ⟨_, hc, (u_born (q_ty ci) hts (q_clw ci C T N hc) hKn hkC e1 (q_clt ci C T N hc)).to (fun j hj => ?_)⟩
    rw [q_dfl ci C T N hc j hj]
    unfold vp_V
    rw [List.getD_eq_getElem?_getD]
    unfold q_fld
    rw [List.getElem?_map, List.getElem?_range (by rw [List.getD_eq_getElem?_getD, hc]; exact hj)]
    simp only [Option.map_some, Option.getD_some, q_at_push, q_upA_at]
    rw [show (List.replicate N (none : Option Nat)).getD j none = none from by rw [List.getD_eq_getElem?_getD, List.getElem?_replicate]; split <;> rfl]
    rfl
theorem QW.newI {n N : Nat} {x : Int32} (hd : decode (q_c md) pc = .ok (.newarray .int, 2)) (hlen : ph.1.length = n) (hlt : n < 61) (hs : shp.getD n (9, 0) = (0, N)) (hx : ¬ x < 0 ∧ x.toNatClampNeg = N) (hN : N ≤ 1000) (ha : Cond.arrayClass .int ∈ TB) (hroom : ce + 1 ≤ (q_r md).cells ∧ sl + N ≤ (q_r md).slots)
    (kk : QW g md (pc + 2) l (.ref n :: st) (ph.1 ++ [[]], q_upA ph.2 n (fun _ => 0)) (ce + 1) (sl + N) K) : QW g md pc l (.int x :: st) ph ce sl K := by
  intro p e s m args below meth c H locs ls Q h1 h2 h3 h4 h5
  subst hlen
  have hts := h2.2.2.2.2.2.1
  have hK := q_vK h1 h2
  have hz := h3.1 hlt
  refine va_newaK (atype := .int) h2.1 h2.2.1 (hts _ ha) rfl hd rfl hx.1 hx.2 (by show N * 4 ≤ _; omega) hroom.1 hroom.2 hz fun H1 cA e1 z1 o1 hAr hNm => ?_
  have hcA : cA = q_cI g := by
    have h9 : s.vm.findClass ("[" ++ FieldType.int.toString) = some (q_cI g) := (hK.2 0 _ rfl).2
    exact Option.some.inj (hNm.symm.trans h9)
  subst hcA
  have w := kk p e s m args below meth c H1 locs ls Q h1 h2 (q_grow h3 hlt z1 o1 ?_) h4 h5
  · rw [List.map_cons, q_tvr g hlt] at w
    exact w
  · rw [q_cel_i hs]
    show H1[q_b g + ph.1.length]? = some (vp_cell _ _)
    rw [e1, vp_cell_i]
    simp only [q_upA_at]
    rfl
theorem QW.newZ {n N : Nat} {x : Int32} (hd : decode (q_c md) pc = .ok (.newarray .boolean, 2)) (hlen : ph.1.length = n) (hlt : n < 61) (hs : shp.getD n (9, 0) = (1, N)) (hx : ¬ x < 0 ∧ x.toNatClampNeg = N) (hN : N ≤ 1000) (ha : Cond.arrayClass .boolean ∈ TB) (hroom : ce + 1 ≤ (q_r md).cells ∧ sl + N ≤ (q_r md).slots)
    (kk : QW g md (pc + 2) l (.ref n :: st) (ph.1 ++ [[]], q_upA ph.2 n (fun _ => 0)) (ce + 1) (sl + N) K) : QW g md pc l (.int x :: st) ph ce sl K := by
  intro p e s m args below meth c H locs ls Q h1 h2 h3 h4 h5
  subst hlen
  have hts := h2.2.2.2.2.2.1
  have hK := q_vK h1 h2
  have hz := h3.1 hlt
  refine va_newaK (atype := .boolean) h2.1 h2.2.1 (hts _ ha) rfl hd rfl hx.1 hx.2 (by show N * 1 ≤ _; omega) hroom.1 hroom.2 hz fun H1 cA e1 z1 o1 hAr hNm => ?_
  have hcA : cA = q_cZ g := by
    have h9 : s.vm.findClass ("[" ++ FieldType.boolean.toString) = some (q_cZ g) := (hK.2 1 _ rfl).2
    exact Option.some.inj (hNm.symm.trans h9)
  subst hcA
  have w := kk p e s m args below meth c H1 locs ls Q h1 h2 (q_grow h3 hlt z1 o1 ?_) h4 h5
  · rw [List.map_cons, q_tvr g hlt] at w
    exact w
  · rw [q_cel_z hs]
    show H1[q_b g + ph.1.length]? = some (vp_cell _ _)
    rw [e1, vp_cell_i]
    simp only [q_upA_at]
    rfl
end QWm
end
section
/-! the full heap: all 61 cells are there, no reference changes any more; only ints do -/
abbrev Hp : Type := Nat → Nat → Int32
def q_RI (K : Int32 → Hp → Prop) : Option Int32 → QH → Prop := fun v ph => ph.1 = R0 ∧ ∃ x, v = some x ∧ K x ph.2
def q_RV (K : Hp → Prop) : Option Int32 → QH → Prop := fun v ph => ph.1 = R0 ∧ v = none ∧ K ph.2
abbrev FW (g : QG) (md : MD) (pc : Nat) (l : List (Option Value)) (st : List Value) (h : Hp) (KK : Option Int32 → QH → Prop) : Prop := QW g md pc l st (R0, h) (q_r md).cells (q_r md).slots KK
def FI (g : QG) (md : MD) (av : List Value) (h : Hp) (K : Int32 → Hp → Prop) : Prop := QC g md av (R0, h) (q_RI K)
def FV (g : QG) (md : MD) (av : List Value) (h : Hp) (K : Hp → Prop) : Prop := QC g md av (R0, h) (q_RV K)
def q_SI (k j ci : Nat) : Prop := shp.getD k (9, 0) = (2, ci) ∧ q_isR ci j = false
def q_SP (k j ci : Nat) (ty : FieldType) : Prop := shp.getD k (9, 0) = (2, ci) ∧ q_isR ci j = false ∧ ((CL.getD ci ("", TX0, 0)).2.1 j).2.2.2 = false ∧ q_ty ci j = ty
def q_SR (k j ci q : Nat) : Prop := shp.getD k (9, 0) = (2, ci) ∧ q_isR ci j = true ∧ (R0.getD k []).getD j none = some q ∧ q < 61
def q_SA (k n : Nat) : Prop := shp.getD k (9, 0) = (0, n)
def q_SZ (k n : Nat) : Prop := shp.getD k (9, 0) = (1, n)
def q_SC (k : Nat) (C : String) : Prop := ∃ ci, shp.getD k (9, 0) = (2, ci) ∧ (CL.getD ci ("", TX0, 0)).1 = C ∧ ci < 9
theorem q_R0len : R0.length = 61 := by decide
def q_bool (x : Int32) : Prop := x = 0 ∨ x = 1
theorem q_bool_nar {x : Int32} (h : q_bool x) : narrow .boolean (.int x) = .int x := by rcases h with rfl | rfl <;> decide
theorem q_bool_vnar {x : Int32} (h : q_bool x) : vp_nar .boolean x = x := by rcases h with rfl | rfl <;> decide
section FWr
variable {g : QG} {md md2 : MD} {pc : Nat} {l : List (Option Value)} {st stk rest av : List Value} {h : Hp} {KK : Option Int32 → QH → Prop}
theorem FI.mono {K K2 : Int32 → Hp → Prop} (hm : ∀ x h2, K x h2 → K2 x h2) (k : FI g md av h K) : FI g md av h K2 := QC.mono (fun v ph2 ⟨e, x, ev, hk⟩ => ⟨e, x, ev, hm x ph2.2 hk⟩) k
theorem FV.mono {K K2 : Hp → Prop} (hm : ∀ h2, K h2 → K2 h2) (k : FV g md av h K) : FV g md av h K2 := QC.mono (fun v ph2 ⟨e, ev, hk⟩ => ⟨e, ev, hm ph2.2 hk⟩) k
theorem FW.getI {idx k j ci : Nat} (v : Int32) (hd : decode (q_c md) pc = .ok (.getfield idx, 3)) (hf : q_F (q_y md).cls idx ci j) (hs : q_SI k j ci) (hv : h k j = v) (kk : FW g md (pc + 3) l (.int v :: st) h KK) : FW g md pc l (.ref k :: st) h KK := by
  subst hv
  exact QW.getI hd hf (by show k < R0.length; rw [q_R0len]; exact q_shp_lt hs.1 (by decide)) hs.1 hs.2 kk
theorem FW.getR {idx k j ci q : Nat} (hd : decode (q_c md) pc = .ok (.getfield idx, 3)) (hf : q_F (q_y md).cls idx ci j) (hs : q_SR k j ci q) (kk : FW g md (pc + 3) l (.ref q :: st) h KK) : FW g md pc l (.ref k :: st) h KK :=
  QW.getR hd hf (by show k < R0.length; rw [q_R0len]; exact q_shp_lt hs.1 (by decide)) hs.1 hs.2.1 hs.2.2.1 hs.2.2.2 kk
theorem FW.putI {idx k j ci : Nat} {v : Int32} (hd : decode (q_c md) pc = .ok (.putfield idx, 3)) (hf : q_F (q_y md).cls idx ci j) (hs : q_SP k j ci .int) (kk : FW g md (pc + 3) l st (q_up h k j v) KK) : FW g md pc l (.int v :: .ref k :: st) h KK :=
  QW.putI hd hf (by show k < R0.length; rw [q_R0len]; exact q_shp_lt hs.1 (by decide)) hs.1 hs.2.1 hs.2.2.1 (by rw [hs.2.2.2]; rfl) (by rw [hs.2.2.2]; rfl) kk
theorem FW.putZ {idx k j ci : Nat} {v : Int32} (hb : q_bool v) (hd : decode (q_c md) pc = .ok (.putfield idx, 3)) (hf : q_F (q_y md).cls idx ci j) (hs : q_SP k j ci .boolean) (kk : FW g md (pc + 3) l st (q_up h k j v) KK) : FW g md pc l (.int v :: .ref k :: st) h KK :=
  QW.putI hd hf (by show k < R0.length; rw [q_R0len]; exact q_shp_lt hs.1 (by decide)) hs.1 hs.2.1 hs.2.2.1 (by rw [hs.2.2.2]; exact q_bool_nar hb) (by rw [hs.2.2.2]; rcases hb with rfl | rfl <;> decide) kk
theorem FW.iald {k n : Nat} {i : Int32} (v : Int32) (hd : decode (q_c md) pc = .ok (.iaload, 1)) (hs : q_SA k n) (hin : vp_in i n) (hv : h k i.toNatClampNeg = v) (kk : FW g md (pc + 1) l (.int v :: st) h KK) : FW g md pc l (.int i :: .ref k :: st) h KK := by
  subst hv
  exact QW.iald hd (by show k < R0.length; rw [q_R0len]; exact q_shp_lt hs (by decide)) hs hin kk
theorem FW.zald {k n : Nat} {i : Int32} (v : Int32) (hd : decode (q_c md) pc = .ok (.baload, 1)) (hs : q_SZ k n) (hin : vp_in i n) (hv : h k i.toNatClampNeg = v) (kk : FW g md (pc + 1) l (.int v :: st) h KK) : FW g md pc l (.int i :: .ref k :: st) h KK := by
  subst hv
  exact QW.zald hd (by show k < R0.length; rw [q_R0len]; exact q_shp_lt hs (by decide)) hs hin kk
theorem FW.alen {k n : Nat} (v : Int32) (hd : decode (q_c md) pc = .ok (.arraylength, 1)) (hs : q_SA k n) (hv : Int32.ofNat n = v) (kk : FW g md (pc + 1) l (.int v :: st) h KK) : FW g md pc l (.ref k :: st) h KK :=
  QW.alen hd (by show k < R0.length; rw [q_R0len]; exact q_shp_lt hs (by decide)) hs hv kk
theorem FW.iast {k n : Nat} {i x : Int32} (hd : decode (q_c md) pc = .ok (.iastore, 1)) (hs : q_SA k n) (hin : vp_in i n) (kk : FW g md (pc + 1) l st (q_up h k i.toNatClampNeg x) KK) : FW g md pc l (.int x :: .int i :: .ref k :: st) h KK :=
  QW.iast hd (by show k < R0.length; rw [q_R0len]; exact q_shp_lt hs (by decide)) hs hin kk
theorem FW.zast {k n : Nat} {i x : Int32} (hb : q_bool x) (hd : decode (q_c md) pc = .ok (.bastore, 1)) (hs : q_SZ k n) (hin : vp_in i n) (kk : FW g md (pc + 1) l st (q_up h k i.toNatClampNeg x) KK) : FW g md pc l (.int x :: .int i :: .ref k :: st) h KK :=
  QW.zast q_R0len hd hs hin (q_bool_vnar hb) kk
theorem FW.copy {idx k0 k1 n0 n1 : Nat} {sp dp n : Int32} (hd : decode (q_c md) pc = .ok (.invokestatic idx, 3)) (hw : (Cond.methodLink (q_y md).cls idx arraycopyName ∈ TB) ∧ Cond.native arraycopyName ∈ TB ∧ Cond.static arraycopyName ∈ TB ∧ Cond.initialized "java/lang/System" ∈ TB) (hs0 : q_SA k0 n0) (hs1 : q_SA k1 n1) (hb : (¬ sp < 0) ∧ (¬ dp < 0) ∧ (¬ n < 0) ∧ sp.toNatClampNeg + n.toNatClampNeg ≤ n0 ∧ dp.toNatClampNeg + n.toNatClampNeg ≤ n1)
    (hframes : 1 ≤ (q_r md).frames) (hlocals : (st.map fun v => v.category).sum + (nativeFrameWords "java/lang/System" "arraycopy" 5 + 11) ≤ (q_r md).locals) (kk : FW g md (pc + 3) l st (q_upA h k1 (va_cpy (h k0) (h k1) sp.toNatClampNeg dp.toNatClampNeg n.toNatClampNeg)) KK) : FW g md pc l (.int n :: .int dp :: .ref k1 :: .int sp :: .ref k0 :: st) h KK :=
  QW.copy q_R0len hd hw hs0 hs1 hb.1 hb.2.1 hb.2.2.1 hb.2.2.2.1 hb.2.2.2.2 hframes hlocals kk
theorem FW.ret {K : Int32 → Hp → Prop} {x : Int32} (hd : decode (q_c md) pc = .ok (.ireturn, 1)) (ht : q_t md = some .int) (k : K x h) : FW g md pc l [.int x] h (q_RI K) := QW.ireturn hd ⟨rfl, rfl⟩ ⟨_, ht, rfl⟩ ⟨rfl, x, rfl, k⟩
theorem FW.retZ {K : Int32 → Hp → Prop} {x : Int32} (hb : q_bool x) (hd : decode (q_c md) pc = .ok (.ireturn, 1)) (ht : q_t md = some .boolean) (k : K x h) : FW g md pc l [.int x] h (q_RI K) := QW.ireturn hd ⟨rfl, rfl⟩ ⟨_, ht, q_bool_nar hb⟩ ⟨rfl, x, rfl, k⟩
theorem FW.retV {K : Hp → Prop} (hd : decode (q_c md) pc = .ok (.return_, 1)) (ht : q_t md = none) (k : K h) : FW g md pc l [] h (q_RV K) := QW.ret hd ⟨rfl, rfl⟩ ht ⟨rfl, rfl, k⟩
abbrev q_none (md : MD) : Prop := (q_r md).cells = 0 ∧ (q_r md).slots = 0
theorem q_fit0 (h0 : q_none md2) : q_fit md md2 (q_r md).cells (q_r md).slots := ⟨by rw [h0.1]; exact Nat.le_refl _, by rw [h0.2]; exact Nat.le_refl _⟩
theorem q_ci {rr : List Value} (h0 : q_none md2) (v : Option Int32) (ph2 : QH) (hk : q_RI (fun x h2 => FW g md (pc + 3) l (.int x :: rr) h2 KK) v ph2) : QW g md (pc + 3) l (v.toList.map Value.int ++ rr) ph2 ((q_r md).cells + (q_r md2).cells) ((q_r md).slots + (q_r md2).slots) KK := by
  obtain ⟨r, h2⟩ := ph2
  obtain ⟨e, x, ev, hk⟩ := hk
  have e : r = R0 := e
  subst e; subst ev
  rw [h0.1, h0.2]
  exact hk
theorem q_cv {rr : List Value} (h0 : q_none md2) (v : Option Int32) (ph2 : QH) (hk : q_RV (fun h2 => FW g md (pc + 3) l rr h2 KK) v ph2) : QW g md (pc + 3) l (v.toList.map Value.int ++ rr) ph2 ((q_r md).cells + (q_r md2).cells) ((q_r md).slots + (q_r md2).slots) KK := by
  obtain ⟨r, h2⟩ := ph2
  obtain ⟨e, ev, hk⟩ := hk
  have e : r = R0 := e
  subst e; subst ev
  rw [h0.1, h0.2]
  exact hk
theorem FW.callVi {idx n k : Nat} (av rest : List Value) (hstk : stk = av.reverse ++ .ref k :: rest) (hd : decode (q_c md) pc = .ok (.invokevirtual idx, 3)) (hl : q_V (q_y md).cls idx md2 n) (hs : q_SC k (q_y md2).cls) (hn : av.length = n) (hroom : q_room md md2) (h0 : q_none md2) (hst : (rest.map fun v => v.category).sum ≤ 8) (kk : FI g md2 (.ref k :: av) h (fun x h2 => FW g md (pc + 3) l (.int x :: rest) h2 KK)) : FW g md pc l stk h KK := by
  obtain ⟨ci, h1, h2, h3⟩ := hs
  exact QW.callV hstk hd hl (by show k < R0.length; rw [q_R0len]; exact q_shp_lt h1 (by decide)) h1 h2 h3 hn hroom (q_fit0 h0) hst (QC.mono (q_ci h0) kk)
theorem FW.callVv {idx n k : Nat} (av rest : List Value) (hstk : stk = av.reverse ++ .ref k :: rest) (hd : decode (q_c md) pc = .ok (.invokevirtual idx, 3)) (hl : q_V (q_y md).cls idx md2 n) (hs : q_SC k (q_y md2).cls) (hn : av.length = n) (hroom : q_room md md2) (h0 : q_none md2) (hst : (rest.map fun v => v.category).sum ≤ 8) (kk : FV g md2 (.ref k :: av) h (fun h2 => FW g md (pc + 3) l rest h2 KK)) : FW g md pc l stk h KK := by
  obtain ⟨ci, h1, h2, h3⟩ := hs
  exact QW.callV hstk hd hl (by show k < R0.length; rw [q_R0len]; exact q_shp_lt h1 (by decide)) h1 h2 h3 hn hroom (q_fit0 h0) hst (QC.mono (q_cv h0) kk)
theorem FW.callSi {idx n : Nat} (av rest : List Value) (hstk : stk = av.reverse ++ rest) (hd : decode (q_c md) pc = .ok (.invokestatic idx, 3)) (hl : q_S (q_y md).cls idx md2 n) (hn : av.length = n) (hroom : q_room md md2) (h0 : q_none md2) (hst : (rest.map fun v => v.category).sum ≤ 8) (kk : FI g md2 av h (fun x h2 => FW g md (pc + 3) l (.int x :: rest) h2 KK)) : FW g md pc l stk h KK :=
  QW.callS hstk hd hl hn hroom (q_fit0 h0) hst (QC.mono (q_ci h0) kk)
theorem FW.callSv {idx n : Nat} (av rest : List Value) (hstk : stk = av.reverse ++ rest) (hd : decode (q_c md) pc = .ok (.invokestatic idx, 3)) (hl : q_S (q_y md).cls idx md2 n) (hn : av.length = n) (hroom : q_room md md2) (h0 : q_none md2) (hst : (rest.map fun v => v.category).sum ≤ 8) (kk : FV g md2 av h (fun h2 => FW g md (pc + 3) l rest h2 KK)) : FW g md pc l stk h KK :=
  QW.callS hstk hd hl hn hroom (q_fit0 h0) hst (QC.mono (q_cv h0) kk)
theorem FW.callNi {idx n : Nat} (av rest : List Value) (hstk : stk = av.reverse ++ rest) (hd : decode (q_c md) pc = .ok (.invokestatic idx, 3)) (hl : q_SN (q_y md).cls idx md2 n) (hn : av.length = n) (hroom : q_room md md2) (h0 : q_none md2) (hst : (rest.map fun v => v.category).sum ≤ 8) (kk : FI g md2 av h (fun x h2 => FW g md (pc + 3) l (.int x :: rest) h2 KK)) : FW g md pc l stk h KK :=
  QW.callSN hstk hd hl hn hroom (q_fit0 h0) hst (QC.mono (q_ci h0) kk)
theorem FI.of {K : Int32 → Hp → Prop} (l0 : List (Option Value)) (hy : plainName (q_y md).cls = true) (h0 : q_none md) (hl : (q_ent av).length ≤ q_n md) (he : q_ent av ++ List.replicate (q_n md - (q_ent av).length) none = l0) (k : FW g md 0 l0 [] h (q_RI K)) : FI g md av h K := by
  subst he
  unfold FW at k
  rw [h0.1, h0.2] at k
  exact QC.of hy hl k
theorem FV.of {K : Hp → Prop} (l0 : List (Option Value)) (hy : plainName (q_y md).cls = true) (h0 : q_none md) (hl : (q_ent av).length ≤ q_n md) (he : q_ent av ++ List.replicate (q_n md - (q_ent av).length) none = l0) (k : FW g md 0 l0 [] h (q_RV K)) : FV g md av h K := by
  subst he
  unfold FW at k
  rw [h0.1, h0.2] at k
  exact QC.of hy hl k
end FWr
theorem sC_0 : q_SC 0 RX7 := ⟨7, rfl, rfl, by decide⟩
theorem sR_0_0 : q_SR 0 0 7 1 := ⟨rfl, rfl, rfl, by decide⟩
theorem sR_0_1 : q_SR 0 1 7 7 := ⟨rfl, rfl, rfl, by decide⟩
theorem sR_0_2 : q_SR 0 2 7 16 := ⟨rfl, rfl, rfl, by decide⟩
theorem sR_0_3 : q_SR 0 3 7 20 := ⟨rfl, rfl, rfl, by decide⟩
theorem sR_0_4 : q_SR 0 4 7 24 := ⟨rfl, rfl, rfl, by decide⟩
theorem sR_0_5 : q_SR 0 5 7 26 := ⟨rfl, rfl, rfl, by decide⟩
theorem sR_0_6 : q_SR 0 6 7 31 := ⟨rfl, rfl, rfl, by decide⟩
theorem sR_0_7 : q_SR 0 7 7 36 := ⟨rfl, rfl, rfl, by decide⟩
theorem sR_0_8 : q_SR 0 8 7 41 := ⟨rfl, rfl, rfl, by decide⟩
theorem sC_1 : q_SC 1 RX6 := ⟨6, rfl, rfl, by decide⟩
theorem sI_1_0 : q_SI 1 0 6 := ⟨rfl, rfl⟩
theorem sP_1_0 : q_SP 1 0 6 .int := ⟨rfl, rfl, rfl, rfl⟩
theorem sI_1_1 : q_SI 1 1 6 := ⟨rfl, rfl⟩
theorem sP_1_1 : q_SP 1 1 6 .int := ⟨rfl, rfl, rfl, rfl⟩
theorem sI_1_2 : q_SI 1 2 6 := ⟨rfl, rfl⟩
theorem sP_1_2 : q_SP 1 2 6 .int := ⟨rfl, rfl, rfl, rfl⟩
theorem sR_1_3 : q_SR 1 3 6 2 := ⟨rfl, rfl, rfl, by decide⟩
theorem sR_1_4 : q_SR 1 4 6 3 := ⟨rfl, rfl, rfl, by decide⟩
theorem sR_1_5 : q_SR 1 5 6 4 := ⟨rfl, rfl, rfl, by decide⟩
theorem sR_1_6 : q_SR 1 6 6 5 := ⟨rfl, rfl, rfl, by decide⟩
theorem sR_1_7 : q_SR 1 7 6 6 := ⟨rfl, rfl, rfl, by decide⟩
theorem sA_2 : q_SA 2 6 := rfl
theorem sA_3 : q_SA 3 6 := rfl
theorem sA_4 : q_SA 4 6 := rfl
theorem sA_5 : q_SA 5 6 := rfl
theorem sA_6 : q_SA 6 6 := rfl
theorem sC_7 : q_SC 7 RX5 := ⟨5, rfl, rfl, by decide⟩
theorem sR_7_0 : q_SR 7 0 5 8 := ⟨rfl, rfl, rfl, by decide⟩
theorem sI_7_1 : q_SI 7 1 5 := ⟨rfl, rfl⟩
theorem sP_7_1 : q_SP 7 1 5 .int := ⟨rfl, rfl, rfl, rfl⟩
theorem sR_7_2 : q_SR 7 2 5 9 := ⟨rfl, rfl, rfl, by decide⟩
theorem sI_7_3 : q_SI 7 3 5 := ⟨rfl, rfl⟩
theorem sP_7_3 : q_SP 7 3 5 .int := ⟨rfl, rfl, rfl, rfl⟩
theorem sI_7_4 : q_SI 7 4 5 := ⟨rfl, rfl⟩
theorem sP_7_4 : q_SP 7 4 5 .int := ⟨rfl, rfl, rfl, rfl⟩
theorem sI_7_5 : q_SI 7 5 5 := ⟨rfl, rfl⟩
theorem sP_7_5 : q_SP 7 5 5 .int := ⟨rfl, rfl, rfl, rfl⟩
theorem sI_7_6 : q_SI 7 6 5 := ⟨rfl, rfl⟩
theorem sP_7_6 : q_SP 7 6 5 .int := ⟨rfl, rfl, rfl, rfl⟩
theorem sR_7_7 : q_SR 7 7 5 15 := ⟨rfl, rfl, rfl, by decide⟩
theorem sA_8 : q_SA 8 200 := rfl
theorem sC_9 : q_SC 9 RX6 := ⟨6, rfl, rfl, by decide⟩
theorem sI_9_0 : q_SI 9 0 6 := ⟨rfl, rfl⟩
theorem sP_9_0 : q_SP 9 0 6 .int := ⟨rfl, rfl, rfl, rfl⟩
theorem sI_9_1 : q_SI 9 1 6 := ⟨rfl, rfl⟩
theorem sP_9_1 : q_SP 9 1 6 .int := ⟨rfl, rfl, rfl, rfl⟩
theorem sI_9_2 : q_SI 9 2 6 := ⟨rfl, rfl⟩
theorem sP_9_2 : q_SP 9 2 6 .int := ⟨rfl, rfl, rfl, rfl⟩
theorem sR_9_3 : q_SR 9 3 6 10 := ⟨rfl, rfl, rfl, by decide⟩
theorem sR_9_4 : q_SR 9 4 6 11 := ⟨rfl, rfl, rfl, by decide⟩
theorem sR_9_5 : q_SR 9 5 6 12 := ⟨rfl, rfl, rfl, by decide⟩
theorem sR_9_6 : q_SR 9 6 6 13 := ⟨rfl, rfl, rfl, by decide⟩
theorem sR_9_7 : q_SR 9 7 6 14 := ⟨rfl, rfl, rfl, by decide⟩
theorem sA_10 : q_SA 10 6 := rfl
theorem sA_11 : q_SA 11 6 := rfl
theorem sA_12 : q_SA 12 6 := rfl
theorem sA_13 : q_SA 13 6 := rfl
theorem sA_14 : q_SA 14 6 := rfl
theorem sA_15 : q_SA 15 4 := rfl
theorem sC_16 : q_SC 16 RX3 := ⟨3, rfl, rfl, by decide⟩
theorem sR_16_0 : q_SR 16 0 3 1 := ⟨rfl, rfl, rfl, by decide⟩
theorem sR_16_1 : q_SR 16 1 3 17 := ⟨rfl, rfl, rfl, by decide⟩
theorem sR_16_2 : q_SR 16 2 3 18 := ⟨rfl, rfl, rfl, by decide⟩
theorem sR_16_3 : q_SR 16 3 3 19 := ⟨rfl, rfl, rfl, by decide⟩
theorem sI_16_4 : q_SI 16 4 3 := ⟨rfl, rfl⟩
theorem sP_16_4 : q_SP 16 4 3 .boolean := ⟨rfl, rfl, rfl, rfl⟩
theorem sI_16_5 : q_SI 16 5 3 := ⟨rfl, rfl⟩
theorem sP_16_5 : q_SP 16 5 3 .int := ⟨rfl, rfl, rfl, rfl⟩
theorem sA_17 : q_SA 17 6 := rfl
theorem sA_18 : q_SA 18 6 := rfl
theorem sA_19 : q_SA 19 12 := rfl
theorem sC_20 : q_SC 20 RX2 := ⟨2, rfl, rfl, by decide⟩
theorem sR_20_0 : q_SR 20 0 2 1 := ⟨rfl, rfl, rfl, by decide⟩
theorem sR_20_1 : q_SR 20 1 2 16 := ⟨rfl, rfl, rfl, by decide⟩
theorem sR_20_2 : q_SR 20 2 2 21 := ⟨rfl, rfl, rfl, by decide⟩
theorem sR_20_3 : q_SR 20 3 2 22 := ⟨rfl, rfl, rfl, by decide⟩
theorem sR_20_4 : q_SR 20 4 2 23 := ⟨rfl, rfl, rfl, by decide⟩
theorem sI_20_5 : q_SI 20 5 2 := ⟨rfl, rfl⟩
theorem sP_20_5 : q_SP 20 5 2 .int := ⟨rfl, rfl, rfl, rfl⟩
theorem sI_20_6 : q_SI 20 6 2 := ⟨rfl, rfl⟩
theorem sP_20_6 : q_SP 20 6 2 .int := ⟨rfl, rfl, rfl, rfl⟩
theorem sA_21 : q_SA 21 6 := rfl
theorem sA_22 : q_SA 22 6 := rfl
theorem sA_23 : q_SA 23 6 := rfl
theorem sC_24 : q_SC 24 RX1 := ⟨1, rfl, rfl, by decide⟩
theorem sR_24_0 : q_SR 24 0 1 1 := ⟨rfl, rfl, rfl, by decide⟩
theorem sR_24_1 : q_SR 24 1 1 20 := ⟨rfl, rfl, rfl, by decide⟩
theorem sR_24_2 : q_SR 24 2 1 25 := ⟨rfl, rfl, rfl, by decide⟩
theorem sI_24_3 : q_SI 24 3 1 := ⟨rfl, rfl⟩
theorem sP_24_3 : q_SP 24 3 1 .int := ⟨rfl, rfl, rfl, rfl⟩
theorem sI_24_4 : q_SI 24 4 1 := ⟨rfl, rfl⟩
theorem sP_24_4 : q_SP 24 4 1 .int := ⟨rfl, rfl, rfl, rfl⟩
theorem sI_24_5 : q_SI 24 5 1 := ⟨rfl, rfl⟩
theorem sP_24_5 : q_SP 24 5 1 .int := ⟨rfl, rfl, rfl, rfl⟩
theorem sI_24_6 : q_SI 24 6 1 := ⟨rfl, rfl⟩
theorem sP_24_6 : q_SP 24 6 1 .int := ⟨rfl, rfl, rfl, rfl⟩
theorem sA_25 : q_SA 25 384 := rfl
theorem sC_26 : q_SC 26 RX0 := ⟨0, rfl, rfl, by decide⟩
theorem sI_26_0 : q_SI 26 0 0 := ⟨rfl, rfl⟩
theorem sP_26_0 : q_SP 26 0 0 .int := ⟨rfl, rfl, rfl, rfl⟩
theorem sI_26_1 : q_SI 26 1 0 := ⟨rfl, rfl⟩
theorem sP_26_1 : q_SP 26 1 0 .boolean := ⟨rfl, rfl, rfl, rfl⟩
theorem sI_26_2 : q_SI 26 2 0 := ⟨rfl, rfl⟩
theorem sP_26_2 : q_SP 26 2 0 .boolean := ⟨rfl, rfl, rfl, rfl⟩
theorem sI_26_3 : q_SI 26 3 0 := ⟨rfl, rfl⟩
theorem sP_26_3 : q_SP 26 3 0 .int := ⟨rfl, rfl, rfl, rfl⟩
theorem sR_26_4 : q_SR 26 4 0 27 := ⟨rfl, rfl, rfl, by decide⟩
theorem sR_26_5 : q_SR 26 5 0 28 := ⟨rfl, rfl, rfl, by decide⟩
theorem sR_26_6 : q_SR 26 6 0 29 := ⟨rfl, rfl, rfl, by decide⟩
theorem sR_26_7 : q_SR 26 7 0 30 := ⟨rfl, rfl, rfl, by decide⟩
theorem sA_27 : q_SA 27 6 := rfl
theorem sA_28 : q_SA 28 6 := rfl
theorem sA_29 : q_SA 29 12 := rfl
theorem sA_30 : q_SA 30 6 := rfl
theorem sC_31 : q_SC 31 RX0 := ⟨0, rfl, rfl, by decide⟩
theorem sI_31_0 : q_SI 31 0 0 := ⟨rfl, rfl⟩
theorem sP_31_0 : q_SP 31 0 0 .int := ⟨rfl, rfl, rfl, rfl⟩
theorem sI_31_1 : q_SI 31 1 0 := ⟨rfl, rfl⟩
theorem sP_31_1 : q_SP 31 1 0 .boolean := ⟨rfl, rfl, rfl, rfl⟩
theorem sI_31_2 : q_SI 31 2 0 := ⟨rfl, rfl⟩
theorem sP_31_2 : q_SP 31 2 0 .boolean := ⟨rfl, rfl, rfl, rfl⟩
theorem sI_31_3 : q_SI 31 3 0 := ⟨rfl, rfl⟩
theorem sP_31_3 : q_SP 31 3 0 .int := ⟨rfl, rfl, rfl, rfl⟩
theorem sR_31_4 : q_SR 31 4 0 32 := ⟨rfl, rfl, rfl, by decide⟩
theorem sR_31_5 : q_SR 31 5 0 33 := ⟨rfl, rfl, rfl, by decide⟩
theorem sR_31_6 : q_SR 31 6 0 34 := ⟨rfl, rfl, rfl, by decide⟩
theorem sR_31_7 : q_SR 31 7 0 35 := ⟨rfl, rfl, rfl, by decide⟩
theorem sA_32 : q_SA 32 6 := rfl
theorem sA_33 : q_SA 33 6 := rfl
theorem sA_34 : q_SA 34 12 := rfl
theorem sA_35 : q_SA 35 6 := rfl
theorem sC_36 : q_SC 36 RX0 := ⟨0, rfl, rfl, by decide⟩
theorem sI_36_0 : q_SI 36 0 0 := ⟨rfl, rfl⟩
theorem sP_36_0 : q_SP 36 0 0 .int := ⟨rfl, rfl, rfl, rfl⟩
theorem sI_36_1 : q_SI 36 1 0 := ⟨rfl, rfl⟩
theorem sP_36_1 : q_SP 36 1 0 .boolean := ⟨rfl, rfl, rfl, rfl⟩
theorem sI_36_2 : q_SI 36 2 0 := ⟨rfl, rfl⟩
theorem sP_36_2 : q_SP 36 2 0 .boolean := ⟨rfl, rfl, rfl, rfl⟩
theorem sI_36_3 : q_SI 36 3 0 := ⟨rfl, rfl⟩
theorem sP_36_3 : q_SP 36 3 0 .int := ⟨rfl, rfl, rfl, rfl⟩
theorem sR_36_4 : q_SR 36 4 0 37 := ⟨rfl, rfl, rfl, by decide⟩
theorem sR_36_5 : q_SR 36 5 0 38 := ⟨rfl, rfl, rfl, by decide⟩
theorem sR_36_6 : q_SR 36 6 0 39 := ⟨rfl, rfl, rfl, by decide⟩
theorem sR_36_7 : q_SR 36 7 0 40 := ⟨rfl, rfl, rfl, by decide⟩
theorem sA_37 : q_SA 37 6 := rfl
theorem sA_38 : q_SA 38 6 := rfl
theorem sA_39 : q_SA 39 12 := rfl
theorem sA_40 : q_SA 40 6 := rfl
theorem sC_41 : q_SC 41 RX4 := ⟨4, rfl, rfl, by decide⟩
theorem sI_41_0 : q_SI 41 0 4 := ⟨rfl, rfl⟩
theorem sP_41_0 : q_SP 41 0 4 .int := ⟨rfl, rfl, rfl, rfl⟩
theorem sR_41_1 : q_SR 41 1 4 42 := ⟨rfl, rfl, rfl, by decide⟩
theorem sR_41_2 : q_SR 41 2 4 43 := ⟨rfl, rfl, rfl, by decide⟩
theorem sA_42 : q_SA 42 6 := rfl
theorem sA_43 : q_SA 43 6 := rfl
theorem sC_44 : q_SC 44 RX8 := ⟨8, rfl, rfl, by decide⟩
theorem sR_44_0 : q_SR 44 0 8 45 := ⟨rfl, rfl, rfl, by decide⟩
theorem sR_44_1 : q_SR 44 1 8 46 := ⟨rfl, rfl, rfl, by decide⟩
theorem sR_44_2 : q_SR 44 2 8 47 := ⟨rfl, rfl, rfl, by decide⟩
theorem sI_44_3 : q_SI 44 3 8 := ⟨rfl, rfl⟩
theorem sP_44_3 : q_SP 44 3 8 .int := ⟨rfl, rfl, rfl, rfl⟩
theorem sR_44_4 : q_SR 44 4 8 48 := ⟨rfl, rfl, rfl, by decide⟩
theorem sI_44_5 : q_SI 44 5 8 := ⟨rfl, rfl⟩
theorem sP_44_5 : q_SP 44 5 8 .int := ⟨rfl, rfl, rfl, rfl⟩
theorem sI_44_6 : q_SI 44 6 8 := ⟨rfl, rfl⟩
theorem sP_44_6 : q_SP 44 6 8 .int := ⟨rfl, rfl, rfl, rfl⟩
theorem sI_44_7 : q_SI 44 7 8 := ⟨rfl, rfl⟩
theorem sP_44_7 : q_SP 44 7 8 .int := ⟨rfl, rfl, rfl, rfl⟩
theorem sR_44_8 : q_SR 44 8 8 49 := ⟨rfl, rfl, rfl, by decide⟩
theorem sR_44_9 : q_SR 44 9 8 50 := ⟨rfl, rfl, rfl, by decide⟩
theorem sR_44_10 : q_SR 44 10 8 51 := ⟨rfl, rfl, rfl, by decide⟩
theorem sR_44_11 : q_SR 44 11 8 52 := ⟨rfl, rfl, rfl, by decide⟩
theorem sR_44_12 : q_SR 44 12 8 53 := ⟨rfl, rfl, rfl, by decide⟩
theorem sI_44_13 : q_SI 44 13 8 := ⟨rfl, rfl⟩
theorem sP_44_13 : q_SP 44 13 8 .int := ⟨rfl, rfl, rfl, rfl⟩
theorem sI_44_14 : q_SI 44 14 8 := ⟨rfl, rfl⟩
theorem sP_44_14 : q_SP 44 14 8 .int := ⟨rfl, rfl, rfl, rfl⟩
theorem sI_44_15 : q_SI 44 15 8 := ⟨rfl, rfl⟩
theorem sP_44_15 : q_SP 44 15 8 .int := ⟨rfl, rfl, rfl, rfl⟩
theorem sI_44_16 : q_SI 44 16 8 := ⟨rfl, rfl⟩
theorem sP_44_16 : q_SP 44 16 8 .int := ⟨rfl, rfl, rfl, rfl⟩
theorem sI_44_17 : q_SI 44 17 8 := ⟨rfl, rfl⟩
theorem sP_44_17 : q_SP 44 17 8 .int := ⟨rfl, rfl, rfl, rfl⟩
theorem sI_44_18 : q_SI 44 18 8 := ⟨rfl, rfl⟩
theorem sP_44_18 : q_SP 44 18 8 .int := ⟨rfl, rfl, rfl, rfl⟩
theorem sI_44_19 : q_SI 44 19 8 := ⟨rfl, rfl⟩
theorem sP_44_19 : q_SP 44 19 8 .int := ⟨rfl, rfl, rfl, rfl⟩
theorem sR_44_20 : q_SR 44 20 8 54 := ⟨rfl, rfl, rfl, by decide⟩
theorem sR_44_21 : q_SR 44 21 8 55 := ⟨rfl, rfl, rfl, by decide⟩
theorem sR_44_22 : q_SR 44 22 8 56 := ⟨rfl, rfl, rfl, by decide⟩
theorem sI_44_23 : q_SI 44 23 8 := ⟨rfl, rfl⟩
theorem sP_44_23 : q_SP 44 23 8 .int := ⟨rfl, rfl, rfl, rfl⟩
theorem sI_44_24 : q_SI 44 24 8 := ⟨rfl, rfl⟩
theorem sP_44_24 : q_SP 44 24 8 .int := ⟨rfl, rfl, rfl, rfl⟩
theorem sI_44_25 : q_SI 44 25 8 := ⟨rfl, rfl⟩
theorem sP_44_25 : q_SP 44 25 8 .int := ⟨rfl, rfl, rfl, rfl⟩
theorem sR_44_26 : q_SR 44 26 8 57 := ⟨rfl, rfl, rfl, by decide⟩
theorem sR_44_27 : q_SR 44 27 8 58 := ⟨rfl, rfl, rfl, by decide⟩
theorem sR_44_28 : q_SR 44 28 8 59 := ⟨rfl, rfl, rfl, by decide⟩
theorem sR_44_29 : q_SR 44 29 8 60 := ⟨rfl, rfl, rfl, by decide⟩
theorem sI_44_30 : q_SI 44 30 8 := ⟨rfl, rfl⟩
theorem sP_44_30 : q_SP 44 30 8 .int := ⟨rfl, rfl, rfl, rfl⟩
theorem sA_45 : q_SA 45 81 := rfl
theorem sZ_46 : q_SZ 46 2 := rfl
theorem sA_47 : q_SA 47 200 := rfl
theorem sA_48 : q_SA 48 60 := rfl
theorem sA_49 : q_SA 49 6 := rfl
theorem sA_50 : q_SA 50 6 := rfl
theorem sA_51 : q_SA 51 6 := rfl
theorem sA_52 : q_SA 52 6 := rfl
theorem sA_53 : q_SA 53 6 := rfl
theorem sA_54 : q_SA 54 6 := rfl
theorem sA_55 : q_SA 55 6 := rfl
theorem sA_56 : q_SA 56 6 := rfl
theorem sA_57 : q_SA 57 6 := rfl
theorem sA_58 : q_SA 58 384 := rfl
theorem sA_59 : q_SA 59 6 := rfl
theorem sA_60 : q_SA 60 12 := rfl
end
