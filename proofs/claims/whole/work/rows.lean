section
-- ===== PART A: goes FIRST, ahead of the names: the tables' words, and 'selects' of the private methods out of them =====
/-- a private method of a class that the tables say can be made, by its rows of tables_1 -/
def lw_okq (q : MethodName × Nat) : Prop := (q.1.cls ≠ "java/lang/invoke/MethodHandle" ∧ q.1.cls ≠ "java/lang/invoke/VarHandle") ∧ Cond.instantiable q.1.cls q.2 ∈ tables_1 ∧ Cond.privateMethod q.1 ∈ tables_1 ∧ Cond.instanceMethod q.1 ∈ tables_1
theorem lw_p0 : lw_okq (⟨"OneTooFew$Text", "doLine", "()Z"⟩, 8) := ⟨⟨by decide +kernel, by decide +kernel⟩, List.mem_of_getElem? (i := 83) (by decide +kernel), List.mem_of_getElem? (i := 329) (by decide +kernel), List.mem_of_getElem? (i := 330) (by decide +kernel)⟩
theorem lw_p1 : lw_okq (⟨"OneTooFew$Text", "nextToken", "()V"⟩, 8) := ⟨⟨by decide +kernel, by decide +kernel⟩, List.mem_of_getElem? (i := 83) (by decide +kernel), List.mem_of_getElem? (i := 333) (by decide +kernel), List.mem_of_getElem? (i := 334) (by decide +kernel)⟩
theorem lw_p2 : lw_okq (⟨"OneTooFew$Text", "isWord", "(Ljava/lang/String;)Z"⟩, 8) := ⟨⟨by decide +kernel, by decide +kernel⟩, List.mem_of_getElem? (i := 83) (by decide +kernel), List.mem_of_getElem? (i := 344) (by decide +kernel), List.mem_of_getElem? (i := 345) (by decide +kernel)⟩
theorem lw_p3 : lw_okq (⟨"OneTooFew$Text", "doInn", "()Z"⟩, 8) := ⟨⟨by decide +kernel, by decide +kernel⟩, List.mem_of_getElem? (i := 83) (by decide +kernel), List.mem_of_getElem? (i := 396) (by decide +kernel), List.mem_of_getElem? (i := 397) (by decide +kernel)⟩
theorem lw_p4 : lw_okq (⟨"OneTooFew$Text", "readNumber", "(II)Z"⟩, 8) := ⟨⟨by decide +kernel, by decide +kernel⟩, List.mem_of_getElem? (i := 83) (by decide +kernel), List.mem_of_getElem? (i := 400) (by decide +kernel), List.mem_of_getElem? (i := 401) (by decide +kernel)⟩
theorem lw_p5 : lw_okq (⟨"OneTooFew$Text", "doChair", "(Z)Z"⟩, 8) := ⟨⟨by decide +kernel, by decide +kernel⟩, List.mem_of_getElem? (i := 83) (by decide +kernel), List.mem_of_getElem? (i := 409) (by decide +kernel), List.mem_of_getElem? (i := 410) (by decide +kernel)⟩
theorem lw_p6 : lw_okq (⟨"OneTooFew$Text", "kindOfWord", "()I"⟩, 8) := ⟨⟨by decide +kernel, by decide +kernel⟩, List.mem_of_getElem? (i := 83) (by decide +kernel), List.mem_of_getElem? (i := 426) (by decide +kernel), List.mem_of_getElem? (i := 427) (by decide +kernel)⟩
theorem lw_p7 : lw_okq (⟨"OneTooFew$Text", "doGuest", "(I)Z"⟩, 8) := ⟨⟨by decide +kernel, by decide +kernel⟩, List.mem_of_getElem? (i := 83) (by decide +kernel), List.mem_of_getElem? (i := 434) (by decide +kernel), List.mem_of_getElem? (i := 435) (by decide +kernel)⟩
theorem lw_p8 : lw_okq (⟨"OneTooFew$Text", "mostOf", "(I)I"⟩, 8) := ⟨⟨by decide +kernel, by decide +kernel⟩, List.mem_of_getElem? (i := 83) (by decide +kernel), List.mem_of_getElem? (i := 438) (by decide +kernel), List.mem_of_getElem? (i := 439) (by decide +kernel)⟩
theorem lw_p9 : lw_okq (⟨"OneTooFew$Seating", "seatAll", "(I)I"⟩, 6) := ⟨⟨by decide +kernel, by decide +kernel⟩, List.mem_of_getElem? (i := 119) (by decide +kernel), List.mem_of_getElem? (i := 536) (by decide +kernel), List.mem_of_getElem? (i := 537) (by decide +kernel)⟩
theorem lw_p10 : lw_okq (⟨"OneTooFew$Seating", "seatOne", "(II)V"⟩, 6) := ⟨⟨by decide +kernel, by decide +kernel⟩, List.mem_of_getElem? (i := 119) (by decide +kernel), List.mem_of_getElem? (i := 544) (by decide +kernel), List.mem_of_getElem? (i := 545) (by decide +kernel)⟩
theorem lw_p11 : lw_okq (⟨"OneTooFew$Seating", "take", "(II)V"⟩, 6) := ⟨⟨by decide +kernel, by decide +kernel⟩, List.mem_of_getElem? (i := 119) (by decide +kernel), List.mem_of_getElem? (i := 548) (by decide +kernel), List.mem_of_getElem? (i := 549) (by decide +kernel)⟩
theorem lw_p12 : lw_okq (⟨"OneTooFew$Foretold", "goTo", "(I)V"⟩, 7) := ⟨⟨by decide +kernel, by decide +kernel⟩, List.mem_of_getElem? (i := 149) (by decide +kernel), List.mem_of_getElem? (i := 608) (by decide +kernel), List.mem_of_getElem? (i := 609) (by decide +kernel)⟩
theorem lw_p13 : lw_okq (⟨"OneTooFew$Foretold", "minutesLikeTo", "(II)I"⟩, 7) := ⟨⟨by decide +kernel, by decide +kernel⟩, List.mem_of_getElem? (i := 149) (by decide +kernel), List.mem_of_getElem? (i := 630) (by decide +kernel), List.mem_of_getElem? (i := 631) (by decide +kernel)⟩
theorem lw_p14 : lw_okq (⟨"OneTooFew$Foretold", "addTimes", "(II)V"⟩, 7) := ⟨⟨by decide +kernel, by decide +kernel⟩, List.mem_of_getElem? (i := 149) (by decide +kernel), List.mem_of_getElem? (i := 634) (by decide +kernel), List.mem_of_getElem? (i := 635) (by decide +kernel)⟩
theorem lw_p15 : lw_okq (⟨"OneTooFew$Finder", "nobodyWouldChange", "(I)Z"⟩, 7) := ⟨⟨by decide +kernel, by decide +kernel⟩, List.mem_of_getElem? (i := 183) (by decide +kernel), List.mem_of_getElem? (i := 662) (by decide +kernel), List.mem_of_getElem? (i := 663) (by decide +kernel)⟩
def lw_privs_1 : List (MethodName × Nat) := [(⟨"OneTooFew$Text", "doLine", "()Z"⟩, 8), (⟨"OneTooFew$Text", "nextToken", "()V"⟩, 8), (⟨"OneTooFew$Text", "isWord", "(Ljava/lang/String;)Z"⟩, 8), (⟨"OneTooFew$Text", "doInn", "()Z"⟩, 8), (⟨"OneTooFew$Text", "readNumber", "(II)Z"⟩, 8), (⟨"OneTooFew$Text", "doChair", "(Z)Z"⟩, 8), (⟨"OneTooFew$Text", "kindOfWord", "()I"⟩, 8), (⟨"OneTooFew$Text", "doGuest", "(I)Z"⟩, 8), (⟨"OneTooFew$Text", "mostOf", "(I)I"⟩, 8), (⟨"OneTooFew$Seating", "seatAll", "(I)I"⟩, 6), (⟨"OneTooFew$Seating", "seatOne", "(II)V"⟩, 6), (⟨"OneTooFew$Seating", "take", "(II)V"⟩, 6), (⟨"OneTooFew$Foretold", "goTo", "(I)V"⟩, 7), (⟨"OneTooFew$Foretold", "minutesLikeTo", "(II)I"⟩, 7), (⟨"OneTooFew$Foretold", "addTimes", "(II)V"⟩, 7), (⟨"OneTooFew$Finder", "nobodyWouldChange", "(I)Z"⟩, 7)]
theorem lw_r1 : ∀ q ∈ lw_privs_1, lw_okq q := List.forall_mem_cons.mpr ⟨lw_p0, List.forall_mem_cons.mpr ⟨lw_p1, List.forall_mem_cons.mpr ⟨lw_p2, List.forall_mem_cons.mpr ⟨lw_p3, List.forall_mem_cons.mpr ⟨lw_p4, List.forall_mem_cons.mpr ⟨lw_p5, List.forall_mem_cons.mpr ⟨lw_p6, List.forall_mem_cons.mpr ⟨lw_p7, List.forall_mem_cons.mpr ⟨lw_p8, List.forall_mem_cons.mpr ⟨lw_p9, List.forall_mem_cons.mpr ⟨lw_p10, List.forall_mem_cons.mpr ⟨lw_p11, List.forall_mem_cons.mpr ⟨lw_p12, List.forall_mem_cons.mpr ⟨lw_p13, List.forall_mem_cons.mpr ⟨lw_p14, List.forall_mem_cons.mpr ⟨lw_p15, fun _ h => absurd h List.not_mem_nil⟩⟩⟩⟩⟩⟩⟩⟩⟩⟩⟩⟩⟩⟩⟩⟩
theorem lw_p16 : lw_okq (⟨"OneTooFew$Finder", "keepStill", "(I)V"⟩, 7) := ⟨⟨by decide +kernel, by decide +kernel⟩, List.mem_of_getElem? (i := 183) (by decide +kernel), List.mem_of_getElem? (i := 681) (by decide +kernel), List.mem_of_getElem? (i := 682) (by decide +kernel)⟩
theorem lw_p17 : lw_okq (⟨"OneTooFewModel", "begin", "()V"⟩, 31) := ⟨⟨by decide +kernel, by decide +kernel⟩, List.mem_of_getElem? (i := 754) (by decide +kernel), List.mem_of_getElem? (i := 760) (by decide +kernel), List.mem_of_getElem? (i := 761) (by decide +kernel)⟩
theorem lw_p18 : lw_okq (⟨"OneTooFewModel", "token", "()V"⟩, 31) := ⟨⟨by decide +kernel, by decide +kernel⟩, List.mem_of_getElem? (i := 754) (by decide +kernel), List.mem_of_getElem? (i := 878) (by decide +kernel), List.mem_of_getElem? (i := 879) (by decide +kernel)⟩
theorem lw_p19 : lw_okq (⟨"OneTooFewModel", "readsLine", "()Z"⟩, 31) := ⟨⟨by decide +kernel, by decide +kernel⟩, List.mem_of_getElem? (i := 754) (by decide +kernel), List.mem_of_getElem? (i := 885) (by decide +kernel), List.mem_of_getElem? (i := 886) (by decide +kernel)⟩
theorem lw_p20 : lw_okq (⟨"OneTooFewModel", "wordOf", "()I"⟩, 31) := ⟨⟨by decide +kernel, by decide +kernel⟩, List.mem_of_getElem? (i := 754) (by decide +kernel), List.mem_of_getElem? (i := 889) (by decide +kernel), List.mem_of_getElem? (i := 890) (by decide +kernel)⟩
theorem lw_p21 : lw_okq (⟨"OneTooFewModel", "guestWord", "()I"⟩, 31) := ⟨⟨by decide +kernel, by decide +kernel⟩, List.mem_of_getElem? (i := 754) (by decide +kernel), List.mem_of_getElem? (i := 893) (by decide +kernel), List.mem_of_getElem? (i := 894) (by decide +kernel)⟩
theorem lw_p22 : lw_okq (⟨"OneTooFewModel", "isWord", "(II)Z"⟩, 31) := ⟨⟨by decide +kernel, by decide +kernel⟩, List.mem_of_getElem? (i := 754) (by decide +kernel), List.mem_of_getElem? (i := 898) (by decide +kernel), List.mem_of_getElem? (i := 899) (by decide +kernel)⟩
theorem lw_p23 : lw_okq (⟨"OneTooFewModel", "readsRest", "(I)Z"⟩, 31) := ⟨⟨by decide +kernel, by decide +kernel⟩, List.mem_of_getElem? (i := 754) (by decide +kernel), List.mem_of_getElem? (i := 912) (by decide +kernel), List.mem_of_getElem? (i := 913) (by decide +kernel)⟩
theorem lw_p24 : lw_okq (⟨"OneTooFewModel", "numberHere", "()I"⟩, 31) := ⟨⟨by decide +kernel, by decide +kernel⟩, List.mem_of_getElem? (i := 754) (by decide +kernel), List.mem_of_getElem? (i := 916) (by decide +kernel), List.mem_of_getElem? (i := 917) (by decide +kernel)⟩
theorem lw_p25 : lw_okq (⟨"OneTooFewModel", "reads", "(III)Z"⟩, 31) := ⟨⟨by decide +kernel, by decide +kernel⟩, List.mem_of_getElem? (i := 754) (by decide +kernel), List.mem_of_getElem? (i := 920) (by decide +kernel), List.mem_of_getElem? (i := 921) (by decide +kernel)⟩
theorem lw_p26 : lw_okq (⟨"OneTooFewModel", "readsGuest", "()Z"⟩, 31) := ⟨⟨by decide +kernel, by decide +kernel⟩, List.mem_of_getElem? (i := 754) (by decide +kernel), List.mem_of_getElem? (i := 927) (by decide +kernel), List.mem_of_getElem? (i := 928) (by decide +kernel)⟩
theorem lw_p27 : lw_okq (⟨"OneTooFewModel", "tell", "(I)V"⟩, 31) := ⟨⟨by decide +kernel, by decide +kernel⟩, List.mem_of_getElem? (i := 754) (by decide +kernel), List.mem_of_getElem? (i := 936) (by decide +kernel), List.mem_of_getElem? (i := 937) (by decide +kernel)⟩
theorem lw_p28 : lw_okq (⟨"OneTooFewModel", "isPlace", "(I)Z"⟩, 31) := ⟨⟨by decide +kernel, by decide +kernel⟩, List.mem_of_getElem? (i := 754) (by decide +kernel), List.mem_of_getElem? (i := 944) (by decide +kernel), List.mem_of_getElem? (i := 945) (by decide +kernel)⟩
theorem lw_p29 : lw_okq (⟨"OneTooFewModel", "isGuest", "(I)Z"⟩, 31) := ⟨⟨by decide +kernel, by decide +kernel⟩, List.mem_of_getElem? (i := 754) (by decide +kernel), List.mem_of_getElem? (i := 952) (by decide +kernel), List.mem_of_getElem? (i := 953) (by decide +kernel)⟩
theorem lw_p30 : lw_okq (⟨"OneTooFewModel", "effort", "(III)I"⟩, 31) := ⟨⟨by decide +kernel, by decide +kernel⟩, List.mem_of_getElem? (i := 754) (by decide +kernel), List.mem_of_getElem? (i := 961) (by decide +kernel), List.mem_of_getElem? (i := 962) (by decide +kernel)⟩
theorem lw_p31 : lw_okq (⟨"OneTooFewModel", "far", "(II)I"⟩, 31) := ⟨⟨by decide +kernel, by decide +kernel⟩, List.mem_of_getElem? (i := 754) (by decide +kernel), List.mem_of_getElem? (i := 965) (by decide +kernel), List.mem_of_getElem? (i := 966) (by decide +kernel)⟩
def lw_privs_2 : List (MethodName × Nat) := [(⟨"OneTooFew$Finder", "keepStill", "(I)V"⟩, 7), (⟨"OneTooFewModel", "begin", "()V"⟩, 31), (⟨"OneTooFewModel", "token", "()V"⟩, 31), (⟨"OneTooFewModel", "readsLine", "()Z"⟩, 31), (⟨"OneTooFewModel", "wordOf", "()I"⟩, 31), (⟨"OneTooFewModel", "guestWord", "()I"⟩, 31), (⟨"OneTooFewModel", "isWord", "(II)Z"⟩, 31), (⟨"OneTooFewModel", "readsRest", "(I)Z"⟩, 31), (⟨"OneTooFewModel", "numberHere", "()I"⟩, 31), (⟨"OneTooFewModel", "reads", "(III)Z"⟩, 31), (⟨"OneTooFewModel", "readsGuest", "()Z"⟩, 31), (⟨"OneTooFewModel", "tell", "(I)V"⟩, 31), (⟨"OneTooFewModel", "isPlace", "(I)Z"⟩, 31), (⟨"OneTooFewModel", "isGuest", "(I)Z"⟩, 31), (⟨"OneTooFewModel", "effort", "(III)I"⟩, 31), (⟨"OneTooFewModel", "far", "(II)I"⟩, 31)]
theorem lw_r2 : ∀ q ∈ lw_privs_2, lw_okq q := List.forall_mem_cons.mpr ⟨lw_p16, List.forall_mem_cons.mpr ⟨lw_p17, List.forall_mem_cons.mpr ⟨lw_p18, List.forall_mem_cons.mpr ⟨lw_p19, List.forall_mem_cons.mpr ⟨lw_p20, List.forall_mem_cons.mpr ⟨lw_p21, List.forall_mem_cons.mpr ⟨lw_p22, List.forall_mem_cons.mpr ⟨lw_p23, List.forall_mem_cons.mpr ⟨lw_p24, List.forall_mem_cons.mpr ⟨lw_p25, List.forall_mem_cons.mpr ⟨lw_p26, List.forall_mem_cons.mpr ⟨lw_p27, List.forall_mem_cons.mpr ⟨lw_p28, List.forall_mem_cons.mpr ⟨lw_p29, List.forall_mem_cons.mpr ⟨lw_p30, List.forall_mem_cons.mpr ⟨lw_p31, fun _ h => absurd h List.not_mem_nil⟩⟩⟩⟩⟩⟩⟩⟩⟩⟩⟩⟩⟩⟩⟩⟩
theorem lw_p32 : lw_okq (⟨"OneTooFewModel", "walked", "(IIII)I"⟩, 31) := ⟨⟨by decide +kernel, by decide +kernel⟩, List.mem_of_getElem? (i := 754) (by decide +kernel), List.mem_of_getElem? (i := 974) (by decide +kernel), List.mem_of_getElem? (i := 975) (by decide +kernel)⟩
theorem lw_p33 : lw_okq (⟨"OneTooFewModel", "everybody", "()I"⟩, 31) := ⟨⟨by decide +kernel, by decide +kernel⟩, List.mem_of_getElem? (i := 754) (by decide +kernel), List.mem_of_getElem? (i := 982) (by decide +kernel), List.mem_of_getElem? (i := 983) (by decide +kernel)⟩
theorem lw_p34 : lw_okq (⟨"OneTooFewModel", "stops", "(II)I"⟩, 31) := ⟨⟨by decide +kernel, by decide +kernel⟩, List.mem_of_getElem? (i := 754) (by decide +kernel), List.mem_of_getElem? (i := 986) (by decide +kernel), List.mem_of_getElem? (i := 987) (by decide +kernel)⟩
theorem lw_p35 : lw_okq (⟨"OneTooFewModel", "faint", "()I"⟩, 31) := ⟨⟨by decide +kernel, by decide +kernel⟩, List.mem_of_getElem? (i := 754) (by decide +kernel), List.mem_of_getElem? (i := 990) (by decide +kernel), List.mem_of_getElem? (i := 991) (by decide +kernel)⟩
theorem lw_p36 : lw_okq (⟨"OneTooFewModel", "seat", "(I)V"⟩, 31) := ⟨⟨by decide +kernel, by decide +kernel⟩, List.mem_of_getElem? (i := 754) (by decide +kernel), List.mem_of_getElem? (i := 994) (by decide +kernel), List.mem_of_getElem? (i := 995) (by decide +kernel)⟩
theorem lw_p37 : lw_okq (⟨"OneTooFewModel", "findsTwo", "(I)Z"⟩, 31) := ⟨⟨by decide +kernel, by decide +kernel⟩, List.mem_of_getElem? (i := 754) (by decide +kernel), List.mem_of_getElem? (i := 998) (by decide +kernel), List.mem_of_getElem? (i := 999) (by decide +kernel)⟩
theorem lw_p38 : lw_okq (⟨"OneTooFewModel", "takeSecond", "(I)V"⟩, 31) := ⟨⟨by decide +kernel, by decide +kernel⟩, List.mem_of_getElem? (i := 754) (by decide +kernel), List.mem_of_getElem? (i := 1002) (by decide +kernel), List.mem_of_getElem? (i := 1003) (by decide +kernel)⟩
theorem lw_p39 : lw_okq (⟨"OneTooFewModel", "copy", "(II)V"⟩, 31) := ⟨⟨by decide +kernel, by decide +kernel⟩, List.mem_of_getElem? (i := 754) (by decide +kernel), List.mem_of_getElem? (i := 1017) (by decide +kernel), List.mem_of_getElem? (i := 1018) (by decide +kernel)⟩
theorem lw_p40 : lw_okq (⟨"OneTooFewModel", "standingAt", "(I)I"⟩, 31) := ⟨⟨by decide +kernel, by decide +kernel⟩, List.mem_of_getElem? (i := 754) (by decide +kernel), List.mem_of_getElem? (i := 1032) (by decide +kernel), List.mem_of_getElem? (i := 1033) (by decide +kernel)⟩
theorem lw_p41 : lw_okq (⟨"OneTooFewModel", "layAts", "(I)V"⟩, 31) := ⟨⟨by decide +kernel, by decide +kernel⟩, List.mem_of_getElem? (i := 754) (by decide +kernel), List.mem_of_getElem? (i := 1036) (by decide +kernel), List.mem_of_getElem? (i := 1037) (by decide +kernel)⟩
theorem lw_p42 : lw_okq (⟨"OneTooFewModel", "minutesOf", "(III)I"⟩, 31) := ⟨⟨by decide +kernel, by decide +kernel⟩, List.mem_of_getElem? (i := 754) (by decide +kernel), List.mem_of_getElem? (i := 1047) (by decide +kernel), List.mem_of_getElem? (i := 1048) (by decide +kernel)⟩
theorem lw_p43 : lw_okq (⟨"OneTooFewModel", "savePaces", "()V"⟩, 31) := ⟨⟨by decide +kernel, by decide +kernel⟩, List.mem_of_getElem? (i := 754) (by decide +kernel), List.mem_of_getElem? (i := 1060) (by decide +kernel), List.mem_of_getElem? (i := 1061) (by decide +kernel)⟩
theorem lw_p44 : lw_okq (⟨"OneTooFewModel", "layStands", "(III)V"⟩, 31) := ⟨⟨by decide +kernel, by decide +kernel⟩, List.mem_of_getElem? (i := 754) (by decide +kernel), List.mem_of_getElem? (i := 1064) (by decide +kernel), List.mem_of_getElem? (i := 1065) (by decide +kernel)⟩
theorem lw_p45 : lw_okq (⟨"OneTooFewModel", "restorePaces", "()V"⟩, 31) := ⟨⟨by decide +kernel, by decide +kernel⟩, List.mem_of_getElem? (i := 754) (by decide +kernel), List.mem_of_getElem? (i := 1068) (by decide +kernel), List.mem_of_getElem? (i := 1069) (by decide +kernel)⟩
theorem lw_p46 : lw_okq (⟨"OneTooFewModel", "isStill", "(I)Z"⟩, 31) := ⟨⟨by decide +kernel, by decide +kernel⟩, List.mem_of_getElem? (i := 754) (by decide +kernel), List.mem_of_getElem? (i := 1072) (by decide +kernel), List.mem_of_getElem? (i := 1073) (by decide +kernel)⟩
theorem lw_p47 : lw_okq (⟨"OneTooFewModel", "apart", "(III)I"⟩, 31) := ⟨⟨by decide +kernel, by decide +kernel⟩, List.mem_of_getElem? (i := 754) (by decide +kernel), List.mem_of_getElem? (i := 1088) (by decide +kernel), List.mem_of_getElem? (i := 1089) (by decide +kernel)⟩
def lw_privs_3 : List (MethodName × Nat) := [(⟨"OneTooFewModel", "walked", "(IIII)I"⟩, 31), (⟨"OneTooFewModel", "everybody", "()I"⟩, 31), (⟨"OneTooFewModel", "stops", "(II)I"⟩, 31), (⟨"OneTooFewModel", "faint", "()I"⟩, 31), (⟨"OneTooFewModel", "seat", "(I)V"⟩, 31), (⟨"OneTooFewModel", "findsTwo", "(I)Z"⟩, 31), (⟨"OneTooFewModel", "takeSecond", "(I)V"⟩, 31), (⟨"OneTooFewModel", "copy", "(II)V"⟩, 31), (⟨"OneTooFewModel", "standingAt", "(I)I"⟩, 31), (⟨"OneTooFewModel", "layAts", "(I)V"⟩, 31), (⟨"OneTooFewModel", "minutesOf", "(III)I"⟩, 31), (⟨"OneTooFewModel", "savePaces", "()V"⟩, 31), (⟨"OneTooFewModel", "layStands", "(III)V"⟩, 31), (⟨"OneTooFewModel", "restorePaces", "()V"⟩, 31), (⟨"OneTooFewModel", "isStill", "(I)Z"⟩, 31), (⟨"OneTooFewModel", "apart", "(III)I"⟩, 31)]
theorem lw_r3 : ∀ q ∈ lw_privs_3, lw_okq q := List.forall_mem_cons.mpr ⟨lw_p32, List.forall_mem_cons.mpr ⟨lw_p33, List.forall_mem_cons.mpr ⟨lw_p34, List.forall_mem_cons.mpr ⟨lw_p35, List.forall_mem_cons.mpr ⟨lw_p36, List.forall_mem_cons.mpr ⟨lw_p37, List.forall_mem_cons.mpr ⟨lw_p38, List.forall_mem_cons.mpr ⟨lw_p39, List.forall_mem_cons.mpr ⟨lw_p40, List.forall_mem_cons.mpr ⟨lw_p41, List.forall_mem_cons.mpr ⟨lw_p42, List.forall_mem_cons.mpr ⟨lw_p43, List.forall_mem_cons.mpr ⟨lw_p44, List.forall_mem_cons.mpr ⟨lw_p45, List.forall_mem_cons.mpr ⟨lw_p46, List.forall_mem_cons.mpr ⟨lw_p47, fun _ h => absurd h List.not_mem_nil⟩⟩⟩⟩⟩⟩⟩⟩⟩⟩⟩⟩⟩⟩⟩⟩
def lw_privs : List (MethodName × Nat) := lw_privs_1 ++ (lw_privs_2 ++ (lw_privs_3))
def lw_tbl : List Cond := k2_sels lw_privs ++ tables_1
theorem lw_privs_ok : ∀ q ∈ lw_privs, lw_okq q := by
  show ∀ q ∈ lw_privs_1 ++ (lw_privs_2 ++ (lw_privs_3)), lw_okq q
  exact List.forall_mem_append.mpr ⟨lw_r1, List.forall_mem_append.mpr ⟨lw_r2, lw_r3⟩⟩
end
section
def RX0 : String := "OneTooFew$Evening"
def TX0 : u_T := fun k => match k with
  | 0 => ("OneTooFew$Evening", "minutes", "I", false)
  | 1 => ("OneTooFew$Evening", "plays", "Z", false)
  | 2 => ("OneTooFew$Evening", "isKept", "Z", false)
  | 3 => ("OneTooFew$Evening", "stood", "I", false)
  | 4 => ("OneTooFew$Evening", "at", "[I", true)
  | 5 => ("OneTooFew$Evening", "seat", "[I", true)
  | 6 => ("OneTooFew$Evening", "holder", "[I", true)
  | _ => ("OneTooFew$Evening", "paid", "[I", true)
def tyX0 : Nat → FieldType := fun k => match k with
  | 0 => .int
  | 1 => .boolean
  | 2 => .boolean
  | 3 => .int
  | 4 => .array .int
  | 5 => .array .int
  | 6 => .array .int
  | _ => .array .int
theorem nmX0 : ∀ a, a < 8 → ∀ b, b < 8 → a ≠ b → (TX0 a).2.1 ≠ (TX0 b).2.1 := by decide +kernel
theorem tyX0_ok : ∀ k, k < 8 → parseFieldDescriptor (TX0 k).2.2.1 = some (tyX0 k) := by decide +kernel
abbrev cX0_init : ByteArray := prog_2_method_1_code
def yX0_init : MethodName := ⟨RX0, "<init>", "()V"⟩
abbrev cX0_begin : ByteArray := prog_2_method_2_code
def yX0_begin : MethodName := ⟨RX0, "begin", "(LOneTooFew$Told;)V"⟩
abbrev cX0_copyFrom : ByteArray := prog_2_method_3_code
def yX0_copyFrom : MethodName := ⟨RX0, "copyFrom", "(LOneTooFew$Evening;)V"⟩
abbrev cX0_whoIsAt : ByteArray := prog_2_method_4_code
def yX0_whoIsAt : MethodName := ⟨RX0, "whoIsAt", "(II)I"⟩
abbrev cX0_goOn : ByteArray := prog_2_method_5_code
def yX0_goOn : MethodName := ⟨RX0, "goOn", "(LOneTooFew$Told;I)V"⟩
abbrev cX0_end : ByteArray := prog_2_method_6_code
def yX0_end : MethodName := ⟨RX0, "end", "(LOneTooFew$Told;LOneTooFew$Seating;I)V"⟩
abbrev cX0_getUp : ByteArray := prog_2_method_7_code
def yX0_getUp : MethodName := ⟨RX0, "getUp", "()V"⟩
def RX1 : String := "OneTooFew$Finder"
def TX1 : u_T := fun k => match k with
  | 0 => ("OneTooFew$Finder", "told", "LOneTooFew$Told;", true)
  | 1 => ("OneTooFew$Finder", "foretold", "LOneTooFew$Foretold;", true)
  | 2 => ("OneTooFew$Finder", "rows", "[I", true)
  | 3 => ("OneTooFew$Finder", "best", "I", false)
  | 4 => ("OneTooFew$Finder", "bestSet", "I", false)
  | 5 => ("OneTooFew$Finder", "bestPace", "I", false)
  | _ => ("OneTooFew$Finder", "bestWay", "I", false)
def tyX1 : Nat → FieldType := fun k => match k with
  | 0 => .object "OneTooFew$Told"
  | 1 => .object "OneTooFew$Foretold"
  | 2 => .array .int
  | 3 => .int
  | 4 => .int
  | 5 => .int
  | _ => .int
theorem nmX1 : ∀ a, a < 7 → ∀ b, b < 7 → a ≠ b → (TX1 a).2.1 ≠ (TX1 b).2.1 := by decide +kernel
theorem tyX1_ok : ∀ k, k < 7 → parseFieldDescriptor (TX1 k).2.2.1 = some (tyX1 k) := by decide +kernel
abbrev cX1_init : ByteArray := prog_3_method_1_code
def yX1_init : MethodName := ⟨RX1, "<init>", "(LOneTooFew$Told;LOneTooFew$Foretold;)V"⟩
abbrev cX1_findSurest : ByteArray := prog_3_method_2_code
def yX1_findSurest : MethodName := ⟨RX1, "findSurest", "(III)V"⟩
abbrev cX1_findStill : ByteArray := prog_3_method_3_code
def yX1_findStill : MethodName := ⟨RX1, "findStill", "(II)V"⟩
abbrev cX1_nobodyWouldChange : ByteArray := prog_3_method_4_code
def yX1_nobodyWouldChange : MethodName := ⟨RX1, "nobodyWouldChange", "(I)Z"⟩
abbrev cX1_findPlot : ByteArray := prog_3_method_5_code
def yX1_findPlot : MethodName := ⟨RX1, "findPlot", "(III)V"⟩
abbrev cX1_keepStill : ByteArray := prog_3_method_6_code
def yX1_keepStill : MethodName := ⟨RX1, "keepStill", "(I)V"⟩
abbrev cX1_findLaid : ByteArray := prog_3_method_7_code
def yX1_findLaid : MethodName := ⟨RX1, "findLaid", "(III)V"⟩
abbrev cX1_findFits : ByteArray := prog_3_method_8_code
def yX1_findFits : MethodName := ⟨RX1, "findFits", "(LOneTooFew$Sights;)V"⟩
def RX2 : String := "OneTooFew$Foretold"
def TX2 : u_T := fun k => match k with
  | 0 => ("OneTooFew$Foretold", "told", "LOneTooFew$Told;", true)
  | 1 => ("OneTooFew$Foretold", "seating", "LOneTooFew$Seating;", true)
  | 2 => ("OneTooFew$Foretold", "pace", "[I", true)
  | 3 => ("OneTooFew$Foretold", "way", "[I", true)
  | 4 => ("OneTooFew$Foretold", "times", "[I", true)
  | 5 => ("OneTooFew$Foretold", "among", "I", false)
  | _ => ("OneTooFew$Foretold", "chairs", "I", false)
def tyX2 : Nat → FieldType := fun k => match k with
  | 0 => .object "OneTooFew$Told"
  | 1 => .object "OneTooFew$Seating"
  | 2 => .array .int
  | 3 => .array .int
  | 4 => .array .int
  | 5 => .int
  | _ => .int
theorem nmX2 : ∀ a, a < 7 → ∀ b, b < 7 → a ≠ b → (TX2 a).2.1 ≠ (TX2 b).2.1 := by decide +kernel
theorem tyX2_ok : ∀ k, k < 7 → parseFieldDescriptor (TX2 k).2.2.1 = some (tyX2 k) := by decide +kernel
abbrev cX2_init : ByteArray := prog_4_method_1_code
def yX2_init : MethodName := ⟨RX2, "<init>", "(LOneTooFew$Told;LOneTooFew$Seating;)V"⟩
abbrev cX2_asTold : ByteArray := prog_4_method_2_code
def yX2_asTold : MethodName := ⟨RX2, "asTold", "()V"⟩
abbrev cX2_stoodAt : ByteArray := prog_4_method_3_code
def yX2_stoodAt : MethodName := ⟨RX2, "stoodAt", "(I)I"⟩
abbrev cX2_goTo : ByteArray := prog_4_method_4_code
def yX2_goTo : MethodName := ⟨RX2, "goTo", "(I)V"⟩
abbrev cX2_tally : ByteArray := prog_4_method_5_code
def yX2_tally : MethodName := ⟨RX2, "tally", "(II)V"⟩
abbrev cX2_addTimes : ByteArray := prog_4_method_6_code
def yX2_addTimes : MethodName := ⟨RX2, "addTimes", "(II)V"⟩
abbrev cX2_minutesLike : ByteArray := prog_4_method_7_code
def yX2_minutesLike : MethodName := ⟨RX2, "minutesLike", "(III)I"⟩
abbrev cX2_minutesLikeTo : ByteArray := prog_4_method_8_code
def yX2_minutesLikeTo : MethodName := ⟨RX2, "minutesLikeTo", "(II)I"⟩
abbrev cX2_spread : ByteArray := prog_4_method_9_code
def yX2_spread : MethodName := ⟨RX2, "spread", "()I"⟩
abbrev cX2_playRounds : ByteArray := prog_4_method_10_code
def yX2_playRounds : MethodName := ⟨RX2, "playRounds", "(I)I"⟩
def RX3 : String := "OneTooFew$Seating"
def TX3 : u_T := fun k => match k with
  | 0 => ("OneTooFew$Seating", "told", "LOneTooFew$Told;", true)
  | 1 => ("OneTooFew$Seating", "at", "[I", true)
  | 2 => ("OneTooFew$Seating", "seat", "[I", true)
  | 3 => ("OneTooFew$Seating", "holder", "[I", true)
  | 4 => ("OneTooFew$Seating", "second", "Z", false)
  | _ => ("OneTooFew$Seating", "free", "I", false)
def tyX3 : Nat → FieldType := fun k => match k with
  | 0 => .object "OneTooFew$Told"
  | 1 => .array .int
  | 2 => .array .int
  | 3 => .array .int
  | 4 => .boolean
  | _ => .int
theorem nmX3 : ∀ a, a < 6 → ∀ b, b < 6 → a ≠ b → (TX3 a).2.1 ≠ (TX3 b).2.1 := by decide +kernel
theorem tyX3_ok : ∀ k, k < 6 → parseFieldDescriptor (TX3 k).2.2.1 = some (tyX3 k) := by decide +kernel
abbrev cX3_init : ByteArray := prog_5_method_1_code
def yX3_init : MethodName := ⟨RX3, "<init>", "(LOneTooFew$Told;)V"⟩
abbrev cX3_settle : ByteArray := prog_5_method_2_code
def yX3_settle : MethodName := ⟨RX3, "settle", "(II)I"⟩
abbrev cX3_settleFaint : ByteArray := prog_5_method_3_code
def yX3_settleFaint : MethodName := ⟨RX3, "settleFaint", "(I)V"⟩
abbrev cX3_seatAll : ByteArray := prog_5_method_4_code
def yX3_seatAll : MethodName := ⟨RX3, "seatAll", "(I)I"⟩
abbrev cX3_seatOne : ByteArray := prog_5_method_5_code
def yX3_seatOne : MethodName := ⟨RX3, "seatOne", "(II)V"⟩
abbrev cX3_take : ByteArray := prog_5_method_6_code
def yX3_take : MethodName := ⟨RX3, "take", "(II)V"⟩
def RX4 : String := "OneTooFew$Sights"
def TX4 : u_T := fun k => match k with
  | 0 => ("OneTooFew$Sights", "number", "I", false)
  | 1 => ("OneTooFew$Sights", "who", "[I", true)
  | _ => ("OneTooFew$Sights", "how", "[I", true)
def tyX4 : Nat → FieldType := fun k => match k with
  | 0 => .int
  | 1 => .array .int
  | _ => .array .int
theorem nmX4 : ∀ a, a < 3 → ∀ b, b < 3 → a ≠ b → (TX4 a).2.1 ≠ (TX4 b).2.1 := by decide +kernel
theorem tyX4_ok : ∀ k, k < 3 → parseFieldDescriptor (TX4 k).2.2.1 = some (tyX4 k) := by decide +kernel
abbrev cX4_init : ByteArray := prog_6_method_1_code
def yX4_init : MethodName := ⟨RX4, "<init>", "()V"⟩
abbrev cX4_add : ByteArray := prog_6_method_2_code
def yX4_add : MethodName := ⟨RX4, "add", "(II)V"⟩
abbrev cX4_fit : ByteArray := prog_6_method_3_code
def yX4_fit : MethodName := ⟨RX4, "fit", "(I)Z"⟩
def RX5 : String := "OneTooFew$Text"
def TX5 : u_T := fun k => match k with
  | 0 => ("OneTooFew$Text", "bytes", "[I", true)
  | 1 => ("OneTooFew$Text", "length", "I", false)
  | 2 => ("OneTooFew$Text", "draft", "LOneTooFew$Told;", true)
  | 3 => ("OneTooFew$Text", "lines", "I", false)
  | 4 => ("OneTooFew$Text", "begin", "I", false)
  | 5 => ("OneTooFew$Text", "end", "I", false)
  | 6 => ("OneTooFew$Text", "value", "I", false)
  | _ => ("OneTooFew$Text", "numbers", "[I", true)
def tyX5 : Nat → FieldType := fun k => match k with
  | 0 => .array .int
  | 1 => .int
  | 2 => .object "OneTooFew$Told"
  | 3 => .int
  | 4 => .int
  | 5 => .int
  | 6 => .int
  | _ => .array .int
theorem nmX5 : ∀ a, a < 8 → ∀ b, b < 8 → a ≠ b → (TX5 a).2.1 ≠ (TX5 b).2.1 := by decide +kernel
theorem tyX5_ok : ∀ k, k < 8 → parseFieldDescriptor (TX5 k).2.2.1 = some (tyX5 k) := by decide +kernel
abbrev cX5_init : ByteArray := prog_7_method_1_code
def yX5_init : MethodName := ⟨RX5, "<init>", "()V"⟩
abbrev cX5_append : ByteArray := prog_7_method_2_code
def yX5_append : MethodName := ⟨RX5, "append", "(I)V"⟩
abbrev cX5_read : ByteArray := prog_7_method_3_code
def yX5_read : MethodName := ⟨RX5, "read", "(LOneTooFew$Told;)I"⟩
abbrev cX5_nextToken : ByteArray := prog_7_method_4_code
def yX5_nextToken : MethodName := ⟨RX5, "nextToken", "()V"⟩
abbrev cX5_isLetter : ByteArray := prog_7_method_5_code
def yX5_isLetter : MethodName := ⟨RX5, "isLetter", "(I)Z"⟩
abbrev cX5_isDigit : ByteArray := prog_7_method_6_code
def yX5_isDigit : MethodName := ⟨RX5, "isDigit", "(I)Z"⟩
abbrev cX5_isWord : ByteArray := prog_7_method_7_code
def yX5_isWord : MethodName := ⟨RX5, "isWord", "(Ljava/lang/String;)Z"⟩
abbrev cX5_doLine : ByteArray := prog_7_method_8_code
def yX5_doLine : MethodName := ⟨RX5, "doLine", "()Z"⟩
abbrev cX5_kindOfWord : ByteArray := prog_7_method_9_code
def yX5_kindOfWord : MethodName := ⟨RX5, "kindOfWord", "()I"⟩
abbrev cX5_doInn : ByteArray := prog_7_method_10_code
def yX5_doInn : MethodName := ⟨RX5, "doInn", "()Z"⟩
abbrev cX5_doChair : ByteArray := prog_7_method_11_code
def yX5_doChair : MethodName := ⟨RX5, "doChair", "(Z)Z"⟩
abbrev cX5_doGuest : ByteArray := prog_7_method_12_code
def yX5_doGuest : MethodName := ⟨RX5, "doGuest", "(I)Z"⟩
abbrev cX5_mostOf : ByteArray := prog_7_method_13_code
def yX5_mostOf : MethodName := ⟨RX5, "mostOf", "(I)I"⟩
abbrev cX5_readNumber : ByteArray := prog_7_method_14_code
def yX5_readNumber : MethodName := ⟨RX5, "readNumber", "(II)Z"⟩
def RX6 : String := "OneTooFew$Told"
def TX6 : u_T := fun k => match k with
  | 0 => ("OneTooFew$Told", "places", "I", false)
  | 1 => ("OneTooFew$Told", "chairs", "I", false)
  | 2 => ("OneTooFew$Told", "guests", "I", false)
  | 3 => ("OneTooFew$Told", "kind", "[I", true)
  | 4 => ("OneTooFew$Told", "start", "[I", true)
  | 5 => ("OneTooFew$Told", "pace", "[I", true)
  | 6 => ("OneTooFew$Told", "way", "[I", true)
  | _ => ("OneTooFew$Told", "worth", "[I", true)
def tyX6 : Nat → FieldType := fun k => match k with
  | 0 => .int
  | 1 => .int
  | 2 => .int
  | 3 => .array .int
  | 4 => .array .int
  | 5 => .array .int
  | 6 => .array .int
  | _ => .array .int
theorem nmX6 : ∀ a, a < 8 → ∀ b, b < 8 → a ≠ b → (TX6 a).2.1 ≠ (TX6 b).2.1 := by decide +kernel
theorem tyX6_ok : ∀ k, k < 8 → parseFieldDescriptor (TX6 k).2.2.1 = some (tyX6 k) := by decide +kernel
abbrev cX6_init : ByteArray := prog_8_method_1_code
def yX6_init : MethodName := ⟨RX6, "<init>", "()V"⟩
abbrev cX6_copyFrom : ByteArray := prog_8_method_2_code
def yX6_copyFrom : MethodName := ⟨RX6, "copyFrom", "(LOneTooFew$Told;)V"⟩
abbrev cX6_hasPlace : ByteArray := prog_8_method_3_code
def yX6_hasPlace : MethodName := ⟨RX6, "hasPlace", "(I)Z"⟩
abbrev cX6_hasChair : ByteArray := prog_8_method_4_code
def yX6_hasChair : MethodName := ⟨RX6, "hasChair", "(I)Z"⟩
abbrev cX6_hasGuest : ByteArray := prog_8_method_5_code
def yX6_hasGuest : MethodName := ⟨RX6, "hasGuest", "(I)Z"⟩
abbrev cX6_hasAll : ByteArray := prog_8_method_6_code
def yX6_hasAll : MethodName := ⟨RX6, "hasAll", "(I)Z"⟩
abbrev cX6_everyone : ByteArray := prog_8_method_7_code
def yX6_everyone : MethodName := ⟨RX6, "everyone", "()I"⟩
abbrev cX6_allOfKind : ByteArray := prog_8_method_8_code
def yX6_allOfKind : MethodName := ⟨RX6, "allOfKind", "(I)I"⟩
abbrev cX6_isA : ByteArray := prog_8_method_9_code
def yX6_isA : MethodName := ⟨RX6, "isA", "(II)Z"⟩
abbrev cX6_ease : ByteArray := prog_8_method_10_code
def yX6_ease : MethodName := ⟨RX6, "ease", "(I)I"⟩
abbrev cX6_placeAfter : ByteArray := prog_8_method_11_code
def yX6_placeAfter : MethodName := ⟨RX6, "placeAfter", "(III)I"⟩
abbrev cX6_farthest : ByteArray := prog_8_method_12_code
def yX6_farthest : MethodName := ⟨RX6, "farthest", "()I"⟩
abbrev cX6_leastAt : ByteArray := prog_8_method_13_code
def yX6_leastAt : MethodName := ⟨RX6, "leastAt", "(III)I"⟩
abbrev cX6_nearestChair : ByteArray := prog_8_method_14_code
def yX6_nearestChair : MethodName := ⟨RX6, "nearestChair", "(I)I"⟩
abbrev cX6_allWorth : ByteArray := prog_8_method_15_code
def yX6_allWorth : MethodName := ⟨RX6, "allWorth", "()I"⟩
abbrev cX6_greatestWorth : ByteArray := prog_8_method_16_code
def yX6_greatestWorth : MethodName := ⟨RX6, "greatestWorth", "(I)I"⟩
abbrev cX6_beginInn : ByteArray := prog_8_method_17_code
def yX6_beginInn : MethodName := ⟨RX6, "beginInn", "(I)V"⟩
abbrev cX6_addGuest : ByteArray := prog_8_method_18_code
def yX6_addGuest : MethodName := ⟨RX6, "addGuest", "(I[I)Z"⟩
def RX7 : String := "OneTooFew"
def TX7 : u_T := fun k => match k with
  | 0 => ("OneTooFew", "told", "LOneTooFew$Told;", true)
  | 1 => ("OneTooFew", "text", "LOneTooFew$Text;", true)
  | 2 => ("OneTooFew", "seating", "LOneTooFew$Seating;", true)
  | 3 => ("OneTooFew", "foretold", "LOneTooFew$Foretold;", true)
  | 4 => ("OneTooFew", "finder", "LOneTooFew$Finder;", true)
  | 5 => ("OneTooFew", "evening", "LOneTooFew$Evening;", true)
  | 6 => ("OneTooFew", "firstKept", "LOneTooFew$Evening;", true)
  | 7 => ("OneTooFew", "secondKept", "LOneTooFew$Evening;", true)
  | _ => ("OneTooFew", "sights", "LOneTooFew$Sights;", true)
def tyX7 : Nat → FieldType := fun k => match k with
  | 0 => .object "OneTooFew$Told"
  | 1 => .object "OneTooFew$Text"
  | 2 => .object "OneTooFew$Seating"
  | 3 => .object "OneTooFew$Foretold"
  | 4 => .object "OneTooFew$Finder"
  | 5 => .object "OneTooFew$Evening"
  | 6 => .object "OneTooFew$Evening"
  | 7 => .object "OneTooFew$Evening"
  | _ => .object "OneTooFew$Sights"
theorem nmX7 : ∀ a, a < 9 → ∀ b, b < 9 → a ≠ b → (TX7 a).2.1 ≠ (TX7 b).2.1 := by decide +kernel
theorem tyX7_ok : ∀ k, k < 9 → parseFieldDescriptor (TX7 k).2.2.1 = some (tyX7 k) := by decide +kernel
abbrev cX7_init : ByteArray := prog_1_method_1_code
def yX7_init : MethodName := ⟨RX7, "<init>", "()V"⟩
abbrev cX7_write : ByteArray := prog_1_method_2_code
def yX7_write : MethodName := ⟨RX7, "write", "(JI)I"⟩
abbrev cX7_erase : ByteArray := prog_1_method_3_code
def yX7_erase : MethodName := ⟨RX7, "erase", "()I"⟩
abbrev cX7_fault : ByteArray := prog_1_method_4_code
def yX7_fault : MethodName := ⟨RX7, "fault", "()I"⟩
abbrev cX7_inn : ByteArray := prog_1_method_5_code
def yX7_inn : MethodName := ⟨RX7, "inn", "()I"⟩
abbrev cX7_place : ByteArray := prog_1_method_6_code
def yX7_place : MethodName := ⟨RX7, "place", "(II)I"⟩
abbrev cX7_guest : ByteArray := prog_1_method_7_code
def yX7_guest : MethodName := ⟨RX7, "guest", "(II)I"⟩
abbrev cX7_as : ByteArray := prog_1_method_8_code
def yX7_as : MethodName := ⟨RX7, "as", "(II)I"⟩
abbrev cX7_walk : ByteArray := prog_1_method_9_code
def yX7_walk : MethodName := ⟨RX7, "walk", "(I)I"⟩
abbrev cX7_stop : ByteArray := prog_1_method_10_code
def yX7_stop : MethodName := ⟨RX7, "stop", "()I"⟩
abbrev cX7_play : ByteArray := prog_1_method_11_code
def yX7_play : MethodName := ⟨RX7, "play", "()I"⟩
abbrev cX7_keep : ByteArray := prog_1_method_12_code
def yX7_keep : MethodName := ⟨RX7, "keep", "(I)I"⟩
abbrev cX7_back : ByteArray := prog_1_method_13_code
def yX7_back : MethodName := ⟨RX7, "back", "(I)I"⟩
abbrev cX7_standing : ByteArray := prog_1_method_14_code
def yX7_standing : MethodName := ⟨RX7, "standing", "(I)I"⟩
abbrev cX7_odds : ByteArray := prog_1_method_15_code
def yX7_odds : MethodName := ⟨RX7, "odds", "(IIII)I"⟩
abbrev cX7_surest : ByteArray := prog_1_method_16_code
def yX7_surest : MethodName := ⟨RX7, "surest", "(IIII)I"⟩
abbrev cX7_still : ByteArray := prog_1_method_17_code
def yX7_still : MethodName := ⟨RX7, "still", "(III)I"⟩
abbrev cX7_plot : ByteArray := prog_1_method_18_code
def yX7_plot : MethodName := ⟨RX7, "plot", "(IIII)I"⟩
abbrev cX7_price : ByteArray := prog_1_method_19_code
def yX7_price : MethodName := ⟨RX7, "price", "(I)I"⟩
abbrev cX7_laid : ByteArray := prog_1_method_20_code
def yX7_laid : MethodName := ⟨RX7, "laid", "(IIII)I"⟩
abbrev cX7_left : ByteArray := prog_1_method_21_code
def yX7_left : MethodName := ⟨RX7, "left", "(II)I"⟩
abbrev cX7_seen : ByteArray := prog_1_method_22_code
def yX7_seen : MethodName := ⟨RX7, "seen", "(II)I"⟩
abbrev cX7_forget : ByteArray := prog_1_method_23_code
def yX7_forget : MethodName := ⟨RX7, "forget", "()I"⟩
abbrev cX7_fits : ByteArray := prog_1_method_24_code
def yX7_fits : MethodName := ⟨RX7, "fits", "(I)I"⟩
abbrev cX7_count : ByteArray := prog_1_method_25_code
def yX7_count : MethodName := ⟨RX7, "count", "(I)I"⟩
abbrev cX7_isMinute : ByteArray := prog_1_method_26_code
def yX7_isMinute : MethodName := ⟨RX7, "isMinute", "(I)Z"⟩
abbrev cX7_areMinutes : ByteArray := prog_1_method_27_code
def yX7_areMinutes : MethodName := ⟨RX7, "areMinutes", "(II)Z"⟩
abbrev cX7_isEither : ByteArray := prog_1_method_28_code
def yX7_isEither : MethodName := ⟨RX7, "isEither", "(I)Z"⟩
abbrev cX7_holds : ByteArray := prog_1_method_29_code
def yX7_holds : MethodName := ⟨RX7, "holds", "(II)Z"⟩
abbrev cX7_commonDivisor : ByteArray := prog_1_method_30_code
def yX7_commonDivisor : MethodName := ⟨RX7, "commonDivisor", "(II)I"⟩
def RX8 : String := "OneTooFewModel"
def TX8 : u_T := fun k => match k with
  | 0 => ("OneTooFewModel", "row", "[I", true)
  | 1 => ("OneTooFewModel", "isKept", "[Z", true)
  | 2 => ("OneTooFewModel", "text", "[I", true)
  | 3 => ("OneTooFewModel", "length", "I", false)
  | 4 => ("OneTooFewModel", "read", "[I", true)
  | 5 => ("OneTooFewModel", "readMany", "I", false)
  | 6 => ("OneTooFewModel", "places", "I", false)
  | 7 => ("OneTooFewModel", "chairs", "I", false)
  | 8 => ("OneTooFewModel", "kinds", "[I", true)
  | 9 => ("OneTooFewModel", "told", "[I", true)
  | 10 => ("OneTooFewModel", "paces", "[I", true)
  | 11 => ("OneTooFewModel", "ways", "[I", true)
  | 12 => ("OneTooFewModel", "worths", "[I", true)
  | 13 => ("OneTooFewModel", "many", "I", false)
  | 14 => ("OneTooFewModel", "at", "I", false)
  | 15 => ("OneTooFewModel", "place", "I", false)
  | 16 => ("OneTooFewModel", "end", "I", false)
  | 17 => ("OneTooFewModel", "readPlaces", "I", false)
  | 18 => ("OneTooFewModel", "readChairs", "I", false)
  | 19 => ("OneTooFewModel", "readGuests", "I", false)
  | 20 => ("OneTooFewModel", "ats", "[I", true)
  | 21 => ("OneTooFewModel", "firsts", "[I", true)
  | 22 => ("OneTooFewModel", "seconds", "[I", true)
  | 23 => ("OneTooFewModel", "freeChairs", "I", false)
  | 24 => ("OneTooFewModel", "nextGuest", "I", false)
  | 25 => ("OneTooFewModel", "nextChair", "I", false)
  | 26 => ("OneTooFewModel", "hadPaces", "[I", true)
  | 27 => ("OneTooFewModel", "stands", "[I", true)
  | 28 => ("OneTooFewModel", "counts", "[I", true)
  | 29 => ("OneTooFewModel", "sights", "[I", true)
  | _ => ("OneTooFewModel", "seenMany", "I", false)
def tyX8 : Nat → FieldType := fun k => match k with
  | 0 => .array .int
  | 1 => .array .boolean
  | 2 => .array .int
  | 3 => .int
  | 4 => .array .int
  | 5 => .int
  | 6 => .int
  | 7 => .int
  | 8 => .array .int
  | 9 => .array .int
  | 10 => .array .int
  | 11 => .array .int
  | 12 => .array .int
  | 13 => .int
  | 14 => .int
  | 15 => .int
  | 16 => .int
  | 17 => .int
  | 18 => .int
  | 19 => .int
  | 20 => .array .int
  | 21 => .array .int
  | 22 => .array .int
  | 23 => .int
  | 24 => .int
  | 25 => .int
  | 26 => .array .int
  | 27 => .array .int
  | 28 => .array .int
  | 29 => .array .int
  | _ => .int
theorem nmX8 : ∀ a, a < 31 → ∀ b, b < 31 → a ≠ b → (TX8 a).2.1 ≠ (TX8 b).2.1 := by decide +kernel
theorem tyX8_ok : ∀ k, k < 31 → parseFieldDescriptor (TX8 k).2.2.1 = some (tyX8 k) := by decide +kernel
abbrev cX8_init : ByteArray := prog_10_method_1_code
def yX8_init : MethodName := ⟨RX8, "<init>", "()V"⟩
abbrev cX8_in : ByteArray := prog_10_method_2_code
def yX8_in : MethodName := ⟨RX8, "in", "(JJJ)Z"⟩
abbrev cX8_has : ByteArray := prog_10_method_3_code
def yX8_has : MethodName := ⟨RX8, "has", "(II)Z"⟩
abbrev cX8_bits : ByteArray := prog_10_method_4_code
def yX8_bits : MethodName := ⟨RX8, "bits", "(I)I"⟩
abbrev cX8_begin : ByteArray := prog_10_method_5_code
def yX8_begin : MethodName := ⟨RX8, "begin", "()V"⟩
abbrev cX8_write : ByteArray := prog_10_method_6_code
def yX8_write : MethodName := ⟨RX8, "write", "(JI)I"⟩
abbrev cX8_erase : ByteArray := prog_10_method_7_code
def yX8_erase : MethodName := ⟨RX8, "erase", "()I"⟩
abbrev cX8_sort : ByteArray := prog_10_method_8_code
def yX8_sort : MethodName := ⟨RX8, "sort", "(I)I"⟩
abbrev cX8_token : ByteArray := prog_10_method_9_code
def yX8_token : MethodName := ⟨RX8, "token", "()V"⟩
abbrev cX8_isWord : ByteArray := prog_10_method_10_code
def yX8_isWord : MethodName := ⟨RX8, "isWord", "(II)Z"⟩
abbrev cX8_guestWord : ByteArray := prog_10_method_11_code
def yX8_guestWord : MethodName := ⟨RX8, "guestWord", "()I"⟩
abbrev cX8_wordOf : ByteArray := prog_10_method_12_code
def yX8_wordOf : MethodName := ⟨RX8, "wordOf", "()I"⟩
abbrev cX8_numberHere : ByteArray := prog_10_method_13_code
def yX8_numberHere : MethodName := ⟨RX8, "numberHere", "()I"⟩
abbrev cX8_reads : ByteArray := prog_10_method_14_code
def yX8_reads : MethodName := ⟨RX8, "reads", "(III)Z"⟩
abbrev cX8_readsGuest : ByteArray := prog_10_method_15_code
def yX8_readsGuest : MethodName := ⟨RX8, "readsGuest", "()Z"⟩
abbrev cX8_readsRest : ByteArray := prog_10_method_16_code
def yX8_readsRest : MethodName := ⟨RX8, "readsRest", "(I)Z"⟩
abbrev cX8_isGuestWord : ByteArray := prog_10_method_17_code
def yX8_isGuestWord : MethodName := ⟨RX8, "isGuestWord", "(I)Z"⟩
abbrev cX8_readsLine : ByteArray := prog_10_method_18_code
def yX8_readsLine : MethodName := ⟨RX8, "readsLine", "()Z"⟩
abbrev cX8_fault : ByteArray := prog_10_method_19_code
def yX8_fault : MethodName := ⟨RX8, "fault", "()I"⟩
abbrev cX8_tell : ByteArray := prog_10_method_20_code
def yX8_tell : MethodName := ⟨RX8, "tell", "(I)V"⟩
abbrev cX8_inn : ByteArray := prog_10_method_21_code
def yX8_inn : MethodName := ⟨RX8, "inn", "()I"⟩
abbrev cX8_isPlace : ByteArray := prog_10_method_22_code
def yX8_isPlace : MethodName := ⟨RX8, "isPlace", "(I)Z"⟩
abbrev cX8_isGuest : ByteArray := prog_10_method_23_code
def yX8_isGuest : MethodName := ⟨RX8, "isGuest", "(I)Z"⟩
abbrev cX8_place : ByteArray := prog_10_method_24_code
def yX8_place : MethodName := ⟨RX8, "place", "(II)I"⟩
abbrev cX8_guest : ByteArray := prog_10_method_25_code
def yX8_guest : MethodName := ⟨RX8, "guest", "(II)I"⟩
abbrev cX8_far : ByteArray := prog_10_method_26_code
def yX8_far : MethodName := ⟨RX8, "far", "(II)I"⟩
abbrev cX8_effort : ByteArray := prog_10_method_27_code
def yX8_effort : MethodName := ⟨RX8, "effort", "(III)I"⟩
abbrev cX8_as : ByteArray := prog_10_method_28_code
def yX8_as : MethodName := ⟨RX8, "as", "(II)I"⟩
abbrev cX8_findsTwo : ByteArray := prog_10_method_29_code
def yX8_findsTwo : MethodName := ⟨RX8, "findsTwo", "(I)Z"⟩
abbrev cX8_takeSecond : ByteArray := prog_10_method_30_code
def yX8_takeSecond : MethodName := ⟨RX8, "takeSecond", "(I)V"⟩
abbrev cX8_seat : ByteArray := prog_10_method_31_code
def yX8_seat : MethodName := ⟨RX8, "seat", "(I)V"⟩
abbrev cX8_faint : ByteArray := prog_10_method_32_code
def yX8_faint : MethodName := ⟨RX8, "faint", "()I"⟩
abbrev cX8_stops : ByteArray := prog_10_method_33_code
def yX8_stops : MethodName := ⟨RX8, "stops", "(II)I"⟩
abbrev cX8_everybody : ByteArray := prog_10_method_34_code
def yX8_everybody : MethodName := ⟨RX8, "everybody", "()I"⟩
abbrev cX8_walked : ByteArray := prog_10_method_35_code
def yX8_walked : MethodName := ⟨RX8, "walked", "(IIII)I"⟩
abbrev cX8_walk : ByteArray := prog_10_method_36_code
def yX8_walk : MethodName := ⟨RX8, "walk", "(I)I"⟩
abbrev cX8_stop : ByteArray := prog_10_method_37_code
def yX8_stop : MethodName := ⟨RX8, "stop", "()I"⟩
abbrev cX8_play : ByteArray := prog_10_method_38_code
def yX8_play : MethodName := ⟨RX8, "play", "()I"⟩
abbrev cX8_copy : ByteArray := prog_10_method_39_code
def yX8_copy : MethodName := ⟨RX8, "copy", "(II)V"⟩
abbrev cX8_keep : ByteArray := prog_10_method_40_code
def yX8_keep : MethodName := ⟨RX8, "keep", "(I)I"⟩
abbrev cX8_back : ByteArray := prog_10_method_41_code
def yX8_back : MethodName := ⟨RX8, "back", "(I)I"⟩
abbrev cX8_layAts : ByteArray := prog_10_method_42_code
def yX8_layAts : MethodName := ⟨RX8, "layAts", "(I)V"⟩
abbrev cX8_standingAt : ByteArray := prog_10_method_43_code
def yX8_standingAt : MethodName := ⟨RX8, "standingAt", "(I)I"⟩
abbrev cX8_isTime : ByteArray := prog_10_method_44_code
def yX8_isTime : MethodName := ⟨RX8, "isTime", "(I)Z"⟩
abbrev cX8_isSpan : ByteArray := prog_10_method_45_code
def yX8_isSpan : MethodName := ⟨RX8, "isSpan", "(II)Z"⟩
abbrev cX8_standing : ByteArray := prog_10_method_46_code
def yX8_standing : MethodName := ⟨RX8, "standing", "(I)I"⟩
abbrev cX8_minutesOf : ByteArray := prog_10_method_47_code
def yX8_minutesOf : MethodName := ⟨RX8, "minutesOf", "(III)I"⟩
abbrev cX8_odds : ByteArray := prog_10_method_48_code
def yX8_odds : MethodName := ⟨RX8, "odds", "(IIII)I"⟩
abbrev cX8_surest : ByteArray := prog_10_method_49_code
def yX8_surest : MethodName := ⟨RX8, "surest", "(IIII)I"⟩
abbrev cX8_savePaces : ByteArray := prog_10_method_50_code
def yX8_savePaces : MethodName := ⟨RX8, "savePaces", "()V"⟩
abbrev cX8_restorePaces : ByteArray := prog_10_method_51_code
def yX8_restorePaces : MethodName := ⟨RX8, "restorePaces", "()V"⟩
abbrev cX8_layStands : ByteArray := prog_10_method_52_code
def yX8_layStands : MethodName := ⟨RX8, "layStands", "(III)V"⟩
abbrev cX8_isStill : ByteArray := prog_10_method_53_code
def yX8_isStill : MethodName := ⟨RX8, "isStill", "(I)Z"⟩
abbrev cX8_still : ByteArray := prog_10_method_54_code
def yX8_still : MethodName := ⟨RX8, "still", "(III)I"⟩
abbrev cX8_plot : ByteArray := prog_10_method_55_code
def yX8_plot : MethodName := ⟨RX8, "plot", "(IIII)I"⟩
abbrev cX8_price : ByteArray := prog_10_method_56_code
def yX8_price : MethodName := ⟨RX8, "price", "(I)I"⟩
abbrev cX8_apart : ByteArray := prog_10_method_57_code
def yX8_apart : MethodName := ⟨RX8, "apart", "(III)I"⟩
abbrev cX8_laid : ByteArray := prog_10_method_58_code
def yX8_laid : MethodName := ⟨RX8, "laid", "(IIII)I"⟩
abbrev cX8_leastOf : ByteArray := prog_10_method_59_code
def yX8_leastOf : MethodName := ⟨RX8, "leastOf", "(I)I"⟩
abbrev cX8_left : ByteArray := prog_10_method_60_code
def yX8_left : MethodName := ⟨RX8, "left", "(II)I"⟩
abbrev cX8_seen : ByteArray := prog_10_method_61_code
def yX8_seen : MethodName := ⟨RX8, "seen", "(II)I"⟩
abbrev cX8_forget : ByteArray := prog_10_method_62_code
def yX8_forget : MethodName := ⟨RX8, "forget", "()I"⟩
abbrev cX8_fits : ByteArray := prog_10_method_63_code
def yX8_fits : MethodName := ⟨RX8, "fits", "(I)I"⟩
abbrev cX8_count : ByteArray := prog_10_method_64_code
def yX8_count : MethodName := ⟨RX8, "count", "(I)I"⟩
def RJx145de : String := "java/io/Serializable"
def RJx9f9b0 : String := "java/lang/CharSequence"
def RJxb160c : String := "java/lang/Comparable"
def RJ6 : String := "java/lang/Integer"
abbrev cJ6_bitCount_0f7a4 : ByteArray := prog_11_method_49_code
def yJ6_bitCount_0f7a4 : MethodName := ⟨RJ6, "bitCount", "(I)I"⟩
def RJ9 : String := "java/lang/Math"
abbrev cJ9_floorMod_7cf53 : ByteArray := prog_12_method_50_code
def yJ9_floorMod_7cf53 : MethodName := ⟨RJ9, "floorMod", "(II)I"⟩
abbrev cJ9_max_7cf53 : ByteArray := prog_12_method_65_code
def yJ9_max_7cf53 : MethodName := ⟨RJ9, "max", "(II)I"⟩
abbrev cJ9_min_7cf53 : ByteArray := prog_12_method_69_code
def yJ9_min_7cf53 : MethodName := ⟨RJ9, "min", "(II)I"⟩
def RJ0 : String := "java/lang/String"
abbrev cJ0_length_8abf5 : ByteArray := prog_13_method_54_code
def yJ0_length_8abf5 : MethodName := ⟨RJ0, "length", "()I"⟩
abbrev cJ0_charAt_5068e : ByteArray := prog_13_method_56_code
def yJ0_charAt_5068e : MethodName := ⟨RJ0, "charAt", "(I)C"⟩
abbrev cJ0_coder_7d493 : ByteArray := prog_13_method_152_code
def yJ0_coder_7d493 : MethodName := ⟨RJ0, "coder", "()B"⟩
abbrev cJ0_isLatin1_aae02 : ByteArray := prog_13_method_154_code
def yJ0_isLatin1_aae02 : MethodName := ⟨RJ0, "isLatin1", "()Z"⟩
abbrev cJ0_checkIndex_df160 : ByteArray := prog_13_method_155_code
def yJ0_checkIndex_df160 : MethodName := ⟨RJ0, "checkIndex", "(II)V"⟩
def RJ1 : String := "java/lang/StringLatin1"
abbrev cJ1_charAt_3b067 : ByteArray := prog_14_method_2_code
def yJ1_charAt_3b067 : MethodName := ⟨RJ1, "charAt", "([BI)C"⟩
def RJ2 : String := "java/lang/StringUTF16"
abbrev cJ2_getChar_3b067 : ByteArray := prog_15_method_5_code
def yJ2_getChar_3b067 : MethodName := ⟨RJ2, "getChar", "([BI)C"⟩
abbrev cJ2_length_9d52b : ByteArray := prog_15_method_6_code
def yJ2_length_9d52b : MethodName := ⟨RJ2, "length", "([B)I"⟩
abbrev cJ2_charAt_3b067 : ByteArray := prog_15_method_83_code
def yJ2_charAt_3b067 : MethodName := ⟨RJ2, "charAt", "([BI)C"⟩
abbrev cJ2_checkIndex_2214a : ByteArray := prog_15_method_91_code
def yJ2_checkIndex_2214a : MethodName := ⟨RJ2, "checkIndex", "(I[B)V"⟩
def RJ10 : String := "java/lang/System"
def RJxfd54e : String := "java/lang/constant/Constable"
def RJx3cf43 : String := "java/lang/constant/ConstantDesc"
def RJ7 : String := "java/util/Arrays"
abbrev cJ7_fill_53178 : ByteArray := prog_17_method_103_code
def yJ7_fill_53178 : MethodName := ⟨RJ7, "fill", "([II)V"⟩
def RJ3 : String := "jdk/internal/util/Preconditions"
abbrev cJ3_checkIndex_8e157 : ByteArray := prog_18_method_11_code
def yJ3_checkIndex_8e157 : MethodName := ⟨RJ3, "checkIndex", "(IILjava/util/function/BiFunction;)I"⟩
def RL : String := "OneTooFewLaw"
abbrev cL_law : ByteArray := code
def yL_law : MethodName := ⟨RL, "law", "([I)Z"⟩
abbrev CL : List vw_C := [(RX0, TX0, 8), (RX1, TX1, 7), (RX2, TX2, 7), (RX3, TX3, 6), (RX4, TX4, 3), (RX5, TX5, 8), (RX6, TX6, 8), (RX7, TX7, 9), (RX8, TX8, 31)]
def TB : List Cond := lw_tbl.filter goodWord
theorem TB_good : GoodIn TB TB := fun w h => ⟨h, good_of_word (List.mem_filter.mp h).2⟩
theorem TB_at {w : Cond} (i : Nat) (h : lw_tbl[i]? = some w) (hg : goodWord w = true) : w ∈ TB := List.mem_filter.mpr ⟨List.mem_of_getElem? h, hg⟩
theorem TB_sub {args : Array Value} {s : State} (h : ∀ w ∈ lw_tbl, w.before args s = true) : ∀ w ∈ TB, w.before args s = true := fun w hw => h w (List.mem_filter.mp hw).1
end
section
/-! method descriptors, cells, words by their places: written by a program out of the printed claim -/
abbrev MD : Type := MethodName × ByteArray × Nat × Option FieldType × Room
def mX7_init : MD := (yX7_init, cX7_init, 1, none, { frames := 3, cells := 43, slots := 863, locals := 120 })
def mX6_init : MD := (yX6_init, cX6_init, 1, none, { frames := 1, cells := 5, slots := 30, locals := 40 })
def mX5_init : MD := (yX5_init, cX5_init, 1, none, { frames := 2, cells := 8, slots := 242, locals := 80 })
def mX3_init : MD := (yX3_init, cX3_init, 2, none, { frames := 1, cells := 3, slots := 24, locals := 40 })
def mX2_init : MD := (yX2_init, cX2_init, 3, none, { frames := 1, cells := 3, slots := 18, locals := 40 })
def mX1_init : MD := (yX1_init, cX1_init, 3, none, { frames := 1, cells := 1, slots := 384, locals := 40 })
def mX0_init : MD := (yX0_init, cX0_init, 1, none, { frames := 1, cells := 4, slots := 30, locals := 40 })
def mJ7_fill_53178 : MD := (yJ7_fill_53178, cJ7_fill_53178, 4, none, { frames := 0, cells := 0, slots := 0, locals := 0 })
def mX4_init : MD := (yX4_init, cX4_init, 1, none, { frames := 1, cells := 2, slots := 12, locals := 40 })
def mX7_write : MD := (yX7_write, cX7_write, 5, (some .int), { frames := 1, cells := 0, slots := 0, locals := 40 })
def mX5_append : MD := (yX5_append, cX5_append, 2, none, { frames := 0, cells := 0, slots := 0, locals := 0 })
def mX7_erase : MD := (yX7_erase, cX7_erase, 2, (some .int), { frames := 0, cells := 0, slots := 0, locals := 0 })
def mX7_fault : MD := (yX7_fault, cX7_fault, 1, (some .int), { frames := 9, cells := 0, slots := 0, locals := 360 })
def mX5_read : MD := (yX5_read, cX5_read, 2, (some .int), { frames := 8, cells := 0, slots := 0, locals := 320 })
def mX6_copyFrom : MD := (yX6_copyFrom, cX6_copyFrom, 2, none, { frames := 1, cells := 0, slots := 0, locals := 40 })
def mX5_doLine : MD := (yX5_doLine, cX5_doLine, 2, (some .boolean), { frames := 7, cells := 0, slots := 0, locals := 280 })
def mX5_nextToken : MD := (yX5_nextToken, cX5_nextToken, 1, none, { frames := 1, cells := 0, slots := 0, locals := 40 })
def mX5_isLetter : MD := (yX5_isLetter, cX5_isLetter, 1, (some .boolean), { frames := 0, cells := 0, slots := 0, locals := 0 })
def mX5_isDigit : MD := (yX5_isDigit, cX5_isDigit, 1, (some .boolean), { frames := 0, cells := 0, slots := 0, locals := 0 })
def mX5_isWord : MD := (yX5_isWord, cX5_isWord, 3, (some .boolean), { frames := 5, cells := 0, slots := 0, locals := 200 })
def mJ0_length_8abf5 : MD := (yJ0_length_8abf5, cJ0_length_8abf5, 1, (some .int), { frames := 1, cells := 0, slots := 0, locals := 40 })
def mJ0_coder_7d493 : MD := (yJ0_coder_7d493, cJ0_coder_7d493, 1, (some .byte), { frames := 0, cells := 0, slots := 0, locals := 0 })
def mJ0_charAt_5068e : MD := (yJ0_charAt_5068e, cJ0_charAt_5068e, 2, (some .char), { frames := 4, cells := 0, slots := 0, locals := 160 })
def mJ0_isLatin1_aae02 : MD := (yJ0_isLatin1_aae02, cJ0_isLatin1_aae02, 1, (some .boolean), { frames := 0, cells := 0, slots := 0, locals := 0 })
def mJ1_charAt_3b067 : MD := (yJ1_charAt_3b067, cJ1_charAt_3b067, 2, (some .char), { frames := 2, cells := 0, slots := 0, locals := 80 })
def mJ0_checkIndex_df160 : MD := (yJ0_checkIndex_df160, cJ0_checkIndex_df160, 2, none, { frames := 1, cells := 0, slots := 0, locals := 40 })
def mJ3_checkIndex_8e157 : MD := (yJ3_checkIndex_8e157, cJ3_checkIndex_8e157, 3, (some .int), { frames := 0, cells := 0, slots := 0, locals := 0 })
def mJ2_charAt_3b067 : MD := (yJ2_charAt_3b067, cJ2_charAt_3b067, 2, (some .char), { frames := 3, cells := 0, slots := 0, locals := 120 })
def mJ2_checkIndex_2214a : MD := (yJ2_checkIndex_2214a, cJ2_checkIndex_2214a, 2, none, { frames := 2, cells := 0, slots := 0, locals := 80 })
def mJ2_length_9d52b : MD := (yJ2_length_9d52b, cJ2_length_9d52b, 1, (some .int), { frames := 0, cells := 0, slots := 0, locals := 0 })
def mJ2_getChar_3b067 : MD := (yJ2_getChar_3b067, cJ2_getChar_3b067, 2, (some .char), { frames := 1, cells := 0, slots := 0, locals := 40 })
def mX5_doInn : MD := (yX5_doInn, cX5_doInn, 1, (some .boolean), { frames := 3, cells := 0, slots := 0, locals := 120 })
def mX5_readNumber : MD := (yX5_readNumber, cX5_readNumber, 4, (some .boolean), { frames := 2, cells := 0, slots := 0, locals := 80 })
def mX6_beginInn : MD := (yX6_beginInn, cX6_beginInn, 2, none, { frames := 0, cells := 0, slots := 0, locals := 0 })
def mX5_doChair : MD := (yX5_doChair, cX5_doChair, 2, (some .boolean), { frames := 3, cells := 0, slots := 0, locals := 120 })
def mX6_hasChair : MD := (yX6_hasChair, cX6_hasChair, 2, (some .boolean), { frames := 1, cells := 0, slots := 0, locals := 40 })
def mX6_hasPlace : MD := (yX6_hasPlace, cX6_hasPlace, 2, (some .boolean), { frames := 0, cells := 0, slots := 0, locals := 0 })
def mX7_holds : MD := (yX7_holds, cX7_holds, 2, (some .boolean), { frames := 0, cells := 0, slots := 0, locals := 0 })
def mX5_kindOfWord : MD := (yX5_kindOfWord, cX5_kindOfWord, 1, (some .int), { frames := 6, cells := 0, slots := 0, locals := 240 })
def mX5_doGuest : MD := (yX5_doGuest, cX5_doGuest, 3, (some .boolean), { frames := 3, cells := 0, slots := 0, locals := 120 })
def mX5_mostOf : MD := (yX5_mostOf, cX5_mostOf, 2, (some .int), { frames := 0, cells := 0, slots := 0, locals := 0 })
def mX6_addGuest : MD := (yX6_addGuest, cX6_addGuest, 3, (some .boolean), { frames := 0, cells := 0, slots := 0, locals := 0 })
def mX7_inn : MD := (yX7_inn, cX7_inn, 1, (some .int), { frames := 9, cells := 0, slots := 0, locals := 360 })
def mX0_begin : MD := (yX0_begin, cX0_begin, 2, none, { frames := 2, cells := 0, slots := 0, locals := 80 })
def mX0_getUp : MD := (yX0_getUp, cX0_getUp, 1, none, { frames := 1, cells := 0, slots := 0, locals := 40 })
def mX7_place : MD := (yX7_place, cX7_place, 3, (some .int), { frames := 2, cells := 0, slots := 0, locals := 80 })
def mX0_whoIsAt : MD := (yX0_whoIsAt, cX0_whoIsAt, 5, (some .int), { frames := 0, cells := 0, slots := 0, locals := 0 })
def mX7_guest : MD := (yX7_guest, cX7_guest, 3, (some .int), { frames := 1, cells := 0, slots := 0, locals := 40 })
def mX6_hasGuest : MD := (yX6_hasGuest, cX6_hasGuest, 2, (some .boolean), { frames := 0, cells := 0, slots := 0, locals := 0 })
def mX7_as : MD := (yX7_as, cX7_as, 4, (some .int), { frames := 3, cells := 0, slots := 0, locals := 120 })
def mX6_isA : MD := (yX6_isA, cX6_isA, 3, (some .boolean), { frames := 0, cells := 0, slots := 0, locals := 0 })
def mX6_nearestChair : MD := (yX6_nearestChair, cX6_nearestChair, 3, (some .int), { frames := 2, cells := 0, slots := 0, locals := 80 })
def mX6_farthest : MD := (yX6_farthest, cX6_farthest, 1, (some .int), { frames := 0, cells := 0, slots := 0, locals := 0 })
def mX6_leastAt : MD := (yX6_leastAt, cX6_leastAt, 8, (some .int), { frames := 1, cells := 0, slots := 0, locals := 40 })
def mX6_ease : MD := (yX6_ease, cX6_ease, 2, (some .int), { frames := 0, cells := 0, slots := 0, locals := 0 })
def mX7_walk : MD := (yX7_walk, cX7_walk, 2, (some .int), { frames := 3, cells := 0, slots := 0, locals := 120 })
def mX0_goOn : MD := (yX0_goOn, cX0_goOn, 4, none, { frames := 2, cells := 0, slots := 0, locals := 80 })
def mX6_placeAfter : MD := (yX6_placeAfter, cX6_placeAfter, 5, (some .int), { frames := 1, cells := 0, slots := 0, locals := 40 })
def mJ9_floorMod_7cf53 : MD := (yJ9_floorMod_7cf53, cJ9_floorMod_7cf53, 3, (some .int), { frames := 0, cells := 0, slots := 0, locals := 0 })
def mX7_stop : MD := (yX7_stop, cX7_stop, 2, (some .int), { frames := 5, cells := 0, slots := 0, locals := 200 })
def mX6_everyone : MD := (yX6_everyone, cX6_everyone, 1, (some .int), { frames := 0, cells := 0, slots := 0, locals := 0 })
def mX3_settle : MD := (yX3_settle, cX3_settle, 3, (some .int), { frames := 4, cells := 0, slots := 0, locals := 160 })
def mX6_allOfKind : MD := (yX6_allOfKind, cX6_allOfKind, 4, (some .int), { frames := 0, cells := 0, slots := 0, locals := 0 })
def mX3_seatAll : MD := (yX3_seatAll, cX3_seatAll, 6, (some .int), { frames := 3, cells := 0, slots := 0, locals := 120 })
def mX3_seatOne : MD := (yX3_seatOne, cX3_seatOne, 5, none, { frames := 2, cells := 0, slots := 0, locals := 80 })
def mX3_take : MD := (yX3_take, cX3_take, 3, none, { frames := 0, cells := 0, slots := 0, locals := 0 })
def mX3_settleFaint : MD := (yX3_settleFaint, cX3_settleFaint, 2, none, { frames := 4, cells := 0, slots := 0, locals := 160 })
def mX0_end : MD := (yX0_end, cX0_end, 7, none, { frames := 1, cells := 0, slots := 0, locals := 40 })
def mJ6_bitCount_0f7a4 : MD := (yJ6_bitCount_0f7a4, cJ6_bitCount_0f7a4, 1, (some .int), { frames := 0, cells := 0, slots := 0, locals := 0 })
def mX6_allWorth : MD := (yX6_allWorth, cX6_allWorth, 3, (some .int), { frames := 0, cells := 0, slots := 0, locals := 0 })
def mX7_play : MD := (yX7_play, cX7_play, 1, (some .int), { frames := 2, cells := 0, slots := 0, locals := 80 })
def mX7_keep : MD := (yX7_keep, cX7_keep, 3, (some .int), { frames := 2, cells := 0, slots := 0, locals := 80 })
def mX7_isEither : MD := (yX7_isEither, cX7_isEither, 1, (some .boolean), { frames := 0, cells := 0, slots := 0, locals := 0 })
def mX0_copyFrom : MD := (yX0_copyFrom, cX0_copyFrom, 2, none, { frames := 1, cells := 0, slots := 0, locals := 40 })
def mX7_back : MD := (yX7_back, cX7_back, 3, (some .int), { frames := 2, cells := 0, slots := 0, locals := 80 })
def mX7_standing : MD := (yX7_standing, cX7_standing, 2, (some .int), { frames := 6, cells := 0, slots := 0, locals := 240 })
def mX7_isMinute : MD := (yX7_isMinute, cX7_isMinute, 1, (some .boolean), { frames := 0, cells := 0, slots := 0, locals := 0 })
def mX2_asTold : MD := (yX2_asTold, cX2_asTold, 1, none, { frames := 1, cells := 0, slots := 0, locals := 40 })
def mX2_stoodAt : MD := (yX2_stoodAt, cX2_stoodAt, 2, (some .int), { frames := 5, cells := 0, slots := 0, locals := 200 })
def mX2_goTo : MD := (yX2_goTo, cX2_goTo, 3, none, { frames := 2, cells := 0, slots := 0, locals := 80 })
def mX7_odds : MD := (yX7_odds, cX7_odds, 8, (some .int), { frames := 6, cells := 0, slots := 0, locals := 240 })
def mX7_areMinutes : MD := (yX7_areMinutes, cX7_areMinutes, 2, (some .boolean), { frames := 1, cells := 0, slots := 0, locals := 40 })
def mX2_tally : MD := (yX2_tally, cX2_tally, 5, none, { frames := 5, cells := 0, slots := 0, locals := 200 })
def mX2_minutesLike : MD := (yX2_minutesLike, cX2_minutesLike, 4, (some .int), { frames := 1, cells := 0, slots := 0, locals := 40 })
def mX2_minutesLikeTo : MD := (yX2_minutesLikeTo, cX2_minutesLikeTo, 3, (some .int), { frames := 0, cells := 0, slots := 0, locals := 0 })
def mX2_addTimes : MD := (yX2_addTimes, cX2_addTimes, 4, none, { frames := 1, cells := 0, slots := 0, locals := 40 })
def mX7_commonDivisor : MD := (yX7_commonDivisor, cX7_commonDivisor, 6, (some .int), { frames := 0, cells := 0, slots := 0, locals := 0 })
def mX7_surest : MD := (yX7_surest, cX7_surest, 5, (some .int), { frames := 7, cells := 0, slots := 0, locals := 280 })
def mX1_findSurest : MD := (yX1_findSurest, cX1_findSurest, 6, none, { frames := 6, cells := 0, slots := 0, locals := 240 })
def mX7_still : MD := (yX7_still, cX7_still, 4, (some .int), { frames := 7, cells := 0, slots := 0, locals := 280 })
def mX1_findStill : MD := (yX1_findStill, cX1_findStill, 5, none, { frames := 6, cells := 0, slots := 0, locals := 240 })
def mX1_nobodyWouldChange : MD := (yX1_nobodyWouldChange, cX1_nobodyWouldChange, 4, (some .boolean), { frames := 0, cells := 0, slots := 0, locals := 0 })
def mX7_plot : MD := (yX7_plot, cX7_plot, 5, (some .int), { frames := 7, cells := 0, slots := 0, locals := 280 })
def mX6_hasAll : MD := (yX6_hasAll, cX6_hasAll, 2, (some .boolean), { frames := 1, cells := 0, slots := 0, locals := 40 })
def mX1_findPlot : MD := (yX1_findPlot, cX1_findPlot, 6, none, { frames := 6, cells := 0, slots := 0, locals := 240 })
def mX1_keepStill : MD := (yX1_keepStill, cX1_keepStill, 3, none, { frames := 2, cells := 0, slots := 0, locals := 80 })
def mX7_price : MD := (yX7_price, cX7_price, 3, (some .int), { frames := 6, cells := 0, slots := 0, locals := 240 })
def mX6_greatestWorth : MD := (yX6_greatestWorth, cX6_greatestWorth, 4, (some .int), { frames := 1, cells := 0, slots := 0, locals := 40 })
def mJ9_max_7cf53 : MD := (yJ9_max_7cf53, cJ9_max_7cf53, 2, (some .int), { frames := 0, cells := 0, slots := 0, locals := 0 })
def mX7_laid : MD := (yX7_laid, cX7_laid, 5, (some .int), { frames := 7, cells := 0, slots := 0, locals := 280 })
def mX1_findLaid : MD := (yX1_findLaid, cX1_findLaid, 6, none, { frames := 6, cells := 0, slots := 0, locals := 240 })
def mX2_spread : MD := (yX2_spread, cX2_spread, 4, (some .int), { frames := 1, cells := 0, slots := 0, locals := 40 })
def mJ9_min_7cf53 : MD := (yJ9_min_7cf53, cJ9_min_7cf53, 2, (some .int), { frames := 0, cells := 0, slots := 0, locals := 0 })
def mX7_left : MD := (yX7_left, cX7_left, 4, (some .int), { frames := 7, cells := 0, slots := 0, locals := 280 })
def mX2_playRounds : MD := (yX2_playRounds, cX2_playRounds, 4, (some .int), { frames := 6, cells := 0, slots := 0, locals := 240 })
def mX7_seen : MD := (yX7_seen, cX7_seen, 3, (some .int), { frames := 1, cells := 0, slots := 0, locals := 40 })
def mX4_add : MD := (yX4_add, cX4_add, 3, none, { frames := 0, cells := 0, slots := 0, locals := 0 })
def mX7_forget : MD := (yX7_forget, cX7_forget, 2, (some .int), { frames := 0, cells := 0, slots := 0, locals := 0 })
def mX7_fits : MD := (yX7_fits, cX7_fits, 2, (some .int), { frames := 7, cells := 0, slots := 0, locals := 280 })
def mX1_findFits : MD := (yX1_findFits, cX1_findFits, 3, none, { frames := 6, cells := 0, slots := 0, locals := 240 })
def mX4_fit : MD := (yX4_fit, cX4_fit, 3, (some .boolean), { frames := 0, cells := 0, slots := 0, locals := 0 })
def mX7_count : MD := (yX7_count, cX7_count, 2, (some .int), { frames := 0, cells := 0, slots := 0, locals := 0 })
def mX8_init : MD := (yX8_init, cX8_init, 1, none, { frames := 2, cells := 16, slots := 799, locals := 80 })
def mX8_begin : MD := (yX8_begin, cX8_begin, 2, none, { frames := 1, cells := 0, slots := 0, locals := 40 })
def mX8_in : MD := (yX8_in, cX8_in, 6, (some .boolean), { frames := 0, cells := 0, slots := 0, locals := 0 })
def mX8_write : MD := (yX8_write, cX8_write, 5, (some .int), { frames := 1, cells := 0, slots := 0, locals := 40 })
def mX8_erase : MD := (yX8_erase, cX8_erase, 2, (some .int), { frames := 0, cells := 0, slots := 0, locals := 0 })
def mX8_fault : MD := (yX8_fault, cX8_fault, 2, (some .int), { frames := 6, cells := 0, slots := 0, locals := 240 })
def mX8_token : MD := (yX8_token, cX8_token, 1, none, { frames := 1, cells := 0, slots := 0, locals := 40 })
def mX8_sort : MD := (yX8_sort, cX8_sort, 1, (some .int), { frames := 0, cells := 0, slots := 0, locals := 0 })
def mX8_readsLine : MD := (yX8_readsLine, cX8_readsLine, 3, (some .boolean), { frames := 5, cells := 0, slots := 0, locals := 200 })
def mX8_wordOf : MD := (yX8_wordOf, cX8_wordOf, 2, (some .int), { frames := 2, cells := 0, slots := 0, locals := 80 })
def mX8_guestWord : MD := (yX8_guestWord, cX8_guestWord, 1, (some .int), { frames := 1, cells := 0, slots := 0, locals := 40 })
def mX8_isWord : MD := (yX8_isWord, cX8_isWord, 5, (some .boolean), { frames := 0, cells := 0, slots := 0, locals := 0 })
def mX8_isGuestWord : MD := (yX8_isGuestWord, cX8_isGuestWord, 1, (some .boolean), { frames := 1, cells := 0, slots := 0, locals := 40 })
def mX8_readsRest : MD := (yX8_readsRest, cX8_readsRest, 4, (some .boolean), { frames := 4, cells := 0, slots := 0, locals := 160 })
def mX8_numberHere : MD := (yX8_numberHere, cX8_numberHere, 3, (some .int), { frames := 1, cells := 0, slots := 0, locals := 40 })
def mX8_reads : MD := (yX8_reads, cX8_reads, 5, (some .boolean), { frames := 2, cells := 0, slots := 0, locals := 80 })
def mX8_has : MD := (yX8_has, cX8_has, 2, (some .boolean), { frames := 0, cells := 0, slots := 0, locals := 0 })
def mX8_readsGuest : MD := (yX8_readsGuest, cX8_readsGuest, 1, (some .boolean), { frames := 3, cells := 0, slots := 0, locals := 120 })
def mX8_inn : MD := (yX8_inn, cX8_inn, 2, (some .int), { frames := 7, cells := 0, slots := 0, locals := 280 })
def mX8_tell : MD := (yX8_tell, cX8_tell, 3, none, { frames := 0, cells := 0, slots := 0, locals := 0 })
def mX8_place : MD := (yX8_place, cX8_place, 6, (some .int), { frames := 2, cells := 0, slots := 0, locals := 80 })
def mX8_isPlace : MD := (yX8_isPlace, cX8_isPlace, 2, (some .boolean), { frames := 1, cells := 0, slots := 0, locals := 40 })
def mX8_guest : MD := (yX8_guest, cX8_guest, 3, (some .int), { frames := 2, cells := 0, slots := 0, locals := 80 })
def mX8_isGuest : MD := (yX8_isGuest, cX8_isGuest, 2, (some .boolean), { frames := 1, cells := 0, slots := 0, locals := 40 })
def mX8_as : MD := (yX8_as, cX8_as, 8, (some .int), { frames := 2, cells := 0, slots := 0, locals := 80 })
def mX8_effort : MD := (yX8_effort, cX8_effort, 4, (some .int), { frames := 1, cells := 0, slots := 0, locals := 40 })
def mX8_far : MD := (yX8_far, cX8_far, 4, (some .int), { frames := 0, cells := 0, slots := 0, locals := 0 })
def mX8_walk : MD := (yX8_walk, cX8_walk, 3, (some .int), { frames := 1, cells := 0, slots := 0, locals := 40 })
def mX8_walked : MD := (yX8_walked, cX8_walked, 6, (some .int), { frames := 0, cells := 0, slots := 0, locals := 0 })
def mX8_stop : MD := (yX8_stop, cX8_stop, 4, (some .int), { frames := 5, cells := 0, slots := 0, locals := 200 })
def mX8_everybody : MD := (yX8_everybody, cX8_everybody, 1, (some .int), { frames := 0, cells := 0, slots := 0, locals := 0 })
def mX8_stops : MD := (yX8_stops, cX8_stops, 5, (some .int), { frames := 4, cells := 0, slots := 0, locals := 160 })
def mX8_faint : MD := (yX8_faint, cX8_faint, 3, (some .int), { frames := 0, cells := 0, slots := 0, locals := 0 })
def mX8_seat : MD := (yX8_seat, cX8_seat, 2, none, { frames := 3, cells := 0, slots := 0, locals := 120 })
def mX8_findsTwo : MD := (yX8_findsTwo, cX8_findsTwo, 7, (some .boolean), { frames := 2, cells := 0, slots := 0, locals := 80 })
def mX8_takeSecond : MD := (yX8_takeSecond, cX8_takeSecond, 6, none, { frames := 1, cells := 0, slots := 0, locals := 40 })
def mX8_bits : MD := (yX8_bits, cX8_bits, 3, (some .int), { frames := 0, cells := 0, slots := 0, locals := 0 })
def mX8_play : MD := (yX8_play, cX8_play, 2, (some .int), { frames := 0, cells := 0, slots := 0, locals := 0 })
def mX8_keep : MD := (yX8_keep, cX8_keep, 2, (some .int), { frames := 1, cells := 0, slots := 0, locals := 40 })
def mX8_copy : MD := (yX8_copy, cX8_copy, 4, none, { frames := 0, cells := 0, slots := 0, locals := 0 })
def mX8_back : MD := (yX8_back, cX8_back, 2, (some .int), { frames := 1, cells := 0, slots := 0, locals := 40 })
def mX8_standing : MD := (yX8_standing, cX8_standing, 2, (some .int), { frames := 6, cells := 0, slots := 0, locals := 240 })
def mX8_isTime : MD := (yX8_isTime, cX8_isTime, 1, (some .boolean), { frames := 1, cells := 0, slots := 0, locals := 40 })
def mX8_standingAt : MD := (yX8_standingAt, cX8_standingAt, 2, (some .int), { frames := 5, cells := 0, slots := 0, locals := 200 })
def mX8_layAts : MD := (yX8_layAts, cX8_layAts, 3, none, { frames := 1, cells := 0, slots := 0, locals := 40 })
def mX8_odds : MD := (yX8_odds, cX8_odds, 10, (some .int), { frames := 7, cells := 0, slots := 0, locals := 280 })
def mX8_isSpan : MD := (yX8_isSpan, cX8_isSpan, 2, (some .boolean), { frames := 2, cells := 0, slots := 0, locals := 80 })
def mX8_minutesOf : MD := (yX8_minutesOf, cX8_minutesOf, 6, (some .int), { frames := 6, cells := 0, slots := 0, locals := 240 })
def mX8_surest : MD := (yX8_surest, cX8_surest, 11, (some .int), { frames := 7, cells := 0, slots := 0, locals := 280 })
def mX8_still : MD := (yX8_still, cX8_still, 7, (some .int), { frames := 7, cells := 0, slots := 0, locals := 280 })
def mX8_savePaces : MD := (yX8_savePaces, cX8_savePaces, 2, none, { frames := 0, cells := 0, slots := 0, locals := 0 })
def mX8_layStands : MD := (yX8_layStands, cX8_layStands, 7, none, { frames := 6, cells := 0, slots := 0, locals := 240 })
def mX8_restorePaces : MD := (yX8_restorePaces, cX8_restorePaces, 2, none, { frames := 0, cells := 0, slots := 0, locals := 0 })
def mX8_isStill : MD := (yX8_isStill, cX8_isStill, 4, (some .boolean), { frames := 0, cells := 0, slots := 0, locals := 0 })
def mX8_plot : MD := (yX8_plot, cX8_plot, 8, (some .int), { frames := 6, cells := 0, slots := 0, locals := 240 })
def mX8_price : MD := (yX8_price, cX8_price, 6, (some .int), { frames := 6, cells := 0, slots := 0, locals := 240 })
def mX8_laid : MD := (yX8_laid, cX8_laid, 9, (some .int), { frames := 6, cells := 0, slots := 0, locals := 240 })
def mX8_apart : MD := (yX8_apart, cX8_apart, 7, (some .int), { frames := 5, cells := 0, slots := 0, locals := 200 })
def mX8_left : MD := (yX8_left, cX8_left, 8, (some .int), { frames := 5, cells := 0, slots := 0, locals := 200 })
def mX8_leastOf : MD := (yX8_leastOf, cX8_leastOf, 1, (some .int), { frames := 0, cells := 0, slots := 0, locals := 0 })
def mX8_seen : MD := (yX8_seen, cX8_seen, 3, (some .int), { frames := 2, cells := 0, slots := 0, locals := 80 })
def mX8_forget : MD := (yX8_forget, cX8_forget, 2, (some .int), { frames := 0, cells := 0, slots := 0, locals := 0 })
def mX8_fits : MD := (yX8_fits, cX8_fits, 8, (some .int), { frames := 6, cells := 0, slots := 0, locals := 240 })
def mX8_count : MD := (yX8_count, cX8_count, 2, (some .int), { frames := 0, cells := 0, slots := 0, locals := 0 })
def mL_law : MD := (yL_law, cL_law, 4, (some .boolean), { frames := 12, cells := 61, slots := 1702, locals := 420 })
/-- a cell by its number: (0, n) an int array, (1, n) a boolean array, (2, c) an object of class c of CL -/
def shp : List (Nat × Nat) := [(2, 7), (2, 6), (0, 6), (0, 6), (0, 6), (0, 6), (0, 6), (2, 5), (0, 200), (2, 6), (0, 6), (0, 6), (0, 6), (0, 6), (0, 6), (0, 4), (2, 3), (0, 6), (0, 6), (0, 12), (2, 2), (0, 6), (0, 6), (0, 6), (2, 1), (0, 384), (2, 0), (0, 6), (0, 6), (0, 12), (0, 6), (2, 0), (0, 6), (0, 6), (0, 12), (0, 6), (2, 0), (0, 6), (0, 6), (0, 12), (0, 6), (2, 4), (0, 6), (0, 6), (2, 8), (0, 81), (1, 2), (0, 200), (0, 60), (0, 6), (0, 6), (0, 6), (0, 6), (0, 6), (0, 6), (0, 6), (0, 6), (0, 6), (0, 384), (0, 6), (0, 12)]
def rtab : List (List Bool) := [[false, false, false, false, true, true, true, true], [true, true, true, false, false, false, false], [true, true, true, true, true, false, false], [true, true, true, true, false, false], [false, true, true], [true, false, true, false, false, false, false, true], [false, false, false, true, true, true, true, true], [true, true, true, true, true, true, true, true, true], [true, true, true, false, true, false, false, false, true, true, true, true, true, false, false, false, false, false, false, false, true, true, true, false, false, false, true, true, true, true, false]]
def R0 : List (List (Option Nat)) := [[some 1, some 7, some 16, some 20, some 24, some 26, some 31, some 36, some 41], [none, none, none, some 2, some 3, some 4, some 5, some 6], [], [], [], [], [], [some 8, none, some 9, none, none, none, none, some 15], [], [none, none, none, some 10, some 11, some 12, some 13, some 14], [], [], [], [], [], [], [some 1, some 17, some 18, some 19, none, none], [], [], [], [some 1, some 16, some 21, some 22, some 23, none, none], [], [], [], [some 1, some 20, some 25, none, none, none, none], [], [none, none, none, none, some 27, some 28, some 29, some 30], [], [], [], [], [none, none, none, none, some 32, some 33, some 34, some 35], [], [], [], [], [none, none, none, none, some 37, some 38, some 39, some 40], [], [], [], [], [none, some 42, some 43], [], [], [some 45, some 46, some 47, none, some 48, none, none, none, some 49, some 50, some 51, some 52, some 53, none, none, none, none, none, none, none, some 54, some 55, some 56, none, none, none, some 57, some 58, some 59, some 60, none], [], [], [], [], [], [], [], [], [], [], [], [], [], [], [], []]
def q_F (own : String) (idx ci j : Nat) : Prop := ∃ C T N, CL[ci]? = some (C, T, N) ∧ j < N ∧ Cond.fieldLink own idx (T j).1 (T j).2.1 (T j).2.2.1 ∈ TB
def q_D (y : MethodName) (n : Nat) : Prop := y.cls ≠ "java/lang/invoke/MethodHandle" ∧ y.cls ≠ "java/lang/invoke/VarHandle" ∧ (parseMethodDescriptor y.desc).map (fun d => d.parameters.length) = some n
def q_C (md : MD) : Prop := Cond.initialized md.1.cls ∈ TB ∧ Cond.code md.1 md.2.1 md.2.2.1 md.2.2.2.1 ∈ TB
def q_V (own : String) (idx : Nat) (md : MD) (n : Nat) : Prop := Cond.methodLink own idx md.1 ∈ TB ∧ (Cond.instanceMethod md.1 ∈ TB ∧ Cond.selects md.1.cls md.1 md.1 ∈ TB) ∧ q_C md ∧ q_D md.1 n
def q_S (own : String) (idx : Nat) (md : MD) (n : Nat) : Prop := Cond.methodLink own idx md.1 ∈ TB ∧ Cond.static md.1 ∈ TB ∧ q_C md ∧ q_D md.1 n
def q_SN (own : String) (idx : Nat) (md : MD) (n : Nat) : Prop := (∃ host, Cond.methodLinkNest own idx md.1 host ∈ lw_tbl) ∧ Cond.static md.1 ∈ TB ∧ q_C md ∧ q_D md.1 n
def q_I (own : String) (idx : Nat) (md : MD) (n : Nat) : Prop := Cond.methodLink own idx md.1 ∈ TB ∧ (Cond.instanceMethod md.1 ∈ TB ∧ md.1.name = "<init>") ∧ q_C md ∧ q_D md.1 n
def q_IN (own : String) (idx : Nat) (md : MD) (n : Nat) : Prop := (∃ host, Cond.methodLinkNest own idx md.1 host ∈ lw_tbl) ∧ (Cond.instanceMethod md.1 ∈ TB ∧ md.1.name = "<init>") ∧ q_C md ∧ q_D md.1 n
set_option maxRecDepth 20000 in
theorem lc_mX7_init : q_C mX7_init := ⟨TB_at 49 (by decide +kernel) (by decide), TB_at 70 (by rfl) (by decide)⟩
set_option maxRecDepth 20000 in
theorem lc_mX6_init : q_C mX6_init := ⟨TB_at 50 (by decide +kernel) (by decide), TB_at 78 (by rfl) (by decide)⟩
set_option maxRecDepth 20000 in
theorem lc_mX5_init : q_C mX5_init := ⟨TB_at 51 (by decide +kernel) (by decide), TB_at 134 (by rfl) (by decide)⟩
set_option maxRecDepth 20000 in
theorem lc_mX3_init : q_C mX3_init := ⟨TB_at 52 (by decide +kernel) (by decide), TB_at 170 (by rfl) (by decide)⟩
set_option maxRecDepth 20000 in
theorem lc_mX2_init : q_C mX2_init := ⟨TB_at 53 (by decide +kernel) (by decide), TB_at 200 (by rfl) (by decide)⟩
set_option maxRecDepth 20000 in
theorem lc_mX1_init : q_C mX1_init := ⟨TB_at 54 (by decide +kernel) (by decide), TB_at 234 (by rfl) (by decide)⟩
set_option maxRecDepth 20000 in
theorem lc_mX0_init : q_C mX0_init := ⟨TB_at 55 (by decide +kernel) (by decide), TB_at 266 (by rfl) (by decide)⟩
set_option maxRecDepth 20000 in
theorem lc_mJ7_fill_53178 : q_C mJ7_fill_53178 := ⟨TB_at 56 (by decide +kernel) (by decide), TB_at 270 (by rfl) (by decide)⟩
set_option maxRecDepth 20000 in
theorem lc_mX4_init : q_C mX4_init := ⟨TB_at 57 (by decide +kernel) (by decide), TB_at 307 (by rfl) (by decide)⟩
set_option maxRecDepth 20000 in
theorem lc_mX7_write : q_C mX7_write := ⟨TB_at 49 (by decide +kernel) (by decide), TB_at 351 (by rfl) (by decide)⟩
set_option maxRecDepth 20000 in
theorem lc_mX5_append : q_C mX5_append := ⟨TB_at 51 (by decide +kernel) (by decide), TB_at 356 (by rfl) (by decide)⟩
set_option maxRecDepth 20000 in
theorem lc_mX7_erase : q_C mX7_erase := ⟨TB_at 49 (by decide +kernel) (by decide), TB_at 360 (by rfl) (by decide)⟩
set_option maxRecDepth 20000 in
theorem lc_mX7_fault : q_C mX7_fault := ⟨TB_at 49 (by decide +kernel) (by decide), TB_at 364 (by rfl) (by decide)⟩
set_option maxRecDepth 20000 in
theorem lc_mX5_read : q_C mX5_read := ⟨TB_at 51 (by decide +kernel) (by decide), TB_at 368 (by rfl) (by decide)⟩
set_option maxRecDepth 20000 in
theorem lc_mX6_copyFrom : q_C mX6_copyFrom := ⟨TB_at 50 (by decide +kernel) (by decide), TB_at 372 (by rfl) (by decide)⟩
set_option maxRecDepth 20000 in
theorem lc_mX5_doLine : q_C mX5_doLine := ⟨TB_at 51 (by decide +kernel) (by decide), TB_at 379 (by rfl) (by decide)⟩
set_option maxRecDepth 20000 in
theorem lc_mX5_nextToken : q_C mX5_nextToken := ⟨TB_at 51 (by decide +kernel) (by decide), TB_at 383 (by rfl) (by decide)⟩
set_option maxRecDepth 20000 in
theorem lc_mX5_isLetter : q_C mX5_isLetter := ⟨TB_at 51 (by decide +kernel) (by decide), TB_at 386 (by rfl) (by decide)⟩
set_option maxRecDepth 20000 in
theorem lc_mX5_isDigit : q_C mX5_isDigit := ⟨TB_at 51 (by decide +kernel) (by decide), TB_at 389 (by rfl) (by decide)⟩
set_option maxRecDepth 20000 in
theorem lc_mX5_isWord : q_C mX5_isWord := ⟨TB_at 51 (by decide +kernel) (by decide), TB_at 394 (by rfl) (by decide)⟩
set_option maxRecDepth 20000 in
theorem lc_mJ0_length_8abf5 : q_C mJ0_length_8abf5 := ⟨TB_at 60 (by decide +kernel) (by decide), TB_at 398 (by rfl) (by decide)⟩
set_option maxRecDepth 20000 in
theorem lc_mJ0_coder_7d493 : q_C mJ0_coder_7d493 := ⟨TB_at 60 (by decide +kernel) (by decide), TB_at 402 (by rfl) (by decide)⟩
set_option maxRecDepth 20000 in
theorem lc_mJ0_charAt_5068e : q_C mJ0_charAt_5068e := ⟨TB_at 60 (by decide +kernel) (by decide), TB_at 408 (by rfl) (by decide)⟩
set_option maxRecDepth 20000 in
theorem lc_mJ0_isLatin1_aae02 : q_C mJ0_isLatin1_aae02 := ⟨TB_at 60 (by decide +kernel) (by decide), TB_at 412 (by rfl) (by decide)⟩
set_option maxRecDepth 20000 in
theorem lc_mJ1_charAt_3b067 : q_C mJ1_charAt_3b067 := ⟨TB_at 61 (by decide +kernel) (by decide), TB_at 415 (by rfl) (by decide)⟩
set_option maxRecDepth 20000 in
theorem lc_mX5_doInn : q_C mX5_doInn := ⟨TB_at 51 (by decide +kernel) (by decide), TB_at 446 (by rfl) (by decide)⟩
set_option maxRecDepth 20000 in
theorem lc_mX5_readNumber : q_C mX5_readNumber := ⟨TB_at 51 (by decide +kernel) (by decide), TB_at 450 (by rfl) (by decide)⟩
set_option maxRecDepth 20000 in
theorem lc_mX6_beginInn : q_C mX6_beginInn := ⟨TB_at 50 (by decide +kernel) (by decide), TB_at 454 (by rfl) (by decide)⟩
set_option maxRecDepth 20000 in
theorem lc_mX5_doChair : q_C mX5_doChair := ⟨TB_at 51 (by decide +kernel) (by decide), TB_at 459 (by rfl) (by decide)⟩
set_option maxRecDepth 20000 in
theorem lc_mX6_hasChair : q_C mX6_hasChair := ⟨TB_at 50 (by decide +kernel) (by decide), TB_at 463 (by rfl) (by decide)⟩
set_option maxRecDepth 20000 in
theorem lc_mX6_hasPlace : q_C mX6_hasPlace := ⟨TB_at 50 (by decide +kernel) (by decide), TB_at 467 (by rfl) (by decide)⟩
set_option maxRecDepth 20000 in
theorem lc_mX7_holds : q_C mX7_holds := ⟨TB_at 49 (by decide +kernel) (by decide), TB_at 470 (by rfl) (by decide)⟩
set_option maxRecDepth 20000 in
theorem lc_mX5_kindOfWord : q_C mX5_kindOfWord := ⟨TB_at 51 (by decide +kernel) (by decide), TB_at 476 (by rfl) (by decide)⟩
set_option maxRecDepth 20000 in
theorem lc_mX5_doGuest : q_C mX5_doGuest := ⟨TB_at 51 (by decide +kernel) (by decide), TB_at 484 (by rfl) (by decide)⟩
set_option maxRecDepth 20000 in
theorem lc_mX5_mostOf : q_C mX5_mostOf := ⟨TB_at 51 (by decide +kernel) (by decide), TB_at 488 (by rfl) (by decide)⟩
set_option maxRecDepth 20000 in
theorem lc_mX6_addGuest : q_C mX6_addGuest := ⟨TB_at 50 (by decide +kernel) (by decide), TB_at 492 (by rfl) (by decide)⟩
set_option maxRecDepth 20000 in
theorem lc_mX7_inn : q_C mX7_inn := ⟨TB_at 49 (by decide +kernel) (by decide), TB_at 497 (by rfl) (by decide)⟩
set_option maxRecDepth 20000 in
theorem lc_mX0_begin : q_C mX0_begin := ⟨TB_at 55 (by decide +kernel) (by decide), TB_at 502 (by rfl) (by decide)⟩
set_option maxRecDepth 20000 in
theorem lc_mX0_getUp : q_C mX0_getUp := ⟨TB_at 55 (by decide +kernel) (by decide), TB_at 507 (by rfl) (by decide)⟩
set_option maxRecDepth 20000 in
theorem lc_mX7_place : q_C mX7_place := ⟨TB_at 49 (by decide +kernel) (by decide), TB_at 511 (by rfl) (by decide)⟩
set_option maxRecDepth 20000 in
theorem lc_mX0_whoIsAt : q_C mX0_whoIsAt := ⟨TB_at 55 (by decide +kernel) (by decide), TB_at 517 (by rfl) (by decide)⟩
set_option maxRecDepth 20000 in
theorem lc_mX7_guest : q_C mX7_guest := ⟨TB_at 49 (by decide +kernel) (by decide), TB_at 521 (by rfl) (by decide)⟩
set_option maxRecDepth 20000 in
theorem lc_mX6_hasGuest : q_C mX6_hasGuest := ⟨TB_at 50 (by decide +kernel) (by decide), TB_at 525 (by rfl) (by decide)⟩
set_option maxRecDepth 20000 in
theorem lc_mX7_as : q_C mX7_as := ⟨TB_at 49 (by decide +kernel) (by decide), TB_at 529 (by rfl) (by decide)⟩
set_option maxRecDepth 20000 in
theorem lc_mX6_isA : q_C mX6_isA := ⟨TB_at 50 (by decide +kernel) (by decide), TB_at 533 (by rfl) (by decide)⟩
set_option maxRecDepth 20000 in
theorem lc_mX6_nearestChair : q_C mX6_nearestChair := ⟨TB_at 50 (by decide +kernel) (by decide), TB_at 537 (by rfl) (by decide)⟩
set_option maxRecDepth 20000 in
theorem lc_mX6_farthest : q_C mX6_farthest := ⟨TB_at 50 (by decide +kernel) (by decide), TB_at 541 (by rfl) (by decide)⟩
set_option maxRecDepth 20000 in
theorem lc_mX6_leastAt : q_C mX6_leastAt := ⟨TB_at 50 (by decide +kernel) (by decide), TB_at 545 (by rfl) (by decide)⟩
set_option maxRecDepth 20000 in
theorem lc_mX6_ease : q_C mX6_ease := ⟨TB_at 50 (by decide +kernel) (by decide), TB_at 549 (by rfl) (by decide)⟩
set_option maxRecDepth 20000 in
theorem lc_mX7_walk : q_C mX7_walk := ⟨TB_at 49 (by decide +kernel) (by decide), TB_at 553 (by rfl) (by decide)⟩
set_option maxRecDepth 20000 in
theorem lc_mX0_goOn : q_C mX0_goOn := ⟨TB_at 55 (by decide +kernel) (by decide), TB_at 557 (by rfl) (by decide)⟩
set_option maxRecDepth 20000 in
theorem lc_mX6_placeAfter : q_C mX6_placeAfter := ⟨TB_at 50 (by decide +kernel) (by decide), TB_at 561 (by rfl) (by decide)⟩
set_option maxRecDepth 20000 in
theorem lc_mJ9_floorMod_7cf53 : q_C mJ9_floorMod_7cf53 := ⟨TB_at 64 (by decide +kernel) (by decide), TB_at 564 (by rfl) (by decide)⟩
set_option maxRecDepth 20000 in
theorem lc_mX7_stop : q_C mX7_stop := ⟨TB_at 49 (by decide +kernel) (by decide), TB_at 568 (by rfl) (by decide)⟩
set_option maxRecDepth 20000 in
theorem lc_mX6_everyone : q_C mX6_everyone := ⟨TB_at 50 (by decide +kernel) (by decide), TB_at 573 (by rfl) (by decide)⟩
set_option maxRecDepth 20000 in
theorem lc_mX3_settle : q_C mX3_settle := ⟨TB_at 52 (by decide +kernel) (by decide), TB_at 577 (by rfl) (by decide)⟩
set_option maxRecDepth 20000 in
theorem lc_mX6_allOfKind : q_C mX6_allOfKind := ⟨TB_at 50 (by decide +kernel) (by decide), TB_at 582 (by rfl) (by decide)⟩
set_option maxRecDepth 20000 in
theorem lc_mX3_seatAll : q_C mX3_seatAll := ⟨TB_at 52 (by decide +kernel) (by decide), TB_at 586 (by rfl) (by decide)⟩
set_option maxRecDepth 20000 in
theorem lc_mX3_seatOne : q_C mX3_seatOne := ⟨TB_at 52 (by decide +kernel) (by decide), TB_at 594 (by rfl) (by decide)⟩
set_option maxRecDepth 20000 in
theorem lc_mX3_take : q_C mX3_take := ⟨TB_at 52 (by decide +kernel) (by decide), TB_at 598 (by rfl) (by decide)⟩
set_option maxRecDepth 20000 in
theorem lc_mX3_settleFaint : q_C mX3_settleFaint := ⟨TB_at 52 (by decide +kernel) (by decide), TB_at 602 (by rfl) (by decide)⟩
set_option maxRecDepth 20000 in
theorem lc_mX0_end : q_C mX0_end := ⟨TB_at 55 (by decide +kernel) (by decide), TB_at 606 (by rfl) (by decide)⟩
set_option maxRecDepth 20000 in
theorem lc_mJ6_bitCount_0f7a4 : q_C mJ6_bitCount_0f7a4 := ⟨TB_at 65 (by decide +kernel) (by decide), TB_at 609 (by rfl) (by decide)⟩
set_option maxRecDepth 20000 in
theorem lc_mX6_allWorth : q_C mX6_allWorth := ⟨TB_at 50 (by decide +kernel) (by decide), TB_at 616 (by rfl) (by decide)⟩
set_option maxRecDepth 20000 in
theorem lc_mX7_play : q_C mX7_play := ⟨TB_at 49 (by decide +kernel) (by decide), TB_at 621 (by rfl) (by decide)⟩
set_option maxRecDepth 20000 in
theorem lc_mX7_keep : q_C mX7_keep := ⟨TB_at 49 (by decide +kernel) (by decide), TB_at 626 (by rfl) (by decide)⟩
set_option maxRecDepth 20000 in
theorem lc_mX7_isEither : q_C mX7_isEither := ⟨TB_at 49 (by decide +kernel) (by decide), TB_at 629 (by rfl) (by decide)⟩
set_option maxRecDepth 20000 in
theorem lc_mX0_copyFrom : q_C mX0_copyFrom := ⟨TB_at 55 (by decide +kernel) (by decide), TB_at 633 (by rfl) (by decide)⟩
set_option maxRecDepth 20000 in
theorem lc_mX7_back : q_C mX7_back := ⟨TB_at 49 (by decide +kernel) (by decide), TB_at 637 (by rfl) (by decide)⟩
set_option maxRecDepth 20000 in
theorem lc_mX7_standing : q_C mX7_standing := ⟨TB_at 49 (by decide +kernel) (by decide), TB_at 641 (by rfl) (by decide)⟩
set_option maxRecDepth 20000 in
theorem lc_mX7_isMinute : q_C mX7_isMinute := ⟨TB_at 49 (by decide +kernel) (by decide), TB_at 644 (by rfl) (by decide)⟩
set_option maxRecDepth 20000 in
theorem lc_mX2_asTold : q_C mX2_asTold := ⟨TB_at 53 (by decide +kernel) (by decide), TB_at 648 (by rfl) (by decide)⟩
set_option maxRecDepth 20000 in
theorem lc_mX2_stoodAt : q_C mX2_stoodAt := ⟨TB_at 53 (by decide +kernel) (by decide), TB_at 654 (by rfl) (by decide)⟩
set_option maxRecDepth 20000 in
theorem lc_mX2_goTo : q_C mX2_goTo := ⟨TB_at 53 (by decide +kernel) (by decide), TB_at 658 (by rfl) (by decide)⟩
set_option maxRecDepth 20000 in
theorem lc_mX7_odds : q_C mX7_odds := ⟨TB_at 49 (by decide +kernel) (by decide), TB_at 664 (by rfl) (by decide)⟩
set_option maxRecDepth 20000 in
theorem lc_mX7_areMinutes : q_C mX7_areMinutes := ⟨TB_at 49 (by decide +kernel) (by decide), TB_at 667 (by rfl) (by decide)⟩
set_option maxRecDepth 20000 in
theorem lc_mX2_tally : q_C mX2_tally := ⟨TB_at 53 (by decide +kernel) (by decide), TB_at 671 (by rfl) (by decide)⟩
set_option maxRecDepth 20000 in
theorem lc_mX2_minutesLike : q_C mX2_minutesLike := ⟨TB_at 53 (by decide +kernel) (by decide), TB_at 676 (by rfl) (by decide)⟩
set_option maxRecDepth 20000 in
theorem lc_mX2_minutesLikeTo : q_C mX2_minutesLikeTo := ⟨TB_at 53 (by decide +kernel) (by decide), TB_at 680 (by rfl) (by decide)⟩
set_option maxRecDepth 20000 in
theorem lc_mX2_addTimes : q_C mX2_addTimes := ⟨TB_at 53 (by decide +kernel) (by decide), TB_at 684 (by rfl) (by decide)⟩
set_option maxRecDepth 20000 in
theorem lc_mX7_commonDivisor : q_C mX7_commonDivisor := ⟨TB_at 49 (by decide +kernel) (by decide), TB_at 688 (by rfl) (by decide)⟩
set_option maxRecDepth 20000 in
theorem lc_mX7_surest : q_C mX7_surest := ⟨TB_at 49 (by decide +kernel) (by decide), TB_at 692 (by rfl) (by decide)⟩
set_option maxRecDepth 20000 in
theorem lc_mX1_findSurest : q_C mX1_findSurest := ⟨TB_at 54 (by decide +kernel) (by decide), TB_at 696 (by rfl) (by decide)⟩
set_option maxRecDepth 20000 in
theorem lc_mX7_still : q_C mX7_still := ⟨TB_at 49 (by decide +kernel) (by decide), TB_at 702 (by rfl) (by decide)⟩
set_option maxRecDepth 20000 in
theorem lc_mX1_findStill : q_C mX1_findStill := ⟨TB_at 54 (by decide +kernel) (by decide), TB_at 706 (by rfl) (by decide)⟩
set_option maxRecDepth 20000 in
theorem lc_mX1_nobodyWouldChange : q_C mX1_nobodyWouldChange := ⟨TB_at 54 (by decide +kernel) (by decide), TB_at 712 (by rfl) (by decide)⟩
set_option maxRecDepth 20000 in
theorem lc_mX7_plot : q_C mX7_plot := ⟨TB_at 49 (by decide +kernel) (by decide), TB_at 716 (by rfl) (by decide)⟩
set_option maxRecDepth 20000 in
theorem lc_mX6_hasAll : q_C mX6_hasAll := ⟨TB_at 50 (by decide +kernel) (by decide), TB_at 720 (by rfl) (by decide)⟩
set_option maxRecDepth 20000 in
theorem lc_mX1_findPlot : q_C mX1_findPlot := ⟨TB_at 54 (by decide +kernel) (by decide), TB_at 726 (by rfl) (by decide)⟩
set_option maxRecDepth 20000 in
theorem lc_mX1_keepStill : q_C mX1_keepStill := ⟨TB_at 54 (by decide +kernel) (by decide), TB_at 731 (by rfl) (by decide)⟩
set_option maxRecDepth 20000 in
theorem lc_mX7_price : q_C mX7_price := ⟨TB_at 49 (by decide +kernel) (by decide), TB_at 737 (by rfl) (by decide)⟩
set_option maxRecDepth 20000 in
theorem lc_mX6_greatestWorth : q_C mX6_greatestWorth := ⟨TB_at 50 (by decide +kernel) (by decide), TB_at 741 (by rfl) (by decide)⟩
set_option maxRecDepth 20000 in
theorem lc_mJ9_max_7cf53 : q_C mJ9_max_7cf53 := ⟨TB_at 64 (by decide +kernel) (by decide), TB_at 744 (by rfl) (by decide)⟩
set_option maxRecDepth 20000 in
theorem lc_mX7_laid : q_C mX7_laid := ⟨TB_at 49 (by decide +kernel) (by decide), TB_at 748 (by rfl) (by decide)⟩
set_option maxRecDepth 20000 in
theorem lc_mX1_findLaid : q_C mX1_findLaid := ⟨TB_at 54 (by decide +kernel) (by decide), TB_at 752 (by rfl) (by decide)⟩
set_option maxRecDepth 20000 in
theorem lc_mX2_spread : q_C mX2_spread := ⟨TB_at 53 (by decide +kernel) (by decide), TB_at 756 (by rfl) (by decide)⟩
set_option maxRecDepth 20000 in
theorem lc_mJ9_min_7cf53 : q_C mJ9_min_7cf53 := ⟨TB_at 64 (by decide +kernel) (by decide), TB_at 760 (by rfl) (by decide)⟩
set_option maxRecDepth 20000 in
theorem lc_mX7_left : q_C mX7_left := ⟨TB_at 49 (by decide +kernel) (by decide), TB_at 764 (by rfl) (by decide)⟩
set_option maxRecDepth 20000 in
theorem lc_mX2_playRounds : q_C mX2_playRounds := ⟨TB_at 53 (by decide +kernel) (by decide), TB_at 768 (by rfl) (by decide)⟩
set_option maxRecDepth 20000 in
theorem lc_mX7_seen : q_C mX7_seen := ⟨TB_at 49 (by decide +kernel) (by decide), TB_at 775 (by rfl) (by decide)⟩
set_option maxRecDepth 20000 in
theorem lc_mX4_add : q_C mX4_add := ⟨TB_at 57 (by decide +kernel) (by decide), TB_at 779 (by rfl) (by decide)⟩
set_option maxRecDepth 20000 in
theorem lc_mX7_forget : q_C mX7_forget := ⟨TB_at 49 (by decide +kernel) (by decide), TB_at 783 (by rfl) (by decide)⟩
set_option maxRecDepth 20000 in
theorem lc_mX7_fits : q_C mX7_fits := ⟨TB_at 49 (by decide +kernel) (by decide), TB_at 787 (by rfl) (by decide)⟩
set_option maxRecDepth 20000 in
theorem lc_mX1_findFits : q_C mX1_findFits := ⟨TB_at 54 (by decide +kernel) (by decide), TB_at 791 (by rfl) (by decide)⟩
set_option maxRecDepth 20000 in
theorem lc_mX4_fit : q_C mX4_fit := ⟨TB_at 57 (by decide +kernel) (by decide), TB_at 795 (by rfl) (by decide)⟩
set_option maxRecDepth 20000 in
theorem lc_mX7_count : q_C mX7_count := ⟨TB_at 49 (by decide +kernel) (by decide), TB_at 800 (by rfl) (by decide)⟩
set_option maxRecDepth 20000 in
theorem lc_mX8_init : q_C mX8_init := ⟨TB_at 58 (by decide +kernel) (by decide), TB_at 805 (by rfl) (by decide)⟩
set_option maxRecDepth 20000 in
theorem lc_mX8_begin : q_C mX8_begin := ⟨TB_at 58 (by decide +kernel) (by decide), TB_at 810 (by rfl) (by decide)⟩
set_option maxRecDepth 20000 in
theorem lc_mX8_in : q_C mX8_in := ⟨TB_at 58 (by decide +kernel) (by decide), TB_at 815 (by rfl) (by decide)⟩
set_option maxRecDepth 20000 in
theorem lc_mX8_write : q_C mX8_write := ⟨TB_at 58 (by decide +kernel) (by decide), TB_at 914 (by rfl) (by decide)⟩
set_option maxRecDepth 20000 in
theorem lc_mX8_erase : q_C mX8_erase := ⟨TB_at 58 (by decide +kernel) (by decide), TB_at 920 (by rfl) (by decide)⟩
set_option maxRecDepth 20000 in
theorem lc_mX8_fault : q_C mX8_fault := ⟨TB_at 58 (by decide +kernel) (by decide), TB_at 924 (by rfl) (by decide)⟩
set_option maxRecDepth 20000 in
theorem lc_mX8_token : q_C mX8_token := ⟨TB_at 58 (by decide +kernel) (by decide), TB_at 928 (by rfl) (by decide)⟩
set_option maxRecDepth 20000 in
theorem lc_mX8_sort : q_C mX8_sort := ⟨TB_at 58 (by decide +kernel) (by decide), TB_at 931 (by rfl) (by decide)⟩
set_option maxRecDepth 20000 in
theorem lc_mX8_readsLine : q_C mX8_readsLine := ⟨TB_at 58 (by decide +kernel) (by decide), TB_at 935 (by rfl) (by decide)⟩
set_option maxRecDepth 20000 in
theorem lc_mX8_wordOf : q_C mX8_wordOf := ⟨TB_at 58 (by decide +kernel) (by decide), TB_at 939 (by rfl) (by decide)⟩
set_option maxRecDepth 20000 in
theorem lc_mX8_guestWord : q_C mX8_guestWord := ⟨TB_at 58 (by decide +kernel) (by decide), TB_at 943 (by rfl) (by decide)⟩
set_option maxRecDepth 20000 in
theorem lc_mX8_isWord : q_C mX8_isWord := ⟨TB_at 58 (by decide +kernel) (by decide), TB_at 948 (by rfl) (by decide)⟩
set_option maxRecDepth 20000 in
theorem lc_mX8_isGuestWord : q_C mX8_isGuestWord := ⟨TB_at 58 (by decide +kernel) (by decide), TB_at 956 (by rfl) (by decide)⟩
set_option maxRecDepth 20000 in
theorem lc_mX8_readsRest : q_C mX8_readsRest := ⟨TB_at 58 (by decide +kernel) (by decide), TB_at 962 (by rfl) (by decide)⟩
set_option maxRecDepth 20000 in
theorem lc_mX8_numberHere : q_C mX8_numberHere := ⟨TB_at 58 (by decide +kernel) (by decide), TB_at 966 (by rfl) (by decide)⟩
set_option maxRecDepth 20000 in
theorem lc_mX8_reads : q_C mX8_reads := ⟨TB_at 58 (by decide +kernel) (by decide), TB_at 970 (by rfl) (by decide)⟩
set_option maxRecDepth 20000 in
theorem lc_mX8_has : q_C mX8_has := ⟨TB_at 58 (by decide +kernel) (by decide), TB_at 973 (by rfl) (by decide)⟩
set_option maxRecDepth 20000 in
theorem lc_mX8_readsGuest : q_C mX8_readsGuest := ⟨TB_at 58 (by decide +kernel) (by decide), TB_at 977 (by rfl) (by decide)⟩
set_option maxRecDepth 20000 in
theorem lc_mX8_inn : q_C mX8_inn := ⟨TB_at 58 (by decide +kernel) (by decide), TB_at 981 (by rfl) (by decide)⟩
set_option maxRecDepth 20000 in
theorem lc_mX8_tell : q_C mX8_tell := ⟨TB_at 58 (by decide +kernel) (by decide), TB_at 986 (by rfl) (by decide)⟩
set_option maxRecDepth 20000 in
theorem lc_mX8_place : q_C mX8_place := ⟨TB_at 58 (by decide +kernel) (by decide), TB_at 990 (by rfl) (by decide)⟩
set_option maxRecDepth 20000 in
theorem lc_mX8_isPlace : q_C mX8_isPlace := ⟨TB_at 58 (by decide +kernel) (by decide), TB_at 994 (by rfl) (by decide)⟩
set_option maxRecDepth 20000 in
theorem lc_mX8_guest : q_C mX8_guest := ⟨TB_at 58 (by decide +kernel) (by decide), TB_at 998 (by rfl) (by decide)⟩
set_option maxRecDepth 20000 in
theorem lc_mX8_isGuest : q_C mX8_isGuest := ⟨TB_at 58 (by decide +kernel) (by decide), TB_at 1002 (by rfl) (by decide)⟩
set_option maxRecDepth 20000 in
theorem lc_mX8_as : q_C mX8_as := ⟨TB_at 58 (by decide +kernel) (by decide), TB_at 1006 (by rfl) (by decide)⟩
set_option maxRecDepth 20000 in
theorem lc_mX8_effort : q_C mX8_effort := ⟨TB_at 58 (by decide +kernel) (by decide), TB_at 1011 (by rfl) (by decide)⟩
set_option maxRecDepth 20000 in
theorem lc_mX8_far : q_C mX8_far := ⟨TB_at 58 (by decide +kernel) (by decide), TB_at 1015 (by rfl) (by decide)⟩
set_option maxRecDepth 20000 in
theorem lc_mX8_walk : q_C mX8_walk := ⟨TB_at 58 (by decide +kernel) (by decide), TB_at 1019 (by rfl) (by decide)⟩
set_option maxRecDepth 20000 in
theorem lc_mX8_walked : q_C mX8_walked := ⟨TB_at 58 (by decide +kernel) (by decide), TB_at 1024 (by rfl) (by decide)⟩
set_option maxRecDepth 20000 in
theorem lc_mX8_stop : q_C mX8_stop := ⟨TB_at 58 (by decide +kernel) (by decide), TB_at 1028 (by rfl) (by decide)⟩
set_option maxRecDepth 20000 in
theorem lc_mX8_everybody : q_C mX8_everybody := ⟨TB_at 58 (by decide +kernel) (by decide), TB_at 1032 (by rfl) (by decide)⟩
set_option maxRecDepth 20000 in
theorem lc_mX8_stops : q_C mX8_stops := ⟨TB_at 58 (by decide +kernel) (by decide), TB_at 1036 (by rfl) (by decide)⟩
set_option maxRecDepth 20000 in
theorem lc_mX8_faint : q_C mX8_faint := ⟨TB_at 58 (by decide +kernel) (by decide), TB_at 1040 (by rfl) (by decide)⟩
set_option maxRecDepth 20000 in
theorem lc_mX8_seat : q_C mX8_seat := ⟨TB_at 58 (by decide +kernel) (by decide), TB_at 1044 (by rfl) (by decide)⟩
set_option maxRecDepth 20000 in
theorem lc_mX8_findsTwo : q_C mX8_findsTwo := ⟨TB_at 58 (by decide +kernel) (by decide), TB_at 1048 (by rfl) (by decide)⟩
set_option maxRecDepth 20000 in
theorem lc_mX8_takeSecond : q_C mX8_takeSecond := ⟨TB_at 58 (by decide +kernel) (by decide), TB_at 1052 (by rfl) (by decide)⟩
set_option maxRecDepth 20000 in
theorem lc_mX8_bits : q_C mX8_bits := ⟨TB_at 58 (by decide +kernel) (by decide), TB_at 1055 (by rfl) (by decide)⟩
set_option maxRecDepth 20000 in
theorem lc_mX8_play : q_C mX8_play := ⟨TB_at 58 (by decide +kernel) (by decide), TB_at 1059 (by rfl) (by decide)⟩
set_option maxRecDepth 20000 in
theorem lc_mX8_keep : q_C mX8_keep := ⟨TB_at 58 (by decide +kernel) (by decide), TB_at 1063 (by rfl) (by decide)⟩
set_option maxRecDepth 20000 in
theorem lc_mX8_copy : q_C mX8_copy := ⟨TB_at 58 (by decide +kernel) (by decide), TB_at 1067 (by rfl) (by decide)⟩
set_option maxRecDepth 20000 in
theorem lc_mX8_back : q_C mX8_back := ⟨TB_at 58 (by decide +kernel) (by decide), TB_at 1071 (by rfl) (by decide)⟩
set_option maxRecDepth 20000 in
theorem lc_mX8_standing : q_C mX8_standing := ⟨TB_at 58 (by decide +kernel) (by decide), TB_at 1075 (by rfl) (by decide)⟩
set_option maxRecDepth 20000 in
theorem lc_mX8_isTime : q_C mX8_isTime := ⟨TB_at 58 (by decide +kernel) (by decide), TB_at 1078 (by rfl) (by decide)⟩
set_option maxRecDepth 20000 in
theorem lc_mX8_standingAt : q_C mX8_standingAt := ⟨TB_at 58 (by decide +kernel) (by decide), TB_at 1082 (by rfl) (by decide)⟩
set_option maxRecDepth 20000 in
theorem lc_mX8_layAts : q_C mX8_layAts := ⟨TB_at 58 (by decide +kernel) (by decide), TB_at 1086 (by rfl) (by decide)⟩
set_option maxRecDepth 20000 in
theorem lc_mX8_odds : q_C mX8_odds := ⟨TB_at 58 (by decide +kernel) (by decide), TB_at 1090 (by rfl) (by decide)⟩
set_option maxRecDepth 20000 in
theorem lc_mX8_isSpan : q_C mX8_isSpan := ⟨TB_at 58 (by decide +kernel) (by decide), TB_at 1093 (by rfl) (by decide)⟩
set_option maxRecDepth 20000 in
theorem lc_mX8_minutesOf : q_C mX8_minutesOf := ⟨TB_at 58 (by decide +kernel) (by decide), TB_at 1097 (by rfl) (by decide)⟩
set_option maxRecDepth 20000 in
theorem lc_mX8_surest : q_C mX8_surest := ⟨TB_at 58 (by decide +kernel) (by decide), TB_at 1101 (by rfl) (by decide)⟩
set_option maxRecDepth 20000 in
theorem lc_mX8_still : q_C mX8_still := ⟨TB_at 58 (by decide +kernel) (by decide), TB_at 1106 (by rfl) (by decide)⟩
set_option maxRecDepth 20000 in
theorem lc_mX8_savePaces : q_C mX8_savePaces := ⟨TB_at 58 (by decide +kernel) (by decide), TB_at 1110 (by rfl) (by decide)⟩
set_option maxRecDepth 20000 in
theorem lc_mX8_layStands : q_C mX8_layStands := ⟨TB_at 58 (by decide +kernel) (by decide), TB_at 1114 (by rfl) (by decide)⟩
set_option maxRecDepth 20000 in
theorem lc_mX8_restorePaces : q_C mX8_restorePaces := ⟨TB_at 58 (by decide +kernel) (by decide), TB_at 1118 (by rfl) (by decide)⟩
set_option maxRecDepth 20000 in
theorem lc_mX8_isStill : q_C mX8_isStill := ⟨TB_at 58 (by decide +kernel) (by decide), TB_at 1122 (by rfl) (by decide)⟩
set_option maxRecDepth 20000 in
theorem lc_mX8_plot : q_C mX8_plot := ⟨TB_at 58 (by decide +kernel) (by decide), TB_at 1126 (by rfl) (by decide)⟩
set_option maxRecDepth 20000 in
theorem lc_mX8_price : q_C mX8_price := ⟨TB_at 58 (by decide +kernel) (by decide), TB_at 1130 (by rfl) (by decide)⟩
set_option maxRecDepth 20000 in
theorem lc_mX8_laid : q_C mX8_laid := ⟨TB_at 58 (by decide +kernel) (by decide), TB_at 1134 (by rfl) (by decide)⟩
set_option maxRecDepth 20000 in
theorem lc_mX8_apart : q_C mX8_apart := ⟨TB_at 58 (by decide +kernel) (by decide), TB_at 1138 (by rfl) (by decide)⟩
set_option maxRecDepth 20000 in
theorem lc_mX8_left : q_C mX8_left := ⟨TB_at 58 (by decide +kernel) (by decide), TB_at 1142 (by rfl) (by decide)⟩
set_option maxRecDepth 20000 in
theorem lc_mX8_leastOf : q_C mX8_leastOf := ⟨TB_at 58 (by decide +kernel) (by decide), TB_at 1145 (by rfl) (by decide)⟩
set_option maxRecDepth 20000 in
theorem lc_mX8_seen : q_C mX8_seen := ⟨TB_at 58 (by decide +kernel) (by decide), TB_at 1149 (by rfl) (by decide)⟩
set_option maxRecDepth 20000 in
theorem lc_mX8_forget : q_C mX8_forget := ⟨TB_at 58 (by decide +kernel) (by decide), TB_at 1153 (by rfl) (by decide)⟩
set_option maxRecDepth 20000 in
theorem lc_mX8_fits : q_C mX8_fits := ⟨TB_at 58 (by decide +kernel) (by decide), TB_at 1157 (by rfl) (by decide)⟩
set_option maxRecDepth 20000 in
theorem lc_mX8_count : q_C mX8_count := ⟨TB_at 58 (by decide +kernel) (by decide), TB_at 1161 (by rfl) (by decide)⟩
theorem lqL_7 : Cond.classLink RL 7 RX7 ∈ TB := TB_at 66 (by decide +kernel) (by decide)
set_option maxRecDepth 20000 in
theorem lmL_9 : q_I RL 9 mX7_init 0 := ⟨TB_at 68 (by decide +kernel) (by decide), ⟨TB_at 69 (by decide +kernel) (by decide), rfl⟩, lc_mX7_init, ⟨by decide +kernel, by decide +kernel, by decide +kernel⟩⟩
theorem lqX7_7 : Cond.classLink RX7 7 RX6 ∈ TB := TB_at 74 (by decide +kernel) (by decide)
set_option maxRecDepth 20000 in
theorem lmX7_9 : q_IN RX7 9 mX6_init 0 := ⟨⟨_, List.mem_of_getElem? (i := 76) (by rfl)⟩, ⟨TB_at 77 (by decide +kernel) (by decide), rfl⟩, lc_mX6_init, ⟨by decide +kernel, by decide +kernel, by decide +kernel⟩⟩
theorem lfX6_9 : q_F RX6 9 6 0 := ⟨RX6, TX6, 8, rfl, by decide, TB_at 80 (by decide +kernel) (by decide)⟩
theorem lfX2_80 : q_F RX2 80 6 0 := ⟨RX6, TX6, 8, rfl, by decide, TB_at 81 (by decide +kernel) (by decide)⟩
theorem lfX1_90 : q_F RX1 90 6 0 := ⟨RX6, TX6, 8, rfl, by decide, TB_at 82 (by decide +kernel) (by decide)⟩
theorem lfX5_112 : q_F RX5 112 6 0 := ⟨RX6, TX6, 8, rfl, by decide, TB_at 83 (by decide +kernel) (by decide)⟩
theorem lfX7_255 : q_F RX7 255 6 0 := ⟨RX6, TX6, 8, rfl, by decide, TB_at 84 (by decide +kernel) (by decide)⟩
theorem lfX6_31 : q_F RX6 31 6 1 := ⟨RX6, TX6, 8, rfl, by decide, TB_at 85 (by decide +kernel) (by decide)⟩
theorem lfX2_47 : q_F RX2 47 6 1 := ⟨RX6, TX6, 8, rfl, by decide, TB_at 86 (by decide +kernel) (by decide)⟩
theorem lfX7_177 : q_F RX7 177 6 1 := ⟨RX6, TX6, 8, rfl, by decide, TB_at 87 (by decide +kernel) (by decide)⟩
theorem lfX5_118 : q_F RX5 118 6 1 := ⟨RX6, TX6, 8, rfl, by decide, TB_at 88 (by decide +kernel) (by decide)⟩
theorem lfX6_34 : q_F RX6 34 6 2 := ⟨RX6, TX6, 8, rfl, by decide, TB_at 89 (by decide +kernel) (by decide)⟩
theorem lfX1_57 : q_F RX1 57 6 2 := ⟨RX6, TX6, 8, rfl, by decide, TB_at 90 (by decide +kernel) (by decide)⟩
theorem lfX2_61 : q_F RX2 61 6 2 := ⟨RX6, TX6, 8, rfl, by decide, TB_at 91 (by decide +kernel) (by decide)⟩
theorem lfX3_52 : q_F RX3 52 6 2 := ⟨RX6, TX6, 8, rfl, by decide, TB_at 92 (by decide +kernel) (by decide)⟩
theorem lfX0_55 : q_F RX0 55 6 2 := ⟨RX6, TX6, 8, rfl, by decide, TB_at 93 (by decide +kernel) (by decide)⟩
theorem lfX7_114 : q_F RX7 114 6 2 := ⟨RX6, TX6, 8, rfl, by decide, TB_at 94 (by decide +kernel) (by decide)⟩
theorem lfX5_84 : q_F RX5 84 6 2 := ⟨RX6, TX6, 8, rfl, by decide, TB_at 95 (by decide +kernel) (by decide)⟩
theorem lfX6_15 : q_F RX6 15 6 3 := ⟨RX6, TX6, 8, rfl, by decide, TB_at 96 (by decide +kernel) (by decide)⟩
theorem lfX3_73 : q_F RX3 73 6 3 := ⟨RX6, TX6, 8, rfl, by decide, TB_at 97 (by decide +kernel) (by decide)⟩
theorem lfX7_124 : q_F RX7 124 6 3 := ⟨RX6, TX6, 8, rfl, by decide, TB_at 98 (by decide +kernel) (by decide)⟩
theorem lfX6_19 : q_F RX6 19 6 4 := ⟨RX6, TX6, 8, rfl, by decide, TB_at 99 (by decide +kernel) (by decide)⟩
theorem lfX0_38 : q_F RX0 38 6 4 := ⟨RX6, TX6, 8, rfl, by decide, TB_at 100 (by decide +kernel) (by decide)⟩
theorem lfX2_67 : q_F RX2 67 6 4 := ⟨RX6, TX6, 8, rfl, by decide, TB_at 101 (by decide +kernel) (by decide)⟩
theorem lfX6_22 : q_F RX6 22 6 5 := ⟨RX6, TX6, 8, rfl, by decide, TB_at 102 (by decide +kernel) (by decide)⟩
theorem lfX2_29 : q_F RX2 29 6 5 := ⟨RX6, TX6, 8, rfl, by decide, TB_at 103 (by decide +kernel) (by decide)⟩
theorem lfX0_58 : q_F RX0 58 6 5 := ⟨RX6, TX6, 8, rfl, by decide, TB_at 104 (by decide +kernel) (by decide)⟩
theorem lfX7_130 : q_F RX7 130 6 5 := ⟨RX6, TX6, 8, rfl, by decide, TB_at 105 (by decide +kernel) (by decide)⟩
theorem lfX6_25 : q_F RX6 25 6 6 := ⟨RX6, TX6, 8, rfl, by decide, TB_at 106 (by decide +kernel) (by decide)⟩
theorem lfX2_38 : q_F RX2 38 6 6 := ⟨RX6, TX6, 8, rfl, by decide, TB_at 107 (by decide +kernel) (by decide)⟩
theorem lfX0_61 : q_F RX0 61 6 6 := ⟨RX6, TX6, 8, rfl, by decide, TB_at 108 (by decide +kernel) (by decide)⟩
theorem lfX7_133 : q_F RX7 133 6 6 := ⟨RX6, TX6, 8, rfl, by decide, TB_at 109 (by decide +kernel) (by decide)⟩
theorem lfX6_28 : q_F RX6 28 6 7 := ⟨RX6, TX6, 8, rfl, by decide, TB_at 110 (by decide +kernel) (by decide)⟩
theorem lfX7_136 : q_F RX7 136 6 7 := ⟨RX6, TX6, 8, rfl, by decide, TB_at 111 (by decide +kernel) (by decide)⟩
theorem lqX7_16 : Cond.classLink RX7 16 RX5 ∈ TB := TB_at 130 (by decide +kernel) (by decide)
set_option maxRecDepth 20000 in
theorem lmX7_18 : q_IN RX7 18 mX5_init 0 := ⟨⟨_, List.mem_of_getElem? (i := 132) (by rfl)⟩, ⟨TB_at 133 (by decide +kernel) (by decide), rfl⟩, lc_mX5_init, ⟨by decide +kernel, by decide +kernel, by decide +kernel⟩⟩
theorem lqX5_15 : Cond.classLink RX5 15 RX6 ∈ TB := TB_at 136 (by decide +kernel) (by decide)
set_option maxRecDepth 20000 in
theorem lmX5_17 : q_IN RX5 17 mX6_init 0 := ⟨⟨_, List.mem_of_getElem? (i := 137) (by rfl)⟩, ⟨TB_at 77 (by decide +kernel) (by decide), rfl⟩, lc_mX6_init, ⟨by decide +kernel, by decide +kernel, by decide +kernel⟩⟩
theorem lfX5_9 : q_F RX5 9 5 0 := ⟨RX5, TX5, 8, rfl, by decide, TB_at 138 (by decide +kernel) (by decide)⟩
theorem lfX5_25 : q_F RX5 25 5 1 := ⟨RX5, TX5, 8, rfl, by decide, TB_at 139 (by decide +kernel) (by decide)⟩
theorem lfX7_70 : q_F RX7 70 5 1 := ⟨RX5, TX5, 8, rfl, by decide, TB_at 140 (by decide +kernel) (by decide)⟩
theorem lfX5_18 : q_F RX5 18 5 2 := ⟨RX5, TX5, 8, rfl, by decide, TB_at 141 (by decide +kernel) (by decide)⟩
theorem lfX7_84 : q_F RX7 84 5 2 := ⟨RX5, TX5, 8, rfl, by decide, TB_at 142 (by decide +kernel) (by decide)⟩
theorem lfX5_36 : q_F RX5 36 5 3 := ⟨RX5, TX5, 8, rfl, by decide, TB_at 143 (by decide +kernel) (by decide)⟩
theorem lfX7_100 : q_F RX7 100 5 3 := ⟨RX5, TX5, 8, rfl, by decide, TB_at 144 (by decide +kernel) (by decide)⟩
theorem lfX5_43 : q_F RX5 43 5 4 := ⟨RX5, TX5, 8, rfl, by decide, TB_at 145 (by decide +kernel) (by decide)⟩
theorem lfX5_33 : q_F RX5 33 5 5 := ⟨RX5, TX5, 8, rfl, by decide, TB_at 146 (by decide +kernel) (by decide)⟩
theorem lfX5_105 : q_F RX5 105 5 6 := ⟨RX5, TX5, 8, rfl, by decide, TB_at 147 (by decide +kernel) (by decide)⟩
theorem lfX5_22 : q_F RX5 22 5 7 := ⟨RX5, TX5, 8, rfl, by decide, TB_at 148 (by decide +kernel) (by decide)⟩
theorem lqX7_23 : Cond.classLink RX7 23 RX3 ∈ TB := TB_at 166 (by decide +kernel) (by decide)
set_option maxRecDepth 20000 in
theorem lmX7_25 : q_I RX7 25 mX3_init 1 := ⟨TB_at 168 (by decide +kernel) (by decide), ⟨TB_at 169 (by decide +kernel) (by decide), rfl⟩, lc_mX3_init, ⟨by decide +kernel, by decide +kernel, by decide +kernel⟩⟩
theorem lfX3_21 : q_F RX3 21 3 0 := ⟨RX3, TX3, 6, rfl, by decide, TB_at 172 (by decide +kernel) (by decide)⟩
theorem lfX3_9 : q_F RX3 9 3 1 := ⟨RX3, TX3, 6, rfl, by decide, TB_at 173 (by decide +kernel) (by decide)⟩
theorem lfX2_64 : q_F RX2 64 3 1 := ⟨RX3, TX3, 6, rfl, by decide, TB_at 174 (by decide +kernel) (by decide)⟩
theorem lfX7_166 : q_F RX7 166 3 1 := ⟨RX3, TX3, 6, rfl, by decide, TB_at 175 (by decide +kernel) (by decide)⟩
theorem lfX3_15 : q_F RX3 15 3 2 := ⟨RX3, TX3, 6, rfl, by decide, TB_at 176 (by decide +kernel) (by decide)⟩
theorem lfX0_68 : q_F RX0 68 3 2 := ⟨RX3, TX3, 6, rfl, by decide, TB_at 177 (by decide +kernel) (by decide)⟩
theorem lfX3_18 : q_F RX3 18 3 3 := ⟨RX3, TX3, 6, rfl, by decide, TB_at 178 (by decide +kernel) (by decide)⟩
theorem lfX0_71 : q_F RX0 71 3 3 := ⟨RX3, TX3, 6, rfl, by decide, TB_at 179 (by decide +kernel) (by decide)⟩
theorem lfX3_31 : q_F RX3 31 3 4 := ⟨RX3, TX3, 6, rfl, by decide, TB_at 180 (by decide +kernel) (by decide)⟩
theorem lfX7_249 : q_F RX7 249 3 4 := ⟨RX3, TX3, 6, rfl, by decide, TB_at 181 (by decide +kernel) (by decide)⟩
theorem lfX3_35 : q_F RX3 35 3 5 := ⟨RX3, TX3, 6, rfl, by decide, TB_at 182 (by decide +kernel) (by decide)⟩
theorem lqX7_32 : Cond.classLink RX7 32 RX2 ∈ TB := TB_at 196 (by decide +kernel) (by decide)
set_option maxRecDepth 20000 in
theorem lmX7_34 : q_I RX7 34 mX2_init 2 := ⟨TB_at 198 (by decide +kernel) (by decide), ⟨TB_at 199 (by decide +kernel) (by decide), rfl⟩, lc_mX2_init, ⟨by decide +kernel, by decide +kernel, by decide +kernel⟩⟩
theorem lfX2_21 : q_F RX2 21 2 0 := ⟨RX2, TX2, 7, rfl, by decide, TB_at 202 (by decide +kernel) (by decide)⟩
theorem lfX2_25 : q_F RX2 25 2 1 := ⟨RX2, TX2, 7, rfl, by decide, TB_at 203 (by decide +kernel) (by decide)⟩
theorem lfX2_9 : q_F RX2 9 2 2 := ⟨RX2, TX2, 7, rfl, by decide, TB_at 204 (by decide +kernel) (by decide)⟩
theorem lfX1_32 : q_F RX1 32 2 2 := ⟨RX2, TX2, 7, rfl, by decide, TB_at 205 (by decide +kernel) (by decide)⟩
theorem lfX2_15 : q_F RX2 15 2 3 := ⟨RX2, TX2, 7, rfl, by decide, TB_at 206 (by decide +kernel) (by decide)⟩
theorem lfX1_35 : q_F RX1 35 2 3 := ⟨RX2, TX2, 7, rfl, by decide, TB_at 207 (by decide +kernel) (by decide)⟩
theorem lfX2_18 : q_F RX2 18 2 4 := ⟨RX2, TX2, 7, rfl, by decide, TB_at 208 (by decide +kernel) (by decide)⟩
theorem lfX1_42 : q_F RX1 42 2 4 := ⟨RX2, TX2, 7, rfl, by decide, TB_at 209 (by decide +kernel) (by decide)⟩
theorem lfX7_215 : q_F RX7 215 2 4 := ⟨RX2, TX2, 7, rfl, by decide, TB_at 210 (by decide +kernel) (by decide)⟩
theorem lfX2_43 : q_F RX2 43 2 5 := ⟨RX2, TX2, 7, rfl, by decide, TB_at 211 (by decide +kernel) (by decide)⟩
theorem lfX7_264 : q_F RX7 264 2 5 := ⟨RX2, TX2, 7, rfl, by decide, TB_at 212 (by decide +kernel) (by decide)⟩
theorem lfX2_50 : q_F RX2 50 2 6 := ⟨RX2, TX2, 7, rfl, by decide, TB_at 213 (by decide +kernel) (by decide)⟩
theorem lfX1_93 : q_F RX1 93 2 6 := ⟨RX2, TX2, 7, rfl, by decide, TB_at 214 (by decide +kernel) (by decide)⟩
theorem lqX7_41 : Cond.classLink RX7 41 RX1 ∈ TB := TB_at 230 (by decide +kernel) (by decide)
set_option maxRecDepth 20000 in
theorem lmX7_43 : q_I RX7 43 mX1_init 2 := ⟨TB_at 232 (by decide +kernel) (by decide), ⟨TB_at 233 (by decide +kernel) (by decide), rfl⟩, lc_mX1_init, ⟨by decide +kernel, by decide +kernel, by decide +kernel⟩⟩
theorem lfX1_15 : q_F RX1 15 1 0 := ⟨RX1, TX1, 7, rfl, by decide, TB_at 236 (by decide +kernel) (by decide)⟩
theorem lfX1_19 : q_F RX1 19 1 1 := ⟨RX1, TX1, 7, rfl, by decide, TB_at 237 (by decide +kernel) (by decide)⟩
theorem lfX1_9 : q_F RX1 9 1 2 := ⟨RX1, TX1, 7, rfl, by decide, TB_at 238 (by decide +kernel) (by decide)⟩
theorem lfX1_28 : q_F RX1 28 1 3 := ⟨RX1, TX1, 7, rfl, by decide, TB_at 239 (by decide +kernel) (by decide)⟩
theorem lfX7_231 : q_F RX7 231 1 3 := ⟨RX1, TX1, 7, rfl, by decide, TB_at 240 (by decide +kernel) (by decide)⟩
theorem lfX1_66 : q_F RX1 66 1 4 := ⟨RX1, TX1, 7, rfl, by decide, TB_at 241 (by decide +kernel) (by decide)⟩
theorem lfX7_237 : q_F RX7 237 1 4 := ⟨RX1, TX1, 7, rfl, by decide, TB_at 242 (by decide +kernel) (by decide)⟩
theorem lfX1_45 : q_F RX1 45 1 5 := ⟨RX1, TX1, 7, rfl, by decide, TB_at 243 (by decide +kernel) (by decide)⟩
theorem lfX7_225 : q_F RX7 225 1 5 := ⟨RX1, TX1, 7, rfl, by decide, TB_at 244 (by decide +kernel) (by decide)⟩
theorem lfX1_48 : q_F RX1 48 1 6 := ⟨RX1, TX1, 7, rfl, by decide, TB_at 245 (by decide +kernel) (by decide)⟩
theorem lfX7_228 : q_F RX7 228 1 6 := ⟨RX1, TX1, 7, rfl, by decide, TB_at 246 (by decide +kernel) (by decide)⟩
theorem lqX7_50 : Cond.classLink RX7 50 RX0 ∈ TB := TB_at 262 (by decide +kernel) (by decide)
set_option maxRecDepth 20000 in
theorem lmX7_52 : q_I RX7 52 mX0_init 0 := ⟨TB_at 264 (by decide +kernel) (by decide), ⟨TB_at 265 (by decide +kernel) (by decide), rfl⟩, lc_mX0_init, ⟨by decide +kernel, by decide +kernel, by decide +kernel⟩⟩
set_option maxRecDepth 20000 in
theorem lmX0_28 : q_S RX0 28 mJ7_fill_53178 2 := ⟨TB_at 268 (by decide +kernel) (by decide), TB_at 269 (by decide +kernel) (by decide), lc_mJ7_fill_53178, ⟨by decide +kernel, by decide +kernel, by decide +kernel⟩⟩
theorem lfX0_34 : q_F RX0 34 0 0 := ⟨RX0, TX0, 8, rfl, by decide, TB_at 271 (by decide +kernel) (by decide)⟩
theorem lfX7_159 : q_F RX7 159 0 0 := ⟨RX0, TX0, 8, rfl, by decide, TB_at 272 (by decide +kernel) (by decide)⟩
theorem lfX0_9 : q_F RX0 9 0 1 := ⟨RX0, TX0, 8, rfl, by decide, TB_at 273 (by decide +kernel) (by decide)⟩
theorem lfX7_156 : q_F RX7 156 0 1 := ⟨RX0, TX0, 8, rfl, by decide, TB_at 274 (by decide +kernel) (by decide)⟩
theorem lfX7_93 : q_F RX7 93 0 2 := ⟨RX0, TX0, 8, rfl, by decide, TB_at 275 (by decide +kernel) (by decide)⟩
theorem lfX0_52 : q_F RX0 52 0 3 := ⟨RX0, TX0, 8, rfl, by decide, TB_at 276 (by decide +kernel) (by decide)⟩
theorem lfX7_274 : q_F RX7 274 0 3 := ⟨RX0, TX0, 8, rfl, by decide, TB_at 277 (by decide +kernel) (by decide)⟩
theorem lfX0_15 : q_F RX0 15 0 4 := ⟨RX0, TX0, 8, rfl, by decide, TB_at 278 (by decide +kernel) (by decide)⟩
theorem lfX7_127 : q_F RX7 127 0 4 := ⟨RX0, TX0, 8, rfl, by decide, TB_at 279 (by decide +kernel) (by decide)⟩
theorem lfX0_19 : q_F RX0 19 0 5 := ⟨RX0, TX0, 8, rfl, by decide, TB_at 280 (by decide +kernel) (by decide)⟩
theorem lfX7_139 : q_F RX7 139 0 5 := ⟨RX0, TX0, 8, rfl, by decide, TB_at 281 (by decide +kernel) (by decide)⟩
theorem lfX0_22 : q_F RX0 22 0 6 := ⟨RX0, TX0, 8, rfl, by decide, TB_at 282 (by decide +kernel) (by decide)⟩
theorem lfX7_110 : q_F RX7 110 0 6 := ⟨RX0, TX0, 8, rfl, by decide, TB_at 283 (by decide +kernel) (by decide)⟩
theorem lfX0_25 : q_F RX0 25 0 7 := ⟨RX0, TX0, 8, rfl, by decide, TB_at 284 (by decide +kernel) (by decide)⟩
theorem lfX7_142 : q_F RX7 142 0 7 := ⟨RX0, TX0, 8, rfl, by decide, TB_at 285 (by decide +kernel) (by decide)⟩
theorem lqX7_63 : Cond.classLink RX7 63 RX4 ∈ TB := TB_at 303 (by decide +kernel) (by decide)
set_option maxRecDepth 20000 in
theorem lmX7_65 : q_IN RX7 65 mX4_init 0 := ⟨⟨_, List.mem_of_getElem? (i := 305) (by rfl)⟩, ⟨TB_at 306 (by decide +kernel) (by decide), rfl⟩, lc_mX4_init, ⟨by decide +kernel, by decide +kernel, by decide +kernel⟩⟩
theorem lfX4_18 : q_F RX4 18 4 0 := ⟨RX4, TX4, 3, rfl, by decide, TB_at 309 (by decide +kernel) (by decide)⟩
theorem lfX7_97 : q_F RX7 97 4 0 := ⟨RX4, TX4, 3, rfl, by decide, TB_at 310 (by decide +kernel) (by decide)⟩
theorem lfX4_9 : q_F RX4 9 4 1 := ⟨RX4, TX4, 3, rfl, by decide, TB_at 311 (by decide +kernel) (by decide)⟩
theorem lfX4_15 : q_F RX4 15 4 2 := ⟨RX4, TX4, 3, rfl, by decide, TB_at 312 (by decide +kernel) (by decide)⟩
theorem lfX7_10 : q_F RX7 10 7 0 := ⟨RX7, TX7, 9, rfl, by decide, TB_at 320 (by decide +kernel) (by decide)⟩
theorem lfX7_19 : q_F RX7 19 7 1 := ⟨RX7, TX7, 9, rfl, by decide, TB_at 321 (by decide +kernel) (by decide)⟩
theorem lfX7_28 : q_F RX7 28 7 2 := ⟨RX7, TX7, 9, rfl, by decide, TB_at 322 (by decide +kernel) (by decide)⟩
theorem lfX7_37 : q_F RX7 37 7 3 := ⟨RX7, TX7, 9, rfl, by decide, TB_at 323 (by decide +kernel) (by decide)⟩
theorem lfX7_46 : q_F RX7 46 7 4 := ⟨RX7, TX7, 9, rfl, by decide, TB_at 324 (by decide +kernel) (by decide)⟩
theorem lfX7_53 : q_F RX7 53 7 5 := ⟨RX7, TX7, 9, rfl, by decide, TB_at 325 (by decide +kernel) (by decide)⟩
theorem lfX7_57 : q_F RX7 57 7 6 := ⟨RX7, TX7, 9, rfl, by decide, TB_at 326 (by decide +kernel) (by decide)⟩
theorem lfX7_60 : q_F RX7 60 7 7 := ⟨RX7, TX7, 9, rfl, by decide, TB_at 327 (by decide +kernel) (by decide)⟩
theorem lfX7_66 : q_F RX7 66 7 8 := ⟨RX7, TX7, 9, rfl, by decide, TB_at 328 (by decide +kernel) (by decide)⟩
set_option maxRecDepth 20000 in
theorem lmL_15 : q_V RL 15 mX7_write 2 := ⟨TB_at 348 (by decide +kernel) (by decide), ⟨TB_at 349 (by decide +kernel) (by decide), TB_at 350 (by decide +kernel) (by decide)⟩, lc_mX7_write, ⟨by decide +kernel, by decide +kernel, by decide +kernel⟩⟩
theorem lkX7_74 : Cond.constantLong RX7 74 (255 : Int64) ∈ TB := TB_at 352 (by decide +kernel) (by decide)
set_option maxRecDepth 20000 in
theorem lmX7_76 : q_V RX7 76 mX5_append 1 := ⟨TB_at 353 (by decide +kernel) (by decide), ⟨TB_at 354 (by decide +kernel) (by decide), TB_at 355 (by decide +kernel) (by decide)⟩, lc_mX5_append, ⟨by decide +kernel, by decide +kernel, by decide +kernel⟩⟩
set_option maxRecDepth 20000 in
theorem lmL_20 : q_V RL 20 mX7_erase 0 := ⟨TB_at 357 (by decide +kernel) (by decide), ⟨TB_at 358 (by decide +kernel) (by decide), TB_at 359 (by decide +kernel) (by decide)⟩, lc_mX7_erase, ⟨by decide +kernel, by decide +kernel, by decide +kernel⟩⟩
set_option maxRecDepth 20000 in
theorem lmL_25 : q_V RL 25 mX7_fault 0 := ⟨TB_at 361 (by decide +kernel) (by decide), ⟨TB_at 362 (by decide +kernel) (by decide), TB_at 363 (by decide +kernel) (by decide)⟩, lc_mX7_fault, ⟨by decide +kernel, by decide +kernel, by decide +kernel⟩⟩
set_option maxRecDepth 20000 in
theorem lmX7_80 : q_V RX7 80 mX5_read 1 := ⟨TB_at 365 (by decide +kernel) (by decide), ⟨TB_at 366 (by decide +kernel) (by decide), TB_at 367 (by decide +kernel) (by decide)⟩, lc_mX5_read, ⟨by decide +kernel, by decide +kernel, by decide +kernel⟩⟩
set_option maxRecDepth 20000 in
theorem lmX5_29 : q_V RX5 29 mX6_copyFrom 1 := ⟨TB_at 369 (by decide +kernel) (by decide), ⟨TB_at 370 (by decide +kernel) (by decide), TB_at 371 (by decide +kernel) (by decide)⟩, lc_mX6_copyFrom, ⟨by decide +kernel, by decide +kernel, by decide +kernel⟩⟩
set_option maxRecDepth 20000 in
theorem lmX5_39 : q_V RX5 39 mX5_doLine 0 := ⟨TB_at 376 (by decide +kernel) (by decide), ⟨TB_at 378 (by decide +kernel) (by decide), TB_at 0 (by decide +kernel) (by decide)⟩, lc_mX5_doLine, ⟨by decide +kernel, by decide +kernel, by decide +kernel⟩⟩
set_option maxRecDepth 20000 in
theorem lmX5_46 : q_V RX5 46 mX5_nextToken 0 := ⟨TB_at 380 (by decide +kernel) (by decide), ⟨TB_at 382 (by decide +kernel) (by decide), TB_at 1 (by decide +kernel) (by decide)⟩, lc_mX5_nextToken, ⟨by decide +kernel, by decide +kernel, by decide +kernel⟩⟩
set_option maxRecDepth 20000 in
theorem lmX5_49 : q_S RX5 49 mX5_isLetter 1 := ⟨TB_at 384 (by decide +kernel) (by decide), TB_at 385 (by decide +kernel) (by decide), lc_mX5_isLetter, ⟨by decide +kernel, by decide +kernel, by decide +kernel⟩⟩
set_option maxRecDepth 20000 in
theorem lmX5_53 : q_S RX5 53 mX5_isDigit 1 := ⟨TB_at 387 (by decide +kernel) (by decide), TB_at 388 (by decide +kernel) (by decide), lc_mX5_isDigit, ⟨by decide +kernel, by decide +kernel, by decide +kernel⟩⟩
set_option maxRecDepth 20000 in
theorem lmX5_67 : q_V RX5 67 mX5_isWord 1 := ⟨TB_at 391 (by decide +kernel) (by decide), ⟨TB_at 393 (by decide +kernel) (by decide), TB_at 2 (by decide +kernel) (by decide)⟩, lc_mX5_isWord, ⟨by decide +kernel, by decide +kernel, by decide +kernel⟩⟩
set_option maxRecDepth 20000 in
theorem lmX5_56 : q_V RX5 56 mJ0_length_8abf5 0 := ⟨TB_at 395 (by decide +kernel) (by decide), ⟨TB_at 396 (by decide +kernel) (by decide), TB_at 397 (by decide +kernel) (by decide)⟩, lc_mJ0_length_8abf5, ⟨by decide +kernel, by decide +kernel, by decide +kernel⟩⟩
set_option maxRecDepth 20000 in
theorem lmJ0_335 : q_V RJ0 335 mJ0_coder_7d493 0 := ⟨TB_at 399 (by decide +kernel) (by decide), ⟨TB_at 400 (by decide +kernel) (by decide), TB_at 401 (by decide +kernel) (by decide)⟩, lc_mJ0_coder_7d493, ⟨by decide +kernel, by decide +kernel, by decide +kernel⟩⟩
set_option maxRecDepth 20000 in
theorem lmX5_61 : q_V RX5 61 mJ0_charAt_5068e 1 := ⟨TB_at 405 (by decide +kernel) (by decide), ⟨TB_at 406 (by decide +kernel) (by decide), TB_at 407 (by decide +kernel) (by decide)⟩, lc_mJ0_charAt_5068e, ⟨by decide +kernel, by decide +kernel, by decide +kernel⟩⟩
set_option maxRecDepth 20000 in
theorem lmJ0_492 : q_V RJ0 492 mJ0_isLatin1_aae02 0 := ⟨TB_at 409 (by decide +kernel) (by decide), ⟨TB_at 410 (by decide +kernel) (by decide), TB_at 411 (by decide +kernel) (by decide)⟩, lc_mJ0_isLatin1_aae02, ⟨by decide +kernel, by decide +kernel, by decide +kernel⟩⟩
set_option maxRecDepth 20000 in
theorem lmJ0_495 : q_S RJ0 495 mJ1_charAt_3b067 2 := ⟨TB_at 413 (by decide +kernel) (by decide), TB_at 414 (by decide +kernel) (by decide), lc_mJ1_charAt_3b067, ⟨by decide +kernel, by decide +kernel, by decide +kernel⟩⟩
set_option maxRecDepth 20000 in
theorem lmX5_71 : q_V RX5 71 mX5_doInn 0 := ⟨TB_at 443 (by decide +kernel) (by decide), ⟨TB_at 445 (by decide +kernel) (by decide), TB_at 3 (by decide +kernel) (by decide)⟩, lc_mX5_doInn, ⟨by decide +kernel, by decide +kernel, by decide +kernel⟩⟩
set_option maxRecDepth 20000 in
theorem lmX5_101 : q_V RX5 101 mX5_readNumber 2 := ⟨TB_at 447 (by decide +kernel) (by decide), ⟨TB_at 449 (by decide +kernel) (by decide), TB_at 4 (by decide +kernel) (by decide)⟩, lc_mX5_readNumber, ⟨by decide +kernel, by decide +kernel, by decide +kernel⟩⟩
set_option maxRecDepth 20000 in
theorem lmX5_108 : q_V RX5 108 mX6_beginInn 1 := ⟨TB_at 451 (by decide +kernel) (by decide), ⟨TB_at 452 (by decide +kernel) (by decide), TB_at 453 (by decide +kernel) (by decide)⟩, lc_mX6_beginInn, ⟨by decide +kernel, by decide +kernel, by decide +kernel⟩⟩
set_option maxRecDepth 20000 in
theorem lmX5_76 : q_V RX5 76 mX5_doChair 1 := ⟨TB_at 456 (by decide +kernel) (by decide), ⟨TB_at 458 (by decide +kernel) (by decide), TB_at 5 (by decide +kernel) (by decide)⟩, lc_mX5_doChair, ⟨by decide +kernel, by decide +kernel, by decide +kernel⟩⟩
set_option maxRecDepth 20000 in
theorem lmX5_115 : q_V RX5 115 mX6_hasChair 1 := ⟨TB_at 460 (by decide +kernel) (by decide), ⟨TB_at 461 (by decide +kernel) (by decide), TB_at 462 (by decide +kernel) (by decide)⟩, lc_mX6_hasChair, ⟨by decide +kernel, by decide +kernel, by decide +kernel⟩⟩
set_option maxRecDepth 20000 in
theorem lmX6_43 : q_V RX6 43 mX6_hasPlace 1 := ⟨TB_at 464 (by decide +kernel) (by decide), ⟨TB_at 465 (by decide +kernel) (by decide), TB_at 466 (by decide +kernel) (by decide)⟩, lc_mX6_hasPlace, ⟨by decide +kernel, by decide +kernel, by decide +kernel⟩⟩
set_option maxRecDepth 20000 in
theorem lmX6_47 : q_SN RX6 47 mX7_holds 2 := ⟨⟨_, List.mem_of_getElem? (i := 468) (by rfl)⟩, TB_at 469 (by decide +kernel) (by decide), lc_mX7_holds, ⟨by decide +kernel, by decide +kernel, by decide +kernel⟩⟩
set_option maxRecDepth 20000 in
theorem lmX5_87 : q_V RX5 87 mX5_kindOfWord 0 := ⟨TB_at 473 (by decide +kernel) (by decide), ⟨TB_at 475 (by decide +kernel) (by decide), TB_at 6 (by decide +kernel) (by decide)⟩, lc_mX5_kindOfWord, ⟨by decide +kernel, by decide +kernel, by decide +kernel⟩⟩
set_option maxRecDepth 20000 in
theorem lmX5_90 : q_V RX5 90 mX5_doGuest 1 := ⟨TB_at 481 (by decide +kernel) (by decide), ⟨TB_at 483 (by decide +kernel) (by decide), TB_at 7 (by decide +kernel) (by decide)⟩, lc_mX5_doGuest, ⟨by decide +kernel, by decide +kernel, by decide +kernel⟩⟩
set_option maxRecDepth 20000 in
theorem lmX5_121 : q_V RX5 121 mX5_mostOf 1 := ⟨TB_at 485 (by decide +kernel) (by decide), ⟨TB_at 487 (by decide +kernel) (by decide), TB_at 8 (by decide +kernel) (by decide)⟩, lc_mX5_mostOf, ⟨by decide +kernel, by decide +kernel, by decide +kernel⟩⟩
set_option maxRecDepth 20000 in
theorem lmX5_125 : q_V RX5 125 mX6_addGuest 2 := ⟨TB_at 489 (by decide +kernel) (by decide), ⟨TB_at 490 (by decide +kernel) (by decide), TB_at 491 (by decide +kernel) (by decide)⟩, lc_mX6_addGuest, ⟨by decide +kernel, by decide +kernel, by decide +kernel⟩⟩
set_option maxRecDepth 20000 in
theorem lmL_29 : q_V RL 29 mX7_inn 0 := ⟨TB_at 494 (by decide +kernel) (by decide), ⟨TB_at 495 (by decide +kernel) (by decide), TB_at 496 (by decide +kernel) (by decide)⟩, lc_mX7_inn, ⟨by decide +kernel, by decide +kernel, by decide +kernel⟩⟩
set_option maxRecDepth 20000 in
theorem lmX7_87 : q_V RX7 87 mX6_copyFrom 1 := ⟨TB_at 498 (by decide +kernel) (by decide), ⟨TB_at 370 (by decide +kernel) (by decide), TB_at 371 (by decide +kernel) (by decide)⟩, lc_mX6_copyFrom, ⟨by decide +kernel, by decide +kernel, by decide +kernel⟩⟩
set_option maxRecDepth 20000 in
theorem lmX7_90 : q_V RX7 90 mX0_begin 1 := ⟨TB_at 499 (by decide +kernel) (by decide), ⟨TB_at 500 (by decide +kernel) (by decide), TB_at 501 (by decide +kernel) (by decide)⟩, lc_mX0_begin, ⟨by decide +kernel, by decide +kernel, by decide +kernel⟩⟩
set_option maxRecDepth 20000 in
theorem lmX0_49 : q_V RX0 49 mX0_getUp 0 := ⟨TB_at 504 (by decide +kernel) (by decide), ⟨TB_at 505 (by decide +kernel) (by decide), TB_at 506 (by decide +kernel) (by decide)⟩, lc_mX0_getUp, ⟨by decide +kernel, by decide +kernel, by decide +kernel⟩⟩
set_option maxRecDepth 20000 in
theorem lmL_33 : q_V RL 33 mX7_place 2 := ⟨TB_at 508 (by decide +kernel) (by decide), ⟨TB_at 509 (by decide +kernel) (by decide), TB_at 510 (by decide +kernel) (by decide)⟩, lc_mX7_place, ⟨by decide +kernel, by decide +kernel, by decide +kernel⟩⟩
set_option maxRecDepth 20000 in
theorem lmX7_103 : q_V RX7 103 mX6_hasPlace 1 := ⟨TB_at 512 (by decide +kernel) (by decide), ⟨TB_at 465 (by decide +kernel) (by decide), TB_at 466 (by decide +kernel) (by decide)⟩, lc_mX6_hasPlace, ⟨by decide +kernel, by decide +kernel, by decide +kernel⟩⟩
set_option maxRecDepth 20000 in
theorem lmX7_107 : q_V RX7 107 mX6_hasChair 1 := ⟨TB_at 513 (by decide +kernel) (by decide), ⟨TB_at 461 (by decide +kernel) (by decide), TB_at 462 (by decide +kernel) (by decide)⟩, lc_mX6_hasChair, ⟨by decide +kernel, by decide +kernel, by decide +kernel⟩⟩
set_option maxRecDepth 20000 in
theorem lmX7_117 : q_V RX7 117 mX0_whoIsAt 2 := ⟨TB_at 514 (by decide +kernel) (by decide), ⟨TB_at 515 (by decide +kernel) (by decide), TB_at 516 (by decide +kernel) (by decide)⟩, lc_mX0_whoIsAt, ⟨by decide +kernel, by decide +kernel, by decide +kernel⟩⟩
set_option maxRecDepth 20000 in
theorem lmL_38 : q_V RL 38 mX7_guest 2 := ⟨TB_at 518 (by decide +kernel) (by decide), ⟨TB_at 519 (by decide +kernel) (by decide), TB_at 520 (by decide +kernel) (by decide)⟩, lc_mX7_guest, ⟨by decide +kernel, by decide +kernel, by decide +kernel⟩⟩
set_option maxRecDepth 20000 in
theorem lmX7_121 : q_V RX7 121 mX6_hasGuest 1 := ⟨TB_at 522 (by decide +kernel) (by decide), ⟨TB_at 523 (by decide +kernel) (by decide), TB_at 524 (by decide +kernel) (by decide)⟩, lc_mX6_hasGuest, ⟨by decide +kernel, by decide +kernel, by decide +kernel⟩⟩
set_option maxRecDepth 20000 in
theorem lmL_42 : q_V RL 42 mX7_as 2 := ⟨TB_at 526 (by decide +kernel) (by decide), ⟨TB_at 527 (by decide +kernel) (by decide), TB_at 528 (by decide +kernel) (by decide)⟩, lc_mX7_as, ⟨by decide +kernel, by decide +kernel, by decide +kernel⟩⟩
set_option maxRecDepth 20000 in
theorem lmX7_145 : q_V RX7 145 mX6_isA 2 := ⟨TB_at 530 (by decide +kernel) (by decide), ⟨TB_at 531 (by decide +kernel) (by decide), TB_at 532 (by decide +kernel) (by decide)⟩, lc_mX6_isA, ⟨by decide +kernel, by decide +kernel, by decide +kernel⟩⟩
set_option maxRecDepth 20000 in
theorem lmX7_149 : q_V RX7 149 mX6_nearestChair 1 := ⟨TB_at 534 (by decide +kernel) (by decide), ⟨TB_at 535 (by decide +kernel) (by decide), TB_at 536 (by decide +kernel) (by decide)⟩, lc_mX6_nearestChair, ⟨by decide +kernel, by decide +kernel, by decide +kernel⟩⟩
set_option maxRecDepth 20000 in
theorem lmX6_61 : q_V RX6 61 mX6_farthest 0 := ⟨TB_at 538 (by decide +kernel) (by decide), ⟨TB_at 539 (by decide +kernel) (by decide), TB_at 540 (by decide +kernel) (by decide)⟩, lc_mX6_farthest, ⟨by decide +kernel, by decide +kernel, by decide +kernel⟩⟩
set_option maxRecDepth 20000 in
theorem lmX6_64 : q_V RX6 64 mX6_leastAt 3 := ⟨TB_at 542 (by decide +kernel) (by decide), ⟨TB_at 543 (by decide +kernel) (by decide), TB_at 544 (by decide +kernel) (by decide)⟩, lc_mX6_leastAt, ⟨by decide +kernel, by decide +kernel, by decide +kernel⟩⟩
set_option maxRecDepth 20000 in
theorem lmX7_153 : q_V RX7 153 mX6_ease 1 := ⟨TB_at 546 (by decide +kernel) (by decide), ⟨TB_at 547 (by decide +kernel) (by decide), TB_at 548 (by decide +kernel) (by decide)⟩, lc_mX6_ease, ⟨by decide +kernel, by decide +kernel, by decide +kernel⟩⟩
set_option maxRecDepth 20000 in
theorem lmL_46 : q_V RL 46 mX7_walk 1 := ⟨TB_at 550 (by decide +kernel) (by decide), ⟨TB_at 551 (by decide +kernel) (by decide), TB_at 552 (by decide +kernel) (by decide)⟩, lc_mX7_walk, ⟨by decide +kernel, by decide +kernel, by decide +kernel⟩⟩
set_option maxRecDepth 20000 in
theorem lmX7_162 : q_V RX7 162 mX0_goOn 2 := ⟨TB_at 554 (by decide +kernel) (by decide), ⟨TB_at 555 (by decide +kernel) (by decide), TB_at 556 (by decide +kernel) (by decide)⟩, lc_mX0_goOn, ⟨by decide +kernel, by decide +kernel, by decide +kernel⟩⟩
set_option maxRecDepth 20000 in
theorem lmX0_64 : q_V RX0 64 mX6_placeAfter 3 := ⟨TB_at 558 (by decide +kernel) (by decide), ⟨TB_at 559 (by decide +kernel) (by decide), TB_at 560 (by decide +kernel) (by decide)⟩, lc_mX6_placeAfter, ⟨by decide +kernel, by decide +kernel, by decide +kernel⟩⟩
set_option maxRecDepth 20000 in
theorem lmX6_55 : q_S RX6 55 mJ9_floorMod_7cf53 2 := ⟨TB_at 562 (by decide +kernel) (by decide), TB_at 563 (by decide +kernel) (by decide), lc_mJ9_floorMod_7cf53, ⟨by decide +kernel, by decide +kernel, by decide +kernel⟩⟩
set_option maxRecDepth 20000 in
theorem lmL_51 : q_V RL 51 mX7_stop 0 := ⟨TB_at 565 (by decide +kernel) (by decide), ⟨TB_at 566 (by decide +kernel) (by decide), TB_at 567 (by decide +kernel) (by decide)⟩, lc_mX7_stop, ⟨by decide +kernel, by decide +kernel, by decide +kernel⟩⟩
set_option maxRecDepth 20000 in
theorem lmX7_173 : q_V RX7 173 mX6_everyone 0 := ⟨TB_at 570 (by decide +kernel) (by decide), ⟨TB_at 571 (by decide +kernel) (by decide), TB_at 572 (by decide +kernel) (by decide)⟩, lc_mX6_everyone, ⟨by decide +kernel, by decide +kernel, by decide +kernel⟩⟩
set_option maxRecDepth 20000 in
theorem lmX7_180 : q_V RX7 180 mX3_settle 2 := ⟨TB_at 574 (by decide +kernel) (by decide), ⟨TB_at 575 (by decide +kernel) (by decide), TB_at 576 (by decide +kernel) (by decide)⟩, lc_mX3_settle, ⟨by decide +kernel, by decide +kernel, by decide +kernel⟩⟩
set_option maxRecDepth 20000 in
theorem lmX3_25 : q_S RX3 25 mJ7_fill_53178 2 := ⟨TB_at 578 (by decide +kernel) (by decide), TB_at 269 (by decide +kernel) (by decide), lc_mJ7_fill_53178, ⟨by decide +kernel, by decide +kernel, by decide +kernel⟩⟩
set_option maxRecDepth 20000 in
theorem lmX3_39 : q_V RX3 39 mX6_allOfKind 1 := ⟨TB_at 579 (by decide +kernel) (by decide), ⟨TB_at 580 (by decide +kernel) (by decide), TB_at 581 (by decide +kernel) (by decide)⟩, lc_mX6_allOfKind, ⟨by decide +kernel, by decide +kernel, by decide +kernel⟩⟩
set_option maxRecDepth 20000 in
theorem lmX3_45 : q_V RX3 45 mX3_seatAll 1 := ⟨TB_at 583 (by decide +kernel) (by decide), ⟨TB_at 585 (by decide +kernel) (by decide), TB_at 9 (by decide +kernel) (by decide)⟩, lc_mX3_seatAll, ⟨by decide +kernel, by decide +kernel, by decide +kernel⟩⟩
set_option maxRecDepth 20000 in
theorem lmX3_48 : q_V RX3 48 mX6_farthest 0 := ⟨TB_at 587 (by decide +kernel) (by decide), ⟨TB_at 539 (by decide +kernel) (by decide), TB_at 540 (by decide +kernel) (by decide)⟩, lc_mX6_farthest, ⟨by decide +kernel, by decide +kernel, by decide +kernel⟩⟩
set_option maxRecDepth 20000 in
theorem lmX3_55 : q_SN RX3 55 mX7_holds 2 := ⟨⟨_, List.mem_of_getElem? (i := 588) (by rfl)⟩, TB_at 469 (by decide +kernel) (by decide), lc_mX7_holds, ⟨by decide +kernel, by decide +kernel, by decide +kernel⟩⟩
set_option maxRecDepth 20000 in
theorem lmX3_59 : q_V RX3 59 mX6_ease 1 := ⟨TB_at 589 (by decide +kernel) (by decide), ⟨TB_at 547 (by decide +kernel) (by decide), TB_at 548 (by decide +kernel) (by decide)⟩, lc_mX6_ease, ⟨by decide +kernel, by decide +kernel, by decide +kernel⟩⟩
set_option maxRecDepth 20000 in
theorem lmX3_62 : q_V RX3 62 mX6_leastAt 3 := ⟨TB_at 590 (by decide +kernel) (by decide), ⟨TB_at 543 (by decide +kernel) (by decide), TB_at 544 (by decide +kernel) (by decide)⟩, lc_mX6_leastAt, ⟨by decide +kernel, by decide +kernel, by decide +kernel⟩⟩
set_option maxRecDepth 20000 in
theorem lmX3_66 : q_V RX3 66 mX3_seatOne 2 := ⟨TB_at 591 (by decide +kernel) (by decide), ⟨TB_at 593 (by decide +kernel) (by decide), TB_at 10 (by decide +kernel) (by decide)⟩, lc_mX3_seatOne, ⟨by decide +kernel, by decide +kernel, by decide +kernel⟩⟩
set_option maxRecDepth 20000 in
theorem lmX3_70 : q_V RX3 70 mX3_take 2 := ⟨TB_at 595 (by decide +kernel) (by decide), ⟨TB_at 597 (by decide +kernel) (by decide), TB_at 11 (by decide +kernel) (by decide)⟩, lc_mX3_take, ⟨by decide +kernel, by decide +kernel, by decide +kernel⟩⟩
set_option maxRecDepth 20000 in
theorem lmX7_183 : q_V RX7 183 mX3_settleFaint 1 := ⟨TB_at 599 (by decide +kernel) (by decide), ⟨TB_at 600 (by decide +kernel) (by decide), TB_at 601 (by decide +kernel) (by decide)⟩, lc_mX3_settleFaint, ⟨by decide +kernel, by decide +kernel, by decide +kernel⟩⟩
set_option maxRecDepth 20000 in
theorem lmX7_186 : q_V RX7 186 mX0_end 3 := ⟨TB_at 603 (by decide +kernel) (by decide), ⟨TB_at 604 (by decide +kernel) (by decide), TB_at 605 (by decide +kernel) (by decide)⟩, lc_mX0_end, ⟨by decide +kernel, by decide +kernel, by decide +kernel⟩⟩
set_option maxRecDepth 20000 in
theorem lmX0_72 : q_S RX0 72 mJ6_bitCount_0f7a4 1 := ⟨TB_at 607 (by decide +kernel) (by decide), TB_at 608 (by decide +kernel) (by decide), lc_mJ6_bitCount_0f7a4, ⟨by decide +kernel, by decide +kernel, by decide +kernel⟩⟩
theorem lkJ6_265 : Cond.constant RJ6 265 (1431655765 : Int32) ∈ TB := TB_at 610 (by decide +kernel) (by decide)
theorem lkJ6_266 : Cond.constant RJ6 266 (858993459 : Int32) ∈ TB := TB_at 611 (by decide +kernel) (by decide)
theorem lkJ6_267 : Cond.constant RJ6 267 (252645135 : Int32) ∈ TB := TB_at 612 (by decide +kernel) (by decide)
set_option maxRecDepth 20000 in
theorem lmX0_78 : q_V RX0 78 mX6_allWorth 0 := ⟨TB_at 613 (by decide +kernel) (by decide), ⟨TB_at 614 (by decide +kernel) (by decide), TB_at 615 (by decide +kernel) (by decide)⟩, lc_mX6_allWorth, ⟨by decide +kernel, by decide +kernel, by decide +kernel⟩⟩
set_option maxRecDepth 20000 in
theorem lmX0_82 : q_SN RX0 82 mX7_holds 2 := ⟨⟨_, List.mem_of_getElem? (i := 617) (by rfl)⟩, TB_at 469 (by decide +kernel) (by decide), lc_mX7_holds, ⟨by decide +kernel, by decide +kernel, by decide +kernel⟩⟩
set_option maxRecDepth 20000 in
theorem lmL_55 : q_V RL 55 mX7_play 0 := ⟨TB_at 618 (by decide +kernel) (by decide), ⟨TB_at 619 (by decide +kernel) (by decide), TB_at 620 (by decide +kernel) (by decide)⟩, lc_mX7_play, ⟨by decide +kernel, by decide +kernel, by decide +kernel⟩⟩
set_option maxRecDepth 20000 in
theorem lmX7_190 : q_V RX7 190 mX0_getUp 0 := ⟨TB_at 622 (by decide +kernel) (by decide), ⟨TB_at 505 (by decide +kernel) (by decide), TB_at 506 (by decide +kernel) (by decide)⟩, lc_mX0_getUp, ⟨by decide +kernel, by decide +kernel, by decide +kernel⟩⟩
set_option maxRecDepth 20000 in
theorem lmL_59 : q_V RL 59 mX7_keep 1 := ⟨TB_at 623 (by decide +kernel) (by decide), ⟨TB_at 624 (by decide +kernel) (by decide), TB_at 625 (by decide +kernel) (by decide)⟩, lc_mX7_keep, ⟨by decide +kernel, by decide +kernel, by decide +kernel⟩⟩
set_option maxRecDepth 20000 in
theorem lmX7_193 : q_S RX7 193 mX7_isEither 1 := ⟨TB_at 627 (by decide +kernel) (by decide), TB_at 628 (by decide +kernel) (by decide), lc_mX7_isEither, ⟨by decide +kernel, by decide +kernel, by decide +kernel⟩⟩
set_option maxRecDepth 20000 in
theorem lmX7_196 : q_V RX7 196 mX0_copyFrom 1 := ⟨TB_at 630 (by decide +kernel) (by decide), ⟨TB_at 631 (by decide +kernel) (by decide), TB_at 632 (by decide +kernel) (by decide)⟩, lc_mX0_copyFrom, ⟨by decide +kernel, by decide +kernel, by decide +kernel⟩⟩
set_option maxRecDepth 20000 in
theorem lmL_63 : q_V RL 63 mX7_back 1 := ⟨TB_at 634 (by decide +kernel) (by decide), ⟨TB_at 635 (by decide +kernel) (by decide), TB_at 636 (by decide +kernel) (by decide)⟩, lc_mX7_back, ⟨by decide +kernel, by decide +kernel, by decide +kernel⟩⟩
set_option maxRecDepth 20000 in
theorem lmL_67 : q_V RL 67 mX7_standing 1 := ⟨TB_at 638 (by decide +kernel) (by decide), ⟨TB_at 639 (by decide +kernel) (by decide), TB_at 640 (by decide +kernel) (by decide)⟩, lc_mX7_standing, ⟨by decide +kernel, by decide +kernel, by decide +kernel⟩⟩
set_option maxRecDepth 20000 in
theorem lmX7_199 : q_S RX7 199 mX7_isMinute 1 := ⟨TB_at 642 (by decide +kernel) (by decide), TB_at 643 (by decide +kernel) (by decide), lc_mX7_isMinute, ⟨by decide +kernel, by decide +kernel, by decide +kernel⟩⟩
set_option maxRecDepth 20000 in
theorem lmX7_202 : q_V RX7 202 mX2_asTold 0 := ⟨TB_at 645 (by decide +kernel) (by decide), ⟨TB_at 646 (by decide +kernel) (by decide), TB_at 647 (by decide +kernel) (by decide)⟩, lc_mX2_asTold, ⟨by decide +kernel, by decide +kernel, by decide +kernel⟩⟩
set_option maxRecDepth 20000 in
theorem lmX2_39 : q_V RX2 39 mX6_everyone 0 := ⟨TB_at 650 (by decide +kernel) (by decide), ⟨TB_at 571 (by decide +kernel) (by decide), TB_at 572 (by decide +kernel) (by decide)⟩, lc_mX6_everyone, ⟨by decide +kernel, by decide +kernel, by decide +kernel⟩⟩
set_option maxRecDepth 20000 in
theorem lmX7_205 : q_V RX7 205 mX2_stoodAt 1 := ⟨TB_at 651 (by decide +kernel) (by decide), ⟨TB_at 652 (by decide +kernel) (by decide), TB_at 653 (by decide +kernel) (by decide)⟩, lc_mX2_stoodAt, ⟨by decide +kernel, by decide +kernel, by decide +kernel⟩⟩
set_option maxRecDepth 20000 in
theorem lmX2_51 : q_V RX2 51 mX2_goTo 1 := ⟨TB_at 655 (by decide +kernel) (by decide), ⟨TB_at 657 (by decide +kernel) (by decide), TB_at 12 (by decide +kernel) (by decide)⟩, lc_mX2_goTo, ⟨by decide +kernel, by decide +kernel, by decide +kernel⟩⟩
set_option maxRecDepth 20000 in
theorem lmX2_70 : q_V RX2 70 mX6_placeAfter 3 := ⟨TB_at 659 (by decide +kernel) (by decide), ⟨TB_at 559 (by decide +kernel) (by decide), TB_at 560 (by decide +kernel) (by decide)⟩, lc_mX6_placeAfter, ⟨by decide +kernel, by decide +kernel, by decide +kernel⟩⟩
set_option maxRecDepth 20000 in
theorem lmX2_55 : q_V RX2 55 mX3_settle 2 := ⟨TB_at 660 (by decide +kernel) (by decide), ⟨TB_at 575 (by decide +kernel) (by decide), TB_at 576 (by decide +kernel) (by decide)⟩, lc_mX3_settle, ⟨by decide +kernel, by decide +kernel, by decide +kernel⟩⟩
set_option maxRecDepth 20000 in
theorem lmL_71 : q_V RL 71 mX7_odds 4 := ⟨TB_at 661 (by decide +kernel) (by decide), ⟨TB_at 662 (by decide +kernel) (by decide), TB_at 663 (by decide +kernel) (by decide)⟩, lc_mX7_odds, ⟨by decide +kernel, by decide +kernel, by decide +kernel⟩⟩
set_option maxRecDepth 20000 in
theorem lmX7_208 : q_S RX7 208 mX7_areMinutes 2 := ⟨TB_at 665 (by decide +kernel) (by decide), TB_at 666 (by decide +kernel) (by decide), lc_mX7_areMinutes, ⟨by decide +kernel, by decide +kernel, by decide +kernel⟩⟩
set_option maxRecDepth 20000 in
theorem lmX7_211 : q_V RX7 211 mX2_tally 2 := ⟨TB_at 668 (by decide +kernel) (by decide), ⟨TB_at 669 (by decide +kernel) (by decide), TB_at 670 (by decide +kernel) (by decide)⟩, lc_mX2_tally, ⟨by decide +kernel, by decide +kernel, by decide +kernel⟩⟩
set_option maxRecDepth 20000 in
theorem lmX2_74 : q_S RX2 74 mJ7_fill_53178 2 := ⟨TB_at 672 (by decide +kernel) (by decide), TB_at 269 (by decide +kernel) (by decide), lc_mJ7_fill_53178, ⟨by decide +kernel, by decide +kernel, by decide +kernel⟩⟩
set_option maxRecDepth 20000 in
theorem lmX2_83 : q_V RX2 83 mX2_minutesLike 3 := ⟨TB_at 673 (by decide +kernel) (by decide), ⟨TB_at 674 (by decide +kernel) (by decide), TB_at 675 (by decide +kernel) (by decide)⟩, lc_mX2_minutesLike, ⟨by decide +kernel, by decide +kernel, by decide +kernel⟩⟩
set_option maxRecDepth 20000 in
theorem lmX2_94 : q_V RX2 94 mX2_minutesLikeTo 2 := ⟨TB_at 677 (by decide +kernel) (by decide), ⟨TB_at 679 (by decide +kernel) (by decide), TB_at 13 (by decide +kernel) (by decide)⟩, lc_mX2_minutesLikeTo, ⟨by decide +kernel, by decide +kernel, by decide +kernel⟩⟩
set_option maxRecDepth 20000 in
theorem lmX2_86 : q_V RX2 86 mX2_addTimes 2 := ⟨TB_at 681 (by decide +kernel) (by decide), ⟨TB_at 683 (by decide +kernel) (by decide), TB_at 14 (by decide +kernel) (by decide)⟩, lc_mX2_addTimes, ⟨by decide +kernel, by decide +kernel, by decide +kernel⟩⟩
set_option maxRecDepth 20000 in
theorem lmX2_90 : q_SN RX2 90 mX7_holds 2 := ⟨⟨_, List.mem_of_getElem? (i := 685) (by rfl)⟩, TB_at 469 (by decide +kernel) (by decide), lc_mX7_holds, ⟨by decide +kernel, by decide +kernel, by decide +kernel⟩⟩
set_option maxRecDepth 20000 in
theorem lmX7_218 : q_S RX7 218 mX7_commonDivisor 2 := ⟨TB_at 686 (by decide +kernel) (by decide), TB_at 687 (by decide +kernel) (by decide), lc_mX7_commonDivisor, ⟨by decide +kernel, by decide +kernel, by decide +kernel⟩⟩
set_option maxRecDepth 20000 in
theorem lmL_76 : q_V RL 76 mX7_surest 4 := ⟨TB_at 689 (by decide +kernel) (by decide), ⟨TB_at 690 (by decide +kernel) (by decide), TB_at 691 (by decide +kernel) (by decide)⟩, lc_mX7_surest, ⟨by decide +kernel, by decide +kernel, by decide +kernel⟩⟩
set_option maxRecDepth 20000 in
theorem lmX7_221 : q_V RX7 221 mX1_findSurest 3 := ⟨TB_at 693 (by decide +kernel) (by decide), ⟨TB_at 694 (by decide +kernel) (by decide), TB_at 695 (by decide +kernel) (by decide)⟩, lc_mX1_findSurest, ⟨by decide +kernel, by decide +kernel, by decide +kernel⟩⟩
set_option maxRecDepth 20000 in
theorem lmX1_23 : q_V RX1 23 mX2_asTold 0 := ⟨TB_at 697 (by decide +kernel) (by decide), ⟨TB_at 646 (by decide +kernel) (by decide), TB_at 647 (by decide +kernel) (by decide)⟩, lc_mX2_asTold, ⟨by decide +kernel, by decide +kernel, by decide +kernel⟩⟩
set_option maxRecDepth 20000 in
theorem lmX1_38 : q_V RX1 38 mX2_tally 2 := ⟨TB_at 698 (by decide +kernel) (by decide), ⟨TB_at 669 (by decide +kernel) (by decide), TB_at 670 (by decide +kernel) (by decide)⟩, lc_mX2_tally, ⟨by decide +kernel, by decide +kernel, by decide +kernel⟩⟩
set_option maxRecDepth 20000 in
theorem lmL_80 : q_V RL 80 mX7_still 3 := ⟨TB_at 699 (by decide +kernel) (by decide), ⟨TB_at 700 (by decide +kernel) (by decide), TB_at 701 (by decide +kernel) (by decide)⟩, lc_mX7_still, ⟨by decide +kernel, by decide +kernel, by decide +kernel⟩⟩
set_option maxRecDepth 20000 in
theorem lmX7_234 : q_V RX7 234 mX1_findStill 2 := ⟨TB_at 703 (by decide +kernel) (by decide), ⟨TB_at 704 (by decide +kernel) (by decide), TB_at 705 (by decide +kernel) (by decide)⟩, lc_mX1_findStill, ⟨by decide +kernel, by decide +kernel, by decide +kernel⟩⟩
set_option maxRecDepth 20000 in
theorem lmX1_51 : q_V RX1 51 mX6_everyone 0 := ⟨TB_at 707 (by decide +kernel) (by decide), ⟨TB_at 571 (by decide +kernel) (by decide), TB_at 572 (by decide +kernel) (by decide)⟩, lc_mX6_everyone, ⟨by decide +kernel, by decide +kernel, by decide +kernel⟩⟩
set_option maxRecDepth 20000 in
theorem lmX1_69 : q_V RX1 69 mX1_nobodyWouldChange 1 := ⟨TB_at 709 (by decide +kernel) (by decide), ⟨TB_at 711 (by decide +kernel) (by decide), TB_at 15 (by decide +kernel) (by decide)⟩, lc_mX1_nobodyWouldChange, ⟨by decide +kernel, by decide +kernel, by decide +kernel⟩⟩
set_option maxRecDepth 20000 in
theorem lmL_85 : q_V RL 85 mX7_plot 4 := ⟨TB_at 713 (by decide +kernel) (by decide), ⟨TB_at 714 (by decide +kernel) (by decide), TB_at 715 (by decide +kernel) (by decide)⟩, lc_mX7_plot, ⟨by decide +kernel, by decide +kernel, by decide +kernel⟩⟩
set_option maxRecDepth 20000 in
theorem lmX7_240 : q_V RX7 240 mX6_hasAll 1 := ⟨TB_at 717 (by decide +kernel) (by decide), ⟨TB_at 718 (by decide +kernel) (by decide), TB_at 719 (by decide +kernel) (by decide)⟩, lc_mX6_hasAll, ⟨by decide +kernel, by decide +kernel, by decide +kernel⟩⟩
set_option maxRecDepth 20000 in
theorem lmX6_51 : q_V RX6 51 mX6_everyone 0 := ⟨TB_at 721 (by decide +kernel) (by decide), ⟨TB_at 571 (by decide +kernel) (by decide), TB_at 572 (by decide +kernel) (by decide)⟩, lc_mX6_everyone, ⟨by decide +kernel, by decide +kernel, by decide +kernel⟩⟩
set_option maxRecDepth 20000 in
theorem lmX7_243 : q_S RX7 243 mX7_holds 2 := ⟨TB_at 722 (by decide +kernel) (by decide), TB_at 469 (by decide +kernel) (by decide), lc_mX7_holds, ⟨by decide +kernel, by decide +kernel, by decide +kernel⟩⟩
set_option maxRecDepth 20000 in
theorem lmX7_246 : q_V RX7 246 mX1_findPlot 3 := ⟨TB_at 723 (by decide +kernel) (by decide), ⟨TB_at 724 (by decide +kernel) (by decide), TB_at 725 (by decide +kernel) (by decide)⟩, lc_mX1_findPlot, ⟨by decide +kernel, by decide +kernel, by decide +kernel⟩⟩
set_option maxRecDepth 20000 in
theorem lmX1_73 : q_S RX1 73 mJ6_bitCount_0f7a4 1 := ⟨TB_at 727 (by decide +kernel) (by decide), TB_at 608 (by decide +kernel) (by decide), lc_mJ6_bitCount_0f7a4, ⟨by decide +kernel, by decide +kernel, by decide +kernel⟩⟩
set_option maxRecDepth 20000 in
theorem lmX1_79 : q_V RX1 79 mX1_keepStill 1 := ⟨TB_at 728 (by decide +kernel) (by decide), ⟨TB_at 730 (by decide +kernel) (by decide), TB_at 16 (by decide +kernel) (by decide)⟩, lc_mX1_keepStill, ⟨by decide +kernel, by decide +kernel, by decide +kernel⟩⟩
set_option maxRecDepth 20000 in
theorem lmX1_86 : q_SN RX1 86 mX7_holds 2 := ⟨⟨_, List.mem_of_getElem? (i := 732) (by rfl)⟩, TB_at 469 (by decide +kernel) (by decide), lc_mX7_holds, ⟨by decide +kernel, by decide +kernel, by decide +kernel⟩⟩
set_option maxRecDepth 20000 in
theorem lmX1_83 : q_V RX1 83 mX2_stoodAt 1 := ⟨TB_at 733 (by decide +kernel) (by decide), ⟨TB_at 652 (by decide +kernel) (by decide), TB_at 653 (by decide +kernel) (by decide)⟩, lc_mX2_stoodAt, ⟨by decide +kernel, by decide +kernel, by decide +kernel⟩⟩
set_option maxRecDepth 20000 in
theorem lmL_89 : q_V RL 89 mX7_price 1 := ⟨TB_at 734 (by decide +kernel) (by decide), ⟨TB_at 735 (by decide +kernel) (by decide), TB_at 736 (by decide +kernel) (by decide)⟩, lc_mX7_price, ⟨by decide +kernel, by decide +kernel, by decide +kernel⟩⟩
set_option maxRecDepth 20000 in
theorem lmX7_252 : q_V RX7 252 mX6_greatestWorth 1 := ⟨TB_at 738 (by decide +kernel) (by decide), ⟨TB_at 739 (by decide +kernel) (by decide), TB_at 740 (by decide +kernel) (by decide)⟩, lc_mX6_greatestWorth, ⟨by decide +kernel, by decide +kernel, by decide +kernel⟩⟩
set_option maxRecDepth 20000 in
theorem lmX6_68 : q_S RX6 68 mJ9_max_7cf53 2 := ⟨TB_at 742 (by decide +kernel) (by decide), TB_at 743 (by decide +kernel) (by decide), lc_mJ9_max_7cf53, ⟨by decide +kernel, by decide +kernel, by decide +kernel⟩⟩
set_option maxRecDepth 20000 in
theorem lmL_93 : q_V RL 93 mX7_laid 4 := ⟨TB_at 745 (by decide +kernel) (by decide), ⟨TB_at 746 (by decide +kernel) (by decide), TB_at 747 (by decide +kernel) (by decide)⟩, lc_mX7_laid, ⟨by decide +kernel, by decide +kernel, by decide +kernel⟩⟩
set_option maxRecDepth 20000 in
theorem lmX7_258 : q_V RX7 258 mX1_findLaid 3 := ⟨TB_at 749 (by decide +kernel) (by decide), ⟨TB_at 750 (by decide +kernel) (by decide), TB_at 751 (by decide +kernel) (by decide)⟩, lc_mX1_findLaid, ⟨by decide +kernel, by decide +kernel, by decide +kernel⟩⟩
set_option maxRecDepth 20000 in
theorem lmX1_96 : q_V RX1 96 mX2_spread 0 := ⟨TB_at 753 (by decide +kernel) (by decide), ⟨TB_at 754 (by decide +kernel) (by decide), TB_at 755 (by decide +kernel) (by decide)⟩, lc_mX2_spread, ⟨by decide +kernel, by decide +kernel, by decide +kernel⟩⟩
set_option maxRecDepth 20000 in
theorem lmX2_97 : q_S RX2 97 mJ9_max_7cf53 2 := ⟨TB_at 757 (by decide +kernel) (by decide), TB_at 743 (by decide +kernel) (by decide), lc_mJ9_max_7cf53, ⟨by decide +kernel, by decide +kernel, by decide +kernel⟩⟩
set_option maxRecDepth 20000 in
theorem lmX2_102 : q_S RX2 102 mJ9_min_7cf53 2 := ⟨TB_at 758 (by decide +kernel) (by decide), TB_at 759 (by decide +kernel) (by decide), lc_mJ9_min_7cf53, ⟨by decide +kernel, by decide +kernel, by decide +kernel⟩⟩
set_option maxRecDepth 20000 in
theorem lmL_97 : q_V RL 97 mX7_left 2 := ⟨TB_at 761 (by decide +kernel) (by decide), ⟨TB_at 762 (by decide +kernel) (by decide), TB_at 763 (by decide +kernel) (by decide)⟩, lc_mX7_left, ⟨by decide +kernel, by decide +kernel, by decide +kernel⟩⟩
set_option maxRecDepth 20000 in
theorem lmX7_261 : q_V RX7 261 mX2_playRounds 1 := ⟨TB_at 765 (by decide +kernel) (by decide), ⟨TB_at 766 (by decide +kernel) (by decide), TB_at 767 (by decide +kernel) (by decide)⟩, lc_mX2_playRounds, ⟨by decide +kernel, by decide +kernel, by decide +kernel⟩⟩
set_option maxRecDepth 20000 in
theorem lmX2_105 : q_V RX2 105 mX2_asTold 0 := ⟨TB_at 769 (by decide +kernel) (by decide), ⟨TB_at 646 (by decide +kernel) (by decide), TB_at 647 (by decide +kernel) (by decide)⟩, lc_mX2_asTold, ⟨by decide +kernel, by decide +kernel, by decide +kernel⟩⟩
set_option maxRecDepth 20000 in
theorem lmX2_108 : q_S RX2 108 mJ6_bitCount_0f7a4 1 := ⟨TB_at 770 (by decide +kernel) (by decide), TB_at 608 (by decide +kernel) (by decide), lc_mJ6_bitCount_0f7a4, ⟨by decide +kernel, by decide +kernel, by decide +kernel⟩⟩
set_option maxRecDepth 20000 in
theorem lmX2_114 : q_V RX2 114 mX2_stoodAt 1 := ⟨TB_at 771 (by decide +kernel) (by decide), ⟨TB_at 652 (by decide +kernel) (by decide), TB_at 653 (by decide +kernel) (by decide)⟩, lc_mX2_stoodAt, ⟨by decide +kernel, by decide +kernel, by decide +kernel⟩⟩
set_option maxRecDepth 20000 in
theorem lmL_101 : q_V RL 101 mX7_seen 2 := ⟨TB_at 772 (by decide +kernel) (by decide), ⟨TB_at 773 (by decide +kernel) (by decide), TB_at 774 (by decide +kernel) (by decide)⟩, lc_mX7_seen, ⟨by decide +kernel, by decide +kernel, by decide +kernel⟩⟩
set_option maxRecDepth 20000 in
theorem lmX7_267 : q_V RX7 267 mX4_add 2 := ⟨TB_at 776 (by decide +kernel) (by decide), ⟨TB_at 777 (by decide +kernel) (by decide), TB_at 778 (by decide +kernel) (by decide)⟩, lc_mX4_add, ⟨by decide +kernel, by decide +kernel, by decide +kernel⟩⟩
set_option maxRecDepth 20000 in
theorem lmL_105 : q_V RL 105 mX7_forget 0 := ⟨TB_at 780 (by decide +kernel) (by decide), ⟨TB_at 781 (by decide +kernel) (by decide), TB_at 782 (by decide +kernel) (by decide)⟩, lc_mX7_forget, ⟨by decide +kernel, by decide +kernel, by decide +kernel⟩⟩
set_option maxRecDepth 20000 in
theorem lmL_109 : q_V RL 109 mX7_fits 1 := ⟨TB_at 784 (by decide +kernel) (by decide), ⟨TB_at 785 (by decide +kernel) (by decide), TB_at 786 (by decide +kernel) (by decide)⟩, lc_mX7_fits, ⟨by decide +kernel, by decide +kernel, by decide +kernel⟩⟩
set_option maxRecDepth 20000 in
theorem lmX7_270 : q_V RX7 270 mX1_findFits 1 := ⟨TB_at 788 (by decide +kernel) (by decide), ⟨TB_at 789 (by decide +kernel) (by decide), TB_at 790 (by decide +kernel) (by decide)⟩, lc_mX1_findFits, ⟨by decide +kernel, by decide +kernel, by decide +kernel⟩⟩
set_option maxRecDepth 20000 in
theorem lmX1_99 : q_V RX1 99 mX4_fit 1 := ⟨TB_at 792 (by decide +kernel) (by decide), ⟨TB_at 793 (by decide +kernel) (by decide), TB_at 794 (by decide +kernel) (by decide)⟩, lc_mX4_fit, ⟨by decide +kernel, by decide +kernel, by decide +kernel⟩⟩
set_option maxRecDepth 20000 in
theorem lmX1_104 : q_V RX1 104 mX2_minutesLike 3 := ⟨TB_at 796 (by decide +kernel) (by decide), ⟨TB_at 674 (by decide +kernel) (by decide), TB_at 675 (by decide +kernel) (by decide)⟩, lc_mX2_minutesLike, ⟨by decide +kernel, by decide +kernel, by decide +kernel⟩⟩
set_option maxRecDepth 20000 in
theorem lmL_113 : q_V RL 113 mX7_count 1 := ⟨TB_at 797 (by decide +kernel) (by decide), ⟨TB_at 798 (by decide +kernel) (by decide), TB_at 799 (by decide +kernel) (by decide)⟩, lc_mX7_count, ⟨by decide +kernel, by decide +kernel, by decide +kernel⟩⟩
theorem lqL_10 : Cond.classLink RL 10 RX8 ∈ TB := TB_at 801 (by decide +kernel) (by decide)
set_option maxRecDepth 20000 in
theorem lmL_12 : q_I RL 12 mX8_init 0 := ⟨TB_at 803 (by decide +kernel) (by decide), ⟨TB_at 804 (by decide +kernel) (by decide), rfl⟩, lc_mX8_init, ⟨by decide +kernel, by decide +kernel, by decide +kernel⟩⟩
set_option maxRecDepth 20000 in
theorem lmX8_63 : q_V RX8 63 mX8_begin 0 := ⟨TB_at 807 (by decide +kernel) (by decide), ⟨TB_at 809 (by decide +kernel) (by decide), TB_at 17 (by decide +kernel) (by decide)⟩, lc_mX8_begin, ⟨by decide +kernel, by decide +kernel, by decide +kernel⟩⟩
theorem lkX8_66 : Cond.constantLong RX8 66 (9 : Int64) ∈ TB := TB_at 811 (by decide +kernel) (by decide)
theorem lkX8_68 : Cond.constantLong RX8 68 (20 : Int64) ∈ TB := TB_at 812 (by decide +kernel) (by decide)
set_option maxRecDepth 20000 in
theorem lmX8_70 : q_S RX8 70 mX8_in 3 := ⟨TB_at 813 (by decide +kernel) (by decide), TB_at 814 (by decide +kernel) (by decide), lc_mX8_in, ⟨by decide +kernel, by decide +kernel, by decide +kernel⟩⟩
theorem lfX8_7 : q_F RX8 7 8 0 := ⟨RX8, TX8, 31, rfl, by decide, TB_at 816 (by decide +kernel) (by decide)⟩
theorem lfX8_13 : q_F RX8 13 8 1 := ⟨RX8, TX8, 31, rfl, by decide, TB_at 817 (by decide +kernel) (by decide)⟩
theorem lfX8_17 : q_F RX8 17 8 2 := ⟨RX8, TX8, 31, rfl, by decide, TB_at 818 (by decide +kernel) (by decide)⟩
theorem lfX8_79 : q_F RX8 79 8 3 := ⟨RX8, TX8, 31, rfl, by decide, TB_at 819 (by decide +kernel) (by decide)⟩
theorem lfX8_20 : q_F RX8 20 8 4 := ⟨RX8, TX8, 31, rfl, by decide, TB_at 820 (by decide +kernel) (by decide)⟩
theorem lfX8_114 : q_F RX8 114 8 5 := ⟨RX8, TX8, 31, rfl, by decide, TB_at 821 (by decide +kernel) (by decide)⟩
theorem lfX8_23 : q_F RX8 23 8 6 := ⟨RX8, TX8, 31, rfl, by decide, TB_at 822 (by decide +kernel) (by decide)⟩
theorem lfX8_154 : q_F RX8 154 8 7 := ⟨RX8, TX8, 31, rfl, by decide, TB_at 823 (by decide +kernel) (by decide)⟩
theorem lfX8_27 : q_F RX8 27 8 8 := ⟨RX8, TX8, 31, rfl, by decide, TB_at 824 (by decide +kernel) (by decide)⟩
theorem lfX8_30 : q_F RX8 30 8 9 := ⟨RX8, TX8, 31, rfl, by decide, TB_at 825 (by decide +kernel) (by decide)⟩
theorem lfX8_33 : q_F RX8 33 8 10 := ⟨RX8, TX8, 31, rfl, by decide, TB_at 826 (by decide +kernel) (by decide)⟩
theorem lfX8_36 : q_F RX8 36 8 11 := ⟨RX8, TX8, 31, rfl, by decide, TB_at 827 (by decide +kernel) (by decide)⟩
theorem lfX8_39 : q_F RX8 39 8 12 := ⟨RX8, TX8, 31, rfl, by decide, TB_at 828 (by decide +kernel) (by decide)⟩
theorem lfX8_74 : q_F RX8 74 8 13 := ⟨RX8, TX8, 31, rfl, by decide, TB_at 829 (by decide +kernel) (by decide)⟩
theorem lfX8_84 : q_F RX8 84 8 14 := ⟨RX8, TX8, 31, rfl, by decide, TB_at 830 (by decide +kernel) (by decide)⟩
theorem lfX8_87 : q_F RX8 87 8 15 := ⟨RX8, TX8, 31, rfl, by decide, TB_at 831 (by decide +kernel) (by decide)⟩
theorem lfX8_94 : q_F RX8 94 8 16 := ⟨RX8, TX8, 31, rfl, by decide, TB_at 832 (by decide +kernel) (by decide)⟩
theorem lfX8_120 : q_F RX8 120 8 17 := ⟨RX8, TX8, 31, rfl, by decide, TB_at 833 (by decide +kernel) (by decide)⟩
theorem lfX8_127 : q_F RX8 127 8 18 := ⟨RX8, TX8, 31, rfl, by decide, TB_at 834 (by decide +kernel) (by decide)⟩
theorem lfX8_148 : q_F RX8 148 8 19 := ⟨RX8, TX8, 31, rfl, by decide, TB_at 835 (by decide +kernel) (by decide)⟩
theorem lfX8_42 : q_F RX8 42 8 20 := ⟨RX8, TX8, 31, rfl, by decide, TB_at 836 (by decide +kernel) (by decide)⟩
theorem lfX8_45 : q_F RX8 45 8 21 := ⟨RX8, TX8, 31, rfl, by decide, TB_at 837 (by decide +kernel) (by decide)⟩
theorem lfX8_48 : q_F RX8 48 8 22 := ⟨RX8, TX8, 31, rfl, by decide, TB_at 838 (by decide +kernel) (by decide)⟩
theorem lfX8_186 : q_F RX8 186 8 23 := ⟨RX8, TX8, 31, rfl, by decide, TB_at 839 (by decide +kernel) (by decide)⟩
theorem lfX8_189 : q_F RX8 189 8 24 := ⟨RX8, TX8, 31, rfl, by decide, TB_at 840 (by decide +kernel) (by decide)⟩
theorem lfX8_192 : q_F RX8 192 8 25 := ⟨RX8, TX8, 31, rfl, by decide, TB_at 841 (by decide +kernel) (by decide)⟩
theorem lfX8_51 : q_F RX8 51 8 26 := ⟨RX8, TX8, 31, rfl, by decide, TB_at 842 (by decide +kernel) (by decide)⟩
theorem lfX8_54 : q_F RX8 54 8 27 := ⟨RX8, TX8, 31, rfl, by decide, TB_at 843 (by decide +kernel) (by decide)⟩
theorem lfX8_57 : q_F RX8 57 8 28 := ⟨RX8, TX8, 31, rfl, by decide, TB_at 844 (by decide +kernel) (by decide)⟩
theorem lfX8_60 : q_F RX8 60 8 29 := ⟨RX8, TX8, 31, rfl, by decide, TB_at 845 (by decide +kernel) (by decide)⟩
theorem lfX8_167 : q_F RX8 167 8 30 := ⟨RX8, TX8, 31, rfl, by decide, TB_at 846 (by decide +kernel) (by decide)⟩
set_option maxRecDepth 20000 in
theorem lmL_19 : q_V RL 19 mX8_write 2 := ⟨TB_at 911 (by decide +kernel) (by decide), ⟨TB_at 912 (by decide +kernel) (by decide), TB_at 913 (by decide +kernel) (by decide)⟩, lc_mX8_write, ⟨by decide +kernel, by decide +kernel, by decide +kernel⟩⟩
theorem lkX8_77 : Cond.constantLong RX8 77 (8 : Int64) ∈ TB := TB_at 915 (by decide +kernel) (by decide)
theorem lkX8_82 : Cond.constantLong RX8 82 (255 : Int64) ∈ TB := TB_at 916 (by decide +kernel) (by decide)
set_option maxRecDepth 20000 in
theorem lmL_24 : q_V RL 24 mX8_erase 0 := ⟨TB_at 917 (by decide +kernel) (by decide), ⟨TB_at 918 (by decide +kernel) (by decide), TB_at 919 (by decide +kernel) (by decide)⟩, lc_mX8_erase, ⟨by decide +kernel, by decide +kernel, by decide +kernel⟩⟩
set_option maxRecDepth 20000 in
theorem lmL_28 : q_V RL 28 mX8_fault 0 := ⟨TB_at 921 (by decide +kernel) (by decide), ⟨TB_at 922 (by decide +kernel) (by decide), TB_at 923 (by decide +kernel) (by decide)⟩, lc_mX8_fault, ⟨by decide +kernel, by decide +kernel, by decide +kernel⟩⟩
set_option maxRecDepth 20000 in
theorem lmX8_117 : q_V RX8 117 mX8_token 0 := ⟨TB_at 925 (by decide +kernel) (by decide), ⟨TB_at 927 (by decide +kernel) (by decide), TB_at 18 (by decide +kernel) (by decide)⟩, lc_mX8_token, ⟨by decide +kernel, by decide +kernel, by decide +kernel⟩⟩
set_option maxRecDepth 20000 in
theorem lmX8_90 : q_S RX8 90 mX8_sort 1 := ⟨TB_at 929 (by decide +kernel) (by decide), TB_at 930 (by decide +kernel) (by decide), lc_mX8_sort, ⟨by decide +kernel, by decide +kernel, by decide +kernel⟩⟩
set_option maxRecDepth 20000 in
theorem lmX8_157 : q_V RX8 157 mX8_readsLine 0 := ⟨TB_at 932 (by decide +kernel) (by decide), ⟨TB_at 934 (by decide +kernel) (by decide), TB_at 19 (by decide +kernel) (by decide)⟩, lc_mX8_readsLine, ⟨by decide +kernel, by decide +kernel, by decide +kernel⟩⟩
set_option maxRecDepth 20000 in
theorem lmX8_141 : q_V RX8 141 mX8_wordOf 0 := ⟨TB_at 936 (by decide +kernel) (by decide), ⟨TB_at 938 (by decide +kernel) (by decide), TB_at 20 (by decide +kernel) (by decide)⟩, lc_mX8_wordOf, ⟨by decide +kernel, by decide +kernel, by decide +kernel⟩⟩
set_option maxRecDepth 20000 in
theorem lmX8_104 : q_V RX8 104 mX8_guestWord 0 := ⟨TB_at 940 (by decide +kernel) (by decide), ⟨TB_at 942 (by decide +kernel) (by decide), TB_at 21 (by decide +kernel) (by decide)⟩, lc_mX8_guestWord, ⟨by decide +kernel, by decide +kernel, by decide +kernel⟩⟩
theorem lkX8_97 : Cond.constant RX8 97 (14976400 : Int32) ∈ TB := TB_at 944 (by decide +kernel) (by decide)
set_option maxRecDepth 20000 in
theorem lmX8_98 : q_V RX8 98 mX8_isWord 2 := ⟨TB_at 945 (by decide +kernel) (by decide), ⟨TB_at 947 (by decide +kernel) (by decide), TB_at 22 (by decide +kernel) (by decide)⟩, lc_mX8_isWord, ⟨by decide +kernel, by decide +kernel, by decide +kernel⟩⟩
theorem lkX8_102 : Cond.constant RX8 102 (21439526 : Int32) ∈ TB := TB_at 949 (by decide +kernel) (by decide)
theorem lkX8_103 : Cond.constant RX8 103 (21675667 : Int32) ∈ TB := TB_at 950 (by decide +kernel) (by decide)
theorem lkX8_108 : Cond.constant RX8 108 (19170563 : Int32) ∈ TB := TB_at 951 (by decide +kernel) (by decide)
theorem lkX8_109 : Cond.constant RX8 109 (175156 : Int32) ∈ TB := TB_at 952 (by decide +kernel) (by decide)
theorem lkX8_110 : Cond.constant RX8 110 (843549166 : Int32) ∈ TB := TB_at 953 (by decide +kernel) (by decide)
set_option maxRecDepth 20000 in
theorem lmX8_144 : q_S RX8 144 mX8_isGuestWord 1 := ⟨TB_at 954 (by decide +kernel) (by decide), TB_at 955 (by decide +kernel) (by decide), lc_mX8_isGuestWord, ⟨by decide +kernel, by decide +kernel, by decide +kernel⟩⟩
theorem lkX8_137 : Cond.constantLong RX8 137 (3 : Int64) ∈ TB := TB_at 957 (by decide +kernel) (by decide)
theorem lkX8_139 : Cond.constantLong RX8 139 (6 : Int64) ∈ TB := TB_at 958 (by decide +kernel) (by decide)
set_option maxRecDepth 20000 in
theorem lmX8_151 : q_V RX8 151 mX8_readsRest 1 := ⟨TB_at 959 (by decide +kernel) (by decide), ⟨TB_at 961 (by decide +kernel) (by decide), TB_at 23 (by decide +kernel) (by decide)⟩, lc_mX8_readsRest, ⟨by decide +kernel, by decide +kernel, by decide +kernel⟩⟩
set_option maxRecDepth 20000 in
theorem lmX8_111 : q_V RX8 111 mX8_numberHere 0 := ⟨TB_at 963 (by decide +kernel) (by decide), ⟨TB_at 965 (by decide +kernel) (by decide), TB_at 24 (by decide +kernel) (by decide)⟩, lc_mX8_numberHere, ⟨by decide +kernel, by decide +kernel, by decide +kernel⟩⟩
set_option maxRecDepth 20000 in
theorem lmX8_123 : q_V RX8 123 mX8_reads 3 := ⟨TB_at 967 (by decide +kernel) (by decide), ⟨TB_at 969 (by decide +kernel) (by decide), TB_at 25 (by decide +kernel) (by decide)⟩, lc_mX8_reads, ⟨by decide +kernel, by decide +kernel, by decide +kernel⟩⟩
set_option maxRecDepth 20000 in
theorem lmX8_130 : q_S RX8 130 mX8_has 2 := ⟨TB_at 971 (by decide +kernel) (by decide), TB_at 972 (by decide +kernel) (by decide), lc_mX8_has, ⟨by decide +kernel, by decide +kernel, by decide +kernel⟩⟩
set_option maxRecDepth 20000 in
theorem lmX8_133 : q_V RX8 133 mX8_readsGuest 0 := ⟨TB_at 974 (by decide +kernel) (by decide), ⟨TB_at 976 (by decide +kernel) (by decide), TB_at 26 (by decide +kernel) (by decide)⟩, lc_mX8_readsGuest, ⟨by decide +kernel, by decide +kernel, by decide +kernel⟩⟩
set_option maxRecDepth 20000 in
theorem lmL_32 : q_V RL 32 mX8_inn 0 := ⟨TB_at 978 (by decide +kernel) (by decide), ⟨TB_at 979 (by decide +kernel) (by decide), TB_at 980 (by decide +kernel) (by decide)⟩, lc_mX8_inn, ⟨by decide +kernel, by decide +kernel, by decide +kernel⟩⟩
set_option maxRecDepth 20000 in
theorem lmX8_160 : q_V RX8 160 mX8_fault 0 := ⟨TB_at 982 (by decide +kernel) (by decide), ⟨TB_at 922 (by decide +kernel) (by decide), TB_at 923 (by decide +kernel) (by decide)⟩, lc_mX8_fault, ⟨by decide +kernel, by decide +kernel, by decide +kernel⟩⟩
set_option maxRecDepth 20000 in
theorem lmX8_163 : q_V RX8 163 mX8_tell 1 := ⟨TB_at 983 (by decide +kernel) (by decide), ⟨TB_at 985 (by decide +kernel) (by decide), TB_at 27 (by decide +kernel) (by decide)⟩, lc_mX8_tell, ⟨by decide +kernel, by decide +kernel, by decide +kernel⟩⟩
set_option maxRecDepth 20000 in
theorem lmL_37 : q_V RL 37 mX8_place 2 := ⟨TB_at 987 (by decide +kernel) (by decide), ⟨TB_at 988 (by decide +kernel) (by decide), TB_at 989 (by decide +kernel) (by decide)⟩, lc_mX8_place, ⟨by decide +kernel, by decide +kernel, by decide +kernel⟩⟩
set_option maxRecDepth 20000 in
theorem lmX8_170 : q_V RX8 170 mX8_isPlace 1 := ⟨TB_at 991 (by decide +kernel) (by decide), ⟨TB_at 993 (by decide +kernel) (by decide), TB_at 28 (by decide +kernel) (by decide)⟩, lc_mX8_isPlace, ⟨by decide +kernel, by decide +kernel, by decide +kernel⟩⟩
set_option maxRecDepth 20000 in
theorem lmL_41 : q_V RL 41 mX8_guest 2 := ⟨TB_at 995 (by decide +kernel) (by decide), ⟨TB_at 996 (by decide +kernel) (by decide), TB_at 997 (by decide +kernel) (by decide)⟩, lc_mX8_guest, ⟨by decide +kernel, by decide +kernel, by decide +kernel⟩⟩
set_option maxRecDepth 20000 in
theorem lmX8_173 : q_V RX8 173 mX8_isGuest 1 := ⟨TB_at 999 (by decide +kernel) (by decide), ⟨TB_at 1001 (by decide +kernel) (by decide), TB_at 29 (by decide +kernel) (by decide)⟩, lc_mX8_isGuest, ⟨by decide +kernel, by decide +kernel, by decide +kernel⟩⟩
set_option maxRecDepth 20000 in
theorem lmL_45 : q_V RL 45 mX8_as 2 := ⟨TB_at 1003 (by decide +kernel) (by decide), ⟨TB_at 1004 (by decide +kernel) (by decide), TB_at 1005 (by decide +kernel) (by decide)⟩, lc_mX8_as, ⟨by decide +kernel, by decide +kernel, by decide +kernel⟩⟩
theorem lkX8_180 : Cond.constantLong RX8 180 (4 : Int64) ∈ TB := TB_at 1007 (by decide +kernel) (by decide)
set_option maxRecDepth 20000 in
theorem lmX8_182 : q_V RX8 182 mX8_effort 3 := ⟨TB_at 1008 (by decide +kernel) (by decide), ⟨TB_at 1010 (by decide +kernel) (by decide), TB_at 30 (by decide +kernel) (by decide)⟩, lc_mX8_effort, ⟨by decide +kernel, by decide +kernel, by decide +kernel⟩⟩
set_option maxRecDepth 20000 in
theorem lmX8_176 : q_V RX8 176 mX8_far 2 := ⟨TB_at 1012 (by decide +kernel) (by decide), ⟨TB_at 1014 (by decide +kernel) (by decide), TB_at 31 (by decide +kernel) (by decide)⟩, lc_mX8_far, ⟨by decide +kernel, by decide +kernel, by decide +kernel⟩⟩
set_option maxRecDepth 20000 in
theorem lmL_50 : q_V RL 50 mX8_walk 1 := ⟨TB_at 1016 (by decide +kernel) (by decide), ⟨TB_at 1017 (by decide +kernel) (by decide), TB_at 1018 (by decide +kernel) (by decide)⟩, lc_mX8_walk, ⟨by decide +kernel, by decide +kernel, by decide +kernel⟩⟩
theorem lkX8_207 : Cond.constantLong RX8 207 (99 : Int64) ∈ TB := TB_at 1020 (by decide +kernel) (by decide)
set_option maxRecDepth 20000 in
theorem lmX8_209 : q_V RX8 209 mX8_walked 4 := ⟨TB_at 1021 (by decide +kernel) (by decide), ⟨TB_at 1023 (by decide +kernel) (by decide), TB_at 32 (by decide +kernel) (by decide)⟩, lc_mX8_walked, ⟨by decide +kernel, by decide +kernel, by decide +kernel⟩⟩
set_option maxRecDepth 20000 in
theorem lmL_54 : q_V RL 54 mX8_stop 0 := ⟨TB_at 1025 (by decide +kernel) (by decide), ⟨TB_at 1026 (by decide +kernel) (by decide), TB_at 1027 (by decide +kernel) (by decide)⟩, lc_mX8_stop, ⟨by decide +kernel, by decide +kernel, by decide +kernel⟩⟩
set_option maxRecDepth 20000 in
theorem lmX8_213 : q_V RX8 213 mX8_everybody 0 := ⟨TB_at 1029 (by decide +kernel) (by decide), ⟨TB_at 1031 (by decide +kernel) (by decide), TB_at 33 (by decide +kernel) (by decide)⟩, lc_mX8_everybody, ⟨by decide +kernel, by decide +kernel, by decide +kernel⟩⟩
set_option maxRecDepth 20000 in
theorem lmX8_216 : q_V RX8 216 mX8_stops 2 := ⟨TB_at 1033 (by decide +kernel) (by decide), ⟨TB_at 1035 (by decide +kernel) (by decide), TB_at 34 (by decide +kernel) (by decide)⟩, lc_mX8_stops, ⟨by decide +kernel, by decide +kernel, by decide +kernel⟩⟩
set_option maxRecDepth 20000 in
theorem lmX8_201 : q_V RX8 201 mX8_faint 0 := ⟨TB_at 1037 (by decide +kernel) (by decide), ⟨TB_at 1039 (by decide +kernel) (by decide), TB_at 35 (by decide +kernel) (by decide)⟩, lc_mX8_faint, ⟨by decide +kernel, by decide +kernel, by decide +kernel⟩⟩
set_option maxRecDepth 20000 in
theorem lmX8_204 : q_V RX8 204 mX8_seat 1 := ⟨TB_at 1041 (by decide +kernel) (by decide), ⟨TB_at 1043 (by decide +kernel) (by decide), TB_at 36 (by decide +kernel) (by decide)⟩, lc_mX8_seat, ⟨by decide +kernel, by decide +kernel, by decide +kernel⟩⟩
set_option maxRecDepth 20000 in
theorem lmX8_195 : q_V RX8 195 mX8_findsTwo 1 := ⟨TB_at 1045 (by decide +kernel) (by decide), ⟨TB_at 1047 (by decide +kernel) (by decide), TB_at 37 (by decide +kernel) (by decide)⟩, lc_mX8_findsTwo, ⟨by decide +kernel, by decide +kernel, by decide +kernel⟩⟩
set_option maxRecDepth 20000 in
theorem lmX8_198 : q_V RX8 198 mX8_takeSecond 1 := ⟨TB_at 1049 (by decide +kernel) (by decide), ⟨TB_at 1051 (by decide +kernel) (by decide), TB_at 38 (by decide +kernel) (by decide)⟩, lc_mX8_takeSecond, ⟨by decide +kernel, by decide +kernel, by decide +kernel⟩⟩
set_option maxRecDepth 20000 in
theorem lmX8_219 : q_S RX8 219 mX8_bits 1 := ⟨TB_at 1053 (by decide +kernel) (by decide), TB_at 1054 (by decide +kernel) (by decide), lc_mX8_bits, ⟨by decide +kernel, by decide +kernel, by decide +kernel⟩⟩
set_option maxRecDepth 20000 in
theorem lmL_58 : q_V RL 58 mX8_play 0 := ⟨TB_at 1056 (by decide +kernel) (by decide), ⟨TB_at 1057 (by decide +kernel) (by decide), TB_at 1058 (by decide +kernel) (by decide)⟩, lc_mX8_play, ⟨by decide +kernel, by decide +kernel, by decide +kernel⟩⟩
set_option maxRecDepth 20000 in
theorem lmL_62 : q_V RL 62 mX8_keep 1 := ⟨TB_at 1060 (by decide +kernel) (by decide), ⟨TB_at 1061 (by decide +kernel) (by decide), TB_at 1062 (by decide +kernel) (by decide)⟩, lc_mX8_keep, ⟨by decide +kernel, by decide +kernel, by decide +kernel⟩⟩
set_option maxRecDepth 20000 in
theorem lmX8_222 : q_V RX8 222 mX8_copy 2 := ⟨TB_at 1064 (by decide +kernel) (by decide), ⟨TB_at 1066 (by decide +kernel) (by decide), TB_at 39 (by decide +kernel) (by decide)⟩, lc_mX8_copy, ⟨by decide +kernel, by decide +kernel, by decide +kernel⟩⟩
set_option maxRecDepth 20000 in
theorem lmL_66 : q_V RL 66 mX8_back 1 := ⟨TB_at 1068 (by decide +kernel) (by decide), ⟨TB_at 1069 (by decide +kernel) (by decide), TB_at 1070 (by decide +kernel) (by decide)⟩, lc_mX8_back, ⟨by decide +kernel, by decide +kernel, by decide +kernel⟩⟩
set_option maxRecDepth 20000 in
theorem lmL_70 : q_V RL 70 mX8_standing 1 := ⟨TB_at 1072 (by decide +kernel) (by decide), ⟨TB_at 1073 (by decide +kernel) (by decide), TB_at 1074 (by decide +kernel) (by decide)⟩, lc_mX8_standing, ⟨by decide +kernel, by decide +kernel, by decide +kernel⟩⟩
set_option maxRecDepth 20000 in
theorem lmX8_229 : q_S RX8 229 mX8_isTime 1 := ⟨TB_at 1076 (by decide +kernel) (by decide), TB_at 1077 (by decide +kernel) (by decide), lc_mX8_isTime, ⟨by decide +kernel, by decide +kernel, by decide +kernel⟩⟩
set_option maxRecDepth 20000 in
theorem lmX8_232 : q_V RX8 232 mX8_standingAt 1 := ⟨TB_at 1079 (by decide +kernel) (by decide), ⟨TB_at 1081 (by decide +kernel) (by decide), TB_at 40 (by decide +kernel) (by decide)⟩, lc_mX8_standingAt, ⟨by decide +kernel, by decide +kernel, by decide +kernel⟩⟩
set_option maxRecDepth 20000 in
theorem lmX8_226 : q_V RX8 226 mX8_layAts 1 := ⟨TB_at 1083 (by decide +kernel) (by decide), ⟨TB_at 1085 (by decide +kernel) (by decide), TB_at 41 (by decide +kernel) (by decide)⟩, lc_mX8_layAts, ⟨by decide +kernel, by decide +kernel, by decide +kernel⟩⟩
set_option maxRecDepth 20000 in
theorem lmL_75 : q_V RL 75 mX8_odds 4 := ⟨TB_at 1087 (by decide +kernel) (by decide), ⟨TB_at 1088 (by decide +kernel) (by decide), TB_at 1089 (by decide +kernel) (by decide)⟩, lc_mX8_odds, ⟨by decide +kernel, by decide +kernel, by decide +kernel⟩⟩
set_option maxRecDepth 20000 in
theorem lmX8_235 : q_S RX8 235 mX8_isSpan 2 := ⟨TB_at 1091 (by decide +kernel) (by decide), TB_at 1092 (by decide +kernel) (by decide), lc_mX8_isSpan, ⟨by decide +kernel, by decide +kernel, by decide +kernel⟩⟩
set_option maxRecDepth 20000 in
theorem lmX8_238 : q_V RX8 238 mX8_minutesOf 3 := ⟨TB_at 1094 (by decide +kernel) (by decide), ⟨TB_at 1096 (by decide +kernel) (by decide), TB_at 42 (by decide +kernel) (by decide)⟩, lc_mX8_minutesOf, ⟨by decide +kernel, by decide +kernel, by decide +kernel⟩⟩
set_option maxRecDepth 20000 in
theorem lmL_79 : q_V RL 79 mX8_surest 4 := ⟨TB_at 1098 (by decide +kernel) (by decide), ⟨TB_at 1099 (by decide +kernel) (by decide), TB_at 1100 (by decide +kernel) (by decide)⟩, lc_mX8_surest, ⟨by decide +kernel, by decide +kernel, by decide +kernel⟩⟩
theorem lkX8_241 : Cond.constantLong RX8 241 (2 : Int64) ∈ TB := TB_at 1102 (by decide +kernel) (by decide)
set_option maxRecDepth 20000 in
theorem lmL_84 : q_V RL 84 mX8_still 3 := ⟨TB_at 1103 (by decide +kernel) (by decide), ⟨TB_at 1104 (by decide +kernel) (by decide), TB_at 1105 (by decide +kernel) (by decide)⟩, lc_mX8_still, ⟨by decide +kernel, by decide +kernel, by decide +kernel⟩⟩
set_option maxRecDepth 20000 in
theorem lmX8_243 : q_V RX8 243 mX8_savePaces 0 := ⟨TB_at 1107 (by decide +kernel) (by decide), ⟨TB_at 1109 (by decide +kernel) (by decide), TB_at 43 (by decide +kernel) (by decide)⟩, lc_mX8_savePaces, ⟨by decide +kernel, by decide +kernel, by decide +kernel⟩⟩
set_option maxRecDepth 20000 in
theorem lmX8_246 : q_V RX8 246 mX8_layStands 3 := ⟨TB_at 1111 (by decide +kernel) (by decide), ⟨TB_at 1113 (by decide +kernel) (by decide), TB_at 44 (by decide +kernel) (by decide)⟩, lc_mX8_layStands, ⟨by decide +kernel, by decide +kernel, by decide +kernel⟩⟩
set_option maxRecDepth 20000 in
theorem lmX8_250 : q_V RX8 250 mX8_restorePaces 0 := ⟨TB_at 1115 (by decide +kernel) (by decide), ⟨TB_at 1117 (by decide +kernel) (by decide), TB_at 45 (by decide +kernel) (by decide)⟩, lc_mX8_restorePaces, ⟨by decide +kernel, by decide +kernel, by decide +kernel⟩⟩
set_option maxRecDepth 20000 in
theorem lmX8_253 : q_V RX8 253 mX8_isStill 1 := ⟨TB_at 1119 (by decide +kernel) (by decide), ⟨TB_at 1121 (by decide +kernel) (by decide), TB_at 46 (by decide +kernel) (by decide)⟩, lc_mX8_isStill, ⟨by decide +kernel, by decide +kernel, by decide +kernel⟩⟩
set_option maxRecDepth 20000 in
theorem lmL_88 : q_V RL 88 mX8_plot 4 := ⟨TB_at 1123 (by decide +kernel) (by decide), ⟨TB_at 1124 (by decide +kernel) (by decide), TB_at 1125 (by decide +kernel) (by decide)⟩, lc_mX8_plot, ⟨by decide +kernel, by decide +kernel, by decide +kernel⟩⟩
set_option maxRecDepth 20000 in
theorem lmL_92 : q_V RL 92 mX8_price 1 := ⟨TB_at 1127 (by decide +kernel) (by decide), ⟨TB_at 1128 (by decide +kernel) (by decide), TB_at 1129 (by decide +kernel) (by decide)⟩, lc_mX8_price, ⟨by decide +kernel, by decide +kernel, by decide +kernel⟩⟩
set_option maxRecDepth 20000 in
theorem lmL_96 : q_V RL 96 mX8_laid 4 := ⟨TB_at 1131 (by decide +kernel) (by decide), ⟨TB_at 1132 (by decide +kernel) (by decide), TB_at 1133 (by decide +kernel) (by decide)⟩, lc_mX8_laid, ⟨by decide +kernel, by decide +kernel, by decide +kernel⟩⟩
set_option maxRecDepth 20000 in
theorem lmX8_256 : q_V RX8 256 mX8_apart 3 := ⟨TB_at 1135 (by decide +kernel) (by decide), ⟨TB_at 1137 (by decide +kernel) (by decide), TB_at 47 (by decide +kernel) (by decide)⟩, lc_mX8_apart, ⟨by decide +kernel, by decide +kernel, by decide +kernel⟩⟩
set_option maxRecDepth 20000 in
theorem lmL_100 : q_V RL 100 mX8_left 2 := ⟨TB_at 1139 (by decide +kernel) (by decide), ⟨TB_at 1140 (by decide +kernel) (by decide), TB_at 1141 (by decide +kernel) (by decide)⟩, lc_mX8_left, ⟨by decide +kernel, by decide +kernel, by decide +kernel⟩⟩
set_option maxRecDepth 20000 in
theorem lmX8_259 : q_S RX8 259 mX8_leastOf 1 := ⟨TB_at 1143 (by decide +kernel) (by decide), TB_at 1144 (by decide +kernel) (by decide), lc_mX8_leastOf, ⟨by decide +kernel, by decide +kernel, by decide +kernel⟩⟩
set_option maxRecDepth 20000 in
theorem lmL_104 : q_V RL 104 mX8_seen 2 := ⟨TB_at 1146 (by decide +kernel) (by decide), ⟨TB_at 1147 (by decide +kernel) (by decide), TB_at 1148 (by decide +kernel) (by decide)⟩, lc_mX8_seen, ⟨by decide +kernel, by decide +kernel, by decide +kernel⟩⟩
set_option maxRecDepth 20000 in
theorem lmL_108 : q_V RL 108 mX8_forget 0 := ⟨TB_at 1150 (by decide +kernel) (by decide), ⟨TB_at 1151 (by decide +kernel) (by decide), TB_at 1152 (by decide +kernel) (by decide)⟩, lc_mX8_forget, ⟨by decide +kernel, by decide +kernel, by decide +kernel⟩⟩
set_option maxRecDepth 20000 in
theorem lmL_112 : q_V RL 112 mX8_fits 1 := ⟨TB_at 1154 (by decide +kernel) (by decide), ⟨TB_at 1155 (by decide +kernel) (by decide), TB_at 1156 (by decide +kernel) (by decide)⟩, lc_mX8_fits, ⟨by decide +kernel, by decide +kernel, by decide +kernel⟩⟩
set_option maxRecDepth 20000 in
theorem lmL_116 : q_V RL 116 mX8_count 1 := ⟨TB_at 1158 (by decide +kernel) (by decide), ⟨TB_at 1159 (by decide +kernel) (by decide), TB_at 1160 (by decide +kernel) (by decide)⟩, lc_mX8_count, ⟨by decide +kernel, by decide +kernel, by decide +kernel⟩⟩
theorem lkL_13 : Cond.constantLong RL 13 (4294967295 : Int64) ∈ TB := TB_at 1162 (by decide +kernel) (by decide)
theorem ib0 : Cond.instantiable RX0 8 ∈ TB := TB_at 263 (by decide +kernel) (by decide)
theorem ii0 : Cond.initialized RX0 ∈ TB := TB_at 55 (by decide +kernel) (by decide)
theorem iw0 : ∀ w ∈ u_ws RX0 TX0 8, w ∈ TB := by
  have h : ∀ w ∈ u_ws RX0 TX0 8, w ∈ lw_tbl ∧ goodWord w = true := by decide +kernel
  exact fun w hw => List.mem_filter.mpr ⟨(h w hw).1, (h w hw).2⟩
theorem ib1 : Cond.instantiable RX1 7 ∈ TB := TB_at 231 (by decide +kernel) (by decide)
theorem ii1 : Cond.initialized RX1 ∈ TB := TB_at 54 (by decide +kernel) (by decide)
theorem iw1 : ∀ w ∈ u_ws RX1 TX1 7, w ∈ TB := by
  have h : ∀ w ∈ u_ws RX1 TX1 7, w ∈ lw_tbl ∧ goodWord w = true := by decide +kernel
  exact fun w hw => List.mem_filter.mpr ⟨(h w hw).1, (h w hw).2⟩
theorem ib2 : Cond.instantiable RX2 7 ∈ TB := TB_at 197 (by decide +kernel) (by decide)
theorem ii2 : Cond.initialized RX2 ∈ TB := TB_at 53 (by decide +kernel) (by decide)
theorem iw2 : ∀ w ∈ u_ws RX2 TX2 7, w ∈ TB := by
  have h : ∀ w ∈ u_ws RX2 TX2 7, w ∈ lw_tbl ∧ goodWord w = true := by decide +kernel
  exact fun w hw => List.mem_filter.mpr ⟨(h w hw).1, (h w hw).2⟩
theorem ib3 : Cond.instantiable RX3 6 ∈ TB := TB_at 167 (by decide +kernel) (by decide)
theorem ii3 : Cond.initialized RX3 ∈ TB := TB_at 52 (by decide +kernel) (by decide)
theorem iw3 : ∀ w ∈ u_ws RX3 TX3 6, w ∈ TB := by
  have h : ∀ w ∈ u_ws RX3 TX3 6, w ∈ lw_tbl ∧ goodWord w = true := by decide +kernel
  exact fun w hw => List.mem_filter.mpr ⟨(h w hw).1, (h w hw).2⟩
theorem ib4 : Cond.instantiable RX4 3 ∈ TB := TB_at 304 (by decide +kernel) (by decide)
theorem ii4 : Cond.initialized RX4 ∈ TB := TB_at 57 (by decide +kernel) (by decide)
theorem iw4 : ∀ w ∈ u_ws RX4 TX4 3, w ∈ TB := by
  have h : ∀ w ∈ u_ws RX4 TX4 3, w ∈ lw_tbl ∧ goodWord w = true := by decide +kernel
  exact fun w hw => List.mem_filter.mpr ⟨(h w hw).1, (h w hw).2⟩
theorem ib5 : Cond.instantiable RX5 8 ∈ TB := TB_at 131 (by decide +kernel) (by decide)
theorem ii5 : Cond.initialized RX5 ∈ TB := TB_at 51 (by decide +kernel) (by decide)
theorem iw5 : ∀ w ∈ u_ws RX5 TX5 8, w ∈ TB := by
  have h : ∀ w ∈ u_ws RX5 TX5 8, w ∈ lw_tbl ∧ goodWord w = true := by decide +kernel
  exact fun w hw => List.mem_filter.mpr ⟨(h w hw).1, (h w hw).2⟩
theorem ib6 : Cond.instantiable RX6 8 ∈ TB := TB_at 75 (by decide +kernel) (by decide)
theorem ii6 : Cond.initialized RX6 ∈ TB := TB_at 50 (by decide +kernel) (by decide)
theorem iw6 : ∀ w ∈ u_ws RX6 TX6 8, w ∈ TB := by
  have h : ∀ w ∈ u_ws RX6 TX6 8, w ∈ lw_tbl ∧ goodWord w = true := by decide +kernel
  exact fun w hw => List.mem_filter.mpr ⟨(h w hw).1, (h w hw).2⟩
theorem ib7 : Cond.instantiable RX7 9 ∈ TB := TB_at 67 (by decide +kernel) (by decide)
theorem ii7 : Cond.initialized RX7 ∈ TB := TB_at 49 (by decide +kernel) (by decide)
theorem iw7 : ∀ w ∈ u_ws RX7 TX7 9, w ∈ TB := by
  have h : ∀ w ∈ u_ws RX7 TX7 9, w ∈ lw_tbl ∧ goodWord w = true := by decide +kernel
  exact fun w hw => List.mem_filter.mpr ⟨(h w hw).1, (h w hw).2⟩
theorem ib8 : Cond.instantiable RX8 31 ∈ TB := TB_at 802 (by decide +kernel) (by decide)
theorem ii8 : Cond.initialized RX8 ∈ TB := TB_at 58 (by decide +kernel) (by decide)
theorem iw8 : ∀ w ∈ u_ws RX8 TX8 31, w ∈ TB := by
  have h : ∀ w ∈ u_ws RX8 TX8 31, w ∈ lw_tbl ∧ goodWord w = true := by decide +kernel
  exact fun w hw => List.mem_filter.mpr ⟨(h w hw).1, (h w hw).2⟩
end
section
/-! A PURE MACHINE over the cells that the law makes, numbered by their making: cell k lies at base + k. A pure heap is (references, ints). QW: the kit's W, over all contexts, at a pure state. -/
abbrev QH : Type := List (List (Option Nat)) × (Nat → Nat → Int32)
abbrev QG : Type := Launch × State × va_G × (ClassId × ClassId) × (Nat → Nat) × Nat × (Nat → Int32)
def q_l (g : QG) : Launch := g.1
def q_s (g : QG) : State := g.2.1
def q_D0 (g : QG) : va_G := g.2.2.1
def q_cI (g : QG) : ClassId := g.2.2.2.1.1
def q_cZ (g : QG) : ClassId := g.2.2.2.1.2
def q_o (g : QG) : Nat → Nat := g.2.2.2.2.1
def q_L (g : QG) : Nat := g.2.2.2.2.2.1
def q_x (g : QG) : Nat → Int32 := g.2.2.2.2.2.2
def q_b (g : QG) : Nat := (q_s g).heap.size
abbrev q_y (md : MD) : MethodName := md.1
abbrev q_c (md : MD) : ByteArray := md.2.1
abbrev q_n (md : MD) : Nat := md.2.2.1
abbrev q_t (md : MD) : Option FieldType := md.2.2.2.1
abbrev q_r (md : MD) : Room := md.2.2.2.2
def q_w (md : MD) : List Cond := Cond.code (q_y md) (q_c md) (q_n md) (q_t md) :: TB
/-- a pure value's real one -/
def q_tv (g : QG) (v : Value) : Value := match v with
  | .ref k => .ref (if k < 1000 then q_b g + k else q_o g k)
  | v => v
def q_isR (ci j : Nat) : Bool := (rtab.getD ci []).getD j false
def q_fld (g : QG) (ph : QH) (k ci : Nat) : List Value := (List.range ((CL.getD ci ("", TX0, 0)).2.2)).map (fun j => if q_isR ci j = true then va_rf (((ph.1.getD k []).getD j none).map (fun q => q_b g + q)) else .int (ph.2 k j))
def q_cel (g : QG) (ph : QH) (k : Nat) : va_E := match (shp.getD k (9, 0)).1 with
  | 0 => .inl (q_cI g, (shp.getD k (9, 0)).2, .inl (ph.2 k))
  | 1 => .inl (q_cZ g, (shp.getD k (9, 0)).2, .inl (ph.2 k))
  | _ => .inr ((shp.getD k (9, 0)).2, q_fld g ph k (shp.getD k (9, 0)).2)
def q_pw (g : QG) (ph : QH) : va_W := (List.range ph.1.length).map (fun k => (q_b g + k, q_cel g ph k))
def q_A (g : QG) : Nat → Prop := fun q => q_b g ≤ q
abbrev q_T (g : QG) : List (ClassId × FieldType) := [(q_cI g, .int), (q_cZ g, .boolean)]
theorem q_pw_at {g : QG} {ph : QH} {k : Nat} (h : k < ph.1.length) : (q_pw g ph)[k]? = some (q_b g + k, q_cel g ph k) := by
  unfold q_pw
  rw [List.getElem?_map, List.getElem?_range h]
  rfl
theorem q_pw_D (g : QG) (ph : QH) : va_D (q_A g) (q_pw g ph) := by
  have key : ∀ (k : Nat) (q : Nat × va_E), (q_pw g ph)[k]? = some q → q.1 = q_b g + k := by
    intro k q hk
    unfold q_pw at hk
    rw [List.getElem?_map] at hk
    by_cases h : k < ph.1.length
    · rw [List.getElem?_range h] at hk
      cases hk
      rfl
    · rw [List.getElem?_eq_none (by rw [List.length_range]; omega)] at hk
      cases hk
  refine ⟨fun i j p q hi hj e => ?_, fun k q hk => ?_⟩
  · have := key i p hi
    have := key j q hj
    omega
  · show q_b g ≤ q.1
    rw [key k q hk]
    omega
/-- one cell changed -/
theorem q_pw_set {g : QG} {ph ph' : QH} {k : Nat} {E : va_E} (hl : ph'.1.length = ph.1.length) (hk : k < ph.1.length) (he : q_cel g ph' k = E) (ho : ∀ j, j ≠ k → q_cel g ph' j = q_cel g ph j) : (q_pw g ph).set k (q_b g + k, E) = q_pw g ph' := by
  apply List.ext_getElem?
  intro j
  by_cases hj : j = k
  · subst hj
    rw [List.getElem?_set_self (by unfold q_pw; simpa using hk), q_pw_at (by omega), he]
  · rw [List.getElem?_set_ne (Ne.symm hj)]
    by_cases h : j < ph.1.length
    · rw [q_pw_at h, q_pw_at (by omega), ho j hj]
    · rw [List.getElem?_eq_none (by unfold q_pw; simpa using h), List.getElem?_eq_none (by unfold q_pw; rw [List.length_map, List.length_range, hl]; omega)]
theorem q_pw_push {g : QG} {ph ph' : QH} {E : va_E} (hl : ph'.1.length = ph.1.length + 1) (he : q_cel g ph' ph.1.length = E) (ho : ∀ j, j < ph.1.length → q_cel g ph' j = q_cel g ph j) : q_pw g ph ++ [(q_b g + ph.1.length, E)] = q_pw g ph' := by
  apply List.ext_getElem?
  intro j
  have hlen : (q_pw g ph).length = ph.1.length := by unfold q_pw; simp
  by_cases h : j < ph.1.length
  · rw [List.getElem?_append_left (by omega), q_pw_at h, q_pw_at (by omega), ho j h]
  · rw [List.getElem?_append_right (by omega), hlen]
    by_cases h2 : j = ph.1.length
    · subst h2
      rw [Nat.sub_self, q_pw_at (by omega), he]
      rfl
    · rw [List.getElem?_eq_none (by simp; omega), List.getElem?_eq_none (by unfold q_pw; rw [List.length_map, List.length_range, hl]; omega)]
/-- ints of a heap, one changed -/
def q_up (h : Nat → Nat → Int32) (k j : Nat) (v : Int32) : Nat → Nat → Int32 := fun q => if q = k then upd (h k) j v else h q
def q_upA (h : Nat → Nat → Int32) (k : Nat) (f : Nat → Int32) : Nat → Nat → Int32 := fun q => if q = k then f else h q
/-- the String constants: their places in Text's pool, texts, lengths, bytes; String i is the old cell 2000 + i, its bytes 3000 + i -/
def q_strI : List Nat := [65, 74, 80, 82, 93, 95, 97, 99]
def q_strT : List String := ["inn", "chair", "take", "nobody", "plain", "sly", "faint", "stout"]
def q_strL : List Nat := [3, 5, 4, 6, 5, 3, 5, 5]
def q_strB : List (List Int32) := [[105, 110, 110], [99, 104, 97, 105, 114], [116, 97, 107, 101], [110, 111, 98, 111, 100, 121], [112, 108, 97, 105, 110], [115, 108, 121], [102, 97, 105, 110, 116], [115, 116, 111, 117, 116]]
def q_Str (g : QG) : Prop := (∀ i : Nat, i < 8 → vk_R RX5 (q_strI.getD i 0) (q_strT.getD i "") (q_o g (2000 + i)) (q_s g)) ∧ vk_S 8 q_strL q_strB (fun i => q_o g (2000 + i)) (fun i => q_o g (3000 + i)) (q_A g) (q_s g) (q_s g).heap ∧ va_Z "java/lang/String" "COMPACT_STRINGS" "Z" (.int 1) (q_A g) (q_s g) (q_s g).heap
/-- the tables' words that a nest mate's link needs -/
def q_GN (g : QG) : Prop := ∀ w ∈ lw_tbl, ∀ a i y h, w = Cond.methodLinkNest a i y h → va_Nw w (q_s g)
def QOK (g : QG) : Prop := va_K (q_D0 g) CL (q_T g) (q_s g) ∧ q_GN g ∧ va_X (q_o g 1000) (q_L g) (q_x g) (q_s g) (q_s g).heap ∧ q_o g 1000 < q_b g ∧ q_Str g
def QHR (g : QG) (ph : QH) (s : State) (H : Heap) (locs : List Loc) : Prop := (ph.1.length < 61 → H.size = q_b g + ph.1.length) ∧ (∀ q : Nat, q < q_b g → H[q]? = (q_s g).heap[q]?) ∧ (∀ q ∈ locs, q_b g ≤ q.base) ∧ va_P (q_D0 g) CL (q_pw g ph) H ∧ s.heap.size ≤ H.size
def QEnt (g : QG) (ph : QH) (U : State) : Prop := (q_s g).WarmedH U.vm ∧ QHR g ph U U.heap []
def QCx (g : QG) (md : MD) (p : Program) (s : State) (m : MethodId) (args : Array Value) (meth : Method) (c : Code) : Prop :=
  p.tables.exec = Jvm.exec ∧ c.code = q_c md ∧ meth.sig.returnType = q_t md ∧ c.maxLocals = q_n md ∧ s.vm.findClass (q_y md).cls = some m.cls ∧ (∀ w ∈ TB, w.before args s = true) ∧ meth.locks = false ∧ meth.name = (q_y md).name ∧ (q_s g).WarmedH s.vm ∧ (∀ q : Nat, q < q_b g → s.heap[q]? = (q_s g).heap[q]?) ∧ q_b g ≤ s.heap.size
def QLR (g : QG) (ls : Array Slot) (nL : Nat) (l : List (Option Value)) : Prop := ls.size = nL ∧ lv_wf ls ∧ ∀ (i : Nat) (v : Value), l[i]? = some (some v) → ls[i]? = some (.val (q_tv g v))
def QRet (g : QG) (md : MD) (p : Program) (e : Env) (s : State) (m : MethodId) (args : Array Value) (below : List Frame) (meth : Method) (c : Code) (Q : State → Prop) (K : Option Int32 → QH → Prop) : Prop :=
  ∀ (ph : QH) (H : Heap) (locs : List Loc) (ls : Array Slot) (pc : Nat) (v : Option Int32), QHR g ph s H locs → K v ph → (match v with | none => q_t md = none ∧ decode (q_c md) pc = .ok (.return_, 1) | some x => (∃ ty, q_t md = some ty ∧ narrow ty (.int x) = .int x) ∧ decode (q_c md) pc = .ok (.ireturn, 1)) →
    W p (q_l g) e (q_r md) s m args below meth c H locs (q_r md).cells (q_r md).slots Q (F0 m pc ls (v.toList.map Value.int))
def QW (g : QG) (md : MD) (pc : Nat) (l : List (Option Value)) (st : List Value) (ph : QH) (ce sl : Nat) (K : Option Int32 → QH → Prop) : Prop :=
  ∀ (p : Program) (e : Env) (s : State) (m : MethodId) (args : Array Value) (below : List Frame) (meth : Method) (c : Code) (H : Heap) (locs : List Loc) (ls : Array Slot) (Q : State → Prop),
    QOK g → QCx g md p s m args meth c → QHR g ph s H locs → QLR g ls (q_n md) l → QRet g md p e s m args below meth c Q K →
    W p (q_l g) e (q_r md) s m args below meth c H locs ce sl Q (F0 m pc ls (st.map (q_tv g)))
/-- a method's call -/
def QC (g : QG) (md : MD) (av : List Value) (ph : QH) (K : Option Int32 → QH → Prop) : Prop :=
  QOK g → Met (q_l g) (q_y md) (q_w md) (q_r md) (va_Pc (av.map (q_tv g)) (QEnt g ph)) (fun _ st o t => ∃ (v : Option Int32) (ph' : QH), o = .returned (v.map Value.int) ∧ K v ph' ∧ QEnt g ph' t ∧ st.heap.size ≤ t.heap.size) (q_r md).cells (q_r md).slots (q_A g)
end
section
/-! the pure machine's rows: an instruction, a row -/
section QWr
variable {g : QG} {md : MD} {pc : Nat} {l : List (Option Value)} {st : List Value} {ph : QH} {ce sl : Nat} {K : Option Int32 → QH → Prop}
theorem QW.go {pc2 : Nat} {st2 : List Value} (h : ∀ (p : Program) (e : Env) (s : State) (m : MethodId) (args : Array Value) (below : List Frame) (meth : Method) (c : Code) (H : Heap) (locs : List Loc) (ls : Array Slot) (Q : State → Prop), p.tables.exec = Jvm.exec → c.code = q_c md → (∀ (i : Nat) (v : Value), l[i]? = some (some v) → ls[i]? = some (.val (q_tv g v))) → W p (q_l g) e (q_r md) s m args below meth c H locs ce sl Q (F0 m pc2 ls (st2.map (q_tv g))) → W p (q_l g) e (q_r md) s m args below meth c H locs ce sl Q (F0 m pc ls (st.map (q_tv g))))
    (k : QW g md pc2 l st2 ph ce sl K) : QW g md pc l st ph ce sl K := fun p e s m args below meth c H locs ls Q h1 h2 h3 h4 h5 => h p e s m args below meth c H locs ls Q h2.1 h2.2.1 h4.2.2 (k p e s m args below meth c H locs ls Q h1 h2 h3 h4 h5)
/-- the same, with the tables' words -/
theorem QW.goT {pc2 : Nat} {st2 : List Value} (h : ∀ (p : Program) (e : Env) (s : State) (m : MethodId) (args : Array Value) (below : List Frame) (meth : Method) (c : Code) (H : Heap) (locs : List Loc) (ls : Array Slot) (Q : State → Prop), QOK g → QCx g md p s m args meth c → QHR g ph s H locs → ls.size = q_n md → W p (q_l g) e (q_r md) s m args below meth c H locs ce sl Q (F0 m pc2 ls (st2.map (q_tv g))) → W p (q_l g) e (q_r md) s m args below meth c H locs ce sl Q (F0 m pc ls (st.map (q_tv g))))
    (k : QW g md pc2 l st2 ph ce sl K) : QW g md pc l st ph ce sl K := fun p e s m args below meth c H locs ls Q h1 h2 h3 h4 h5 => h p e s m args below meth c H locs ls Q h1 h2 h3 h4.1 (k p e s m args below meth c H locs ls Q h1 h2 h3 h4 h5)

theorem QW.iconst {n : Int} (v : Int32) (hv : Int32.ofInt n = v) (hd : decode (q_c md) pc = .ok (.iconst n, 1)) (k : QW g md (pc + 1) l (.int v :: st) ph ce sl K) : QW g md pc l (st) ph ce sl K := QW.go (fun _ _ _ _ _ _ _ _ _ _ _ _ hx hb hl w => lv_iconst hx hb hd hv w) k
theorem QW.bipush {n : Int} (v : Int32) (hv : (Int8.ofInt n).toInt32 = v) (hd : decode (q_c md) pc = .ok (.bipush n, 2)) (k : QW g md (pc + 2) l (.int v :: st) ph ce sl K) : QW g md pc l (st) ph ce sl K := QW.go (fun _ _ _ _ _ _ _ _ _ _ _ _ hx hb hl w => lv_bipush hx hb hd hv w) k
theorem QW.sipush {n : Int} (v : Int32) (hv : (Int16.ofInt n).toInt32 = v) (hd : decode (q_c md) pc = .ok (.sipush n, 3)) (k : QW g md (pc + 3) l (.int v :: st) ph ce sl K) : QW g md pc l (st) ph ce sl K := QW.go (fun _ _ _ _ _ _ _ _ _ _ _ _ hx hb hl w => lv_sipush hx hb hd hv w) k
theorem QW.lconst {n : Fin 2} (v : Int64) (hv : Int64.ofNat (n : Nat) = v) (hd : decode (q_c md) pc = .ok (.lconst n, 1)) (k : QW g md (pc + 1) l (.long v :: st) ph ce sl K) : QW g md pc l (st) ph ce sl K := QW.go (fun _ _ _ _ _ _ _ _ _ _ _ _ hx hb hl w => lv_lconst hx hb hd hv w) k
theorem QW.iload_n {k : Fin 4} {x : Int32} (hd : decode (q_c md) pc = .ok (.iload_n k, 1)) (h0 : l[(k : Nat)]? = some (some (.int x))) (k : QW g md (pc + 1) l (.int x :: st) ph ce sl K) : QW g md pc l (st) ph ce sl K := QW.go (fun _ _ _ _ _ _ _ _ _ _ _ _ hx hb hl w => lv_iload_n hx hb hd rfl (hl _ _ h0) w) k
theorem QW.iload {k : Nat} {x : Int32} (hd : decode (q_c md) pc = .ok (.iload k, 2)) (h0 : l[(k : Nat)]? = some (some (.int x))) (k : QW g md (pc + 2) l (.int x :: st) ph ce sl K) : QW g md pc l (st) ph ce sl K := QW.go (fun _ _ _ _ _ _ _ _ _ _ _ _ hx hb hl w => lv_iload hx hb hd (hl _ _ h0) w) k
theorem QW.lload_n {k : Fin 4} {x : Int64} (hd : decode (q_c md) pc = .ok (.lload_n k, 1)) (h0 : l[(k : Nat)]? = some (some (.long x))) (k : QW g md (pc + 1) l (.long x :: st) ph ce sl K) : QW g md pc l (st) ph ce sl K := QW.go (fun _ _ _ _ _ _ _ _ _ _ _ _ hx hb hl w => lv_lload_n hx hb hd rfl (hl _ _ h0) w) k
theorem QW.lload {k : Nat} {x : Int64} (hd : decode (q_c md) pc = .ok (.lload k, 2)) (h0 : l[(k : Nat)]? = some (some (.long x))) (k : QW g md (pc + 2) l (.long x :: st) ph ce sl K) : QW g md pc l (st) ph ce sl K := QW.go (fun _ _ _ _ _ _ _ _ _ _ _ _ hx hb hl w => lv_lload hx hb hd (hl _ _ h0) w) k
theorem QW.aload_n {k : Fin 4} {x : Nat} (hd : decode (q_c md) pc = .ok (.aload_n k, 1)) (h0 : l[(k : Nat)]? = some (some (.ref x))) (k : QW g md (pc + 1) l (.ref x :: st) ph ce sl K) : QW g md pc l (st) ph ce sl K := QW.go (fun _ _ _ _ _ _ _ _ _ _ _ _ hx hb hl w => lv_aload_n hx hb hd rfl (hl _ _ h0) w) k
theorem QW.aload {k : Nat} {x : Nat} (hd : decode (q_c md) pc = .ok (.aload k, 2)) (h0 : l[(k : Nat)]? = some (some (.ref x))) (k : QW g md (pc + 2) l (.ref x :: st) ph ce sl K) : QW g md pc l (st) ph ce sl K := QW.go (fun _ _ _ _ _ _ _ _ _ _ _ _ hx hb hl w => lv_aload hx hb hd (hl _ _ h0) w) k
theorem QW.iadd {x y : Int32} (hd : decode (q_c md) pc = .ok (.iadd, 1)) (k : QW g md (pc + 1) l (.int (x + y) :: st) ph ce sl K) : QW g md pc l (.int y :: .int x :: st) ph ce sl K := QW.go (fun _ _ _ _ _ _ _ _ _ _ _ _ hx hb hl w => lv_iadd hx hb hd w) k
theorem QW.isub {x y : Int32} (hd : decode (q_c md) pc = .ok (.isub, 1)) (k : QW g md (pc + 1) l (.int (x - y) :: st) ph ce sl K) : QW g md pc l (.int y :: .int x :: st) ph ce sl K := QW.go (fun _ _ _ _ _ _ _ _ _ _ _ _ hx hb hl w => lv_isub hx hb hd w) k
theorem QW.imul {x y : Int32} (hd : decode (q_c md) pc = .ok (.imul, 1)) (k : QW g md (pc + 1) l (.int (x * y) :: st) ph ce sl K) : QW g md pc l (.int y :: .int x :: st) ph ce sl K := QW.go (fun _ _ _ _ _ _ _ _ _ _ _ _ hx hb hl w => lv_imul hx hb hd w) k
theorem QW.iand {x y : Int32} (hd : decode (q_c md) pc = .ok (.iand, 1)) (k : QW g md (pc + 1) l (.int (x &&& y) :: st) ph ce sl K) : QW g md pc l (.int y :: .int x :: st) ph ce sl K := QW.go (fun _ _ _ _ _ _ _ _ _ _ _ _ hx hb hl w => lv_iand hx hb hd w) k
theorem QW.ior {x y : Int32} (hd : decode (q_c md) pc = .ok (.ior, 1)) (k : QW g md (pc + 1) l (.int (x ||| y) :: st) ph ce sl K) : QW g md pc l (.int y :: .int x :: st) ph ce sl K := QW.go (fun _ _ _ _ _ _ _ _ _ _ _ _ hx hb hl w => lv_ior hx hb hd w) k
theorem QW.ixor {x y : Int32} (hd : decode (q_c md) pc = .ok (.ixor, 1)) (k : QW g md (pc + 1) l (.int (x ^^^ y) :: st) ph ce sl K) : QW g md pc l (.int y :: .int x :: st) ph ce sl K := QW.go (fun _ _ _ _ _ _ _ _ _ _ _ _ hx hb hl w => lv_ixor hx hb hd w) k
theorem QW.ishl {x y : Int32} (hd : decode (q_c md) pc = .ok (.ishl, 1)) (k : QW g md (pc + 1) l (.int (x <<< (y &&& 31)) :: st) ph ce sl K) : QW g md pc l (.int y :: .int x :: st) ph ce sl K := QW.go (fun _ _ _ _ _ _ _ _ _ _ _ _ hx hb hl w => lv_ishl hx hb hd w) k
theorem QW.ishr {x y : Int32} (hd : decode (q_c md) pc = .ok (.ishr, 1)) (k : QW g md (pc + 1) l (.int (x >>> (y &&& 31)) :: st) ph ce sl K) : QW g md pc l (.int y :: .int x :: st) ph ce sl K := QW.go (fun _ _ _ _ _ _ _ _ _ _ _ _ hx hb hl w => lv_ishr hx hb hd w) k
theorem QW.idiv {x y : Int32} (hne : ¬ y = 0) (hd : decode (q_c md) pc = .ok (.idiv, 1)) (k : QW g md (pc + 1) l (.int (x / y) :: st) ph ce sl K) : QW g md pc l (.int y :: .int x :: st) ph ce sl K := QW.go (fun _ _ _ _ _ _ _ _ _ _ _ _ hx hb hl w => lv_idiv hx hb hd hne w) k
theorem QW.irem {x y : Int32} (hne : ¬ y = 0) (hd : decode (q_c md) pc = .ok (.irem, 1)) (k : QW g md (pc + 1) l (.int (x - x / y * y) :: st) ph ce sl K) : QW g md pc l (.int y :: .int x :: st) ph ce sl K := QW.go (fun _ _ _ _ _ _ _ _ _ _ _ _ hx hb hl w => lv_irem hx hb hd hne w) k
theorem QW.ineg {x : Int32} (hd : decode (q_c md) pc = .ok (.ineg, 1)) (k : QW g md (pc + 1) l (.int (-x) :: st) ph ce sl K) : QW g md pc l (.int x :: st) ph ce sl K := QW.go (fun _ _ _ _ _ _ _ _ _ _ _ _ hx hb hl w => lv_ineg hx hb hd w) k
theorem QW.iushr {x y : Int32} (hd : decode (q_c md) pc = .ok (.iushr, 1)) (k : QW g md (pc + 1) l (.int ((x.toUInt32 >>> (y.toUInt32 &&& Int32.toUInt32 31)).toInt32) :: st) ph ce sl K) : QW g md pc l (.int y :: .int x :: st) ph ce sl K := QW.go (fun _ _ _ _ _ _ _ _ _ _ _ _ hx hb hl w => lv_iushr hx hb hd rfl w) k
theorem QW.land {x y : Int64} (hd : decode (q_c md) pc = .ok (.land, 1)) (k : QW g md (pc + 1) l (.long (x &&& y) :: st) ph ce sl K) : QW g md pc l (.long y :: .long x :: st) ph ce sl K := QW.go (fun _ _ _ _ _ _ _ _ _ _ _ _ hx hb hl w => lv_land hx hb hd w) k
theorem QW.lor {x y : Int64} (hd : decode (q_c md) pc = .ok (.lor, 1)) (k : QW g md (pc + 1) l (.long (x ||| y) :: st) ph ce sl K) : QW g md pc l (.long y :: .long x :: st) ph ce sl K := QW.go (fun _ _ _ _ _ _ _ _ _ _ _ _ hx hb hl w => lv_lor hx hb hd w) k
theorem QW.lshl {x : Int64} {y : Int32} (hd : decode (q_c md) pc = .ok (.lshl, 1)) (k : QW g md (pc + 1) l (.long (x <<< (y.toInt64 &&& 63)) :: st) ph ce sl K) : QW g md pc l (.int y :: .long x :: st) ph ce sl K := QW.go (fun _ _ _ _ _ _ _ _ _ _ _ _ hx hb hl w => lv_lshl hx hb hd rfl w) k
theorem QW.lshr {x : Int64} {y : Int32} (hd : decode (q_c md) pc = .ok (.lshr, 1)) (k : QW g md (pc + 1) l (.long (x >>> (y.toInt64 &&& 63)) :: st) ph ce sl K) : QW g md pc l (.int y :: .long x :: st) ph ce sl K := QW.go (fun _ _ _ _ _ _ _ _ _ _ _ _ hx hb hl w => lv_lshr hx hb hd rfl w) k
theorem QW.lcmp {x y : Int64} (hd : decode (q_c md) pc = .ok (.lcmp, 1)) (k : QW g md (pc + 1) l (.int (lg_cmp x y) :: st) ph ce sl K) : QW g md pc l (.long y :: .long x :: st) ph ce sl K := QW.go (fun _ _ _ _ _ _ _ _ _ _ _ _ hx hb hl w => W.lcmp hx hb hd w) k
theorem QW.i2l {x : Int32} (hd : decode (q_c md) pc = .ok (.i2l, 1)) (k : QW g md (pc + 1) l (.long x.toInt64 :: st) ph ce sl K) : QW g md pc l (.int x :: st) ph ce sl K := QW.go (fun _ _ _ _ _ _ _ _ _ _ _ _ hx hb hl w => lv_i2l hx hb hd rfl w) k
theorem QW.l2i {x : Int64} (hd : decode (q_c md) pc = .ok (.l2i, 1)) (k : QW g md (pc + 1) l (.int x.toInt32 :: st) ph ce sl K) : QW g md pc l (.long x :: st) ph ce sl K := QW.go (fun _ _ _ _ _ _ _ _ _ _ _ _ hx hb hl w => lv_l2i hx hb hd rfl w) k
theorem QW.i2c {x : Int32} (hd : decode (q_c md) pc = .ok (.i2c, 1)) (k : QW g md (pc + 1) l (.int (x.toUInt32 % 65536).toInt32 :: st) ph ce sl K) : QW g md pc l (.int x :: st) ph ce sl K := QW.go (fun _ _ _ _ _ _ _ _ _ _ _ _ hx hb hl w => lv_i2c hx hb hd rfl w) k
theorem QW.dupi {x : Int32} (hd : decode (q_c md) pc = .ok (.dup, 1)) (k : QW g md (pc + 1) l (.int x :: .int x :: st) ph ce sl K) : QW g md pc l (.int x :: st) ph ce sl K := QW.go (fun _ _ _ _ _ _ _ _ _ _ _ _ hx hb hl w => lv_dup hx hb hd rfl w) k
theorem QW.dupr {x : Nat} (hd : decode (q_c md) pc = .ok (.dup, 1)) (k : QW g md (pc + 1) l (.ref x :: .ref x :: st) ph ce sl K) : QW g md pc l (.ref x :: st) ph ce sl K := QW.go (fun _ _ _ _ _ _ _ _ _ _ _ _ hx hb hl w => lv_dup hx hb hd rfl w) k
theorem QW.popi {x : Int32} (hd : decode (q_c md) pc = .ok (.pop, 1)) (k : QW g md (pc + 1) l (st) ph ce sl K) : QW g md pc l (.int x :: st) ph ce sl K := QW.go (fun _ _ _ _ _ _ _ _ _ _ _ _ hx hb hl w => lv_pop hx hb hd rfl w) k
theorem QW.dup2ir {x : Int32} {y : Nat} (hd : decode (q_c md) pc = .ok (.dup2, 1)) (k : QW g md (pc + 1) l (.int x :: .ref y :: .int x :: .ref y :: st) ph ce sl K) : QW g md pc l (.int x :: .ref y :: st) ph ce sl K := QW.go (fun _ _ _ _ _ _ _ _ _ _ _ _ hx hb hl w => lv_dup2_11 hx hb hd rfl rfl w) k
theorem QW.if_eq {x : Int32} {off : Int} (tgt : Nat) (hd : decode (q_c md) pc = .ok (.ifCond .eq off, 3)) (ht : (pc : Int) + off = (tgt : Int)) (kt : x = 0 → QW g md tgt l st ph ce sl K) (kf : ¬ x = 0 → QW g md (pc + 3) l st ph ce sl K) : QW g md pc l (.int x :: st) ph ce sl K := fun p e s m args below meth c H locs ls Q h1 h2 h3 h4 h5 => lv_if_eq h2.1 h2.2.1 hd ht (fun z => kt z p e s m args below meth c H locs ls Q h1 h2 h3 h4 h5) (fun z => kf z p e s m args below meth c H locs ls Q h1 h2 h3 h4 h5)
theorem QW.icmp_eq {x y : Int32} {off : Int} (tgt : Nat) (hd : decode (q_c md) pc = .ok (.if_icmp .eq off, 3)) (ht : (pc : Int) + off = (tgt : Int)) (kt : x = y → QW g md tgt l st ph ce sl K) (kf : ¬ x = y → QW g md (pc + 3) l st ph ce sl K) : QW g md pc l (.int y :: .int x :: st) ph ce sl K := fun p e s m args below meth c H locs ls Q h1 h2 h3 h4 h5 => lv_icmp_eq h2.1 h2.2.1 hd ht (fun z => kt z p e s m args below meth c H locs ls Q h1 h2 h3 h4 h5) (fun z => kf z p e s m args below meth c H locs ls Q h1 h2 h3 h4 h5)
theorem QW.if_ne {x : Int32} {off : Int} (tgt : Nat) (hd : decode (q_c md) pc = .ok (.ifCond .ne off, 3)) (ht : (pc : Int) + off = (tgt : Int)) (kt : ¬ x = 0 → QW g md tgt l st ph ce sl K) (kf : x = 0 → QW g md (pc + 3) l st ph ce sl K) : QW g md pc l (.int x :: st) ph ce sl K := fun p e s m args below meth c H locs ls Q h1 h2 h3 h4 h5 => lv_if_ne h2.1 h2.2.1 hd ht (fun z => kt z p e s m args below meth c H locs ls Q h1 h2 h3 h4 h5) (fun z => kf z p e s m args below meth c H locs ls Q h1 h2 h3 h4 h5)
theorem QW.icmp_ne {x y : Int32} {off : Int} (tgt : Nat) (hd : decode (q_c md) pc = .ok (.if_icmp .ne off, 3)) (ht : (pc : Int) + off = (tgt : Int)) (kt : ¬ x = y → QW g md tgt l st ph ce sl K) (kf : x = y → QW g md (pc + 3) l st ph ce sl K) : QW g md pc l (.int y :: .int x :: st) ph ce sl K := fun p e s m args below meth c H locs ls Q h1 h2 h3 h4 h5 => lv_icmp_ne h2.1 h2.2.1 hd ht (fun z => kt z p e s m args below meth c H locs ls Q h1 h2 h3 h4 h5) (fun z => kf z p e s m args below meth c H locs ls Q h1 h2 h3 h4 h5)
theorem QW.if_lt {x : Int32} {off : Int} (tgt : Nat) (hd : decode (q_c md) pc = .ok (.ifCond .lt off, 3)) (ht : (pc : Int) + off = (tgt : Int)) (kt : x < 0 → QW g md tgt l st ph ce sl K) (kf : ¬ x < 0 → QW g md (pc + 3) l st ph ce sl K) : QW g md pc l (.int x :: st) ph ce sl K := fun p e s m args below meth c H locs ls Q h1 h2 h3 h4 h5 => lv_if_lt h2.1 h2.2.1 hd ht (fun z => kt z p e s m args below meth c H locs ls Q h1 h2 h3 h4 h5) (fun z => kf z p e s m args below meth c H locs ls Q h1 h2 h3 h4 h5)
theorem QW.icmp_lt {x y : Int32} {off : Int} (tgt : Nat) (hd : decode (q_c md) pc = .ok (.if_icmp .lt off, 3)) (ht : (pc : Int) + off = (tgt : Int)) (kt : x < y → QW g md tgt l st ph ce sl K) (kf : ¬ x < y → QW g md (pc + 3) l st ph ce sl K) : QW g md pc l (.int y :: .int x :: st) ph ce sl K := fun p e s m args below meth c H locs ls Q h1 h2 h3 h4 h5 => lv_icmp_lt h2.1 h2.2.1 hd ht (fun z => kt z p e s m args below meth c H locs ls Q h1 h2 h3 h4 h5) (fun z => kf z p e s m args below meth c H locs ls Q h1 h2 h3 h4 h5)
theorem QW.if_ge {x : Int32} {off : Int} (tgt : Nat) (hd : decode (q_c md) pc = .ok (.ifCond .ge off, 3)) (ht : (pc : Int) + off = (tgt : Int)) (kt : 0 ≤ x → QW g md tgt l st ph ce sl K) (kf : ¬ 0 ≤ x → QW g md (pc + 3) l st ph ce sl K) : QW g md pc l (.int x :: st) ph ce sl K := fun p e s m args below meth c H locs ls Q h1 h2 h3 h4 h5 => lv_if_ge h2.1 h2.2.1 hd ht (fun z => kt z p e s m args below meth c H locs ls Q h1 h2 h3 h4 h5) (fun z => kf z p e s m args below meth c H locs ls Q h1 h2 h3 h4 h5)
theorem QW.icmp_ge {x y : Int32} {off : Int} (tgt : Nat) (hd : decode (q_c md) pc = .ok (.if_icmp .ge off, 3)) (ht : (pc : Int) + off = (tgt : Int)) (kt : y ≤ x → QW g md tgt l st ph ce sl K) (kf : ¬ y ≤ x → QW g md (pc + 3) l st ph ce sl K) : QW g md pc l (.int y :: .int x :: st) ph ce sl K := fun p e s m args below meth c H locs ls Q h1 h2 h3 h4 h5 => lv_icmp_ge h2.1 h2.2.1 hd ht (fun z => kt z p e s m args below meth c H locs ls Q h1 h2 h3 h4 h5) (fun z => kf z p e s m args below meth c H locs ls Q h1 h2 h3 h4 h5)
theorem QW.if_gt {x : Int32} {off : Int} (tgt : Nat) (hd : decode (q_c md) pc = .ok (.ifCond .gt off, 3)) (ht : (pc : Int) + off = (tgt : Int)) (kt : 0 < x → QW g md tgt l st ph ce sl K) (kf : ¬ 0 < x → QW g md (pc + 3) l st ph ce sl K) : QW g md pc l (.int x :: st) ph ce sl K := fun p e s m args below meth c H locs ls Q h1 h2 h3 h4 h5 => lv_if_gt h2.1 h2.2.1 hd ht (fun z => kt z p e s m args below meth c H locs ls Q h1 h2 h3 h4 h5) (fun z => kf z p e s m args below meth c H locs ls Q h1 h2 h3 h4 h5)
theorem QW.icmp_gt {x y : Int32} {off : Int} (tgt : Nat) (hd : decode (q_c md) pc = .ok (.if_icmp .gt off, 3)) (ht : (pc : Int) + off = (tgt : Int)) (kt : y < x → QW g md tgt l st ph ce sl K) (kf : ¬ y < x → QW g md (pc + 3) l st ph ce sl K) : QW g md pc l (.int y :: .int x :: st) ph ce sl K := fun p e s m args below meth c H locs ls Q h1 h2 h3 h4 h5 => lv_icmp_gt h2.1 h2.2.1 hd ht (fun z => kt z p e s m args below meth c H locs ls Q h1 h2 h3 h4 h5) (fun z => kf z p e s m args below meth c H locs ls Q h1 h2 h3 h4 h5)
theorem QW.if_le {x : Int32} {off : Int} (tgt : Nat) (hd : decode (q_c md) pc = .ok (.ifCond .le off, 3)) (ht : (pc : Int) + off = (tgt : Int)) (kt : x ≤ 0 → QW g md tgt l st ph ce sl K) (kf : ¬ x ≤ 0 → QW g md (pc + 3) l st ph ce sl K) : QW g md pc l (.int x :: st) ph ce sl K := fun p e s m args below meth c H locs ls Q h1 h2 h3 h4 h5 => lv_if_le h2.1 h2.2.1 hd ht (fun z => kt z p e s m args below meth c H locs ls Q h1 h2 h3 h4 h5) (fun z => kf z p e s m args below meth c H locs ls Q h1 h2 h3 h4 h5)
theorem QW.icmp_le {x y : Int32} {off : Int} (tgt : Nat) (hd : decode (q_c md) pc = .ok (.if_icmp .le off, 3)) (ht : (pc : Int) + off = (tgt : Int)) (kt : x ≤ y → QW g md tgt l st ph ce sl K) (kf : ¬ x ≤ y → QW g md (pc + 3) l st ph ce sl K) : QW g md pc l (.int y :: .int x :: st) ph ce sl K := fun p e s m args below meth c H locs ls Q h1 h2 h3 h4 h5 => lv_icmp_le h2.1 h2.2.1 hd ht (fun z => kt z p e s m args below meth c H locs ls Q h1 h2 h3 h4 h5) (fun z => kf z p e s m args below meth c H locs ls Q h1 h2 h3 h4 h5)
theorem QW.goto {off : Int} (tgt : Nat) (hd : decode (q_c md) pc = .ok (.goto off, 3)) (ht : (pc : Int) + off = (tgt : Int)) (k : QW g md tgt l st ph ce sl K) : QW g md pc l st ph ce sl K := QW.go (fun _ _ _ _ _ _ _ _ _ _ _ _ hx hb hl w => lv_goto hx hb hd ht w) k
theorem QW.tabIn {dflt lo hi : Int} {offs : Array Int} {len : Nat} {x : Int32} {off : Int} (tgt : Nat) (hd : decode (q_c md) pc = .ok (.tableswitch dflt lo hi offs, len)) (h1 : ¬ x.toInt < lo) (h2 : ¬ hi < x.toInt) (ho : offs[(x.toInt - lo).toNat]? = some off) (ht : (pc : Int) + off = (tgt : Int)) (k : QW g md tgt l st ph ce sl K) : QW g md pc l (.int x :: st) ph ce sl K := QW.go (fun _ _ _ _ _ _ _ _ _ _ _ _ hx hb hl w => lv_tableIn hx hb hd h1 h2 ho ht w) k
theorem QW.tabOut {dflt lo hi : Int} {offs : Array Int} {len : Nat} {x : Int32} (tgt : Nat) (hd : decode (q_c md) pc = .ok (.tableswitch dflt lo hi offs, len)) (h : x.toInt < lo ∨ hi < x.toInt) (ht : (pc : Int) + dflt = (tgt : Int)) (k : QW g md tgt l st ph ce sl K) : QW g md pc l (.int x :: st) ph ce sl K := QW.go (fun _ _ _ _ _ _ _ _ _ _ _ _ hx hb hl w => lv_tableOut hx hb hd h ht w) k
/-- the known locals as the kit has them -/
def q_asc (g : QG) (l : List (Option Value)) : List (Nat × Value) := (List.range l.length).filterMap (fun i => (l.getD i none).map (fun v => (i, q_tv g v)))
theorem q_asc_mem {g : QG} {l : List (Option Value)} {i : Nat} {w : Value} : (i, w) ∈ q_asc g l ↔ ∃ v, l[i]? = some (some v) ∧ w = q_tv g v := by
  unfold q_asc
  rw [List.mem_filterMap]
  constructor
  · rintro ⟨j, hj, h⟩
    rw [List.getD_eq_getElem?_getD] at h
    cases hv : l[j]? with
    | none => rw [hv] at h; cases h
    | some o =>
      rw [hv] at h
      cases o with
      | none => cases h
      | some v =>
        cases h
        exact ⟨v, hv, rfl⟩
  · rintro ⟨v, hv, rfl⟩
    refine ⟨i, List.mem_range.mpr (List.getElem?_eq_some_iff.mp hv).1, ?_⟩
    rw [List.getD_eq_getElem?_getD, hv]
    rfl
theorem QLR.has {ls : Array Slot} {nL : Nat} (h : QLR g ls nL l) : lv_has ls nL (q_asc g l) := ⟨h.1, h.2.1, fun q hq => by
  obtain ⟨v, h1, h2⟩ := q_asc_mem.mp (show (q.1, q.2) ∈ q_asc g l from hq)
  rw [h2]
  exact h.2.2 q.1 v h1⟩
/-- no long lies just ahead of place i -/
def q_okst (l : List (Option Value)) (i : Nat) : Bool := match i with
  | 0 => true
  | i + 1 => match l[i]? with
    | some (some v) => v.category == 1
    | _ => true
theorem q_tv_cat (g : QG) (v : Value) : (q_tv g v).category = v.category := by cases v <;> rfl
theorem QLR.store {ls : Array Slot} {nL i : Nat} {v : Value} (ho : q_okst l i = true) (h : lv_has ls nL ((i, q_tv g v) :: (q_asc g l).filter (fun q => !(q.1 == i) && !(q.1 + 1 == i && q.2.category == 2)))) : QLR g ls nL (l.set i (some v)) := by
  refine ⟨h.1, h.2.1, fun j w hj => ?_⟩
  by_cases e : j = i
  · subst e
    have hl : j < l.length := by
      have := (List.getElem?_eq_some_iff.mp hj).1
      simpa using this
    rw [List.getElem?_set_self hl] at hj
    cases hj
    exact h.2.2 (j, q_tv g v) List.mem_cons_self
  · rw [List.getElem?_set_ne (Ne.symm e)] at hj
    refine h.2.2 (j, q_tv g w) (List.mem_cons_of_mem _ (List.mem_filter.mpr ⟨q_asc_mem.mpr ⟨w, hj, rfl⟩, ?_⟩))
    have h1 : (j == i) = false := by simpa using e
    by_cases e2 : j + 1 = i
    · subst e2
      simp only [q_okst, hj] at ho
      have hc : w.category = 1 := by simpa using ho
      simp [q_tv_cat, hc]
    · have h2 : (j + 1 == i) = false := by simpa using e2
      simp [h1, h2]

theorem QW.istore_n {k : Fin 4} {x : Int32} (l2 : List (Option Value)) (hd : decode (q_c md) pc = .ok (.istore_n k, 1)) (hn : (k : Nat) < q_n md) (ho : q_okst l (k : Nat) = true) (hl2 : l.set (k : Nat) (some (.int x)) = l2) (kk : QW g md (pc + 1) l2 st ph ce sl K) : QW g md pc l (.int x :: st) ph ce sl K := fun p e s m args below meth c H locs ls Q h1 h2 h3 h4 h5 => lv_istore_n h2.1 h2.2.1 hd rfl h4.has hn rfl (fun ls2 hl3 => kk p e s m args below meth c H locs ls2 Q h1 h2 h3 (hl2 ▸ QLR.store (v := .int x) ho hl3) h5)
theorem QW.istore {k : Nat} {x : Int32} (l2 : List (Option Value)) (hd : decode (q_c md) pc = .ok (.istore k, 2)) (hn : (k : Nat) < q_n md) (ho : q_okst l (k : Nat) = true) (hl2 : l.set (k : Nat) (some (.int x)) = l2) (kk : QW g md (pc + 2) l2 st ph ce sl K) : QW g md pc l (.int x :: st) ph ce sl K := fun p e s m args below meth c H locs ls Q h1 h2 h3 h4 h5 => lv_istore h2.1 h2.2.1 hd h4.has hn rfl (fun ls2 hl3 => kk p e s m args below meth c H locs ls2 Q h1 h2 h3 (hl2 ▸ QLR.store (v := .int x) ho hl3) h5)
theorem QW.astore_n {k : Fin 4} {x : Nat} (l2 : List (Option Value)) (hd : decode (q_c md) pc = .ok (.astore_n k, 1)) (hn : (k : Nat) < q_n md) (ho : q_okst l (k : Nat) = true) (hl2 : l.set (k : Nat) (some (.ref x)) = l2) (kk : QW g md (pc + 1) l2 st ph ce sl K) : QW g md pc l (.ref x :: st) ph ce sl K := fun p e s m args below meth c H locs ls Q h1 h2 h3 h4 h5 => lv_astore_n h2.1 h2.2.1 hd rfl h4.has hn rfl (fun ls2 hl3 => kk p e s m args below meth c H locs ls2 Q h1 h2 h3 (hl2 ▸ QLR.store (v := .ref x) ho hl3) h5)
theorem QW.astore {k : Nat} {x : Nat} (l2 : List (Option Value)) (hd : decode (q_c md) pc = .ok (.astore k, 2)) (hn : (k : Nat) < q_n md) (ho : q_okst l (k : Nat) = true) (hl2 : l.set (k : Nat) (some (.ref x)) = l2) (kk : QW g md (pc + 2) l2 st ph ce sl K) : QW g md pc l (.ref x :: st) ph ce sl K := fun p e s m args below meth c H locs ls Q h1 h2 h3 h4 h5 => lv_astore h2.1 h2.2.1 hd h4.has hn rfl (fun ls2 hl3 => kk p e s m args below meth c H locs ls2 Q h1 h2 h3 (hl2 ▸ QLR.store (v := .ref x) ho hl3) h5)
theorem QW.iinc {i : Nat} {n : Int} {x : Int32} (v : Int32) (l2 : List (Option Value)) (hd : decode (q_c md) pc = .ok (.iinc i n, 3)) (h0 : l[i]? = some (some (.int x))) (hv : x + Int32.ofInt n = v) (hn : i < q_n md) (ho : q_okst l i = true) (hl2 : l.set i (some (.int v)) = l2) (kk : QW g md (pc + 3) l2 st ph ce sl K) : QW g md pc l st ph ce sl K := fun p e s m args below meth c H locs ls Q h1 h2 h3 h4 h5 => by
  obtain ⟨k, hk⟩ := List.getElem?_of_mem (q_asc_mem (g := g).mpr ⟨_, h0, rfl⟩)
  exact lv_iinc h2.1 h2.2.1 hd h4.has hk hv hn rfl (fun ls2 hl3 => kk p e s m args below meth c H locs ls2 Q h1 h2 h3 (hl2 ▸ QLR.store (v := .int v) ho hl3) h5)
/-- fewer locals known -/
def q_le : List (Option Value) → List (Option Value) → Prop
  | [], _ => True
  | none :: a, _ :: b => q_le a b
  | some v :: a, w :: b => w = some v ∧ q_le a b
  | _, [] => False
theorem q_le_at : ∀ {a b : List (Option Value)}, q_le a b → ∀ (i : Nat) (v : Value), a[i]? = some (some v) → b[i]? = some (some v)
  | [], _, _, i, v, h => by simp at h
  | none :: a, x :: b, hl, 0, v, h => by simp at h
  | none :: a, x :: b, hl, i + 1, v, h => by
    rw [List.getElem?_cons_succ] at h ⊢
    exact q_le_at (a := a) (b := b) hl i v h
  | some w :: a, x :: b, hl, 0, v, h => by
    rw [List.getElem?_cons_zero] at h ⊢
    rw [hl.1]
    exact h
  | some w :: a, x :: b, hl, i + 1, v, h => by
    rw [List.getElem?_cons_succ] at h ⊢
    exact q_le_at (a := a) (b := b) hl.2 i v h
  | none :: a, [], hl, i, v, h => hl.elim
  | some w :: a, [], hl, i, v, h => hl.elim
theorem QW.sub {l2 : List (Option Value)} (h : q_le l2 l) (k : QW g md pc l2 st ph ce sl K) : QW g md pc l st ph ce sl K := fun p e s m args below meth c H locs ls Q h1 h2 h3 h4 h5 => k p e s m args below meth c H locs ls Q h1 h2 h3 ⟨h4.1, h4.2.1, fun i v hv => h4.2.2 i v (q_le_at h i v hv)⟩ h5
theorem QW.mono {K2 : Option Int32 → QH → Prop} (h : ∀ v ph2, K v ph2 → K2 v ph2) (k : QW g md pc l st ph ce sl K) : QW g md pc l st ph ce sl K2 := fun p e s m args below meth c H locs ls Q h1 h2 h3 h4 h5 => k p e s m args below meth c H locs ls Q h1 h2 h3 h4 (fun ph2 H2 locs2 ls2 pc2 v a b c2 => h5 ph2 H2 locs2 ls2 pc2 v a (h v ph2 b) c2)
end QWr
end
section
/-! rows that read and write the pure heap; a method's entry and end -/
theorem q_clw : ∀ (ci : Nat) (C : String) (T : u_T) (N : Nat), CL[ci]? = some (C, T, N) → ∀ w ∈ u_ws C T N, w ∈ TB
  | 0, _, _, _, h => by cases h; exact iw0
  | 1, _, _, _, h => by cases h; exact iw1
  | 2, _, _, _, h => by cases h; exact iw2
  | 3, _, _, _, h => by cases h; exact iw3
  | 4, _, _, _, h => by cases h; exact iw4
  | 5, _, _, _, h => by cases h; exact iw5
  | 6, _, _, _, h => by cases h; exact iw6
  | 7, _, _, _, h => by cases h; exact iw7
  | 8, _, _, _, h => by cases h; exact iw8
  | n + 9, _, _, _, h => by simp at h
def q_ty (ci : Nat) : Nat → FieldType := [tyX0, tyX1, tyX2, tyX3, tyX4, tyX5, tyX6, tyX7, tyX8].getD ci tyX0
theorem q_clt : ∀ (ci : Nat) (C : String) (T : u_T) (N : Nat), CL[ci]? = some (C, T, N) → ∀ k, k < N → parseFieldDescriptor (T k).2.2.1 = some (q_ty ci k)
  | 0, _, _, _, h => by cases h; exact tyX0_ok
  | 1, _, _, _, h => by cases h; exact tyX1_ok
  | 2, _, _, _, h => by cases h; exact tyX2_ok
  | 3, _, _, _, h => by cases h; exact tyX3_ok
  | 4, _, _, _, h => by cases h; exact tyX4_ok
  | 5, _, _, _, h => by cases h; exact tyX5_ok
  | 6, _, _, _, h => by cases h; exact tyX6_ok
  | 7, _, _, _, h => by cases h; exact tyX7_ok
  | 8, _, _, _, h => by cases h; exact tyX8_ok
  | n + 9, _, _, _, h => by simp at h
theorem q_cln : ∀ (ci : Nat) (C : String) (T : u_T) (N : Nat), CL[ci]? = some (C, T, N) → ∀ a, a < N → ∀ b, b < N → a ≠ b → (T a).2.1 ≠ (T b).2.1
  | 0, _, _, _, h => by cases h; exact nmX0
  | 1, _, _, _, h => by cases h; exact nmX1
  | 2, _, _, _, h => by cases h; exact nmX2
  | 3, _, _, _, h => by cases h; exact nmX3
  | 4, _, _, _, h => by cases h; exact nmX4
  | 5, _, _, _, h => by cases h; exact nmX5
  | 6, _, _, _, h => by cases h; exact nmX6
  | 7, _, _, _, h => by cases h; exact nmX7
  | 8, _, _, _, h => by cases h; exact nmX8
  | n + 9, _, _, _, h => by simp at h
theorem q_shp_lt {k a b : Nat} (h : shp.getD k (9, 0) = (a, b)) (ha : a ≠ 9) : k < 61 := by
  rcases Nat.lt_or_ge k 61 with h1 | h1
  · exact h1
  · rw [List.getD_eq_getElem?_getD, List.getElem?_eq_none (show shp.length ≤ k from h1)] at h
    cases h
    exact absurd rfl ha
theorem q_tvr (g : QG) {k : Nat} (h : k < 61) : q_tv g (.ref k) = .ref (q_b g + k) := by
  show Value.ref (if k < 1000 then q_b g + k else q_o g k) = _
  rw [if_pos (by omega)]
theorem q_cel_o {g : QG} {ph : QH} {k ci : Nat} (h : shp.getD k (9, 0) = (2, ci)) : q_cel g ph k = .inr (ci, q_fld g ph k ci) := by
  unfold q_cel; rw [h]; rfl
theorem q_cel_i {g : QG} {ph : QH} {k n : Nat} (h : shp.getD k (9, 0) = (0, n)) : q_cel g ph k = .inl (q_cI g, n, .inl (ph.2 k)) := by
  unfold q_cel; rw [h]; rfl
theorem q_cel_z {g : QG} {ph : QH} {k n : Nat} (h : shp.getD k (9, 0) = (1, n)) : q_cel g ph k = .inl (q_cZ g, n, .inl (ph.2 k)) := by
  unfold q_cel; rw [h]; rfl
theorem q_fld_len {g : QG} {ph : QH} {k ci : Nat} {C : String} {T : u_T} {N : Nat} (hc : CL[ci]? = some (C, T, N)) : (q_fld g ph k ci).length = N := by
  unfold q_fld
  rw [List.length_map, List.length_range, List.getD_eq_getElem?_getD, hc]
  rfl
theorem q_fld_i {g : QG} {ph : QH} {k ci j : Nat} {C : String} {T : u_T} {N : Nat} (hc : CL[ci]? = some (C, T, N)) (hj : j < N) (hr : q_isR ci j = false) : (q_fld g ph k ci)[j]? = some (.int (ph.2 k j)) := by
  unfold q_fld
  rw [List.getElem?_map, List.getElem?_range (by rw [List.getD_eq_getElem?_getD, hc]; exact hj)]
  simp [hr]
theorem q_fld_r {g : QG} {ph : QH} {k ci j q : Nat} {C : String} {T : u_T} {N : Nat} (hc : CL[ci]? = some (C, T, N)) (hj : j < N) (hr : q_isR ci j = true) (hq : (ph.1.getD k []).getD j none = some q) : (q_fld g ph k ci)[j]? = some (.ref (q_b g + q)) := by
  unfold q_fld
  rw [List.getElem?_map, List.getElem?_range (by rw [List.getD_eq_getElem?_getD, hc]; exact hj)]
  simp only [Option.map_some, hr, if_true, hq]
  rfl
section QWh
variable {g : QG} {md : MD} {pc : Nat} {l : List (Option Value)} {st : List Value} {ph : QH} {ce sl : Nat} {K : Option Int32 → QH → Prop}
theorem q_vK {p : Program} {s : State} {m : MethodId} {args : Array Value} {meth : Method} {c : Code} (h1 : QOK g) (h2 : QCx g md p s m args meth c) : va_K (q_D0 g) CL (q_T g) s := va_K.moved h2.2.2.2.2.2.2.2.2.1.alike h1.1
theorem q_vS {p : Program} {s : State} {m : MethodId} {args : Array Value} {meth : Method} {c : Code} {H : Heap} {locs : List Loc} (h2 : QCx g md p s m args meth c) (h3 : QHR g ph s H locs) : va_S (q_A g) s.heap H locs := by
  refine ⟨h3.2.2.2.2, fun q _ hq => ?_, h3.2.2.1⟩
  have hq' : q < q_b g := Nat.not_le.mp hq
  rw [h3.2.1 q hq', h2.2.2.2.2.2.2.2.2.2.1 q hq']
theorem QW.getI {idx k j ci : Nat} (hd : decode (q_c md) pc = .ok (.getfield idx, 3)) (hf : q_F (q_y md).cls idx ci j) (hk : k < ph.1.length) (hs : shp.getD k (9, 0) = (2, ci)) (hr : q_isR ci j = false) (kk : QW g md (pc + 3) l (.int (ph.2 k j) :: st) ph ce sl K) : QW g md pc l (.ref k :: st) ph ce sl K := by
  obtain ⟨C, T, N, hc, hj, hw⟩ := hf
  refine QW.goT (fun p e s m args below meth c H locs ls Q h1 h2 h3 hls w => ?_) kk
  rw [List.map_cons, q_tvr g (q_shp_lt hs (by decide))]
  exact va_get h2.1 h2.2.1 h2.2.2.2.2.2.1 (q_clw ci C T N hc) h2.2.2.2.2.1 (q_vK h1 h2) h3.2.2.2.1 k (by rw [q_pw_at hk, q_cel_o hs]) hc j hj (h2.2.2.2.2.2.1 _ hw) (fun _ h => h) (q_fld_i hc hj hr) hd w
theorem QW.getR {idx k j ci q : Nat} (hd : decode (q_c md) pc = .ok (.getfield idx, 3)) (hf : q_F (q_y md).cls idx ci j) (hk : k < ph.1.length) (hs : shp.getD k (9, 0) = (2, ci)) (hr : q_isR ci j = true) (hq : (ph.1.getD k []).getD j none = some q) (hq61 : q < 61) (kk : QW g md (pc + 3) l (.ref q :: st) ph ce sl K) : QW g md pc l (.ref k :: st) ph ce sl K := by
  obtain ⟨C, T, N, hc, hj, hw⟩ := hf
  refine QW.goT (fun p e s m args below meth c H locs ls Q h1 h2 h3 hls w => ?_) kk
  rw [List.map_cons, q_tvr g (q_shp_lt hs (by decide))]
  rw [List.map_cons, q_tvr g hq61] at w
  exact va_get h2.1 h2.2.1 h2.2.2.2.2.2.1 (q_clw ci C T N hc) h2.2.2.2.2.1 (q_vK h1 h2) h3.2.2.2.1 k (by rw [q_pw_at hk, q_cel_o hs]) hc j hj (h2.2.2.2.2.2.1 _ hw) (fun _ h => h) (q_fld_r hc hj hr hq) hd w
/-- a field's new value: the world behind it -/
theorem q_putw {p : Program} {e : Env} {s : State} {m : MethodId} {args : Array Value} {below : List Frame} {meth : Method} {c : Code} {H : Heap} {locs : List Loc} {ls : Array Slot} {Q : State → Prop} {idx k j ci : Nat} {v : Value} {rest : List Value} (ph2 : QH) (hd : decode (q_c md) pc = .ok (.putfield idx, 3)) (hf : q_F (q_y md).cls idx ci j) (hk : k < ph.1.length) (hs : shp.getD k (9, 0) = (2, ci)) (hn : narrow (q_ty ci j) v = v) (hfit : fits (q_ty ci j) v = true)
    (hfin : ((CL.getD ci ("", TX0, 0)).2.1 j).2.2.2 = false ∨ (((CL.getD ci ("", TX0, 0)).2.1 j).2.2.2 = true ∧ (q_y md).name = "<init>" ∧ ((CL.getD ci ("", TX0, 0)).2.1 j).1 = (q_y md).cls))
    (hl2 : ph2.1.length = ph.1.length) (hc2 : q_cel g ph2 k = .inr (ci, (q_fld g ph k ci).set j v)) (ho2 : ∀ q, q ≠ k → q_cel g ph2 q = q_cel g ph q) (h1 : QOK g) (h2 : QCx g md p s m args meth c) (h3 : QHR g ph s H locs)
    (kk : ∀ (H2 : Heap) (locs2 : List Loc), QHR g ph2 s H2 locs2 → W p (q_l g) e (q_r md) s m args below meth c H2 locs2 ce sl Q (F0 m (pc + 3) ls rest)) : W p (q_l g) e (q_r md) s m args below meth c H locs ce sl Q (F0 m pc ls (v :: .ref (q_b g + k) :: rest)) := by
  obtain ⟨C, T, N, hc, hj, hw⟩ := hf
  have hT : (CL.getD ci ("", TX0, 0)).2.1 = T := by rw [List.getD_eq_getElem?_getD, hc]; rfl
  rw [hT] at hfin
  have hK := q_vK h1 h2
  have hts := h2.2.2.2.2.2.1
  have he : (q_pw g ph)[k]? = some (q_b g + k, .inr (ci, q_fld g ph k ci)) := by rw [q_pw_at hk, q_cel_o hs]
  have hap := va_apart (own := (q_y md).cls) hts (q_clw ci C T N hc) (q_ty ci) (q_clt ci C T N hc) (q_cln ci C T N hc) hK hc
  obtain ⟨r, x1, cell, y1, y2, y3, y4⟩ := h3.2.2.2.1 k _ he
  have hr : r = (C, T, N) := Option.some.inj (x1.symm.trans hc)
  subst hr
  obtain ⟨hSl, hfc, kC, hkC, hkind⟩ := hK.1 ci _ hc
  obtain ⟨cf, kf, fi, f, hi, hsl⟩ := hSl j hj
  have hst := (u_facts hfc hkC (u_lays hts (q_clw ci C T N hc) hj) hi).1
  have hlay := hts _ (q_clw ci C T N hc _ (u_in_lay hj))
  unfold u_lay at hlay
  have fin : ∀ H2 : Heap, H2[q_b g + k]? = some (cell.setSlot f.slot v) → H2.size = H.size → (∀ q, q ≠ q_b g + k → H2[q]? = H[q]?) → QHR g ph2 s H2 (locs ++ [⟨q_b g + k, f.slot⟩]) := by
    intro H2 e1 e2 e3
    refine ⟨fun hlt => by rw [e2, hl2]; exact h3.1 (by omega), fun q hq => by rw [e3 q (by omega)]; exact h3.2.1 q hq, fun q hq => ?_, ?_, by rw [e2]; exact h3.2.2.2.2⟩
    · rcases List.mem_append.mp hq with h | h
      · exact h3.2.2.1 q h
      · rw [List.mem_singleton.mp h]
        show q_b g ≤ q_b g + k
        omega
    · rw [← q_pw_set hl2 hk hc2 ho2]
      refine h3.2.2.2.1.set (q_pw_D g ph) he ?_ e3
      rw [hsl] at e1
      exact ⟨_, hc, t_OB.to (V := updV (vp_V (q_fld g ph k ci)) j v) ⟨_, e1, y2, y3, t_set y4 hap hj v⟩ (fun i _ => vp_updV_set (by rw [q_fld_len hc]; exact hj) v i)⟩
  have hpd := q_clt ci C T N hc j hj
  rcases hfin with hfin | ⟨hfin, hin, hdecl⟩
  · rw [if_neg (by rw [hfin]; decide)] at hlay
    have h6 := u_store hfc hkC hkind hlay hi hpd hn hfit
    exact W.putK h2.1 h2.2.1 (f := f) ⟨h2.2.2.2.2.1, hts _ hw, ⟨_, _, _, hi⟩, hst⟩ (by rw [y2]; exact h6) y1 y3 (by rw [hsl]; exact k2_hasslot (y4 j hj)) rfl rfl hd fun H2 e1 e2 e3 => kk H2 _ (fin H2 e1 e2 e3)
  · rw [if_pos hfin] at hlay
    have hcf : m.cls = cf := by
      obtain ⟨_, _, c', _, _, _, -, -, hf', -, -, -, hown2, -⟩ := Cond.laysFinal_spec hlay
      have e1 : c' = cf := by have := hi.symm.trans hf'; simp at this; exact this.1.symm
      rw [hdecl] at hown2
      rw [← e1]; exact Option.some.inj (h2.2.2.2.2.1.symm.trans hown2)
    have h6 := u_fits hfc hkC hkind (Or.inr hlay) hi hpd hn hfit
    exact W.putFinK h2.1 h2.2.1 h2.2.2.2.2.1 (hts _ hw) hi hst hcf (by rw [h2.2.2.2.2.2.2.2.1]; exact hin) (by rw [y2]; exact h6) y1 y3 (by rw [hsl]; exact k2_hasslot (y4 j hj)) rfl rfl hd fun H2 e1 e2 e3 => kk H2 _ (fin H2 e1 e2 e3)
theorem q_fld_set {k ci j : Nat} {v : Int32} {C : String} {T : u_T} {N : Nat} (hc : CL[ci]? = some (C, T, N)) (hr : q_isR ci j = false) : q_fld g (ph.1, q_up ph.2 k j v) k ci = (q_fld g ph k ci).set j (.int v) := by
  apply List.ext_getElem?
  intro i
  unfold q_fld
  by_cases h : i < (CL.getD ci ("", TX0, 0)).2.2
  · rw [List.getElem?_map, List.getElem?_range h]
    by_cases e : i = j
    · subst e
      rw [List.getElem?_set_self (by simpa using h)]
      simp [hr, q_up, upd]
    · rw [List.getElem?_set_ne (Ne.symm e), List.getElem?_map, List.getElem?_range h]
      simp [q_up, upd, e]
  · rw [List.getElem?_eq_none (by simpa using h), List.getElem?_eq_none (by simpa using h)]
theorem q_up_ne {h : Nat → Nat → Int32} {k j : Nat} {v : Int32} {q : Nat} (e : q ≠ k) : q_up h k j v q = h q := by simp [q_up, e]
theorem q_cel_ne {k : Nat} {r : List (List (Option Nat))} {a b : Nat → Nat → Int32} {q : Nat} (e : a q = b q) : q_cel g (r, a) q = q_cel g (r, b) q := by
  unfold q_cel q_fld
  simp only [e]
theorem QW.putI {idx k j ci : Nat} {v : Int32} (hd : decode (q_c md) pc = .ok (.putfield idx, 3)) (hf : q_F (q_y md).cls idx ci j) (hk : k < ph.1.length) (hs : shp.getD k (9, 0) = (2, ci)) (hr : q_isR ci j = false) (hfin : ((CL.getD ci ("", TX0, 0)).2.1 j).2.2.2 = false) (hn : narrow (q_ty ci j) (.int v) = .int v) (hfit : fits (q_ty ci j) (.int v) = true) (kk : QW g md (pc + 3) l st (ph.1, q_up ph.2 k j v) ce sl K) : QW g md pc l (.int v :: .ref k :: st) ph ce sl K := by
  intro p e s m args below meth c H locs ls Q h1 h2 h3 h4 h5
  have hc := hf
  obtain ⟨C, T, N, hc, -, -⟩ := hc
  rw [List.map_cons, List.map_cons, q_tvr g (q_shp_lt hs (by decide))]
  exact q_putw (v := .int v) (ph2 := (ph.1, q_up ph.2 k j v)) hd hf hk hs hn hfit (Or.inl hfin) rfl (by rw [q_cel_o hs, q_fld_set hc hr]) (fun q hq => q_cel_ne (k := k) (q_up_ne hq)) h1 h2 h3 (fun H2 locs2 h6 => kk p e s m args below meth c H2 locs2 ls Q h1 h2 h6 h4 h5)
end QWh
end
section
/-! arrays, the script, a method's entry, its end, its calls -/
section QWa
variable {g : QG} {md : MD} {pc : Nat} {l : List (Option Value)} {st : List Value} {ph : QH} {ce sl : Nat} {K : Option Int32 → QH → Prop}
theorem QW.iald {k n : Nat} {i : Int32} (hd : decode (q_c md) pc = .ok (.iaload, 1)) (hk : k < ph.1.length) (hs : shp.getD k (9, 0) = (0, n)) (hin : vp_in i n) (kk : QW g md (pc + 1) l (.int (ph.2 k i.toNatClampNeg) :: st) ph ce sl K) : QW g md pc l (.int i :: .ref k :: st) ph ce sl K := by
  refine QW.goT (fun p e s m args below meth c H locs ls Q h1 h2 h3 hls w => ?_) kk
  rw [List.map_cons, List.map_cons, q_tvr g (q_shp_lt hs (by decide))]
  exact va_iald h2.1 h2.2.1 (q_vK h1 h2) h3.2.2.2.1 k 0 (by rw [q_pw_at hk, q_cel_i hs]) rfl hin hd w
theorem QW.zald {k n : Nat} {i : Int32} (hd : decode (q_c md) pc = .ok (.baload, 1)) (hk : k < ph.1.length) (hs : shp.getD k (9, 0) = (1, n)) (hin : vp_in i n) (kk : QW g md (pc + 1) l (.int (ph.2 k i.toNatClampNeg) :: st) ph ce sl K) : QW g md pc l (.int i :: .ref k :: st) ph ce sl K := by
  refine QW.goT (fun p e s m args below meth c H locs ls Q h1 h2 h3 hls w => ?_) kk
  rw [List.map_cons, List.map_cons, q_tvr g (q_shp_lt hs (by decide))]
  exact va_zald h2.1 h2.2.1 (q_vK h1 h2) h3.2.2.2.1 k 1 (by rw [q_pw_at hk, q_cel_z hs]) rfl hin hd w
theorem QW.alen {k n : Nat} {v : Int32} (hd : decode (q_c md) pc = .ok (.arraylength, 1)) (hk : k < ph.1.length) (hs : shp.getD k (9, 0) = (0, n)) (hv : Int32.ofNat n = v) (kk : QW g md (pc + 1) l (.int v :: st) ph ce sl K) : QW g md pc l (.ref k :: st) ph ce sl K := by
  refine QW.goT (fun p e s m args below meth c H locs ls Q h1 h2 h3 hls w => ?_) kk
  rw [List.map_cons, q_tvr g (q_shp_lt hs (by decide))]
  exact va_alen h2.1 h2.2.1 (q_vK h1 h2) h3.2.2.2.1 k 0 (by rw [q_pw_at hk, q_cel_i hs]) rfl hv hd w
theorem q_up_at (h : Nat → Nat → Int32) (k j : Nat) (v : Int32) : q_up h k j v k = upd (h k) j v := by simp [q_up]
theorem q_upA_at (h : Nat → Nat → Int32) (k : Nat) (f : Nat → Int32) : q_upA h k f k = f := by simp [q_upA]
theorem q_upA_ne {h : Nat → Nat → Int32} {k : Nat} {f : Nat → Int32} {q : Nat} (e : q ≠ k) : q_upA h k f q = h q := by simp [q_upA, e]
theorem QW.iast {k n : Nat} {i x : Int32} (hd : decode (q_c md) pc = .ok (.iastore, 1)) (hk : k < ph.1.length) (hs : shp.getD k (9, 0) = (0, n)) (hin : vp_in i n) (kk : QW g md (pc + 1) l st (ph.1, q_up ph.2 k i.toNatClampNeg x) ce sl K) : QW g md pc l (.int x :: .int i :: .ref k :: st) ph ce sl K := by
  intro p e s m args below meth c H locs ls Q h1 h2 h3 h4 h5
  rw [List.map_cons, List.map_cons, List.map_cons, q_tvr g (q_shp_lt hs (by decide))]
  have he : (q_pw g ph)[k]? = some (q_b g + k, .inl (q_cI g, n, .inl (ph.2 k))) := by rw [q_pw_at hk, q_cel_i hs]
  refine W.iast h2.1 h2.2.1 (h3.2.2.2.1 k _ he) (((q_vK h1 h2).2 0 _ rfl).1 n (fun j => .int (ph.2 k j))) (fun q => by cases q) (by show ¬ (i < 0 ∨ (arrV _ _ _).slots.size ≤ _); rw [arrV_size]; exact hin) rfl rfl hd fun H1 e1 z oq => ?_
  refine kk p e s m args below meth c H1 _ ls Q h1 h2 ⟨fun hlt => by rw [z]; exact h3.1 hlt, fun q hq => by rw [oq q (show q ≠ q_b g + k by omega)]; exact h3.2.1 q hq, fun q hq => ?_, ?_, by rw [z]; exact h3.2.2.2.2⟩ h4 h5
  · rcases List.mem_append.mp hq with h | h
    · exact h3.2.2.1 q h
    · rw [List.mem_singleton.mp h]
      show q_b g ≤ q_b g + k
      omega
  · rw [← q_pw_set (ph := ph) (ph' := (ph.1, q_up ph.2 k i.toNatClampNeg x)) (k := k) (E := .inl (q_cI g, n, .inl (upd (ph.2 k) i.toNatClampNeg x))) rfl hk (by rw [q_cel_i hs]; simp only [q_up_at]) (fun q hq => q_cel_ne (k := k) (q_up_ne hq))]
    refine h3.2.2.2.1.set (q_pw_D g ph) he ?_ oq
    show H1[q_b g + k]? = some (vp_cell _ _)
    rw [e1, vp_cell_i, vp_cell_i, arrV_store]
    congr 2
    funext q
    by_cases hq : q = i.toNatClampNeg
    · subst hq
      simp [updV, upd]
    · simp [updV, upd, hq]
theorem q_fullw {p : Program} {s : State} {m : MethodId} {args : Array Value} {meth : Method} {c : Code} {H1 : Heap} {locs1 : List Loc} {k : Nat} {E : va_E} {h2' : Nat → Nat → Int32} (hf : ph.1.length = 61) (hk : k < ph.1.length) (hc : QCx g md p s m args meth c) (he : q_cel g (ph.1, h2') k = E) (ho : ∀ q, q ≠ k → q_cel g (ph.1, h2') q = q_cel g ph q) (hP : va_P (q_D0 g) CL ((q_pw g ph).set k (q_b g + k, E)) H1) (hS : va_S (q_A g) s.heap H1 locs1) : QHR g (ph.1, h2') s H1 locs1 := by
  refine ⟨fun h => by have : ph.1.length < 61 := h; omega, fun q hq => ?_, hS.2.2, ?_, hS.1⟩
  · rw [hS.2.1 q (Nat.lt_of_lt_of_le hq hc.2.2.2.2.2.2.2.2.2.2) (Nat.not_le.mpr hq)]
    exact hc.2.2.2.2.2.2.2.2.2.1 q hq
  · rw [← q_pw_set (ph := ph) (ph' := (ph.1, h2')) (k := k) (E := E) rfl hk he ho]
    exact hP
theorem QW.zast {k n : Nat} {i x : Int32} (hf : ph.1.length = 61) (hd : decode (q_c md) pc = .ok (.bastore, 1)) (hs : shp.getD k (9, 0) = (1, n)) (hin : vp_in i n) (hx : vp_nar .boolean x = x) (kk : QW g md (pc + 1) l st (ph.1, q_up ph.2 k i.toNatClampNeg x) ce sl K) : QW g md pc l (.int x :: .int i :: .ref k :: st) ph ce sl K := by
  intro p e s m args below meth c H locs ls Q h1 h2 h3 h4 h5
  have hk : k < ph.1.length := by rw [hf]; exact q_shp_lt hs (by decide)
  rw [List.map_cons, List.map_cons, List.map_cons, q_tvr g (q_shp_lt hs (by decide))]
  have he : (q_pw g ph)[k]? = some (q_b g + k, .inl (q_cZ g, n, .inl (ph.2 k))) := by rw [q_pw_at hk, q_cel_z hs]
  refine va_zast h2.1 h2.2.1 (q_vK h1 h2) h3.2.2.2.1 (q_pw_D g ph) (q_vS h2 h3) k 1 he rfl hin hd fun H1 locs1 hP1 hD1 hS1 => ?_
  rw [hx] at hP1
  exact kk p e s m args below meth c H1 locs1 ls Q h1 h2 (q_fullw hf hk h2 (by rw [q_cel_z hs]; simp only [q_up_at]) (fun q hq => q_cel_ne (k := k) (q_up_ne hq)) hP1 hS1) h4 h5
theorem QW.copy {idx k0 k1 n0 n1 : Nat} {sp dp n : Int32} (hf : ph.1.length = 61) (hd : decode (q_c md) pc = .ok (.invokestatic idx, 3)) (hw : (Cond.methodLink (q_y md).cls idx arraycopyName ∈ TB) ∧ Cond.native arraycopyName ∈ TB ∧ Cond.static arraycopyName ∈ TB ∧ Cond.initialized "java/lang/System" ∈ TB) (hs0 : shp.getD k0 (9, 0) = (0, n0)) (hs1 : shp.getD k1 (9, 0) = (0, n1)) (h1 : ¬ sp < 0) (h2 : ¬ dp < 0) (h3 : ¬ n < 0) (h4 : sp.toNatClampNeg + n.toNatClampNeg ≤ n0) (h5 : dp.toNatClampNeg + n.toNatClampNeg ≤ n1)
    (hframes : 1 ≤ (q_r md).frames) (hlocals : (st.map fun v => v.category).sum + (nativeFrameWords "java/lang/System" "arraycopy" 5 + 11) ≤ (q_r md).locals) (kk : QW g md (pc + 3) l st (ph.1, q_upA ph.2 k1 (va_cpy (ph.2 k0) (ph.2 k1) sp.toNatClampNeg dp.toNatClampNeg n.toNatClampNeg)) ce sl K) : QW g md pc l (.int n :: .int dp :: .ref k1 :: .int sp :: .ref k0 :: st) ph ce sl K := by
  intro p e s m args below meth c H locs ls Q g1 g2 g3 g4 g5
  have hk0 : k0 < ph.1.length := by rw [hf]; exact q_shp_lt hs0 (by decide)
  have hk1 : k1 < ph.1.length := by rw [hf]; exact q_shp_lt hs1 (by decide)
  have hts := g2.2.2.2.2.2.1
  simp only [List.map_cons]
  rw [q_tvr g (q_shp_lt hs0 (by decide)), q_tvr g (q_shp_lt hs1 (by decide))]
  have he0 : (q_pw g ph)[k0]? = some (q_b g + k0, .inl (q_cI g, n0, .inl (ph.2 k0))) := by rw [q_pw_at hk0, q_cel_i hs0]
  have he1 : (q_pw g ph)[k1]? = some (q_b g + k1, .inl (q_cI g, n1, .inl (ph.2 k1))) := by rw [q_pw_at hk1, q_cel_i hs1]
  have hcat : (((st.map (q_tv g)).map fun v => v.category)) = (st.map fun v => v.category) := by rw [List.map_map]; exact List.map_congr_left (fun v _ => q_tv_cat g v)
  refine va_copyi g2.1 g2.2.1 (g2.2.2.2.1.trans g4.1.symm) g2.2.2.2.2.1 (hts _ hw.1) (hts _ hw.2.1) (hts _ hw.2.2.1) (hts _ hw.2.2.2) (q_vK g1 g2) g3.2.2.2.1 (q_pw_D g ph) (q_vS g2 g3) k0 k1 0 0 he0 he1 rfl rfl rfl h1 h2 h3 h4 h5 (fun _ _ => rfl) hframes (by rw [hcat]; exact hlocals) hd fun H1 locs1 hP1 hD1 hS1 => ?_
  exact kk p e s m args below meth c H1 locs1 ls Q g1 g2 (q_fullw hf hk1 g2 (by rw [q_cel_i hs1]; simp only [q_upA_at]) (fun q hq => q_cel_ne (k := k1) (q_upA_ne hq)) hP1 hS1) g4 g5
/-- the law's own script, the old cell 1000 -/
theorem q_vX {p : Program} {s : State} {m : MethodId} {args : Array Value} {meth : Method} {c : Code} (h1 : QOK g) (h2 : QCx g md p s m args meth c) : va_X (q_o g 1000) (q_L g) (q_x g) s s.heap := (h1.2.2.1.moved h2.2.2.2.2.2.2.2.2.1.alike).kept (h2.2.2.2.2.2.2.2.2.2.1 _ h1.2.2.2.1)
theorem QW.sld {i : Int32} (hd : decode (q_c md) pc = .ok (.iaload, 1)) (hin : vp_in i (q_L g)) (kk : QW g md (pc + 1) l (.int (q_x g i.toNatClampNeg) :: st) ph ce sl K) : QW g md pc l (.int i :: .ref 1000 :: st) ph ce sl K :=
  QW.goT (fun p e s m args below meth c H locs ls Q h1 h2 h3 hls w => va_sld h2.1 h2.2.1 (q_vX h1 h2) (Nat.lt_of_lt_of_le h1.2.2.2.1 h2.2.2.2.2.2.2.2.2.2.2) (Nat.not_le.mpr h1.2.2.2.1) (q_vS h2 h3) hin hd w) kk
theorem QW.slen (hd : decode (q_c md) pc = .ok (.arraylength, 1)) (kk : QW g md (pc + 1) l (.int (Int32.ofNat (q_L g)) :: st) ph ce sl K) : QW g md pc l (.ref 1000 :: st) ph ce sl K :=
  QW.goT (fun p e s m args below meth c H locs ls Q h1 h2 h3 hls w => va_slen h2.1 h2.2.1 (q_vX h1 h2) (Nat.lt_of_lt_of_le h1.2.2.2.1 h2.2.2.2.2.2.2.2.2.2.2) (Nat.not_le.mpr h1.2.2.2.1) (q_vS h2 h3) hd w) kk
theorem QW.ldc {idx : Nat} {v : Int32} (hd : decode (q_c md) pc = .ok (.ldc idx, 2)) (hw : Cond.constant (q_y md).cls idx v ∈ TB) (kk : QW g md (pc + 2) l (.int v :: st) ph ce sl K) : QW g md pc l st ph ce sl K :=
  QW.goT (fun p e s m args below meth c H locs ls Q h1 h2 h3 hls w => lv_ldc h2.1 h2.2.1 h2.2.2.2.2.1 (h2.2.2.2.2.2.1 _ hw) hd w) kk
theorem QW.ldcw {idx : Nat} {v : Int32} (hd : decode (q_c md) pc = .ok (.ldc_w idx, 3)) (hw : Cond.constant (q_y md).cls idx v ∈ TB) (kk : QW g md (pc + 3) l (.int v :: st) ph ce sl K) : QW g md pc l st ph ce sl K :=
  QW.goT (fun p e s m args below meth c H locs ls Q h1 h2 h3 hls w => lv_ldcw h2.1 h2.2.1 h2.2.2.2.2.1 (h2.2.2.2.2.2.1 _ hw) hd w) kk
theorem QW.ldc2 {idx : Nat} {v : Int64} (hd : decode (q_c md) pc = .ok (.ldc2_w idx, 3)) (hw : Cond.constantLong (q_y md).cls idx v ∈ TB) (kk : QW g md (pc + 3) l (.long v :: st) ph ce sl K) : QW g md pc l st ph ce sl K :=
  QW.goT (fun p e s m args below meth c H locs ls Q h1 h2 h3 hls w => lv_ldc2 h2.1 h2.2.1 h2.2.2.2.2.1 (h2.2.2.2.2.2.1 _ hw) hd w) kk
theorem QW.ldcS {idx i : Nat} (hy : (q_y md).cls = RX5) (hi : i < 8) (he : q_strI.getD i 0 = idx) (hd : decode (q_c md) pc = .ok (.ldc idx, 2)) (kk : QW g md (pc + 2) l (.ref (2000 + i) :: st) ph ce sl K) : QW g md pc l st ph ce sl K := by
  refine QW.goT (fun p e s m args below meth c H locs ls Q h1 h2 h3 hls w => ?_) kk
  have h9 := (h1.2.2.2.2.1 i hi).warm h2.2.2.2.2.2.2.2.2.1
  rw [he] at h9
  rw [List.map_cons, show q_tv g (.ref (2000 + i)) = .ref (q_o g (2000 + i)) from by show Value.ref (if 2000 + i < 1000 then _ else _) = _; rw [if_neg (by omega)]] at w
  exact va_ldcS h2.1 h2.2.1 (hy ▸ h2.2.2.2.2.1) h9 hd w
theorem QW.ireturn {x : Int32} (hd : decode (q_c md) pc = .ok (.ireturn, 1)) (hc : ce = (q_r md).cells ∧ sl = (q_r md).slots) (ht : ∃ ty, q_t md = some ty ∧ narrow ty (.int x) = .int x) (k : K (some x) ph) : QW g md pc l [.int x] ph ce sl K := fun p e s m args below meth c H locs ls Q h1 h2 h3 h4 h5 => by
  obtain ⟨rfl, rfl⟩ := hc
  exact h5 ph H locs ls pc (some x) h3 k ⟨ht, hd⟩
theorem QW.ret (hd : decode (q_c md) pc = .ok (.return_, 1)) (hc : ce = (q_r md).cells ∧ sl = (q_r md).slots) (ht : q_t md = none) (k : K none ph) : QW g md pc l [] ph ce sl K := fun p e s m args below meth c H locs ls Q h1 h2 h3 h4 h5 => by
  obtain ⟨rfl, rfl⟩ := hc
  exact h5 ph H locs ls pc none h3 k ⟨ht, hd⟩
end QWa
/-- the locals at a method's entry -/
def q_ent : List Value → List (Option Value)
  | [] => []
  | v :: vs => if v.category = 2 then some v :: none :: q_ent vs else some v :: q_ent vs
theorem q_ent_len (g : QG) : ∀ vs : List Value, (lg_sl (vs.map (q_tv g))).length = (q_ent vs).length
  | [] => rfl
  | v :: vs => by
    have ih := q_ent_len g vs
    show (lg_sl (q_tv g v :: vs.map (q_tv g))).length = _
    unfold lg_sl q_ent
    rw [List.flatMap_cons, List.length_append, q_tv_cat]
    unfold lg_sl at ih
    by_cases h : v.category = 2
    · rw [if_pos h, if_pos h]; simp [ih]; omega
    · rw [if_neg h, if_neg h]; simp [ih]; omega
theorem q_ent_at (g : QG) : ∀ (vs : List Value) (i0 i : Nat) (v : Value), (q_ent vs)[i]? = some (some v) → (i0 + i, q_tv g v) ∈ lv_args i0 (vs.map (q_tv g))
  | [], i0, i, v, h => by simp [q_ent] at h
  | w :: vs, i0, i, v, h => by
    unfold q_ent at h
    rw [List.map_cons]
    unfold lv_args
    rw [q_tv_cat]
    by_cases hc : w.category = 2
    · rw [if_pos hc] at h ⊢
      match i, h with
      | 0, h =>
        rw [List.getElem?_cons_zero] at h
        cases h
        exact List.mem_cons_self
      | 1, h => simp at h
      | i + 2, h =>
        rw [List.getElem?_cons_succ, List.getElem?_cons_succ] at h
        have := q_ent_at g vs (i0 + 2) i v h
        exact List.mem_cons_of_mem _ (by rw [show i0 + (i + 2) = i0 + 2 + i by omega]; exact this)
    · rw [if_neg hc] at h ⊢
      match i, h with
      | 0, h =>
        rw [List.getElem?_cons_zero] at h
        cases h
        exact List.mem_cons_self
      | i + 1, h =>
        rw [List.getElem?_cons_succ] at h
        have := q_ent_at g vs (i0 + 1) i v h
        exact List.mem_cons_of_mem _ (by rw [show i0 + (i + 1) = i0 + 1 + i by omega]; exact this)
theorem QLR.entry {g : QG} {vs : List Value} {n : Nat} (h : (q_ent vs).length ≤ n) (k : Nat) : QLR g ((lg_sl (vs.map (q_tv g)) ++ List.replicate (n - (lg_sl (vs.map (q_tv g))).length) Slot.unset).toArray) n (q_ent vs ++ List.replicate k none) := by
  have h1 := lv_entry (vs.map (q_tv g)) (n := n) (by rw [q_ent_len]; exact h)
  refine ⟨h1.1, h1.2.1, fun i v hv => ?_⟩
  have hv2 : (q_ent vs)[i]? = some (some v) := by
    by_cases hi : i < (q_ent vs).length
    · rw [List.getElem?_append_left hi] at hv
      exact hv
    · rw [List.getElem?_append_right (by omega), List.getElem?_replicate] at hv
      split at hv <;> cases hv
  have := q_ent_at g vs 0 i v hv2
  rw [Nat.zero_add] at this
  exact h1.2.2 _ this
theorem QC.of {g : QG} {md : MD} {av : List Value} {ph : QH} {K : Option Int32 → QH → Prop} (hy : plainName (q_y md).cls = true) (hl : (q_ent av).length ≤ q_n md) (h : QW g md 0 (q_ent av ++ List.replicate (q_n md - (q_ent av).length) none) [] ph 0 0 K) : QC g md av ph K := by
  intro hG
  refine Met.ofW (cc := q_c md) (maxL := q_n md) (ret := q_t md) hy rfl ?_
  intro p e s m args below meth c s₁ B hml hv
  obtain ⟨rfl, hW, hH⟩ := hv
  have hts : ∀ w ∈ q_w md, w.before (av.map (q_tv g)).toArray s = true := atoms_spec (ws := q_w md) B.pre
  rw [lg_entry_eq]
  refine h p e s m _ below meth c s.heap [] _ _ hG ⟨B.exec, B.bytes, B.returns, hml, findClass_of_methodNamed B.named, fun w hw => hts w (List.mem_cons_of_mem _ hw), B.notSynchronized, (name_of_methodNamed B.named B.method).1, hW, hH.2.1, ?_⟩ hH (QLR.entry hl _) ?_
  · have := hH.2.2.2.1
    rcases Nat.lt_or_ge ph.1.length 61 with h9 | h9
    · have := hH.1 h9
      omega
    · have h0 : 0 < ph.1.length := by omega
      have := (hH.2.2.2.1 0 _ (q_pw_at h0)).lt
      have h2 : q_b g + 0 < s.heap.size := this
      omega
  · intro ph2 H2 locs2 ls2 pc2 v h3 hk hv
    have hq : ∀ t : State, t.heap = H2 → s.WarmedH t.vm → ∃ (v' : Option Int32) (ph' : QH), Outcome.returned (v.map Value.int) = .returned (v'.map Value.int) ∧ K v' ph' ∧ QEnt g ph' t ∧ s.heap.size ≤ t.heap.size := by
      intro t ht hWt
      subst ht
      refine ⟨v, ph2, rfl, hk, ⟨hW.trans hWt, h3.1, h3.2.1, (fun q hq => by cases hq), h3.2.2.2.1, Nat.le_refl _⟩, h3.2.2.2.2⟩
    cases v with
    | none => exact W.vret B.exec B.bytes (B.returns.trans hv.1) (fun t ht hWt => hq t ht hWt) (fun q hq2 => h3.2.2.1 q hq2) hv.2 B.notSynchronized
    | some x =>
      obtain ⟨⟨ty, ht, hn⟩, hd⟩ := hv
      exact W.zret B.exec B.bytes (B.returns.trans ht) hn (fun t ht hWt => hq t ht hWt) (fun q hq2 => h3.2.2.1 q hq2) hd B.notSynchronized
end
section
/-! calls by contract -/
section QWc
variable {g : QG} {md md2 : MD} {pc : Nat} {l : List (Option Value)} {st stk rest av : List Value} {ph : QH} {ce sl : Nat} {K : Option Int32 → QH → Prop}
theorem q_good (h : Cond.code (q_y md2) (q_c md2) (q_n md2) (q_t md2) ∈ TB) : GoodIn TB (q_w md2) := fun w hw => (List.mem_cons.mp hw).elim (fun e => by rw [e]; exact TB_good _ h) (fun h => TB_good w h)
theorem q_blind (vs : List Value) : FrameBlind (va_Pc vs (QEnt g ph)) := fun _ _ _ _ q => q
theorem q_pre {p : Program} {s : State} {m : MethodId} {args : Array Value} {meth : Method} {c : Code} {H : Heap} {locs : List Loc} (h2 : QCx g md p s m args meth c) (h3 : QHR g ph s H locs) (vs : List Value) : ∀ U : State, U.heap = H → s.WarmedH U.vm → va_Pc vs (QEnt g ph) vs.toArray U := fun U hU hW => by
  subst hU
  exact ⟨rfl, h2.2.2.2.2.2.2.2.2.1.trans hW, h3.1, h3.2.1, (fun _ h => by cases h), h3.2.2.2.1, Nat.le_refl _⟩
abbrev q_post (g : QG) (K : Option Int32 → QH → Prop) : Array Value → State → Outcome → State → Prop := fun _ st o t => ∃ (v : Option Int32) (ph' : QH), o = .returned (v.map Value.int) ∧ K v ph' ∧ QEnt g ph' t ∧ st.heap.size ≤ t.heap.size
theorem q_back {p : Program} {e : Env} {s : State} {m : MethodId} {args : Array Value} {below : List Frame} {meth : Method} {c : Code} {H : Heap} {locs : List Loc} {ls : Array Slot} {Q : State → Prop} {mc ms : Nat} {a : Array Value} {st0 : List Value} (h1 : QOK g) (h2 : QCx g md p s m args meth c) (h3 : QHR g ph s H locs) (h4 : QLR g ls (q_n md) l) (h5 : QRet g md p e s m args below meth c Q K)
    (hr : va_Run p (q_l g) e (q_r md) s m args below meth c H locs ce sl mc ms (F0 m pc ls st0) (rest.map (q_tv g)) (q_post g (fun v ph2 => QW g md (pc + 3) l (v.toList.map Value.int ++ rest) ph2 (ce + mc) (sl + ms) K) a) (q_A g)) : W p (q_l g) e (q_r md) s m args below meth c H locs ce sl Q (F0 m pc ls st0) := by
  intro T hT X
  obtain ⟨v, st₀, t, T', L, e0, X', hL, e1, e2, ⟨v', ph', ev, hK', hE, hsz⟩, stp⟩ := hr T hT X
  have hv : v = v'.map Value.int := by cases ev; rfl
  subst hv
  obtain ⟨t2, a1, b1⟩ := hK' p e s m args below meth c T'.heap (locs ++ L) ls Q h1 h2 ⟨fun h => by rw [e1]; exact hE.2.1 h, fun q hq => by rw [e1]; exact hE.2.2.1 q hq, fun q hq => by
    rcases List.mem_append.mp hq with h | h
    · exact h3.2.2.1 q h
    · exact hL q h, by rw [e1]; exact hE.2.2.2.2.1, by rw [e1]; exact Nat.le_trans h3.2.2.2.2 (by rw [← e0]; exact hsz)⟩ h4 h5 T' rfl X'
  refine ⟨t2, stp t2 ?_, b1⟩
  have es : (v'.toList.map Value.int ++ rest).map (q_tv g) = (v'.map Value.int).toList ++ rest.map (q_tv g) := by cases v' <;> rfl
  rw [es] at a1
  exact a1
theorem q_rest (h : (rest.map fun v => v.category).sum ≤ 8) : ((rest.map (q_tv g)).map fun v => v.category).sum ≤ 8 := by
  rw [List.map_map, show ((fun v => v.category) ∘ q_tv g) = (fun v : Value => v.category) from funext (q_tv_cat g)]
  exact h
abbrev q_room (md md2 : MD) : Prop := (q_r md2).frames + 1 ≤ (q_r md).frames ∧ 8 + (q_n md2 + 11) + (q_r md2).locals ≤ (q_r md).locals
abbrev q_fit (md md2 : MD) (ce sl : Nat) : Prop := ce + (q_r md2).cells ≤ (q_r md).cells ∧ sl + (q_r md2).slots ≤ (q_r md).slots
theorem QW.callV {idx n k ci : Nat} (hstk : stk = av.reverse ++ .ref k :: rest) (hd : decode (q_c md) pc = .ok (.invokevirtual idx, 3)) (hl : q_V (q_y md).cls idx md2 n) (hk : k < ph.1.length) (hs : shp.getD k (9, 0) = (2, ci)) (hci : (CL.getD ci ("", TX0, 0)).1 = (q_y md2).cls) (hci2 : ci < 9) (hn : av.length = n) (hroom : q_room md md2) (hfit : q_fit md md2 ce sl) (hst : (rest.map fun v => v.category).sum ≤ 8)
    (kk : QC g md2 (.ref k :: av) ph (fun v ph2 => QW g md (pc + 3) l (v.toList.map Value.int ++ rest) ph2 (ce + (q_r md2).cells) (sl + (q_r md2).slots) K)) : QW g md pc l stk ph ce sl K := by
  intro p e s m args below meth c H locs ls Q h1 h2 h3 h4 h5
  subst hstk
  have hM := kk h1
  obtain ⟨hw1, ⟨hw2, hw3⟩, ⟨hw4, hw5⟩, hD⟩ := hl
  have hts := h2.2.2.2.2.2.1
  have he : (q_pw g ph)[k]? = some (q_b g + k, .inr (ci, q_fld g ph k ci)) := by rw [q_pw_at hk, q_cel_o hs]
  have hcl : CL[ci]? = some (CL.getD ci ("", TX0, 0)) := by rw [List.getD_eq_getElem?_getD, List.getElem?_eq_getElem (show ci < CL.length from hci2)]; rfl
  have hrc := va_recv (q_vK h1 h2) h3.2.2.2.1 hcl he
  rw [hci] at hrc
  rw [List.map_cons, q_tvr g (q_shp_lt hs (by decide))] at hM
  refine q_back h1 h2 h3 h4 h5 (a := (Value.ref (q_b g + k) :: av.map (q_tv g)).toArray) (va_runV (C := (q_y md2).cls) (b := q_b g + k) (As := av.map (q_tv g)) (n := n) ⟨h2.1, h2.2.1, h2.2.2.2.1, h2.2.2.2.2.1, hts⟩ hM ⟨callB_of n hts (q_good hw5) rfl rfl rfl (hts _ hw4) (hts _ hw1) hD hroom, hts _ hw2, hts _ hw3⟩ ⟨q_blind _, hrc, q_pre h2 h3 _⟩ rfl (by rw [List.length_map]; exact hn) h4.1 ?_ (lv_room (q_rest hst)) hd hfit)
  show ((av.reverse ++ .ref k :: rest).map (q_tv g)) = _
  rw [List.map_append, List.map_reverse, List.map_cons, q_tvr g (q_shp_lt hs (by decide))]
theorem QW.callS {idx n : Nat} (hstk : stk = av.reverse ++ rest) (hd : decode (q_c md) pc = .ok (.invokestatic idx, 3)) (hl : q_S (q_y md).cls idx md2 n) (hn : av.length = n) (hroom : q_room md md2) (hfit : q_fit md md2 ce sl) (hst : (rest.map fun v => v.category).sum ≤ 8)
    (kk : QC g md2 av ph (fun v ph2 => QW g md (pc + 3) l (v.toList.map Value.int ++ rest) ph2 (ce + (q_r md2).cells) (sl + (q_r md2).slots) K)) : QW g md pc l stk ph ce sl K := by
  intro p e s m args below meth c H locs ls Q h1 h2 h3 h4 h5
  subst hstk
  have hM := kk h1
  obtain ⟨hw1, hw2, ⟨hw4, hw5⟩, hD⟩ := hl
  have hts := h2.2.2.2.2.2.1
  refine q_back h1 h2 h3 h4 h5 (a := (av.map (q_tv g)).toArray) (va_runS (As := av.map (q_tv g)) (n := n) ⟨h2.1, h2.2.1, h2.2.2.2.1, h2.2.2.2.2.1, hts⟩ hM ⟨callB_of n hts (q_good hw5) rfl rfl rfl (hts _ hw4) (hts _ hw1) hD hroom, hts _ hw2⟩ ⟨q_blind _, q_pre h2 h3 _⟩ rfl (by rw [List.length_map]; exact hn) h4.1 ?_ (lv_room (q_rest hst)) hd hfit)
  show ((av.reverse ++ rest).map (q_tv g)) = _
  rw [List.map_append, List.map_reverse]
theorem QW.callSN {idx n : Nat} (hstk : stk = av.reverse ++ rest) (hd : decode (q_c md) pc = .ok (.invokestatic idx, 3)) (hl : q_SN (q_y md).cls idx md2 n) (hn : av.length = n) (hroom : q_room md md2) (hfit : q_fit md md2 ce sl) (hst : (rest.map fun v => v.category).sum ≤ 8)
    (kk : QC g md2 av ph (fun v ph2 => QW g md (pc + 3) l (v.toList.map Value.int ++ rest) ph2 (ce + (q_r md2).cells) (sl + (q_r md2).slots) K)) : QW g md pc l stk ph ce sl K := by
  intro p e s m args below meth c H locs ls Q h1 h2 h3 h4 h5
  subst hstk
  have hM := kk h1
  obtain ⟨⟨host, hw1⟩, hw2, ⟨hw4, hw5⟩, hD⟩ := hl
  have hts := h2.2.2.2.2.2.1
  have hnw := (h1.2.1 _ hw1 _ _ _ _ rfl).warmM h2.2.2.2.2.2.2.2.2.1
  refine q_back h1 h2 h3 h4 h5 (a := (av.map (q_tv g)).toArray) (va_runSN (host := host) (As := av.map (q_tv g)) (n := n) ⟨h2.1, h2.2.1, h2.2.2.2.1, h2.2.2.2.2.1, hts⟩ hM ⟨va_cnB n hts (q_good hw5) rfl rfl rfl hnw (hts _ hw4) hD hroom, hts _ hw2, trivial⟩ ⟨q_blind _, q_pre h2 h3 _⟩ rfl (by rw [List.length_map]; exact hn) h4.1 ?_ (lv_room (q_rest hst)) hd hfit)
  show ((av.reverse ++ rest).map (q_tv g)) = _
  rw [List.map_append, List.map_reverse]
theorem QW.callI {idx n k : Nat} (hk : k < 61) (hstk : stk = av.reverse ++ .ref k :: rest) (hd : decode (q_c md) pc = .ok (.invokespecial idx, 3)) (hl : q_I (q_y md).cls idx md2 n) (hnone : q_t md2 = none) (hn : av.length = n) (hroom : q_room md md2) (hfit : q_fit md md2 ce sl) (hst : (rest.map fun v => v.category).sum ≤ 8)
    (kk : QC g md2 (.ref k :: av) ph (fun v ph2 => QW g md (pc + 3) l (v.toList.map Value.int ++ rest) ph2 (ce + (q_r md2).cells) (sl + (q_r md2).slots) K)) : QW g md pc l stk ph ce sl K := by
  intro p e s m args below meth c H locs ls Q h1 h2 h3 h4 h5
  subst hstk
  have hM := kk h1
  obtain ⟨hw1, ⟨hw2, hw3⟩, ⟨hw4, hw5⟩, hD⟩ := hl
  have hts := h2.2.2.2.2.2.1
  rw [List.map_cons, q_tvr g hk] at hM
  have cb := callB_of (R := q_r md) (own := (q_y md).cls) (index := idx) n hts (q_good hw5) rfl rfl rfl (hts _ hw4) (hts _ hw1) hD hroom
  rw [hnone] at cb
  refine q_back h1 h2 h3 h4 h5 (a := (Value.ref (q_b g + k) :: av.map (q_tv g)).toArray) (va_runI (b := q_b g + k) (As := av.map (q_tv g)) (n := n) ⟨h2.1, h2.2.1, h2.2.2.2.1, h2.2.2.2.2.1, hts⟩ hM ⟨cb, hw3, hts _ hw2⟩ ⟨q_blind _, q_pre h2 h3 _⟩ rfl (by rw [List.length_map]; exact hn) h4.1 ?_ (lv_room (q_rest hst)) hd hfit)
  show ((av.reverse ++ .ref k :: rest).map (q_tv g)) = _
  rw [List.map_append, List.map_reverse, List.map_cons, q_tvr g hk]
theorem QW.callIN {idx n k : Nat} (hk : k < 61) (hstk : stk = av.reverse ++ .ref k :: rest) (hd : decode (q_c md) pc = .ok (.invokespecial idx, 3)) (hl : q_IN (q_y md).cls idx md2 n) (hnone : q_t md2 = none) (hn : av.length = n) (hroom : q_room md md2) (hfit : q_fit md md2 ce sl) (hst : (rest.map fun v => v.category).sum ≤ 8)
    (kk : QC g md2 (.ref k :: av) ph (fun v ph2 => QW g md (pc + 3) l (v.toList.map Value.int ++ rest) ph2 (ce + (q_r md2).cells) (sl + (q_r md2).slots) K)) : QW g md pc l stk ph ce sl K := by
  intro p e s m args below meth c H locs ls Q h1 h2 h3 h4 h5
  subst hstk
  have hM := kk h1
  obtain ⟨⟨host, hw1⟩, ⟨hw2, hw3⟩, ⟨hw4, hw5⟩, hD⟩ := hl
  have hts := h2.2.2.2.2.2.1
  have hnw := (h1.2.1 _ hw1 _ _ _ _ rfl).warmM h2.2.2.2.2.2.2.2.2.1
  rw [List.map_cons, q_tvr g hk] at hM
  have cb := va_cnB (R := q_r md) n hts (q_good hw5) rfl rfl rfl hnw (hts _ hw4) hD hroom
  rw [hnone] at cb
  refine q_back h1 h2 h3 h4 h5 (a := (Value.ref (q_b g + k) :: av.map (q_tv g)).toArray) (va_runIN (host := host) (b := q_b g + k) (As := av.map (q_tv g)) (n := n) ⟨h2.1, h2.2.1, h2.2.2.2.1, h2.2.2.2.2.1, hts⟩ hM ⟨cb, hw3, hts _ hw2⟩ ⟨q_blind _, q_pre h2 h3 _⟩ rfl (by rw [List.length_map]; exact hn) h4.1 ?_ (lv_room (q_rest hst)) hd hfit)
  show ((av.reverse ++ .ref k :: rest).map (q_tv g)) = _
  rw [List.map_append, List.map_reverse, List.map_cons, q_tvr g hk]
theorem QW.objInit {idx k : Nat} (hk : k < 61) (hd : decode (q_c md) pc = .ok (.invokespecial idx, 3)) (hw : Cond.methodLink (q_y md).cls idx objectInit ∈ TB ∧ Cond.instanceMethod objectInit ∈ TB ∧ Cond.code objectInit ⟨#[0xb1]⟩ 1 none ∈ TB) (hroom : 1 ≤ (q_r md).frames ∧ 20 ≤ (q_r md).locals) (hst : (st.map fun v => v.category).sum ≤ 8) (kk : QW g md (pc + 3) l st ph ce sl K) : QW g md pc l (.ref k :: st) ph ce sl K := by
  refine QW.goT (fun p e s m args below meth c H locs ls Q h1 h2 h3 hls w => ?_) kk
  have hts := h2.2.2.2.2.2.1
  rw [List.map_cons, q_tvr g hk]
  have hr := lv_room (m := m) (pc := pc) (ls := ls) (rest := .ref (q_b g + k) :: st.map (q_tv g)) (q_rest (g := g) hst)
  exact W.objInit h2.1 h2.2.1 h2.2.2.2.2.1 (hts _ hw.1) (hts _ hw.2.1) (hts _ hw.2.2) rfl (by show ls.size = c.maxLocals; rw [hls, h2.2.2.2.1]) rfl hd hroom.1 (by omega) w
theorem QC.mono {av : List Value} {K2 : Option Int32 → QH → Prop} (h : ∀ v ph2, K v ph2 → K2 v ph2) (k : QC g md av ph K) : QC g md av ph K2 := by
  intro h1 p e ha hc hk s m args below hf hap hP hK
  obtain ⟨n, o, w1, w2, w3, ⟨⟨v, ph2, e1, e2, e3⟩, e4⟩⟩ := k h1 p e ha hc hk s m args below hf hap hP hK
  exact ⟨n, o, w1, w2, w3, ⟨v, ph2, e1, h v ph2 e2, e3⟩, e4⟩
end QWc
end
section
/-! rows of constructors: new cells, references put -/
def q_sR (r : List (List (Option Nat))) (k j q : Nat) : List (List (Option Nat)) := r.set k ((r.getD k []).set j (some q))
theorem q_dfl : ∀ (ci : Nat) (C : String) (T : u_T) (N : Nat), CL[ci]? = some (C, T, N) → ∀ j, j < N → defaultValue (q_ty ci j) = if q_isR ci j = true then .null else .int 0
  | 0, _, _, _, h => by cases h; decide
  | 1, _, _, _, h => by cases h; decide
  | 2, _, _, _, h => by cases h; decide
  | 3, _, _, _, h => by cases h; decide
  | 4, _, _, _, h => by cases h; decide
  | 5, _, _, _, h => by cases h; decide
  | 6, _, _, _, h => by cases h; decide
  | 7, _, _, _, h => by cases h; decide
  | 8, _, _, _, h => by cases h; decide
  | n + 9, _, _, _, h => by simp at h
section QWm
variable {g : QG} {md : MD} {pc : Nat} {l : List (Option Value)} {st : List Value} {ph : QH} {ce sl : Nat} {K : Option Int32 → QH → Prop}
theorem q_sR_at {r : List (List (Option Nat))} {k j q : Nat} (hk : k < r.length) : (q_sR r k j q).getD k [] = (r.getD k []).set j (some q) := by
  unfold q_sR
  rw [List.getD_eq_getElem?_getD, List.getElem?_set_self hk]
  rfl
theorem q_sR_ne {r : List (List (Option Nat))} {k j q k2 : Nat} (h : k2 ≠ k) : (q_sR r k j q).getD k2 [] = r.getD k2 [] := by
  unfold q_sR
  rw [List.getD_eq_getElem?_getD, List.getElem?_set_ne (Ne.symm h), List.getD_eq_getElem?_getD]
theorem q_fld_setR {k ci j q : Nat} (hk : k < ph.1.length) (hj : j < (ph.1.getD k []).length) (hr : q_isR ci j = true) : q_fld g (q_sR ph.1 k j q, ph.2) k ci = (q_fld g ph k ci).set j (.ref (q_b g + q)) := by
  apply List.ext_getElem?
  intro i
  unfold q_fld
  by_cases h : i < (CL.getD ci ("", TX0, 0)).2.2
  · rw [List.getElem?_map, List.getElem?_range h]
    by_cases e : i = j
    · subst e
      rw [List.getElem?_set_self (by simpa using h)]
      simp only [Option.map_some, hr, if_true, q_sR_at hk]
      rw [List.getD_eq_getElem?_getD, List.getElem?_set_self hj]
      rfl
    · rw [List.getElem?_set_ne (Ne.symm e), List.getElem?_map, List.getElem?_range h]
      simp only [Option.map_some, q_sR_at hk]
      rw [show ((ph.1.getD k []).set j (some q)).getD i none = (ph.1.getD k []).getD i none from by simp only [List.getD_eq_getElem?_getD, List.getElem?_set_ne (Ne.symm e)]]
  · rw [List.getElem?_eq_none (by simpa using h), List.getElem?_eq_none (by simpa using h)]
theorem q_cel_r {r1 r2 : List (List (Option Nat))} {a : Nat → Nat → Int32} {q : Nat} (e : r1.getD q [] = r2.getD q []) : q_cel g (r1, a) q = q_cel g (r2, a) q := by
  unfold q_cel q_fld
  simp only [e]
theorem QW.putR {idx k j ci q : Nat} (hd : decode (q_c md) pc = .ok (.putfield idx, 3)) (hf : q_F (q_y md).cls idx ci j) (hk : k < ph.1.length) (hs : shp.getD k (9, 0) = (2, ci)) (hq : q < 61) (hr : q_isR ci j = true) (hj : j < (ph.1.getD k []).length) (hn : ∀ a : Nat, narrow (q_ty ci j) (.ref a) = .ref a) (hfit : ∀ a : Nat, fits (q_ty ci j) (.ref a) = true)
    (hfin : ((CL.getD ci ("", TX0, 0)).2.1 j).2.2.2 = true ∧ (q_y md).name = "<init>" ∧ ((CL.getD ci ("", TX0, 0)).2.1 j).1 = (q_y md).cls) (kk : QW g md (pc + 3) l st (q_sR ph.1 k j q, ph.2) ce sl K) : QW g md pc l (.ref q :: .ref k :: st) ph ce sl K := by
  intro p e s m args below meth c H locs ls Q h1 h2 h3 h4 h5
  rw [List.map_cons, List.map_cons, q_tvr g (q_shp_lt hs (by decide)), q_tvr g hq]
  exact q_putw (v := .ref (q_b g + q)) (ph2 := (q_sR ph.1 k j q, ph.2)) hd hf hk hs (hn _) (hfit _) (Or.inr hfin) (by unfold q_sR; simp) (by rw [q_cel_o hs, q_fld_setR hk hj hr]) (fun q2 hq2 => q_cel_r (q_sR_ne hq2)) h1 h2 h3 (fun H2 locs2 h6 => kk p e s m args below meth c H2 locs2 ls Q h1 h2 h6 h4 h5)
theorem q_cel_push {x : List (Option Nat)} {f : Nat → Int32} {j : Nat} (h : j < ph.1.length) : q_cel g (ph.1 ++ [x], q_upA ph.2 ph.1.length f) j = q_cel g ph j := by
  have e1 : (ph.1 ++ [x]).getD j [] = ph.1.getD j [] := by rw [List.getD_eq_getElem?_getD, List.getElem?_append_left h, List.getD_eq_getElem?_getD]
  have e2 : q_upA ph.2 ph.1.length f j = ph.2 j := q_upA_ne (by omega)
  unfold q_cel q_fld
  simp only [e1, e2]
theorem q_at_push (x : List (Option Nat)) : (ph.1 ++ [x]).getD ph.1.length [] = x := by
  rw [List.getD_eq_getElem?_getD, List.getElem?_append_right (Nat.le_refl _), Nat.sub_self]
  rfl
theorem q_grow {s : State} {H H1 : Heap} {locs : List Loc} {x : List (Option Nat)} (h3 : QHR g ph s H locs) (hlt : ph.1.length < 61) (z1 : H1.size = q_b g + ph.1.length + 1) (o1 : ∀ q, q < q_b g + ph.1.length → H1[q]? = H[q]?) (hat : va_at (q_D0 g) CL (q_b g + ph.1.length, q_cel g (ph.1 ++ [x], q_upA ph.2 ph.1.length (fun _ => 0)) ph.1.length) H1) : QHR g (ph.1 ++ [x], q_upA ph.2 ph.1.length (fun _ => 0)) s H1 locs := by
  have hz := h3.1 hlt
  refine ⟨fun _ => by rw [z1, List.length_append]; rfl, fun q hq => by rw [o1 q (by omega)]; exact h3.2.1 q hq, h3.2.2.1, ?_, by rw [z1]; have := h3.2.2.2.2; omega⟩
  rw [← q_pw_push (ph := ph) (ph' := (ph.1 ++ [x], q_upA ph.2 ph.1.length (fun _ => 0))) (by rw [List.length_append]; rfl) rfl (fun j hj => q_cel_push hj)]
  refine (h3.2.2.2.1.kept (fun k y hy => o1 y.1 (by have := (h3.2.2.2.1 k y hy).lt; omega))).app (fun k y hy => ?_)
  have hz : k < 1 := (List.getElem?_eq_some_iff.mp hy).1
  rw [show k = 0 by omega] at hy
  cases hy
  exact hat
theorem QW.new {idx ci n : Nat} {C : String} {T : u_T} {N : Nat} (hd : decode (q_c md) pc = .ok (.new idx, 3)) (hlen : ph.1.length = n) (hlt : n < 61) (hs : shp.getD n (9, 0) = (2, ci)) (hc : CL[ci]? = some (C, T, N)) (hw : Cond.classLink (q_y md).cls idx C ∈ TB ∧ Cond.instantiable C N ∈ TB ∧ Cond.initialized C ∈ TB) (hroom : ce + 1 ≤ (q_r md).cells ∧ sl + N ≤ (q_r md).slots)
    (kk : QW g md (pc + 3) l (.ref n :: st) (ph.1 ++ [List.replicate N none], q_upA ph.2 n (fun _ => 0)) (ce + 1) (sl + N) K) : QW g md pc l st ph ce sl K := by
  intro p e s m args below meth c H locs ls Q h1 h2 h3 h4 h5
  subst hlen
  have hts := h2.2.2.2.2.2.1
  have hK := q_vK h1 h2
  have hKn := hK.1 ci _ hc
  have hz := h3.1 hlt
  refine W.newcK h2.1 h2.2.1 h2.2.2.2.2.1 (hts _ hw.1) (hts _ hw.2.1) (hts _ hw.2.2) rfl hd hroom.1 hroom.2 hKn.2.1 hz fun H1 kC hkC e1 z1 o1 => ?_
  have w := kk p e s m args below meth c H1 locs ls Q h1 h2 (q_grow h3 hlt z1 o1 ?_) h4 h5
  · rw [List.map_cons, q_tvr g hlt] at w
    exact w
  · rw [q_cel_o hs]
    refine ⟨_, hc, (u_born (q_ty ci) hts (q_clw ci C T N hc) hKn hkC e1 (q_clt ci C T N hc)).to (fun j hj => ?_)⟩
    rw [q_dfl ci C T N hc j hj]
    unfold vp_V
    rw [List.getD_eq_getElem?_getD]
    unfold q_fld
    rw [List.getElem?_map, List.getElem?_range (by rw [List.getD_eq_getElem?_getD, hc]; exact hj)]
    simp only [Option.map_some, Option.getD_some, q_at_push, q_upA_at]
    rw [show (List.replicate N (none : Option Nat)).getD j none = none from by rw [List.getD_eq_getElem?_getD, List.getElem?_replicate]; split <;> rfl]
    rfl
theorem QW.newI {n N : Nat} {x : Int32} (hd : decode (q_c md) pc = .ok (.newarray .int, 2)) (hlen : ph.1.length = n) (hlt : n < 61) (hs : shp.getD n (9, 0) = (0, N)) (hx : ¬ x < 0 ∧ x.toNatClampNeg = N) (hN : N ≤ 1000) (ha : Cond.arrayClass .int ∈ TB) (hroom : ce + 1 ≤ (q_r md).cells ∧ sl + N ≤ (q_r md).slots)
    (kk : QW g md (pc + 2) l (.ref n :: st) (ph.1 ++ [[]], q_upA ph.2 n (fun _ => 0)) (ce + 1) (sl + N) K) : QW g md pc l (.int x :: st) ph ce sl K := by
  intro p e s m args below meth c H locs ls Q h1 h2 h3 h4 h5
  subst hlen
  have hts := h2.2.2.2.2.2.1
  have hK := q_vK h1 h2
  have hz := h3.1 hlt
  refine va_newaK (atype := .int) h2.1 h2.2.1 (hts _ ha) rfl hd rfl hx.1 hx.2 (by show N * 4 ≤ _; omega) hroom.1 hroom.2 hz fun H1 cA e1 z1 o1 hAr hNm => ?_
  have hcA : cA = q_cI g := by
    have h9 : s.vm.findClass ("[" ++ FieldType.int.toString) = some (q_cI g) := (hK.2 0 _ rfl).2
    exact Option.some.inj (hNm.symm.trans h9)
  subst hcA
  have w := kk p e s m args below meth c H1 locs ls Q h1 h2 (q_grow h3 hlt z1 o1 ?_) h4 h5
  · rw [List.map_cons, q_tvr g hlt] at w
    exact w
  · rw [q_cel_i hs]
    show H1[q_b g + ph.1.length]? = some (vp_cell _ _)
    rw [e1, vp_cell_i]
    simp only [q_upA_at]
    rfl
theorem QW.newZ {n N : Nat} {x : Int32} (hd : decode (q_c md) pc = .ok (.newarray .boolean, 2)) (hlen : ph.1.length = n) (hlt : n < 61) (hs : shp.getD n (9, 0) = (1, N)) (hx : ¬ x < 0 ∧ x.toNatClampNeg = N) (hN : N ≤ 1000) (ha : Cond.arrayClass .boolean ∈ TB) (hroom : ce + 1 ≤ (q_r md).cells ∧ sl + N ≤ (q_r md).slots)
    (kk : QW g md (pc + 2) l (.ref n :: st) (ph.1 ++ [[]], q_upA ph.2 n (fun _ => 0)) (ce + 1) (sl + N) K) : QW g md pc l (.int x :: st) ph ce sl K := by
  intro p e s m args below meth c H locs ls Q h1 h2 h3 h4 h5
  subst hlen
  have hts := h2.2.2.2.2.2.1
  have hK := q_vK h1 h2
  have hz := h3.1 hlt
  refine va_newaK (atype := .boolean) h2.1 h2.2.1 (hts _ ha) rfl hd rfl hx.1 hx.2 (by show N * 1 ≤ _; omega) hroom.1 hroom.2 hz fun H1 cA e1 z1 o1 hAr hNm => ?_
  have hcA : cA = q_cZ g := by
    have h9 : s.vm.findClass ("[" ++ FieldType.boolean.toString) = some (q_cZ g) := (hK.2 1 _ rfl).2
    exact Option.some.inj (hNm.symm.trans h9)
  subst hcA
  have w := kk p e s m args below meth c H1 locs ls Q h1 h2 (q_grow h3 hlt z1 o1 ?_) h4 h5
  · rw [List.map_cons, q_tvr g hlt] at w
    exact w
  · rw [q_cel_z hs]
    show H1[q_b g + ph.1.length]? = some (vp_cell _ _)
    rw [e1, vp_cell_i]
    simp only [q_upA_at]
    rfl
end QWm
end
section
/-! the full heap: all 61 cells are there, no reference changes any more; only ints do -/
abbrev Hp : Type := Nat → Nat → Int32
def q_RI (K : Int32 → Hp → Prop) : Option Int32 → QH → Prop := fun v ph => ph.1 = R0 ∧ ∃ x, v = some x ∧ K x ph.2
def q_RV (K : Hp → Prop) : Option Int32 → QH → Prop := fun v ph => ph.1 = R0 ∧ v = none ∧ K ph.2
abbrev FW (g : QG) (md : MD) (pc : Nat) (l : List (Option Value)) (st : List Value) (h : Hp) (KK : Option Int32 → QH → Prop) : Prop := QW g md pc l st (R0, h) (q_r md).cells (q_r md).slots KK
def FI (g : QG) (md : MD) (av : List Value) (h : Hp) (K : Int32 → Hp → Prop) : Prop := QC g md av (R0, h) (q_RI K)
def FV (g : QG) (md : MD) (av : List Value) (h : Hp) (K : Hp → Prop) : Prop := QC g md av (R0, h) (q_RV K)
def q_SI (k j ci : Nat) : Prop := shp.getD k (9, 0) = (2, ci) ∧ q_isR ci j = false
def q_SP (k j ci : Nat) (ty : FieldType) : Prop := shp.getD k (9, 0) = (2, ci) ∧ q_isR ci j = false ∧ ((CL.getD ci ("", TX0, 0)).2.1 j).2.2.2 = false ∧ q_ty ci j = ty
def q_SR (k j ci q : Nat) : Prop := shp.getD k (9, 0) = (2, ci) ∧ q_isR ci j = true ∧ (R0.getD k []).getD j none = some q ∧ q < 61
def q_SA (k n : Nat) : Prop := shp.getD k (9, 0) = (0, n)
def q_SZ (k n : Nat) : Prop := shp.getD k (9, 0) = (1, n)
def q_SC (k : Nat) (C : String) : Prop := ∃ ci, shp.getD k (9, 0) = (2, ci) ∧ (CL.getD ci ("", TX0, 0)).1 = C ∧ ci < 9
theorem q_R0len : R0.length = 61 := by decide
def q_bool (x : Int32) : Prop := x = 0 ∨ x = 1
theorem q_bool_nar {x : Int32} (h : q_bool x) : narrow .boolean (.int x) = .int x := by rcases h with rfl | rfl <;> decide
theorem q_bool_vnar {x : Int32} (h : q_bool x) : vp_nar .boolean x = x := by rcases h with rfl | rfl <;> decide
section FWr
variable {g : QG} {md md2 : MD} {pc : Nat} {l : List (Option Value)} {st stk rest av : List Value} {h : Hp} {KK : Option Int32 → QH → Prop}
theorem FI.mono {K K2 : Int32 → Hp → Prop} (hm : ∀ x h2, K x h2 → K2 x h2) (k : FI g md av h K) : FI g md av h K2 := QC.mono (fun v ph2 ⟨e, x, ev, hk⟩ => ⟨e, x, ev, hm x ph2.2 hk⟩) k
theorem FV.mono {K K2 : Hp → Prop} (hm : ∀ h2, K h2 → K2 h2) (k : FV g md av h K) : FV g md av h K2 := QC.mono (fun v ph2 ⟨e, ev, hk⟩ => ⟨e, ev, hm ph2.2 hk⟩) k
theorem FW.getI {idx k j ci : Nat} (v : Int32) (hd : decode (q_c md) pc = .ok (.getfield idx, 3)) (hf : q_F (q_y md).cls idx ci j) (hs : q_SI k j ci) (hv : h k j = v) (kk : FW g md (pc + 3) l (.int v :: st) h KK) : FW g md pc l (.ref k :: st) h KK := by
  subst hv
  exact QW.getI hd hf (by show k < R0.length; rw [q_R0len]; exact q_shp_lt hs.1 (by decide)) hs.1 hs.2 kk
theorem FW.getR {idx k j ci q : Nat} (hd : decode (q_c md) pc = .ok (.getfield idx, 3)) (hf : q_F (q_y md).cls idx ci j) (hs : q_SR k j ci q) (kk : FW g md (pc + 3) l (.ref q :: st) h KK) : FW g md pc l (.ref k :: st) h KK :=
  QW.getR hd hf (by show k < R0.length; rw [q_R0len]; exact q_shp_lt hs.1 (by decide)) hs.1 hs.2.1 hs.2.2.1 hs.2.2.2 kk
theorem FW.putI {idx k j ci : Nat} {v : Int32} (hd : decode (q_c md) pc = .ok (.putfield idx, 3)) (hf : q_F (q_y md).cls idx ci j) (hs : q_SP k j ci .int) (kk : FW g md (pc + 3) l st (q_up h k j v) KK) : FW g md pc l (.int v :: .ref k :: st) h KK :=
  QW.putI hd hf (by show k < R0.length; rw [q_R0len]; exact q_shp_lt hs.1 (by decide)) hs.1 hs.2.1 hs.2.2.1 (by rw [hs.2.2.2]; rfl) (by rw [hs.2.2.2]; rfl) kk
theorem FW.putZ {idx k j ci : Nat} {v : Int32} (hb : q_bool v) (hd : decode (q_c md) pc = .ok (.putfield idx, 3)) (hf : q_F (q_y md).cls idx ci j) (hs : q_SP k j ci .boolean) (kk : FW g md (pc + 3) l st (q_up h k j v) KK) : FW g md pc l (.int v :: .ref k :: st) h KK :=
  QW.putI hd hf (by show k < R0.length; rw [q_R0len]; exact q_shp_lt hs.1 (by decide)) hs.1 hs.2.1 hs.2.2.1 (by rw [hs.2.2.2]; exact q_bool_nar hb) (by rw [hs.2.2.2]; rcases hb with rfl | rfl <;> decide) kk
theorem FW.iald {k n : Nat} {i : Int32} (v : Int32) (hd : decode (q_c md) pc = .ok (.iaload, 1)) (hs : q_SA k n) (hin : vp_in i n) (hv : h k i.toNatClampNeg = v) (kk : FW g md (pc + 1) l (.int v :: st) h KK) : FW g md pc l (.int i :: .ref k :: st) h KK := by
  subst hv
  exact QW.iald hd (by show k < R0.length; rw [q_R0len]; exact q_shp_lt hs (by decide)) hs hin kk
theorem FW.zald {k n : Nat} {i : Int32} (v : Int32) (hd : decode (q_c md) pc = .ok (.baload, 1)) (hs : q_SZ k n) (hin : vp_in i n) (hv : h k i.toNatClampNeg = v) (kk : FW g md (pc + 1) l (.int v :: st) h KK) : FW g md pc l (.int i :: .ref k :: st) h KK := by
  subst hv
  exact QW.zald hd (by show k < R0.length; rw [q_R0len]; exact q_shp_lt hs (by decide)) hs hin kk
theorem FW.alen {k n : Nat} (v : Int32) (hd : decode (q_c md) pc = .ok (.arraylength, 1)) (hs : q_SA k n) (hv : Int32.ofNat n = v) (kk : FW g md (pc + 1) l (.int v :: st) h KK) : FW g md pc l (.ref k :: st) h KK :=
  QW.alen hd (by show k < R0.length; rw [q_R0len]; exact q_shp_lt hs (by decide)) hs hv kk
theorem FW.iast {k n : Nat} {i x : Int32} (hd : decode (q_c md) pc = .ok (.iastore, 1)) (hs : q_SA k n) (hin : vp_in i n) (kk : FW g md (pc + 1) l st (q_up h k i.toNatClampNeg x) KK) : FW g md pc l (.int x :: .int i :: .ref k :: st) h KK :=
  QW.iast hd (by show k < R0.length; rw [q_R0len]; exact q_shp_lt hs (by decide)) hs hin kk
theorem FW.zast {k n : Nat} {i x : Int32} (hb : q_bool x) (hd : decode (q_c md) pc = .ok (.bastore, 1)) (hs : q_SZ k n) (hin : vp_in i n) (kk : FW g md (pc + 1) l st (q_up h k i.toNatClampNeg x) KK) : FW g md pc l (.int x :: .int i :: .ref k :: st) h KK :=
  QW.zast q_R0len hd hs hin (q_bool_vnar hb) kk
theorem FW.copy {idx k0 k1 n0 n1 : Nat} {sp dp n : Int32} (hd : decode (q_c md) pc = .ok (.invokestatic idx, 3)) (hw : (Cond.methodLink (q_y md).cls idx arraycopyName ∈ TB) ∧ Cond.native arraycopyName ∈ TB ∧ Cond.static arraycopyName ∈ TB ∧ Cond.initialized "java/lang/System" ∈ TB) (hs0 : q_SA k0 n0) (hs1 : q_SA k1 n1) (hb : (¬ sp < 0) ∧ (¬ dp < 0) ∧ (¬ n < 0) ∧ sp.toNatClampNeg + n.toNatClampNeg ≤ n0 ∧ dp.toNatClampNeg + n.toNatClampNeg ≤ n1)
    (hframes : 1 ≤ (q_r md).frames) (hlocals : (st.map fun v => v.category).sum + (nativeFrameWords "java/lang/System" "arraycopy" 5 + 11) ≤ (q_r md).locals) (kk : FW g md (pc + 3) l st (q_upA h k1 (va_cpy (h k0) (h k1) sp.toNatClampNeg dp.toNatClampNeg n.toNatClampNeg)) KK) : FW g md pc l (.int n :: .int dp :: .ref k1 :: .int sp :: .ref k0 :: st) h KK :=
  QW.copy q_R0len hd hw hs0 hs1 hb.1 hb.2.1 hb.2.2.1 hb.2.2.2.1 hb.2.2.2.2 hframes hlocals kk
theorem FW.ret {K : Int32 → Hp → Prop} {x : Int32} (hd : decode (q_c md) pc = .ok (.ireturn, 1)) (ht : q_t md = some .int) (k : K x h) : FW g md pc l [.int x] h (q_RI K) := QW.ireturn hd ⟨rfl, rfl⟩ ⟨_, ht, rfl⟩ ⟨rfl, x, rfl, k⟩
theorem FW.retZ {K : Int32 → Hp → Prop} {x : Int32} (hb : q_bool x) (hd : decode (q_c md) pc = .ok (.ireturn, 1)) (ht : q_t md = some .boolean) (k : K x h) : FW g md pc l [.int x] h (q_RI K) := QW.ireturn hd ⟨rfl, rfl⟩ ⟨_, ht, q_bool_nar hb⟩ ⟨rfl, x, rfl, k⟩
theorem FW.retV {K : Hp → Prop} (hd : decode (q_c md) pc = .ok (.return_, 1)) (ht : q_t md = none) (k : K h) : FW g md pc l [] h (q_RV K) := QW.ret hd ⟨rfl, rfl⟩ ht ⟨rfl, rfl, k⟩
abbrev q_none (md : MD) : Prop := (q_r md).cells = 0 ∧ (q_r md).slots = 0
theorem q_fit0 (h0 : q_none md2) : q_fit md md2 (q_r md).cells (q_r md).slots := ⟨by rw [h0.1]; exact Nat.le_refl _, by rw [h0.2]; exact Nat.le_refl _⟩
theorem q_ci {rr : List Value} (h0 : q_none md2) (v : Option Int32) (ph2 : QH) (hk : q_RI (fun x h2 => FW g md (pc + 3) l (.int x :: rr) h2 KK) v ph2) : QW g md (pc + 3) l (v.toList.map Value.int ++ rr) ph2 ((q_r md).cells + (q_r md2).cells) ((q_r md).slots + (q_r md2).slots) KK := by
  obtain ⟨r, h2⟩ := ph2
  obtain ⟨e, x, ev, hk⟩ := hk
  have e : r = R0 := e
  subst e; subst ev
  rw [h0.1, h0.2]
  exact hk
theorem q_cv {rr : List Value} (h0 : q_none md2) (v : Option Int32) (ph2 : QH) (hk : q_RV (fun h2 => FW g md (pc + 3) l rr h2 KK) v ph2) : QW g md (pc + 3) l (v.toList.map Value.int ++ rr) ph2 ((q_r md).cells + (q_r md2).cells) ((q_r md).slots + (q_r md2).slots) KK := by
  obtain ⟨r, h2⟩ := ph2
  obtain ⟨e, ev, hk⟩ := hk
  have e : r = R0 := e
  subst e; subst ev
  rw [h0.1, h0.2]
  exact hk
theorem FW.callVi {idx n k : Nat} (av rest : List Value) (hstk : stk = av.reverse ++ .ref k :: rest) (hd : decode (q_c md) pc = .ok (.invokevirtual idx, 3)) (hl : q_V (q_y md).cls idx md2 n) (hs : q_SC k (q_y md2).cls) (hn : av.length = n) (hroom : q_room md md2) (h0 : q_none md2) (hst : (rest.map fun v => v.category).sum ≤ 8) (kk : FI g md2 (.ref k :: av) h (fun x h2 => FW g md (pc + 3) l (.int x :: rest) h2 KK)) : FW g md pc l stk h KK := by
  obtain ⟨ci, h1, h2, h3⟩ := hs
  exact QW.callV hstk hd hl (by show k < R0.length; rw [q_R0len]; exact q_shp_lt h1 (by decide)) h1 h2 h3 hn hroom (q_fit0 h0) hst (QC.mono (q_ci h0) kk)
theorem FW.callVv {idx n k : Nat} (av rest : List Value) (hstk : stk = av.reverse ++ .ref k :: rest) (hd : decode (q_c md) pc = .ok (.invokevirtual idx, 3)) (hl : q_V (q_y md).cls idx md2 n) (hs : q_SC k (q_y md2).cls) (hn : av.length = n) (hroom : q_room md md2) (h0 : q_none md2) (hst : (rest.map fun v => v.category).sum ≤ 8) (kk : FV g md2 (.ref k :: av) h (fun h2 => FW g md (pc + 3) l rest h2 KK)) : FW g md pc l stk h KK := by
  obtain ⟨ci, h1, h2, h3⟩ := hs
  exact QW.callV hstk hd hl (by show k < R0.length; rw [q_R0len]; exact q_shp_lt h1 (by decide)) h1 h2 h3 hn hroom (q_fit0 h0) hst (QC.mono (q_cv h0) kk)
theorem FW.callSi {idx n : Nat} (av rest : List Value) (hstk : stk = av.reverse ++ rest) (hd : decode (q_c md) pc = .ok (.invokestatic idx, 3)) (hl : q_S (q_y md).cls idx md2 n) (hn : av.length = n) (hroom : q_room md md2) (h0 : q_none md2) (hst : (rest.map fun v => v.category).sum ≤ 8) (kk : FI g md2 av h (fun x h2 => FW g md (pc + 3) l (.int x :: rest) h2 KK)) : FW g md pc l stk h KK :=
  QW.callS hstk hd hl hn hroom (q_fit0 h0) hst (QC.mono (q_ci h0) kk)
theorem FW.callSv {idx n : Nat} (av rest : List Value) (hstk : stk = av.reverse ++ rest) (hd : decode (q_c md) pc = .ok (.invokestatic idx, 3)) (hl : q_S (q_y md).cls idx md2 n) (hn : av.length = n) (hroom : q_room md md2) (h0 : q_none md2) (hst : (rest.map fun v => v.category).sum ≤ 8) (kk : FV g md2 av h (fun h2 => FW g md (pc + 3) l rest h2 KK)) : FW g md pc l stk h KK :=
  QW.callS hstk hd hl hn hroom (q_fit0 h0) hst (QC.mono (q_cv h0) kk)
theorem FW.callNi {idx n : Nat} (av rest : List Value) (hstk : stk = av.reverse ++ rest) (hd : decode (q_c md) pc = .ok (.invokestatic idx, 3)) (hl : q_SN (q_y md).cls idx md2 n) (hn : av.length = n) (hroom : q_room md md2) (h0 : q_none md2) (hst : (rest.map fun v => v.category).sum ≤ 8) (kk : FI g md2 av h (fun x h2 => FW g md (pc + 3) l (.int x :: rest) h2 KK)) : FW g md pc l stk h KK :=
  QW.callSN hstk hd hl hn hroom (q_fit0 h0) hst (QC.mono (q_ci h0) kk)
theorem FI.of {K : Int32 → Hp → Prop} (l0 : List (Option Value)) (hy : plainName (q_y md).cls = true) (h0 : q_none md) (hl : (q_ent av).length ≤ q_n md) (he : q_ent av ++ List.replicate (q_n md - (q_ent av).length) none = l0) (k : FW g md 0 l0 [] h (q_RI K)) : FI g md av h K := by
  subst he
  unfold FW at k
  rw [h0.1, h0.2] at k
  exact QC.of hy hl k
theorem FV.of {K : Hp → Prop} (l0 : List (Option Value)) (hy : plainName (q_y md).cls = true) (h0 : q_none md) (hl : (q_ent av).length ≤ q_n md) (he : q_ent av ++ List.replicate (q_n md - (q_ent av).length) none = l0) (k : FW g md 0 l0 [] h (q_RV K)) : FV g md av h K := by
  subst he
  unfold FW at k
  rw [h0.1, h0.2] at k
  exact QC.of hy hl k
end FWr
theorem sC_0 : q_SC 0 RX7 := ⟨7, rfl, rfl, by decide⟩
theorem sR_0_0 : q_SR 0 0 7 1 := ⟨rfl, rfl, rfl, by decide⟩
theorem sR_0_1 : q_SR 0 1 7 7 := ⟨rfl, rfl, rfl, by decide⟩
theorem sR_0_2 : q_SR 0 2 7 16 := ⟨rfl, rfl, rfl, by decide⟩
theorem sR_0_3 : q_SR 0 3 7 20 := ⟨rfl, rfl, rfl, by decide⟩
theorem sR_0_4 : q_SR 0 4 7 24 := ⟨rfl, rfl, rfl, by decide⟩
theorem sR_0_5 : q_SR 0 5 7 26 := ⟨rfl, rfl, rfl, by decide⟩
theorem sR_0_6 : q_SR 0 6 7 31 := ⟨rfl, rfl, rfl, by decide⟩
theorem sR_0_7 : q_SR 0 7 7 36 := ⟨rfl, rfl, rfl, by decide⟩
theorem sR_0_8 : q_SR 0 8 7 41 := ⟨rfl, rfl, rfl, by decide⟩
theorem sC_1 : q_SC 1 RX6 := ⟨6, rfl, rfl, by decide⟩
theorem sI_1_0 : q_SI 1 0 6 := ⟨rfl, rfl⟩
theorem sP_1_0 : q_SP 1 0 6 .int := ⟨rfl, rfl, rfl, rfl⟩
theorem sI_1_1 : q_SI 1 1 6 := ⟨rfl, rfl⟩
theorem sP_1_1 : q_SP 1 1 6 .int := ⟨rfl, rfl, rfl, rfl⟩
theorem sI_1_2 : q_SI 1 2 6 := ⟨rfl, rfl⟩
theorem sP_1_2 : q_SP 1 2 6 .int := ⟨rfl, rfl, rfl, rfl⟩
theorem sR_1_3 : q_SR 1 3 6 2 := ⟨rfl, rfl, rfl, by decide⟩
theorem sR_1_4 : q_SR 1 4 6 3 := ⟨rfl, rfl, rfl, by decide⟩
theorem sR_1_5 : q_SR 1 5 6 4 := ⟨rfl, rfl, rfl, by decide⟩
theorem sR_1_6 : q_SR 1 6 6 5 := ⟨rfl, rfl, rfl, by decide⟩
theorem sR_1_7 : q_SR 1 7 6 6 := ⟨rfl, rfl, rfl, by decide⟩
theorem sA_2 : q_SA 2 6 := rfl
theorem sA_3 : q_SA 3 6 := rfl
theorem sA_4 : q_SA 4 6 := rfl
theorem sA_5 : q_SA 5 6 := rfl
theorem sA_6 : q_SA 6 6 := rfl
theorem sC_7 : q_SC 7 RX5 := ⟨5, rfl, rfl, by decide⟩
theorem sR_7_0 : q_SR 7 0 5 8 := ⟨rfl, rfl, rfl, by decide⟩
theorem sI_7_1 : q_SI 7 1 5 := ⟨rfl, rfl⟩
theorem sP_7_1 : q_SP 7 1 5 .int := ⟨rfl, rfl, rfl, rfl⟩
theorem sR_7_2 : q_SR 7 2 5 9 := ⟨rfl, rfl, rfl, by decide⟩
theorem sI_7_3 : q_SI 7 3 5 := ⟨rfl, rfl⟩
theorem sP_7_3 : q_SP 7 3 5 .int := ⟨rfl, rfl, rfl, rfl⟩
theorem sI_7_4 : q_SI 7 4 5 := ⟨rfl, rfl⟩
theorem sP_7_4 : q_SP 7 4 5 .int := ⟨rfl, rfl, rfl, rfl⟩
theorem sI_7_5 : q_SI 7 5 5 := ⟨rfl, rfl⟩
theorem sP_7_5 : q_SP 7 5 5 .int := ⟨rfl, rfl, rfl, rfl⟩
theorem sI_7_6 : q_SI 7 6 5 := ⟨rfl, rfl⟩
theorem sP_7_6 : q_SP 7 6 5 .int := ⟨rfl, rfl, rfl, rfl⟩
theorem sR_7_7 : q_SR 7 7 5 15 := ⟨rfl, rfl, rfl, by decide⟩
theorem sA_8 : q_SA 8 200 := rfl
theorem sC_9 : q_SC 9 RX6 := ⟨6, rfl, rfl, by decide⟩
theorem sI_9_0 : q_SI 9 0 6 := ⟨rfl, rfl⟩
theorem sP_9_0 : q_SP 9 0 6 .int := ⟨rfl, rfl, rfl, rfl⟩
theorem sI_9_1 : q_SI 9 1 6 := ⟨rfl, rfl⟩
theorem sP_9_1 : q_SP 9 1 6 .int := ⟨rfl, rfl, rfl, rfl⟩
theorem sI_9_2 : q_SI 9 2 6 := ⟨rfl, rfl⟩
theorem sP_9_2 : q_SP 9 2 6 .int := ⟨rfl, rfl, rfl, rfl⟩
theorem sR_9_3 : q_SR 9 3 6 10 := ⟨rfl, rfl, rfl, by decide⟩
theorem sR_9_4 : q_SR 9 4 6 11 := ⟨rfl, rfl, rfl, by decide⟩
theorem sR_9_5 : q_SR 9 5 6 12 := ⟨rfl, rfl, rfl, by decide⟩
theorem sR_9_6 : q_SR 9 6 6 13 := ⟨rfl, rfl, rfl, by decide⟩
theorem sR_9_7 : q_SR 9 7 6 14 := ⟨rfl, rfl, rfl, by decide⟩
theorem sA_10 : q_SA 10 6 := rfl
theorem sA_11 : q_SA 11 6 := rfl
theorem sA_12 : q_SA 12 6 := rfl
theorem sA_13 : q_SA 13 6 := rfl
theorem sA_14 : q_SA 14 6 := rfl
theorem sA_15 : q_SA 15 4 := rfl
theorem sC_16 : q_SC 16 RX3 := ⟨3, rfl, rfl, by decide⟩
theorem sR_16_0 : q_SR 16 0 3 1 := ⟨rfl, rfl, rfl, by decide⟩
theorem sR_16_1 : q_SR 16 1 3 17 := ⟨rfl, rfl, rfl, by decide⟩
theorem sR_16_2 : q_SR 16 2 3 18 := ⟨rfl, rfl, rfl, by decide⟩
theorem sR_16_3 : q_SR 16 3 3 19 := ⟨rfl, rfl, rfl, by decide⟩
theorem sI_16_4 : q_SI 16 4 3 := ⟨rfl, rfl⟩
theorem sP_16_4 : q_SP 16 4 3 .boolean := ⟨rfl, rfl, rfl, rfl⟩
theorem sI_16_5 : q_SI 16 5 3 := ⟨rfl, rfl⟩
theorem sP_16_5 : q_SP 16 5 3 .int := ⟨rfl, rfl, rfl, rfl⟩
theorem sA_17 : q_SA 17 6 := rfl
theorem sA_18 : q_SA 18 6 := rfl
theorem sA_19 : q_SA 19 12 := rfl
theorem sC_20 : q_SC 20 RX2 := ⟨2, rfl, rfl, by decide⟩
theorem sR_20_0 : q_SR 20 0 2 1 := ⟨rfl, rfl, rfl, by decide⟩
theorem sR_20_1 : q_SR 20 1 2 16 := ⟨rfl, rfl, rfl, by decide⟩
theorem sR_20_2 : q_SR 20 2 2 21 := ⟨rfl, rfl, rfl, by decide⟩
theorem sR_20_3 : q_SR 20 3 2 22 := ⟨rfl, rfl, rfl, by decide⟩
theorem sR_20_4 : q_SR 20 4 2 23 := ⟨rfl, rfl, rfl, by decide⟩
theorem sI_20_5 : q_SI 20 5 2 := ⟨rfl, rfl⟩
theorem sP_20_5 : q_SP 20 5 2 .int := ⟨rfl, rfl, rfl, rfl⟩
theorem sI_20_6 : q_SI 20 6 2 := ⟨rfl, rfl⟩
theorem sP_20_6 : q_SP 20 6 2 .int := ⟨rfl, rfl, rfl, rfl⟩
theorem sA_21 : q_SA 21 6 := rfl
theorem sA_22 : q_SA 22 6 := rfl
theorem sA_23 : q_SA 23 6 := rfl
theorem sC_24 : q_SC 24 RX1 := ⟨1, rfl, rfl, by decide⟩
theorem sR_24_0 : q_SR 24 0 1 1 := ⟨rfl, rfl, rfl, by decide⟩
theorem sR_24_1 : q_SR 24 1 1 20 := ⟨rfl, rfl, rfl, by decide⟩
theorem sR_24_2 : q_SR 24 2 1 25 := ⟨rfl, rfl, rfl, by decide⟩
theorem sI_24_3 : q_SI 24 3 1 := ⟨rfl, rfl⟩
theorem sP_24_3 : q_SP 24 3 1 .int := ⟨rfl, rfl, rfl, rfl⟩
theorem sI_24_4 : q_SI 24 4 1 := ⟨rfl, rfl⟩
theorem sP_24_4 : q_SP 24 4 1 .int := ⟨rfl, rfl, rfl, rfl⟩
theorem sI_24_5 : q_SI 24 5 1 := ⟨rfl, rfl⟩
theorem sP_24_5 : q_SP 24 5 1 .int := ⟨rfl, rfl, rfl, rfl⟩
theorem sI_24_6 : q_SI 24 6 1 := ⟨rfl, rfl⟩
theorem sP_24_6 : q_SP 24 6 1 .int := ⟨rfl, rfl, rfl, rfl⟩
theorem sA_25 : q_SA 25 384 := rfl
theorem sC_26 : q_SC 26 RX0 := ⟨0, rfl, rfl, by decide⟩
theorem sI_26_0 : q_SI 26 0 0 := ⟨rfl, rfl⟩
theorem sP_26_0 : q_SP 26 0 0 .int := ⟨rfl, rfl, rfl, rfl⟩
theorem sI_26_1 : q_SI 26 1 0 := ⟨rfl, rfl⟩
theorem sP_26_1 : q_SP 26 1 0 .boolean := ⟨rfl, rfl, rfl, rfl⟩
theorem sI_26_2 : q_SI 26 2 0 := ⟨rfl, rfl⟩
theorem sP_26_2 : q_SP 26 2 0 .boolean := ⟨rfl, rfl, rfl, rfl⟩
theorem sI_26_3 : q_SI 26 3 0 := ⟨rfl, rfl⟩
theorem sP_26_3 : q_SP 26 3 0 .int := ⟨rfl, rfl, rfl, rfl⟩
theorem sR_26_4 : q_SR 26 4 0 27 := ⟨rfl, rfl, rfl, by decide⟩
theorem sR_26_5 : q_SR 26 5 0 28 := ⟨rfl, rfl, rfl, by decide⟩
theorem sR_26_6 : q_SR 26 6 0 29 := ⟨rfl, rfl, rfl, by decide⟩
theorem sR_26_7 : q_SR 26 7 0 30 := ⟨rfl, rfl, rfl, by decide⟩
theorem sA_27 : q_SA 27 6 := rfl
theorem sA_28 : q_SA 28 6 := rfl
theorem sA_29 : q_SA 29 12 := rfl
theorem sA_30 : q_SA 30 6 := rfl
theorem sC_31 : q_SC 31 RX0 := ⟨0, rfl, rfl, by decide⟩
theorem sI_31_0 : q_SI 31 0 0 := ⟨rfl, rfl⟩
theorem sP_31_0 : q_SP 31 0 0 .int := ⟨rfl, rfl, rfl, rfl⟩
theorem sI_31_1 : q_SI 31 1 0 := ⟨rfl, rfl⟩
theorem sP_31_1 : q_SP 31 1 0 .boolean := ⟨rfl, rfl, rfl, rfl⟩
theorem sI_31_2 : q_SI 31 2 0 := ⟨rfl, rfl⟩
theorem sP_31_2 : q_SP 31 2 0 .boolean := ⟨rfl, rfl, rfl, rfl⟩
theorem sI_31_3 : q_SI 31 3 0 := ⟨rfl, rfl⟩
theorem sP_31_3 : q_SP 31 3 0 .int := ⟨rfl, rfl, rfl, rfl⟩
theorem sR_31_4 : q_SR 31 4 0 32 := ⟨rfl, rfl, rfl, by decide⟩
theorem sR_31_5 : q_SR 31 5 0 33 := ⟨rfl, rfl, rfl, by decide⟩
theorem sR_31_6 : q_SR 31 6 0 34 := ⟨rfl, rfl, rfl, by decide⟩
theorem sR_31_7 : q_SR 31 7 0 35 := ⟨rfl, rfl, rfl, by decide⟩
theorem sA_32 : q_SA 32 6 := rfl
theorem sA_33 : q_SA 33 6 := rfl
theorem sA_34 : q_SA 34 12 := rfl
theorem sA_35 : q_SA 35 6 := rfl
theorem sC_36 : q_SC 36 RX0 := ⟨0, rfl, rfl, by decide⟩
theorem sI_36_0 : q_SI 36 0 0 := ⟨rfl, rfl⟩
theorem sP_36_0 : q_SP 36 0 0 .int := ⟨rfl, rfl, rfl, rfl⟩
theorem sI_36_1 : q_SI 36 1 0 := ⟨rfl, rfl⟩
theorem sP_36_1 : q_SP 36 1 0 .boolean := ⟨rfl, rfl, rfl, rfl⟩
theorem sI_36_2 : q_SI 36 2 0 := ⟨rfl, rfl⟩
theorem sP_36_2 : q_SP 36 2 0 .boolean := ⟨rfl, rfl, rfl, rfl⟩
theorem sI_36_3 : q_SI 36 3 0 := ⟨rfl, rfl⟩
theorem sP_36_3 : q_SP 36 3 0 .int := ⟨rfl, rfl, rfl, rfl⟩
theorem sR_36_4 : q_SR 36 4 0 37 := ⟨rfl, rfl, rfl, by decide⟩
theorem sR_36_5 : q_SR 36 5 0 38 := ⟨rfl, rfl, rfl, by decide⟩
theorem sR_36_6 : q_SR 36 6 0 39 := ⟨rfl, rfl, rfl, by decide⟩
theorem sR_36_7 : q_SR 36 7 0 40 := ⟨rfl, rfl, rfl, by decide⟩
theorem sA_37 : q_SA 37 6 := rfl
theorem sA_38 : q_SA 38 6 := rfl
theorem sA_39 : q_SA 39 12 := rfl
theorem sA_40 : q_SA 40 6 := rfl
theorem sC_41 : q_SC 41 RX4 := ⟨4, rfl, rfl, by decide⟩
theorem sI_41_0 : q_SI 41 0 4 := ⟨rfl, rfl⟩
theorem sP_41_0 : q_SP 41 0 4 .int := ⟨rfl, rfl, rfl, rfl⟩
theorem sR_41_1 : q_SR 41 1 4 42 := ⟨rfl, rfl, rfl, by decide⟩
theorem sR_41_2 : q_SR 41 2 4 43 := ⟨rfl, rfl, rfl, by decide⟩
theorem sA_42 : q_SA 42 6 := rfl
theorem sA_43 : q_SA 43 6 := rfl
theorem sC_44 : q_SC 44 RX8 := ⟨8, rfl, rfl, by decide⟩
theorem sR_44_0 : q_SR 44 0 8 45 := ⟨rfl, rfl, rfl, by decide⟩
theorem sR_44_1 : q_SR 44 1 8 46 := ⟨rfl, rfl, rfl, by decide⟩
theorem sR_44_2 : q_SR 44 2 8 47 := ⟨rfl, rfl, rfl, by decide⟩
theorem sI_44_3 : q_SI 44 3 8 := ⟨rfl, rfl⟩
theorem sP_44_3 : q_SP 44 3 8 .int := ⟨rfl, rfl, rfl, rfl⟩
theorem sR_44_4 : q_SR 44 4 8 48 := ⟨rfl, rfl, rfl, by decide⟩
theorem sI_44_5 : q_SI 44 5 8 := ⟨rfl, rfl⟩
theorem sP_44_5 : q_SP 44 5 8 .int := ⟨rfl, rfl, rfl, rfl⟩
theorem sI_44_6 : q_SI 44 6 8 := ⟨rfl, rfl⟩
theorem sP_44_6 : q_SP 44 6 8 .int := ⟨rfl, rfl, rfl, rfl⟩
theorem sI_44_7 : q_SI 44 7 8 := ⟨rfl, rfl⟩
theorem sP_44_7 : q_SP 44 7 8 .int := ⟨rfl, rfl, rfl, rfl⟩
theorem sR_44_8 : q_SR 44 8 8 49 := ⟨rfl, rfl, rfl, by decide⟩
theorem sR_44_9 : q_SR 44 9 8 50 := ⟨rfl, rfl, rfl, by decide⟩
theorem sR_44_10 : q_SR 44 10 8 51 := ⟨rfl, rfl, rfl, by decide⟩
theorem sR_44_11 : q_SR 44 11 8 52 := ⟨rfl, rfl, rfl, by decide⟩
theorem sR_44_12 : q_SR 44 12 8 53 := ⟨rfl, rfl, rfl, by decide⟩
theorem sI_44_13 : q_SI 44 13 8 := ⟨rfl, rfl⟩
theorem sP_44_13 : q_SP 44 13 8 .int := ⟨rfl, rfl, rfl, rfl⟩
theorem sI_44_14 : q_SI 44 14 8 := ⟨rfl, rfl⟩
theorem sP_44_14 : q_SP 44 14 8 .int := ⟨rfl, rfl, rfl, rfl⟩
theorem sI_44_15 : q_SI 44 15 8 := ⟨rfl, rfl⟩
theorem sP_44_15 : q_SP 44 15 8 .int := ⟨rfl, rfl, rfl, rfl⟩
theorem sI_44_16 : q_SI 44 16 8 := ⟨rfl, rfl⟩
theorem sP_44_16 : q_SP 44 16 8 .int := ⟨rfl, rfl, rfl, rfl⟩
theorem sI_44_17 : q_SI 44 17 8 := ⟨rfl, rfl⟩
theorem sP_44_17 : q_SP 44 17 8 .int := ⟨rfl, rfl, rfl, rfl⟩
theorem sI_44_18 : q_SI 44 18 8 := ⟨rfl, rfl⟩
theorem sP_44_18 : q_SP 44 18 8 .int := ⟨rfl, rfl, rfl, rfl⟩
theorem sI_44_19 : q_SI 44 19 8 := ⟨rfl, rfl⟩
theorem sP_44_19 : q_SP 44 19 8 .int := ⟨rfl, rfl, rfl, rfl⟩
theorem sR_44_20 : q_SR 44 20 8 54 := ⟨rfl, rfl, rfl, by decide⟩
theorem sR_44_21 : q_SR 44 21 8 55 := ⟨rfl, rfl, rfl, by decide⟩
theorem sR_44_22 : q_SR 44 22 8 56 := ⟨rfl, rfl, rfl, by decide⟩
theorem sI_44_23 : q_SI 44 23 8 := ⟨rfl, rfl⟩
theorem sP_44_23 : q_SP 44 23 8 .int := ⟨rfl, rfl, rfl, rfl⟩
theorem sI_44_24 : q_SI 44 24 8 := ⟨rfl, rfl⟩
theorem sP_44_24 : q_SP 44 24 8 .int := ⟨rfl, rfl, rfl, rfl⟩
theorem sI_44_25 : q_SI 44 25 8 := ⟨rfl, rfl⟩
theorem sP_44_25 : q_SP 44 25 8 .int := ⟨rfl, rfl, rfl, rfl⟩
theorem sR_44_26 : q_SR 44 26 8 57 := ⟨rfl, rfl, rfl, by decide⟩
theorem sR_44_27 : q_SR 44 27 8 58 := ⟨rfl, rfl, rfl, by decide⟩
theorem sR_44_28 : q_SR 44 28 8 59 := ⟨rfl, rfl, rfl, by decide⟩
theorem sR_44_29 : q_SR 44 29 8 60 := ⟨rfl, rfl, rfl, by decide⟩
theorem sI_44_30 : q_SI 44 30 8 := ⟨rfl, rfl⟩
theorem sP_44_30 : q_SP 44 30 8 .int := ⟨rfl, rfl, rfl, rfl⟩
theorem sA_45 : q_SA 45 81 := rfl
theorem sZ_46 : q_SZ 46 2 := rfl
theorem sA_47 : q_SA 47 200 := rfl
theorem sA_48 : q_SA 48 60 := rfl
theorem sA_49 : q_SA 49 6 := rfl
theorem sA_50 : q_SA 50 6 := rfl
theorem sA_51 : q_SA 51 6 := rfl
theorem sA_52 : q_SA 52 6 := rfl
theorem sA_53 : q_SA 53 6 := rfl
theorem sA_54 : q_SA 54 6 := rfl
theorem sA_55 : q_SA 55 6 := rfl
theorem sA_56 : q_SA 56 6 := rfl
theorem sA_57 : q_SA 57 6 := rfl
theorem sA_58 : q_SA 58 384 := rfl
theorem sA_59 : q_SA 59 6 := rfl
theorem sA_60 : q_SA 60 12 := rfl
end
section
theorem dX0_init_0 : decode cX0_init 0 = .ok (.aload_n 0, 1) := by decide +kernel
theorem dX0_init_1 : decode cX0_init 1 = .ok (.invokespecial 3, 3) := by decide +kernel
theorem dX0_init_4 : decode cX0_init 4 = .ok (.aload_n 0, 1) := by decide +kernel
theorem dX0_init_5 : decode cX0_init 5 = .ok (.iconst 1, 1) := by decide +kernel
theorem dX0_init_6 : decode cX0_init 6 = .ok (.putfield 9, 3) := by decide +kernel
theorem dX0_init_9 : decode cX0_init 9 = .ok (.aload_n 0, 1) := by decide +kernel
theorem dX0_init_10 : decode cX0_init 10 = .ok (.bipush 6, 2) := by decide +kernel
theorem dX0_init_12 : decode cX0_init 12 = .ok (.newarray .int, 2) := by decide +kernel
theorem dX0_init_14 : decode cX0_init 14 = .ok (.putfield 15, 3) := by decide +kernel
theorem dX0_init_17 : decode cX0_init 17 = .ok (.aload_n 0, 1) := by decide +kernel
theorem dX0_init_18 : decode cX0_init 18 = .ok (.bipush 6, 2) := by decide +kernel
theorem dX0_init_20 : decode cX0_init 20 = .ok (.newarray .int, 2) := by decide +kernel
theorem dX0_init_22 : decode cX0_init 22 = .ok (.putfield 19, 3) := by decide +kernel
theorem dX0_init_25 : decode cX0_init 25 = .ok (.aload_n 0, 1) := by decide +kernel
theorem dX0_init_26 : decode cX0_init 26 = .ok (.bipush 12, 2) := by decide +kernel
theorem dX0_init_28 : decode cX0_init 28 = .ok (.newarray .int, 2) := by decide +kernel
theorem dX0_init_30 : decode cX0_init 30 = .ok (.putfield 22, 3) := by decide +kernel
theorem dX0_init_33 : decode cX0_init 33 = .ok (.aload_n 0, 1) := by decide +kernel
theorem dX0_init_34 : decode cX0_init 34 = .ok (.bipush 6, 2) := by decide +kernel
theorem dX0_init_36 : decode cX0_init 36 = .ok (.newarray .int, 2) := by decide +kernel
theorem dX0_init_38 : decode cX0_init 38 = .ok (.putfield 25, 3) := by decide +kernel
theorem dX0_init_41 : decode cX0_init 41 = .ok (.aload_n 0, 1) := by decide +kernel
theorem dX0_init_42 : decode cX0_init 42 = .ok (.getfield 19, 3) := by decide +kernel
theorem dX0_init_45 : decode cX0_init 45 = .ok (.iconst (-1), 1) := by decide +kernel
theorem dX0_init_46 : decode cX0_init 46 = .ok (.invokestatic 28, 3) := by decide +kernel
theorem dX0_init_49 : decode cX0_init 49 = .ok (.aload_n 0, 1) := by decide +kernel
theorem dX0_init_50 : decode cX0_init 50 = .ok (.getfield 22, 3) := by decide +kernel
theorem dX0_init_53 : decode cX0_init 53 = .ok (.iconst (-1), 1) := by decide +kernel
theorem dX0_init_54 : decode cX0_init 54 = .ok (.invokestatic 28, 3) := by decide +kernel
theorem dX0_init_57 : decode cX0_init 57 = .ok (.return_, 1) := by decide +kernel
theorem dX0_begin_0 : decode cX0_begin 0 = .ok (.aload_n 0, 1) := by decide +kernel
theorem dX0_begin_1 : decode cX0_begin 1 = .ok (.iconst 0, 1) := by decide +kernel
theorem dX0_begin_2 : decode cX0_begin 2 = .ok (.putfield 34, 3) := by decide +kernel
theorem dX0_begin_5 : decode cX0_begin 5 = .ok (.aload_n 1, 1) := by decide +kernel
theorem dX0_begin_6 : decode cX0_begin 6 = .ok (.getfield 38, 3) := by decide +kernel
theorem dX0_begin_9 : decode cX0_begin 9 = .ok (.iconst 0, 1) := by decide +kernel
theorem dX0_begin_10 : decode cX0_begin 10 = .ok (.aload_n 0, 1) := by decide +kernel
theorem dX0_begin_11 : decode cX0_begin 11 = .ok (.getfield 15, 3) := by decide +kernel
theorem dX0_begin_14 : decode cX0_begin 14 = .ok (.iconst 0, 1) := by decide +kernel
theorem dX0_begin_15 : decode cX0_begin 15 = .ok (.bipush 6, 2) := by decide +kernel
theorem dX0_begin_17 : decode cX0_begin 17 = .ok (.invokestatic 43, 3) := by decide +kernel
theorem dX0_begin_20 : decode cX0_begin 20 = .ok (.aload_n 0, 1) := by decide +kernel
theorem dX0_begin_21 : decode cX0_begin 21 = .ok (.getfield 25, 3) := by decide +kernel
theorem dX0_begin_24 : decode cX0_begin 24 = .ok (.iconst 0, 1) := by decide +kernel
theorem dX0_begin_25 : decode cX0_begin 25 = .ok (.invokestatic 28, 3) := by decide +kernel
theorem dX0_begin_28 : decode cX0_begin 28 = .ok (.aload_n 0, 1) := by decide +kernel
theorem dX0_begin_29 : decode cX0_begin 29 = .ok (.invokevirtual 49, 3) := by decide +kernel
theorem dX0_begin_32 : decode cX0_begin 32 = .ok (.return_, 1) := by decide +kernel
theorem dX0_copyFrom_0 : decode cX0_copyFrom 0 = .ok (.aload_n 0, 1) := by decide +kernel
theorem dX0_copyFrom_1 : decode cX0_copyFrom 1 = .ok (.aload_n 1, 1) := by decide +kernel
theorem dX0_copyFrom_2 : decode cX0_copyFrom 2 = .ok (.getfield 34, 3) := by decide +kernel
theorem dX0_copyFrom_5 : decode cX0_copyFrom 5 = .ok (.putfield 34, 3) := by decide +kernel
theorem dX0_copyFrom_8 : decode cX0_copyFrom 8 = .ok (.aload_n 0, 1) := by decide +kernel
theorem dX0_copyFrom_9 : decode cX0_copyFrom 9 = .ok (.aload_n 1, 1) := by decide +kernel
theorem dX0_copyFrom_10 : decode cX0_copyFrom 10 = .ok (.getfield 9, 3) := by decide +kernel
theorem dX0_copyFrom_13 : decode cX0_copyFrom 13 = .ok (.putfield 9, 3) := by decide +kernel
theorem dX0_copyFrom_16 : decode cX0_copyFrom 16 = .ok (.aload_n 0, 1) := by decide +kernel
theorem dX0_copyFrom_17 : decode cX0_copyFrom 17 = .ok (.aload_n 1, 1) := by decide +kernel
theorem dX0_copyFrom_18 : decode cX0_copyFrom 18 = .ok (.getfield 52, 3) := by decide +kernel
theorem dX0_copyFrom_21 : decode cX0_copyFrom 21 = .ok (.putfield 52, 3) := by decide +kernel
theorem dX0_copyFrom_24 : decode cX0_copyFrom 24 = .ok (.aload_n 1, 1) := by decide +kernel
theorem dX0_copyFrom_25 : decode cX0_copyFrom 25 = .ok (.getfield 15, 3) := by decide +kernel
theorem dX0_copyFrom_28 : decode cX0_copyFrom 28 = .ok (.iconst 0, 1) := by decide +kernel
theorem dX0_copyFrom_29 : decode cX0_copyFrom 29 = .ok (.aload_n 0, 1) := by decide +kernel
theorem dX0_copyFrom_30 : decode cX0_copyFrom 30 = .ok (.getfield 15, 3) := by decide +kernel
theorem dX0_copyFrom_33 : decode cX0_copyFrom 33 = .ok (.iconst 0, 1) := by decide +kernel
theorem dX0_copyFrom_34 : decode cX0_copyFrom 34 = .ok (.bipush 6, 2) := by decide +kernel
theorem dX0_copyFrom_36 : decode cX0_copyFrom 36 = .ok (.invokestatic 43, 3) := by decide +kernel
theorem dX0_copyFrom_39 : decode cX0_copyFrom 39 = .ok (.aload_n 1, 1) := by decide +kernel
theorem dX0_copyFrom_40 : decode cX0_copyFrom 40 = .ok (.getfield 19, 3) := by decide +kernel
theorem dX0_copyFrom_43 : decode cX0_copyFrom 43 = .ok (.iconst 0, 1) := by decide +kernel
theorem dX0_copyFrom_44 : decode cX0_copyFrom 44 = .ok (.aload_n 0, 1) := by decide +kernel
theorem dX0_copyFrom_45 : decode cX0_copyFrom 45 = .ok (.getfield 19, 3) := by decide +kernel
theorem dX0_copyFrom_48 : decode cX0_copyFrom 48 = .ok (.iconst 0, 1) := by decide +kernel
theorem dX0_copyFrom_49 : decode cX0_copyFrom 49 = .ok (.bipush 6, 2) := by decide +kernel
theorem dX0_copyFrom_51 : decode cX0_copyFrom 51 = .ok (.invokestatic 43, 3) := by decide +kernel
theorem dX0_copyFrom_54 : decode cX0_copyFrom 54 = .ok (.aload_n 1, 1) := by decide +kernel
theorem dX0_copyFrom_55 : decode cX0_copyFrom 55 = .ok (.getfield 22, 3) := by decide +kernel
theorem dX0_copyFrom_58 : decode cX0_copyFrom 58 = .ok (.iconst 0, 1) := by decide +kernel
theorem dX0_copyFrom_59 : decode cX0_copyFrom 59 = .ok (.aload_n 0, 1) := by decide +kernel
theorem dX0_copyFrom_60 : decode cX0_copyFrom 60 = .ok (.getfield 22, 3) := by decide +kernel
theorem dX0_copyFrom_63 : decode cX0_copyFrom 63 = .ok (.iconst 0, 1) := by decide +kernel
theorem dX0_copyFrom_64 : decode cX0_copyFrom 64 = .ok (.bipush 12, 2) := by decide +kernel
theorem dX0_copyFrom_66 : decode cX0_copyFrom 66 = .ok (.invokestatic 43, 3) := by decide +kernel
theorem dX0_copyFrom_69 : decode cX0_copyFrom 69 = .ok (.aload_n 1, 1) := by decide +kernel
theorem dX0_copyFrom_70 : decode cX0_copyFrom 70 = .ok (.getfield 25, 3) := by decide +kernel
theorem dX0_copyFrom_73 : decode cX0_copyFrom 73 = .ok (.iconst 0, 1) := by decide +kernel
theorem dX0_copyFrom_74 : decode cX0_copyFrom 74 = .ok (.aload_n 0, 1) := by decide +kernel
theorem dX0_copyFrom_75 : decode cX0_copyFrom 75 = .ok (.getfield 25, 3) := by decide +kernel
theorem dX0_copyFrom_78 : decode cX0_copyFrom 78 = .ok (.iconst 0, 1) := by decide +kernel
theorem dX0_copyFrom_79 : decode cX0_copyFrom 79 = .ok (.bipush 6, 2) := by decide +kernel
theorem dX0_copyFrom_81 : decode cX0_copyFrom 81 = .ok (.invokestatic 43, 3) := by decide +kernel
theorem dX0_copyFrom_84 : decode cX0_copyFrom 84 = .ok (.return_, 1) := by decide +kernel
theorem dX0_whoIsAt_0 : decode cX0_whoIsAt 0 = .ok (.iconst 0, 1) := by decide +kernel
theorem dX0_whoIsAt_1 : decode cX0_whoIsAt 1 = .ok (.istore_n 3, 1) := by decide +kernel
theorem dX0_whoIsAt_2 : decode cX0_whoIsAt 2 = .ok (.iconst 0, 1) := by decide +kernel
theorem dX0_whoIsAt_3 : decode cX0_whoIsAt 3 = .ok (.istore 4, 2) := by decide +kernel
theorem dX0_whoIsAt_5 : decode cX0_whoIsAt 5 = .ok (.iload 4, 2) := by decide +kernel
theorem dX0_whoIsAt_7 : decode cX0_whoIsAt 7 = .ok (.iload_n 2, 1) := by decide +kernel
theorem dX0_whoIsAt_8 : decode cX0_whoIsAt 8 = .ok (.if_icmp .ge 27, 3) := by decide +kernel
theorem dX0_whoIsAt_11 : decode cX0_whoIsAt 11 = .ok (.aload_n 0, 1) := by decide +kernel
theorem dX0_whoIsAt_12 : decode cX0_whoIsAt 12 = .ok (.getfield 15, 3) := by decide +kernel
theorem dX0_whoIsAt_15 : decode cX0_whoIsAt 15 = .ok (.iload 4, 2) := by decide +kernel
theorem dX0_whoIsAt_17 : decode cX0_whoIsAt 17 = .ok (.iaload, 1) := by decide +kernel
theorem dX0_whoIsAt_18 : decode cX0_whoIsAt 18 = .ok (.iload_n 1, 1) := by decide +kernel
theorem dX0_whoIsAt_19 : decode cX0_whoIsAt 19 = .ok (.if_icmp .ne 10, 3) := by decide +kernel
theorem dX0_whoIsAt_22 : decode cX0_whoIsAt 22 = .ok (.iload_n 3, 1) := by decide +kernel
theorem dX0_whoIsAt_23 : decode cX0_whoIsAt 23 = .ok (.iconst 1, 1) := by decide +kernel
theorem dX0_whoIsAt_24 : decode cX0_whoIsAt 24 = .ok (.iload 4, 2) := by decide +kernel
theorem dX0_whoIsAt_26 : decode cX0_whoIsAt 26 = .ok (.ishl, 1) := by decide +kernel
theorem dX0_whoIsAt_27 : decode cX0_whoIsAt 27 = .ok (.ior, 1) := by decide +kernel
theorem dX0_whoIsAt_28 : decode cX0_whoIsAt 28 = .ok (.istore_n 3, 1) := by decide +kernel
theorem dX0_whoIsAt_29 : decode cX0_whoIsAt 29 = .ok (.iinc 4 1, 3) := by decide +kernel
theorem dX0_whoIsAt_32 : decode cX0_whoIsAt 32 = .ok (.goto (-27), 3) := by decide +kernel
theorem dX0_whoIsAt_35 : decode cX0_whoIsAt 35 = .ok (.iload_n 3, 1) := by decide +kernel
theorem dX0_whoIsAt_36 : decode cX0_whoIsAt 36 = .ok (.ireturn, 1) := by decide +kernel
theorem dX0_goOn_0 : decode cX0_goOn 0 = .ok (.aload_n 0, 1) := by decide +kernel
theorem dX0_goOn_1 : decode cX0_goOn 1 = .ok (.dup, 1) := by decide +kernel
theorem dX0_goOn_2 : decode cX0_goOn 2 = .ok (.getfield 34, 3) := by decide +kernel
theorem dX0_goOn_5 : decode cX0_goOn 5 = .ok (.iload_n 2, 1) := by decide +kernel
theorem dX0_goOn_6 : decode cX0_goOn 6 = .ok (.iadd, 1) := by decide +kernel
theorem dX0_goOn_7 : decode cX0_goOn 7 = .ok (.putfield 34, 3) := by decide +kernel
theorem dX0_goOn_10 : decode cX0_goOn 10 = .ok (.iconst 0, 1) := by decide +kernel
theorem dX0_goOn_11 : decode cX0_goOn 11 = .ok (.istore_n 3, 1) := by decide +kernel
theorem dX0_goOn_12 : decode cX0_goOn 12 = .ok (.iload_n 3, 1) := by decide +kernel
theorem dX0_goOn_13 : decode cX0_goOn 13 = .ok (.aload_n 1, 1) := by decide +kernel
theorem dX0_goOn_14 : decode cX0_goOn 14 = .ok (.getfield 55, 3) := by decide +kernel
theorem dX0_goOn_17 : decode cX0_goOn 17 = .ok (.if_icmp .ge 39, 3) := by decide +kernel
theorem dX0_goOn_20 : decode cX0_goOn 20 = .ok (.aload_n 0, 1) := by decide +kernel
theorem dX0_goOn_21 : decode cX0_goOn 21 = .ok (.getfield 15, 3) := by decide +kernel
theorem dX0_goOn_24 : decode cX0_goOn 24 = .ok (.iload_n 3, 1) := by decide +kernel
theorem dX0_goOn_25 : decode cX0_goOn 25 = .ok (.aload_n 1, 1) := by decide +kernel
theorem dX0_goOn_26 : decode cX0_goOn 26 = .ok (.aload_n 0, 1) := by decide +kernel
theorem dX0_goOn_27 : decode cX0_goOn 27 = .ok (.getfield 15, 3) := by decide +kernel
theorem dX0_goOn_30 : decode cX0_goOn 30 = .ok (.iload_n 3, 1) := by decide +kernel
theorem dX0_goOn_31 : decode cX0_goOn 31 = .ok (.iaload, 1) := by decide +kernel
theorem dX0_goOn_32 : decode cX0_goOn 32 = .ok (.aload_n 1, 1) := by decide +kernel
theorem dX0_goOn_33 : decode cX0_goOn 33 = .ok (.getfield 58, 3) := by decide +kernel
theorem dX0_goOn_36 : decode cX0_goOn 36 = .ok (.iload_n 3, 1) := by decide +kernel
theorem dX0_goOn_37 : decode cX0_goOn 37 = .ok (.iaload, 1) := by decide +kernel
theorem dX0_goOn_38 : decode cX0_goOn 38 = .ok (.iload_n 2, 1) := by decide +kernel
theorem dX0_goOn_39 : decode cX0_goOn 39 = .ok (.imul, 1) := by decide +kernel
theorem dX0_goOn_40 : decode cX0_goOn 40 = .ok (.aload_n 1, 1) := by decide +kernel
theorem dX0_goOn_41 : decode cX0_goOn 41 = .ok (.getfield 61, 3) := by decide +kernel
theorem dX0_goOn_44 : decode cX0_goOn 44 = .ok (.iload_n 3, 1) := by decide +kernel
theorem dX0_goOn_45 : decode cX0_goOn 45 = .ok (.iaload, 1) := by decide +kernel
theorem dX0_goOn_46 : decode cX0_goOn 46 = .ok (.invokevirtual 64, 3) := by decide +kernel
theorem dX0_goOn_49 : decode cX0_goOn 49 = .ok (.iastore, 1) := by decide +kernel
theorem dX0_goOn_50 : decode cX0_goOn 50 = .ok (.iinc 3 1, 3) := by decide +kernel
theorem dX0_goOn_53 : decode cX0_goOn 53 = .ok (.goto (-41), 3) := by decide +kernel
theorem dX0_goOn_56 : decode cX0_goOn 56 = .ok (.return_, 1) := by decide +kernel
theorem dX0_end_0 : decode cX0_end 0 = .ok (.aload_n 0, 1) := by decide +kernel
theorem dX0_end_1 : decode cX0_end 1 = .ok (.iconst 0, 1) := by decide +kernel
theorem dX0_end_2 : decode cX0_end 2 = .ok (.putfield 9, 3) := by decide +kernel
theorem dX0_end_5 : decode cX0_end 5 = .ok (.aload_n 0, 1) := by decide +kernel
theorem dX0_end_6 : decode cX0_end 6 = .ok (.iload_n 3, 1) := by decide +kernel
theorem dX0_end_7 : decode cX0_end 7 = .ok (.putfield 52, 3) := by decide +kernel
theorem dX0_end_10 : decode cX0_end 10 = .ok (.aload_n 2, 1) := by decide +kernel
theorem dX0_end_11 : decode cX0_end 11 = .ok (.getfield 68, 3) := by decide +kernel
theorem dX0_end_14 : decode cX0_end 14 = .ok (.iconst 0, 1) := by decide +kernel
theorem dX0_end_15 : decode cX0_end 15 = .ok (.aload_n 0, 1) := by decide +kernel
theorem dX0_end_16 : decode cX0_end 16 = .ok (.getfield 19, 3) := by decide +kernel
theorem dX0_end_19 : decode cX0_end 19 = .ok (.iconst 0, 1) := by decide +kernel
theorem dX0_end_20 : decode cX0_end 20 = .ok (.bipush 6, 2) := by decide +kernel
theorem dX0_end_22 : decode cX0_end 22 = .ok (.invokestatic 43, 3) := by decide +kernel
theorem dX0_end_25 : decode cX0_end 25 = .ok (.aload_n 2, 1) := by decide +kernel
theorem dX0_end_26 : decode cX0_end 26 = .ok (.getfield 71, 3) := by decide +kernel
theorem dX0_end_29 : decode cX0_end 29 = .ok (.iconst 0, 1) := by decide +kernel
theorem dX0_end_30 : decode cX0_end 30 = .ok (.aload_n 0, 1) := by decide +kernel
theorem dX0_end_31 : decode cX0_end 31 = .ok (.getfield 22, 3) := by decide +kernel
theorem dX0_end_34 : decode cX0_end 34 = .ok (.iconst 0, 1) := by decide +kernel
theorem dX0_end_35 : decode cX0_end 35 = .ok (.bipush 12, 2) := by decide +kernel
theorem dX0_end_37 : decode cX0_end 37 = .ok (.invokestatic 43, 3) := by decide +kernel
theorem dX0_end_40 : decode cX0_end 40 = .ok (.iload_n 3, 1) := by decide +kernel
theorem dX0_end_41 : decode cX0_end 41 = .ok (.invokestatic 72, 3) := by decide +kernel
theorem dX0_end_44 : decode cX0_end 44 = .ok (.istore 4, 2) := by decide +kernel
theorem dX0_end_46 : decode cX0_end 46 = .ok (.iload 4, 2) := by decide +kernel
theorem dX0_end_48 : decode cX0_end 48 = .ok (.ifCond .ne 7, 3) := by decide +kernel
theorem dX0_end_51 : decode cX0_end 51 = .ok (.iconst 0, 1) := by decide +kernel
theorem dX0_end_52 : decode cX0_end 52 = .ok (.goto 10, 3) := by decide +kernel
theorem dX0_end_55 : decode cX0_end 55 = .ok (.aload_n 1, 1) := by decide +kernel
theorem dX0_end_56 : decode cX0_end 56 = .ok (.invokevirtual 78, 3) := by decide +kernel
theorem dX0_end_59 : decode cX0_end 59 = .ok (.iload 4, 2) := by decide +kernel
theorem dX0_end_61 : decode cX0_end 61 = .ok (.idiv, 1) := by decide +kernel
theorem dX0_end_62 : decode cX0_end 62 = .ok (.istore 5, 2) := by decide +kernel
theorem dX0_end_64 : decode cX0_end 64 = .ok (.iconst 0, 1) := by decide +kernel
theorem dX0_end_65 : decode cX0_end 65 = .ok (.istore 6, 2) := by decide +kernel
theorem dX0_end_67 : decode cX0_end 67 = .ok (.iload 6, 2) := by decide +kernel
theorem dX0_end_69 : decode cX0_end 69 = .ok (.aload_n 1, 1) := by decide +kernel
theorem dX0_end_70 : decode cX0_end 70 = .ok (.getfield 55, 3) := by decide +kernel
theorem dX0_end_73 : decode cX0_end 73 = .ok (.if_icmp .ge 55, 3) := by decide +kernel
theorem dX0_end_76 : decode cX0_end 76 = .ok (.aload_n 0, 1) := by decide +kernel
theorem dX0_end_77 : decode cX0_end 77 = .ok (.getfield 19, 3) := by decide +kernel
theorem dX0_end_80 : decode cX0_end 80 = .ok (.iload 6, 2) := by decide +kernel
theorem dX0_end_82 : decode cX0_end 82 = .ok (.iaload, 1) := by decide +kernel
theorem dX0_end_83 : decode cX0_end 83 = .ok (.iconst (-1), 1) := by decide +kernel
theorem dX0_end_84 : decode cX0_end 84 = .ok (.if_icmp .eq 17, 3) := by decide +kernel
theorem dX0_end_87 : decode cX0_end 87 = .ok (.aload_n 0, 1) := by decide +kernel
theorem dX0_end_88 : decode cX0_end 88 = .ok (.getfield 15, 3) := by decide +kernel
theorem dX0_end_91 : decode cX0_end 91 = .ok (.iload 6, 2) := by decide +kernel
theorem dX0_end_93 : decode cX0_end 93 = .ok (.aload_n 0, 1) := by decide +kernel
theorem dX0_end_94 : decode cX0_end 94 = .ok (.getfield 19, 3) := by decide +kernel
theorem dX0_end_97 : decode cX0_end 97 = .ok (.iload 6, 2) := by decide +kernel
theorem dX0_end_99 : decode cX0_end 99 = .ok (.iaload, 1) := by decide +kernel
theorem dX0_end_100 : decode cX0_end 100 = .ok (.iastore, 1) := by decide +kernel
theorem dX0_end_101 : decode cX0_end 101 = .ok (.iload_n 3, 1) := by decide +kernel
theorem dX0_end_102 : decode cX0_end 102 = .ok (.iload 6, 2) := by decide +kernel
theorem dX0_end_104 : decode cX0_end 104 = .ok (.invokestatic 82, 3) := by decide +kernel
theorem dX0_end_107 : decode cX0_end 107 = .ok (.ifCond .eq 15, 3) := by decide +kernel
theorem dX0_end_110 : decode cX0_end 110 = .ok (.aload_n 0, 1) := by decide +kernel
theorem dX0_end_111 : decode cX0_end 111 = .ok (.getfield 25, 3) := by decide +kernel
theorem dX0_end_114 : decode cX0_end 114 = .ok (.iload 6, 2) := by decide +kernel
theorem dX0_end_116 : decode cX0_end 116 = .ok (.dup2, 1) := by decide +kernel
theorem dX0_end_117 : decode cX0_end 117 = .ok (.iaload, 1) := by decide +kernel
theorem dX0_end_118 : decode cX0_end 118 = .ok (.iload 5, 2) := by decide +kernel
theorem dX0_end_120 : decode cX0_end 120 = .ok (.iadd, 1) := by decide +kernel
theorem dX0_end_121 : decode cX0_end 121 = .ok (.iastore, 1) := by decide +kernel
theorem dX0_end_122 : decode cX0_end 122 = .ok (.iinc 6 1, 3) := by decide +kernel
theorem dX0_end_125 : decode cX0_end 125 = .ok (.goto (-58), 3) := by decide +kernel
theorem dX0_end_128 : decode cX0_end 128 = .ok (.return_, 1) := by decide +kernel
theorem dX0_getUp_0 : decode cX0_getUp 0 = .ok (.aload_n 0, 1) := by decide +kernel
theorem dX0_getUp_1 : decode cX0_getUp 1 = .ok (.iconst 1, 1) := by decide +kernel
theorem dX0_getUp_2 : decode cX0_getUp 2 = .ok (.putfield 9, 3) := by decide +kernel
theorem dX0_getUp_5 : decode cX0_getUp 5 = .ok (.aload_n 0, 1) := by decide +kernel
theorem dX0_getUp_6 : decode cX0_getUp 6 = .ok (.iconst 0, 1) := by decide +kernel
theorem dX0_getUp_7 : decode cX0_getUp 7 = .ok (.putfield 52, 3) := by decide +kernel
theorem dX0_getUp_10 : decode cX0_getUp 10 = .ok (.aload_n 0, 1) := by decide +kernel
theorem dX0_getUp_11 : decode cX0_getUp 11 = .ok (.getfield 19, 3) := by decide +kernel
theorem dX0_getUp_14 : decode cX0_getUp 14 = .ok (.iconst (-1), 1) := by decide +kernel
theorem dX0_getUp_15 : decode cX0_getUp 15 = .ok (.invokestatic 28, 3) := by decide +kernel
theorem dX0_getUp_18 : decode cX0_getUp 18 = .ok (.aload_n 0, 1) := by decide +kernel
theorem dX0_getUp_19 : decode cX0_getUp 19 = .ok (.getfield 22, 3) := by decide +kernel
theorem dX0_getUp_22 : decode cX0_getUp 22 = .ok (.iconst (-1), 1) := by decide +kernel
theorem dX0_getUp_23 : decode cX0_getUp 23 = .ok (.invokestatic 28, 3) := by decide +kernel
theorem dX0_getUp_26 : decode cX0_getUp 26 = .ok (.return_, 1) := by decide +kernel
theorem dX1_init_0 : decode cX1_init 0 = .ok (.aload_n 0, 1) := by decide +kernel
theorem dX1_init_1 : decode cX1_init 1 = .ok (.invokespecial 3, 3) := by decide +kernel
theorem dX1_init_4 : decode cX1_init 4 = .ok (.aload_n 0, 1) := by decide +kernel
theorem dX1_init_5 : decode cX1_init 5 = .ok (.sipush 384, 3) := by decide +kernel
theorem dX1_init_8 : decode cX1_init 8 = .ok (.newarray .int, 2) := by decide +kernel
theorem dX1_init_10 : decode cX1_init 10 = .ok (.putfield 9, 3) := by decide +kernel
theorem dX1_init_13 : decode cX1_init 13 = .ok (.aload_n 0, 1) := by decide +kernel
theorem dX1_init_14 : decode cX1_init 14 = .ok (.aload_n 1, 1) := by decide +kernel
theorem dX1_init_15 : decode cX1_init 15 = .ok (.putfield 15, 3) := by decide +kernel
theorem dX1_init_18 : decode cX1_init 18 = .ok (.aload_n 0, 1) := by decide +kernel
theorem dX1_init_19 : decode cX1_init 19 = .ok (.aload_n 2, 1) := by decide +kernel
theorem dX1_init_20 : decode cX1_init 20 = .ok (.putfield 19, 3) := by decide +kernel
theorem dX1_init_23 : decode cX1_init 23 = .ok (.return_, 1) := by decide +kernel
theorem dX1_findSurest_0 : decode cX1_findSurest 0 = .ok (.aload_n 0, 1) := by decide +kernel
theorem dX1_findSurest_1 : decode cX1_findSurest 1 = .ok (.getfield 19, 3) := by decide +kernel
theorem dX1_findSurest_4 : decode cX1_findSurest 4 = .ok (.invokevirtual 23, 3) := by decide +kernel
theorem dX1_findSurest_7 : decode cX1_findSurest 7 = .ok (.aload_n 0, 1) := by decide +kernel
theorem dX1_findSurest_8 : decode cX1_findSurest 8 = .ok (.bipush 101, 2) := by decide +kernel
theorem dX1_findSurest_10 : decode cX1_findSurest 10 = .ok (.putfield 28, 3) := by decide +kernel
theorem dX1_findSurest_13 : decode cX1_findSurest 13 = .ok (.iconst 0, 1) := by decide +kernel
theorem dX1_findSurest_14 : decode cX1_findSurest 14 = .ok (.istore 4, 2) := by decide +kernel
theorem dX1_findSurest_16 : decode cX1_findSurest 16 = .ok (.iload 4, 2) := by decide +kernel
theorem dX1_findSurest_18 : decode cX1_findSurest 18 = .ok (.iconst 3, 1) := by decide +kernel
theorem dX1_findSurest_19 : decode cX1_findSurest 19 = .ok (.if_icmp .gt 96, 3) := by decide +kernel
theorem dX1_findSurest_22 : decode cX1_findSurest 22 = .ok (.iconst 0, 1) := by decide +kernel
theorem dX1_findSurest_23 : decode cX1_findSurest 23 = .ok (.istore 5, 2) := by decide +kernel
theorem dX1_findSurest_25 : decode cX1_findSurest 25 = .ok (.iload 5, 2) := by decide +kernel
theorem dX1_findSurest_27 : decode cX1_findSurest 27 = .ok (.iconst 1, 1) := by decide +kernel
theorem dX1_findSurest_28 : decode cX1_findSurest 28 = .ok (.if_icmp .gt 81, 3) := by decide +kernel
theorem dX1_findSurest_31 : decode cX1_findSurest 31 = .ok (.aload_n 0, 1) := by decide +kernel
theorem dX1_findSurest_32 : decode cX1_findSurest 32 = .ok (.getfield 19, 3) := by decide +kernel
theorem dX1_findSurest_35 : decode cX1_findSurest 35 = .ok (.getfield 32, 3) := by decide +kernel
theorem dX1_findSurest_38 : decode cX1_findSurest 38 = .ok (.iload_n 1, 1) := by decide +kernel
theorem dX1_findSurest_39 : decode cX1_findSurest 39 = .ok (.iload 4, 2) := by decide +kernel
theorem dX1_findSurest_41 : decode cX1_findSurest 41 = .ok (.iastore, 1) := by decide +kernel
theorem dX1_findSurest_42 : decode cX1_findSurest 42 = .ok (.aload_n 0, 1) := by decide +kernel
theorem dX1_findSurest_43 : decode cX1_findSurest 43 = .ok (.getfield 19, 3) := by decide +kernel
theorem dX1_findSurest_46 : decode cX1_findSurest 46 = .ok (.getfield 35, 3) := by decide +kernel
theorem dX1_findSurest_49 : decode cX1_findSurest 49 = .ok (.iload_n 1, 1) := by decide +kernel
theorem dX1_findSurest_50 : decode cX1_findSurest 50 = .ok (.iload 5, 2) := by decide +kernel
theorem dX1_findSurest_52 : decode cX1_findSurest 52 = .ok (.iastore, 1) := by decide +kernel
theorem dX1_findSurest_53 : decode cX1_findSurest 53 = .ok (.aload_n 0, 1) := by decide +kernel
theorem dX1_findSurest_54 : decode cX1_findSurest 54 = .ok (.getfield 19, 3) := by decide +kernel
theorem dX1_findSurest_57 : decode cX1_findSurest 57 = .ok (.iload_n 2, 1) := by decide +kernel
theorem dX1_findSurest_58 : decode cX1_findSurest 58 = .ok (.iload_n 3, 1) := by decide +kernel
theorem dX1_findSurest_59 : decode cX1_findSurest 59 = .ok (.invokevirtual 38, 3) := by decide +kernel
theorem dX1_findSurest_62 : decode cX1_findSurest 62 = .ok (.aload_n 0, 1) := by decide +kernel
theorem dX1_findSurest_63 : decode cX1_findSurest 63 = .ok (.getfield 19, 3) := by decide +kernel
theorem dX1_findSurest_66 : decode cX1_findSurest 66 = .ok (.getfield 42, 3) := by decide +kernel
theorem dX1_findSurest_69 : decode cX1_findSurest 69 = .ok (.iload_n 1, 1) := by decide +kernel
theorem dX1_findSurest_70 : decode cX1_findSurest 70 = .ok (.iaload, 1) := by decide +kernel
theorem dX1_findSurest_71 : decode cX1_findSurest 71 = .ok (.aload_n 0, 1) := by decide +kernel
theorem dX1_findSurest_72 : decode cX1_findSurest 72 = .ok (.getfield 28, 3) := by decide +kernel
theorem dX1_findSurest_75 : decode cX1_findSurest 75 = .ok (.if_icmp .ge 28, 3) := by decide +kernel
theorem dX1_findSurest_78 : decode cX1_findSurest 78 = .ok (.aload_n 0, 1) := by decide +kernel
theorem dX1_findSurest_79 : decode cX1_findSurest 79 = .ok (.aload_n 0, 1) := by decide +kernel
theorem dX1_findSurest_80 : decode cX1_findSurest 80 = .ok (.getfield 19, 3) := by decide +kernel
theorem dX1_findSurest_83 : decode cX1_findSurest 83 = .ok (.getfield 42, 3) := by decide +kernel
theorem dX1_findSurest_86 : decode cX1_findSurest 86 = .ok (.iload_n 1, 1) := by decide +kernel
theorem dX1_findSurest_87 : decode cX1_findSurest 87 = .ok (.iaload, 1) := by decide +kernel
theorem dX1_findSurest_88 : decode cX1_findSurest 88 = .ok (.putfield 28, 3) := by decide +kernel
theorem dX1_findSurest_91 : decode cX1_findSurest 91 = .ok (.aload_n 0, 1) := by decide +kernel
theorem dX1_findSurest_92 : decode cX1_findSurest 92 = .ok (.iload 4, 2) := by decide +kernel
theorem dX1_findSurest_94 : decode cX1_findSurest 94 = .ok (.putfield 45, 3) := by decide +kernel
theorem dX1_findSurest_97 : decode cX1_findSurest 97 = .ok (.aload_n 0, 1) := by decide +kernel
theorem dX1_findSurest_98 : decode cX1_findSurest 98 = .ok (.iload 5, 2) := by decide +kernel
theorem dX1_findSurest_100 : decode cX1_findSurest 100 = .ok (.putfield 48, 3) := by decide +kernel
theorem dX1_findSurest_103 : decode cX1_findSurest 103 = .ok (.iinc 5 1, 3) := by decide +kernel
theorem dX1_findSurest_106 : decode cX1_findSurest 106 = .ok (.goto (-81), 3) := by decide +kernel
theorem dX1_findSurest_109 : decode cX1_findSurest 109 = .ok (.iinc 4 1, 3) := by decide +kernel
theorem dX1_findSurest_112 : decode cX1_findSurest 112 = .ok (.goto (-96), 3) := by decide +kernel
theorem dX1_findSurest_115 : decode cX1_findSurest 115 = .ok (.return_, 1) := by decide +kernel
theorem dX1_findStill_0 : decode cX1_findStill 0 = .ok (.aload_n 0, 1) := by decide +kernel
theorem dX1_findStill_1 : decode cX1_findStill 1 = .ok (.getfield 19, 3) := by decide +kernel
theorem dX1_findStill_4 : decode cX1_findStill 4 = .ok (.invokevirtual 23, 3) := by decide +kernel
theorem dX1_findStill_7 : decode cX1_findStill 7 = .ok (.iconst 0, 1) := by decide +kernel
theorem dX1_findStill_8 : decode cX1_findStill 8 = .ok (.istore_n 3, 1) := by decide +kernel
theorem dX1_findStill_9 : decode cX1_findStill 9 = .ok (.iload_n 3, 1) := by decide +kernel
theorem dX1_findStill_10 : decode cX1_findStill 10 = .ok (.aload_n 0, 1) := by decide +kernel
theorem dX1_findStill_11 : decode cX1_findStill 11 = .ok (.getfield 15, 3) := by decide +kernel
theorem dX1_findStill_14 : decode cX1_findStill 14 = .ok (.invokevirtual 51, 3) := by decide +kernel
theorem dX1_findStill_17 : decode cX1_findStill 17 = .ok (.if_icmp .gt 76, 3) := by decide +kernel
theorem dX1_findStill_20 : decode cX1_findStill 20 = .ok (.iconst 0, 1) := by decide +kernel
theorem dX1_findStill_21 : decode cX1_findStill 21 = .ok (.istore 4, 2) := by decide +kernel
theorem dX1_findStill_23 : decode cX1_findStill 23 = .ok (.iload 4, 2) := by decide +kernel
theorem dX1_findStill_25 : decode cX1_findStill 25 = .ok (.aload_n 0, 1) := by decide +kernel
theorem dX1_findStill_26 : decode cX1_findStill 26 = .ok (.getfield 15, 3) := by decide +kernel
theorem dX1_findStill_29 : decode cX1_findStill 29 = .ok (.getfield 57, 3) := by decide +kernel
theorem dX1_findStill_32 : decode cX1_findStill 32 = .ok (.if_icmp .ge 25, 3) := by decide +kernel
theorem dX1_findStill_35 : decode cX1_findStill 35 = .ok (.aload_n 0, 1) := by decide +kernel
theorem dX1_findStill_36 : decode cX1_findStill 36 = .ok (.getfield 19, 3) := by decide +kernel
theorem dX1_findStill_39 : decode cX1_findStill 39 = .ok (.getfield 32, 3) := by decide +kernel
theorem dX1_findStill_42 : decode cX1_findStill 42 = .ok (.iload 4, 2) := by decide +kernel
theorem dX1_findStill_44 : decode cX1_findStill 44 = .ok (.iload_n 3, 1) := by decide +kernel
theorem dX1_findStill_45 : decode cX1_findStill 45 = .ok (.iload 4, 2) := by decide +kernel
theorem dX1_findStill_47 : decode cX1_findStill 47 = .ok (.ishr, 1) := by decide +kernel
theorem dX1_findStill_48 : decode cX1_findStill 48 = .ok (.iconst 1, 1) := by decide +kernel
theorem dX1_findStill_49 : decode cX1_findStill 49 = .ok (.iand, 1) := by decide +kernel
theorem dX1_findStill_50 : decode cX1_findStill 50 = .ok (.iastore, 1) := by decide +kernel
theorem dX1_findStill_51 : decode cX1_findStill 51 = .ok (.iinc 4 1, 3) := by decide +kernel
theorem dX1_findStill_54 : decode cX1_findStill 54 = .ok (.goto (-31), 3) := by decide +kernel
theorem dX1_findStill_57 : decode cX1_findStill 57 = .ok (.aload_n 0, 1) := by decide +kernel
theorem dX1_findStill_58 : decode cX1_findStill 58 = .ok (.getfield 19, 3) := by decide +kernel
theorem dX1_findStill_61 : decode cX1_findStill 61 = .ok (.iload_n 1, 1) := by decide +kernel
theorem dX1_findStill_62 : decode cX1_findStill 62 = .ok (.iload_n 2, 1) := by decide +kernel
theorem dX1_findStill_63 : decode cX1_findStill 63 = .ok (.invokevirtual 38, 3) := by decide +kernel
theorem dX1_findStill_66 : decode cX1_findStill 66 = .ok (.aload_n 0, 1) := by decide +kernel
theorem dX1_findStill_67 : decode cX1_findStill 67 = .ok (.getfield 19, 3) := by decide +kernel
theorem dX1_findStill_70 : decode cX1_findStill 70 = .ok (.getfield 42, 3) := by decide +kernel
theorem dX1_findStill_73 : decode cX1_findStill 73 = .ok (.iconst 0, 1) := by decide +kernel
theorem dX1_findStill_74 : decode cX1_findStill 74 = .ok (.aload_n 0, 1) := by decide +kernel
theorem dX1_findStill_75 : decode cX1_findStill 75 = .ok (.getfield 9, 3) := by decide +kernel
theorem dX1_findStill_78 : decode cX1_findStill 78 = .ok (.iload_n 3, 1) := by decide +kernel
theorem dX1_findStill_79 : decode cX1_findStill 79 = .ok (.bipush 6, 2) := by decide +kernel
theorem dX1_findStill_81 : decode cX1_findStill 81 = .ok (.imul, 1) := by decide +kernel
theorem dX1_findStill_82 : decode cX1_findStill 82 = .ok (.bipush 6, 2) := by decide +kernel
theorem dX1_findStill_84 : decode cX1_findStill 84 = .ok (.invokestatic 60, 3) := by decide +kernel
theorem dX1_findStill_87 : decode cX1_findStill 87 = .ok (.iinc 3 1, 3) := by decide +kernel
theorem dX1_findStill_90 : decode cX1_findStill 90 = .ok (.goto (-81), 3) := by decide +kernel
theorem dX1_findStill_93 : decode cX1_findStill 93 = .ok (.aload_n 0, 1) := by decide +kernel
theorem dX1_findStill_94 : decode cX1_findStill 94 = .ok (.iconst 0, 1) := by decide +kernel
theorem dX1_findStill_95 : decode cX1_findStill 95 = .ok (.putfield 28, 3) := by decide +kernel
theorem dX1_findStill_98 : decode cX1_findStill 98 = .ok (.aload_n 0, 1) := by decide +kernel
theorem dX1_findStill_99 : decode cX1_findStill 99 = .ok (.iconst (-1), 1) := by decide +kernel
theorem dX1_findStill_100 : decode cX1_findStill 100 = .ok (.putfield 66, 3) := by decide +kernel
theorem dX1_findStill_103 : decode cX1_findStill 103 = .ok (.iconst 0, 1) := by decide +kernel
theorem dX1_findStill_104 : decode cX1_findStill 104 = .ok (.istore_n 3, 1) := by decide +kernel
theorem dX1_findStill_105 : decode cX1_findStill 105 = .ok (.iload_n 3, 1) := by decide +kernel
theorem dX1_findStill_106 : decode cX1_findStill 106 = .ok (.aload_n 0, 1) := by decide +kernel
theorem dX1_findStill_107 : decode cX1_findStill 107 = .ok (.getfield 15, 3) := by decide +kernel
theorem dX1_findStill_110 : decode cX1_findStill 110 = .ok (.invokevirtual 51, 3) := by decide +kernel
theorem dX1_findStill_113 : decode cX1_findStill 113 = .ok (.if_icmp .gt 47, 3) := by decide +kernel
theorem dX1_findStill_116 : decode cX1_findStill 116 = .ok (.aload_n 0, 1) := by decide +kernel
theorem dX1_findStill_117 : decode cX1_findStill 117 = .ok (.iload_n 3, 1) := by decide +kernel
theorem dX1_findStill_118 : decode cX1_findStill 118 = .ok (.invokevirtual 69, 3) := by decide +kernel
theorem dX1_findStill_121 : decode cX1_findStill 121 = .ok (.ifCond .eq 33, 3) := by decide +kernel
theorem dX1_findStill_124 : decode cX1_findStill 124 = .ok (.aload_n 0, 1) := by decide +kernel
theorem dX1_findStill_125 : decode cX1_findStill 125 = .ok (.dup, 1) := by decide +kernel
theorem dX1_findStill_126 : decode cX1_findStill 126 = .ok (.getfield 28, 3) := by decide +kernel
theorem dX1_findStill_129 : decode cX1_findStill 129 = .ok (.iconst 1, 1) := by decide +kernel
theorem dX1_findStill_130 : decode cX1_findStill 130 = .ok (.iadd, 1) := by decide +kernel
theorem dX1_findStill_131 : decode cX1_findStill 131 = .ok (.putfield 28, 3) := by decide +kernel
theorem dX1_findStill_134 : decode cX1_findStill 134 = .ok (.aload_n 0, 1) := by decide +kernel
theorem dX1_findStill_135 : decode cX1_findStill 135 = .ok (.aload_n 0, 1) := by decide +kernel
theorem dX1_findStill_136 : decode cX1_findStill 136 = .ok (.getfield 66, 3) := by decide +kernel
theorem dX1_findStill_139 : decode cX1_findStill 139 = .ok (.iconst (-1), 1) := by decide +kernel
theorem dX1_findStill_140 : decode cX1_findStill 140 = .ok (.if_icmp .ne 7, 3) := by decide +kernel
theorem dX1_findStill_143 : decode cX1_findStill 143 = .ok (.iload_n 3, 1) := by decide +kernel
theorem dX1_findStill_144 : decode cX1_findStill 144 = .ok (.goto 7, 3) := by decide +kernel
theorem dX1_findStill_147 : decode cX1_findStill 147 = .ok (.aload_n 0, 1) := by decide +kernel
theorem dX1_findStill_148 : decode cX1_findStill 148 = .ok (.getfield 66, 3) := by decide +kernel
theorem dX1_findStill_151 : decode cX1_findStill 151 = .ok (.putfield 66, 3) := by decide +kernel
theorem dX1_findStill_154 : decode cX1_findStill 154 = .ok (.iinc 3 1, 3) := by decide +kernel
theorem dX1_findStill_157 : decode cX1_findStill 157 = .ok (.goto (-52), 3) := by decide +kernel
theorem dX1_findStill_160 : decode cX1_findStill 160 = .ok (.return_, 1) := by decide +kernel
theorem dX1_nobodyWouldChange_0 : decode cX1_nobodyWouldChange 0 = .ok (.iconst 0, 1) := by decide +kernel
theorem dX1_nobodyWouldChange_1 : decode cX1_nobodyWouldChange 1 = .ok (.istore_n 2, 1) := by decide +kernel
theorem dX1_nobodyWouldChange_2 : decode cX1_nobodyWouldChange 2 = .ok (.iload_n 2, 1) := by decide +kernel
theorem dX1_nobodyWouldChange_3 : decode cX1_nobodyWouldChange 3 = .ok (.aload_n 0, 1) := by decide +kernel
theorem dX1_nobodyWouldChange_4 : decode cX1_nobodyWouldChange 4 = .ok (.getfield 15, 3) := by decide +kernel
theorem dX1_nobodyWouldChange_7 : decode cX1_nobodyWouldChange 7 = .ok (.getfield 57, 3) := by decide +kernel
theorem dX1_nobodyWouldChange_10 : decode cX1_nobodyWouldChange 10 = .ok (.if_icmp .ge 42, 3) := by decide +kernel
theorem dX1_nobodyWouldChange_13 : decode cX1_nobodyWouldChange 13 = .ok (.iload_n 1, 1) := by decide +kernel
theorem dX1_nobodyWouldChange_14 : decode cX1_nobodyWouldChange 14 = .ok (.iconst 1, 1) := by decide +kernel
theorem dX1_nobodyWouldChange_15 : decode cX1_nobodyWouldChange 15 = .ok (.iload_n 2, 1) := by decide +kernel
theorem dX1_nobodyWouldChange_16 : decode cX1_nobodyWouldChange 16 = .ok (.ishl, 1) := by decide +kernel
theorem dX1_nobodyWouldChange_17 : decode cX1_nobodyWouldChange 17 = .ok (.ixor, 1) := by decide +kernel
theorem dX1_nobodyWouldChange_18 : decode cX1_nobodyWouldChange 18 = .ok (.istore_n 3, 1) := by decide +kernel
theorem dX1_nobodyWouldChange_19 : decode cX1_nobodyWouldChange 19 = .ok (.aload_n 0, 1) := by decide +kernel
theorem dX1_nobodyWouldChange_20 : decode cX1_nobodyWouldChange 20 = .ok (.getfield 9, 3) := by decide +kernel
theorem dX1_nobodyWouldChange_23 : decode cX1_nobodyWouldChange 23 = .ok (.iload_n 3, 1) := by decide +kernel
theorem dX1_nobodyWouldChange_24 : decode cX1_nobodyWouldChange 24 = .ok (.bipush 6, 2) := by decide +kernel
theorem dX1_nobodyWouldChange_26 : decode cX1_nobodyWouldChange 26 = .ok (.imul, 1) := by decide +kernel
theorem dX1_nobodyWouldChange_27 : decode cX1_nobodyWouldChange 27 = .ok (.iload_n 2, 1) := by decide +kernel
theorem dX1_nobodyWouldChange_28 : decode cX1_nobodyWouldChange 28 = .ok (.iadd, 1) := by decide +kernel
theorem dX1_nobodyWouldChange_29 : decode cX1_nobodyWouldChange 29 = .ok (.iaload, 1) := by decide +kernel
theorem dX1_nobodyWouldChange_30 : decode cX1_nobodyWouldChange 30 = .ok (.aload_n 0, 1) := by decide +kernel
theorem dX1_nobodyWouldChange_31 : decode cX1_nobodyWouldChange 31 = .ok (.getfield 9, 3) := by decide +kernel
theorem dX1_nobodyWouldChange_34 : decode cX1_nobodyWouldChange 34 = .ok (.iload_n 1, 1) := by decide +kernel
theorem dX1_nobodyWouldChange_35 : decode cX1_nobodyWouldChange 35 = .ok (.bipush 6, 2) := by decide +kernel
theorem dX1_nobodyWouldChange_37 : decode cX1_nobodyWouldChange 37 = .ok (.imul, 1) := by decide +kernel
theorem dX1_nobodyWouldChange_38 : decode cX1_nobodyWouldChange 38 = .ok (.iload_n 2, 1) := by decide +kernel
theorem dX1_nobodyWouldChange_39 : decode cX1_nobodyWouldChange 39 = .ok (.iadd, 1) := by decide +kernel
theorem dX1_nobodyWouldChange_40 : decode cX1_nobodyWouldChange 40 = .ok (.iaload, 1) := by decide +kernel
theorem dX1_nobodyWouldChange_41 : decode cX1_nobodyWouldChange 41 = .ok (.if_icmp .ge 5, 3) := by decide +kernel
theorem dX1_nobodyWouldChange_44 : decode cX1_nobodyWouldChange 44 = .ok (.iconst 0, 1) := by decide +kernel
theorem dX1_nobodyWouldChange_45 : decode cX1_nobodyWouldChange 45 = .ok (.ireturn, 1) := by decide +kernel
theorem dX1_nobodyWouldChange_46 : decode cX1_nobodyWouldChange 46 = .ok (.iinc 2 1, 3) := by decide +kernel
theorem dX1_nobodyWouldChange_49 : decode cX1_nobodyWouldChange 49 = .ok (.goto (-47), 3) := by decide +kernel
theorem dX1_nobodyWouldChange_52 : decode cX1_nobodyWouldChange 52 = .ok (.iconst 1, 1) := by decide +kernel
theorem dX1_nobodyWouldChange_53 : decode cX1_nobodyWouldChange 53 = .ok (.ireturn, 1) := by decide +kernel
theorem dX1_findPlot_0 : decode cX1_findPlot 0 = .ok (.aload_n 0, 1) := by decide +kernel
theorem dX1_findPlot_1 : decode cX1_findPlot 1 = .ok (.iconst (-1), 1) := by decide +kernel
theorem dX1_findPlot_2 : decode cX1_findPlot 2 = .ok (.putfield 28, 3) := by decide +kernel
theorem dX1_findPlot_5 : decode cX1_findPlot 5 = .ok (.aload_n 0, 1) := by decide +kernel
theorem dX1_findPlot_6 : decode cX1_findPlot 6 = .ok (.iconst (-1), 1) := by decide +kernel
theorem dX1_findPlot_7 : decode cX1_findPlot 7 = .ok (.putfield 66, 3) := by decide +kernel
theorem dX1_findPlot_10 : decode cX1_findPlot 10 = .ok (.iconst 0, 1) := by decide +kernel
theorem dX1_findPlot_11 : decode cX1_findPlot 11 = .ok (.istore 4, 2) := by decide +kernel
theorem dX1_findPlot_13 : decode cX1_findPlot 13 = .ok (.iload 4, 2) := by decide +kernel
theorem dX1_findPlot_15 : decode cX1_findPlot 15 = .ok (.iload_n 2, 1) := by decide +kernel
theorem dX1_findPlot_16 : decode cX1_findPlot 16 = .ok (.if_icmp .gt 75, 3) := by decide +kernel
theorem dX1_findPlot_19 : decode cX1_findPlot 19 = .ok (.iload 4, 2) := by decide +kernel
theorem dX1_findPlot_21 : decode cX1_findPlot 21 = .ok (.invokestatic 73, 3) := by decide +kernel
theorem dX1_findPlot_24 : decode cX1_findPlot 24 = .ok (.istore 5, 2) := by decide +kernel
theorem dX1_findPlot_26 : decode cX1_findPlot 26 = .ok (.iload 4, 2) := by decide +kernel
theorem dX1_findPlot_28 : decode cX1_findPlot 28 = .ok (.iload_n 2, 1) := by decide +kernel
theorem dX1_findPlot_29 : decode cX1_findPlot 29 = .ok (.iconst (-1), 1) := by decide +kernel
theorem dX1_findPlot_30 : decode cX1_findPlot 30 = .ok (.ixor, 1) := by decide +kernel
theorem dX1_findPlot_31 : decode cX1_findPlot 31 = .ok (.iand, 1) := by decide +kernel
theorem dX1_findPlot_32 : decode cX1_findPlot 32 = .ok (.ifCond .ne 53, 3) := by decide +kernel
theorem dX1_findPlot_35 : decode cX1_findPlot 35 = .ok (.aload_n 0, 1) := by decide +kernel
theorem dX1_findPlot_36 : decode cX1_findPlot 36 = .ok (.getfield 28, 3) := by decide +kernel
theorem dX1_findPlot_39 : decode cX1_findPlot 39 = .ok (.iconst (-1), 1) := by decide +kernel
theorem dX1_findPlot_40 : decode cX1_findPlot 40 = .ok (.if_icmp .eq 12, 3) := by decide +kernel
theorem dX1_findPlot_43 : decode cX1_findPlot 43 = .ok (.iload 5, 2) := by decide +kernel
theorem dX1_findPlot_45 : decode cX1_findPlot 45 = .ok (.aload_n 0, 1) := by decide +kernel
theorem dX1_findPlot_46 : decode cX1_findPlot 46 = .ok (.getfield 28, 3) := by decide +kernel
theorem dX1_findPlot_49 : decode cX1_findPlot 49 = .ok (.if_icmp .ge 36, 3) := by decide +kernel
theorem dX1_findPlot_52 : decode cX1_findPlot 52 = .ok (.aload_n 0, 1) := by decide +kernel
theorem dX1_findPlot_53 : decode cX1_findPlot 53 = .ok (.iload 4, 2) := by decide +kernel
theorem dX1_findPlot_55 : decode cX1_findPlot 55 = .ok (.invokevirtual 79, 3) := by decide +kernel
theorem dX1_findPlot_58 : decode cX1_findPlot 58 = .ok (.aload_n 0, 1) := by decide +kernel
theorem dX1_findPlot_59 : decode cX1_findPlot 59 = .ok (.getfield 19, 3) := by decide +kernel
theorem dX1_findPlot_62 : decode cX1_findPlot 62 = .ok (.iload_n 3, 1) := by decide +kernel
theorem dX1_findPlot_63 : decode cX1_findPlot 63 = .ok (.invokevirtual 83, 3) := by decide +kernel
theorem dX1_findPlot_66 : decode cX1_findPlot 66 = .ok (.iload_n 1, 1) := by decide +kernel
theorem dX1_findPlot_67 : decode cX1_findPlot 67 = .ok (.invokestatic 86, 3) := by decide +kernel
theorem dX1_findPlot_70 : decode cX1_findPlot 70 = .ok (.ifCond .eq 15, 3) := by decide +kernel
theorem dX1_findPlot_73 : decode cX1_findPlot 73 = .ok (.aload_n 0, 1) := by decide +kernel
theorem dX1_findPlot_74 : decode cX1_findPlot 74 = .ok (.iload 5, 2) := by decide +kernel
theorem dX1_findPlot_76 : decode cX1_findPlot 76 = .ok (.putfield 28, 3) := by decide +kernel
theorem dX1_findPlot_79 : decode cX1_findPlot 79 = .ok (.aload_n 0, 1) := by decide +kernel
theorem dX1_findPlot_80 : decode cX1_findPlot 80 = .ok (.iload 4, 2) := by decide +kernel
theorem dX1_findPlot_82 : decode cX1_findPlot 82 = .ok (.putfield 66, 3) := by decide +kernel
theorem dX1_findPlot_85 : decode cX1_findPlot 85 = .ok (.iinc 4 1, 3) := by decide +kernel
theorem dX1_findPlot_88 : decode cX1_findPlot 88 = .ok (.goto (-75), 3) := by decide +kernel
theorem dX1_findPlot_91 : decode cX1_findPlot 91 = .ok (.return_, 1) := by decide +kernel
theorem dX1_keepStill_0 : decode cX1_keepStill 0 = .ok (.aload_n 0, 1) := by decide +kernel
theorem dX1_keepStill_1 : decode cX1_keepStill 1 = .ok (.getfield 19, 3) := by decide +kernel
theorem dX1_keepStill_4 : decode cX1_keepStill 4 = .ok (.invokevirtual 23, 3) := by decide +kernel
theorem dX1_keepStill_7 : decode cX1_keepStill 7 = .ok (.iconst 0, 1) := by decide +kernel
theorem dX1_keepStill_8 : decode cX1_keepStill 8 = .ok (.istore_n 2, 1) := by decide +kernel
theorem dX1_keepStill_9 : decode cX1_keepStill 9 = .ok (.iload_n 2, 1) := by decide +kernel
theorem dX1_keepStill_10 : decode cX1_keepStill 10 = .ok (.aload_n 0, 1) := by decide +kernel
theorem dX1_keepStill_11 : decode cX1_keepStill 11 = .ok (.getfield 15, 3) := by decide +kernel
theorem dX1_keepStill_14 : decode cX1_keepStill 14 = .ok (.getfield 57, 3) := by decide +kernel
theorem dX1_keepStill_17 : decode cX1_keepStill 17 = .ok (.if_icmp .ge 27, 3) := by decide +kernel
theorem dX1_keepStill_20 : decode cX1_keepStill 20 = .ok (.iload_n 1, 1) := by decide +kernel
theorem dX1_keepStill_21 : decode cX1_keepStill 21 = .ok (.iload_n 2, 1) := by decide +kernel
theorem dX1_keepStill_22 : decode cX1_keepStill 22 = .ok (.invokestatic 86, 3) := by decide +kernel
theorem dX1_keepStill_25 : decode cX1_keepStill 25 = .ok (.ifCond .eq 13, 3) := by decide +kernel
theorem dX1_keepStill_28 : decode cX1_keepStill 28 = .ok (.aload_n 0, 1) := by decide +kernel
theorem dX1_keepStill_29 : decode cX1_keepStill 29 = .ok (.getfield 19, 3) := by decide +kernel
theorem dX1_keepStill_32 : decode cX1_keepStill 32 = .ok (.getfield 32, 3) := by decide +kernel
theorem dX1_keepStill_35 : decode cX1_keepStill 35 = .ok (.iload_n 2, 1) := by decide +kernel
theorem dX1_keepStill_36 : decode cX1_keepStill 36 = .ok (.iconst 0, 1) := by decide +kernel
theorem dX1_keepStill_37 : decode cX1_keepStill 37 = .ok (.iastore, 1) := by decide +kernel
theorem dX1_keepStill_38 : decode cX1_keepStill 38 = .ok (.iinc 2 1, 3) := by decide +kernel
theorem dX1_keepStill_41 : decode cX1_keepStill 41 = .ok (.goto (-32), 3) := by decide +kernel
theorem dX1_keepStill_44 : decode cX1_keepStill 44 = .ok (.return_, 1) := by decide +kernel
theorem dX1_findLaid_0 : decode cX1_findLaid 0 = .ok (.aload_n 0, 1) := by decide +kernel
theorem dX1_findLaid_1 : decode cX1_findLaid 1 = .ok (.getfield 19, 3) := by decide +kernel
theorem dX1_findLaid_4 : decode cX1_findLaid 4 = .ok (.invokevirtual 23, 3) := by decide +kernel
theorem dX1_findLaid_7 : decode cX1_findLaid 7 = .ok (.aload_n 0, 1) := by decide +kernel
theorem dX1_findLaid_8 : decode cX1_findLaid 8 = .ok (.bipush 101, 2) := by decide +kernel
theorem dX1_findLaid_10 : decode cX1_findLaid 10 = .ok (.putfield 28, 3) := by decide +kernel
theorem dX1_findLaid_13 : decode cX1_findLaid 13 = .ok (.aload_n 0, 1) := by decide +kernel
theorem dX1_findLaid_14 : decode cX1_findLaid 14 = .ok (.iconst (-1), 1) := by decide +kernel
theorem dX1_findLaid_15 : decode cX1_findLaid 15 = .ok (.putfield 66, 3) := by decide +kernel
theorem dX1_findLaid_18 : decode cX1_findLaid 18 = .ok (.iconst 0, 1) := by decide +kernel
theorem dX1_findLaid_19 : decode cX1_findLaid 19 = .ok (.istore 4, 2) := by decide +kernel
theorem dX1_findLaid_21 : decode cX1_findLaid 21 = .ok (.iload 4, 2) := by decide +kernel
theorem dX1_findLaid_23 : decode cX1_findLaid 23 = .ok (.iconst 1, 1) := by decide +kernel
theorem dX1_findLaid_24 : decode cX1_findLaid 24 = .ok (.aload_n 0, 1) := by decide +kernel
theorem dX1_findLaid_25 : decode cX1_findLaid 25 = .ok (.getfield 15, 3) := by decide +kernel
theorem dX1_findLaid_28 : decode cX1_findLaid 28 = .ok (.getfield 90, 3) := by decide +kernel
theorem dX1_findLaid_31 : decode cX1_findLaid 31 = .ok (.ishl, 1) := by decide +kernel
theorem dX1_findLaid_32 : decode cX1_findLaid 32 = .ok (.if_icmp .ge 73, 3) := by decide +kernel
theorem dX1_findLaid_35 : decode cX1_findLaid 35 = .ok (.aload_n 0, 1) := by decide +kernel
theorem dX1_findLaid_36 : decode cX1_findLaid 36 = .ok (.getfield 28, 3) := by decide +kernel
theorem dX1_findLaid_39 : decode cX1_findLaid 39 = .ok (.ifCond .le 66, 3) := by decide +kernel
theorem dX1_findLaid_42 : decode cX1_findLaid 42 = .ok (.iload 4, 2) := by decide +kernel
theorem dX1_findLaid_44 : decode cX1_findLaid 44 = .ok (.invokestatic 73, 3) := by decide +kernel
theorem dX1_findLaid_47 : decode cX1_findLaid 47 = .ok (.iload_n 1, 1) := by decide +kernel
theorem dX1_findLaid_48 : decode cX1_findLaid 48 = .ok (.if_icmp .ne 51, 3) := by decide +kernel
theorem dX1_findLaid_51 : decode cX1_findLaid 51 = .ok (.aload_n 0, 1) := by decide +kernel
theorem dX1_findLaid_52 : decode cX1_findLaid 52 = .ok (.getfield 19, 3) := by decide +kernel
theorem dX1_findLaid_55 : decode cX1_findLaid 55 = .ok (.iload 4, 2) := by decide +kernel
theorem dX1_findLaid_57 : decode cX1_findLaid 57 = .ok (.putfield 93, 3) := by decide +kernel
theorem dX1_findLaid_60 : decode cX1_findLaid 60 = .ok (.aload_n 0, 1) := by decide +kernel
theorem dX1_findLaid_61 : decode cX1_findLaid 61 = .ok (.getfield 19, 3) := by decide +kernel
theorem dX1_findLaid_64 : decode cX1_findLaid 64 = .ok (.iload_n 2, 1) := by decide +kernel
theorem dX1_findLaid_65 : decode cX1_findLaid 65 = .ok (.iload_n 3, 1) := by decide +kernel
theorem dX1_findLaid_66 : decode cX1_findLaid 66 = .ok (.invokevirtual 38, 3) := by decide +kernel
theorem dX1_findLaid_69 : decode cX1_findLaid 69 = .ok (.aload_n 0, 1) := by decide +kernel
theorem dX1_findLaid_70 : decode cX1_findLaid 70 = .ok (.getfield 19, 3) := by decide +kernel
theorem dX1_findLaid_73 : decode cX1_findLaid 73 = .ok (.invokevirtual 96, 3) := by decide +kernel
theorem dX1_findLaid_76 : decode cX1_findLaid 76 = .ok (.istore 5, 2) := by decide +kernel
theorem dX1_findLaid_78 : decode cX1_findLaid 78 = .ok (.iload 5, 2) := by decide +kernel
theorem dX1_findLaid_80 : decode cX1_findLaid 80 = .ok (.aload_n 0, 1) := by decide +kernel
theorem dX1_findLaid_81 : decode cX1_findLaid 81 = .ok (.getfield 28, 3) := by decide +kernel
theorem dX1_findLaid_84 : decode cX1_findLaid 84 = .ok (.if_icmp .ge 15, 3) := by decide +kernel
theorem dX1_findLaid_87 : decode cX1_findLaid 87 = .ok (.aload_n 0, 1) := by decide +kernel
theorem dX1_findLaid_88 : decode cX1_findLaid 88 = .ok (.iload 5, 2) := by decide +kernel
theorem dX1_findLaid_90 : decode cX1_findLaid 90 = .ok (.putfield 28, 3) := by decide +kernel
theorem dX1_findLaid_93 : decode cX1_findLaid 93 = .ok (.aload_n 0, 1) := by decide +kernel
theorem dX1_findLaid_94 : decode cX1_findLaid 94 = .ok (.iload 4, 2) := by decide +kernel
theorem dX1_findLaid_96 : decode cX1_findLaid 96 = .ok (.putfield 66, 3) := by decide +kernel
theorem dX1_findLaid_99 : decode cX1_findLaid 99 = .ok (.iinc 4 1, 3) := by decide +kernel
theorem dX1_findLaid_102 : decode cX1_findLaid 102 = .ok (.goto (-81), 3) := by decide +kernel
theorem dX1_findLaid_105 : decode cX1_findLaid 105 = .ok (.return_, 1) := by decide +kernel
theorem dX1_findFits_0 : decode cX1_findFits 0 = .ok (.aload_n 0, 1) := by decide +kernel
theorem dX1_findFits_1 : decode cX1_findFits 1 = .ok (.getfield 19, 3) := by decide +kernel
theorem dX1_findFits_4 : decode cX1_findFits 4 = .ok (.invokevirtual 23, 3) := by decide +kernel
theorem dX1_findFits_7 : decode cX1_findFits 7 = .ok (.aload_n 0, 1) := by decide +kernel
theorem dX1_findFits_8 : decode cX1_findFits 8 = .ok (.iconst 0, 1) := by decide +kernel
theorem dX1_findFits_9 : decode cX1_findFits 9 = .ok (.putfield 28, 3) := by decide +kernel
theorem dX1_findFits_12 : decode cX1_findFits 12 = .ok (.aload_n 0, 1) := by decide +kernel
theorem dX1_findFits_13 : decode cX1_findFits 13 = .ok (.iconst (-1), 1) := by decide +kernel
theorem dX1_findFits_14 : decode cX1_findFits 14 = .ok (.putfield 66, 3) := by decide +kernel
theorem dX1_findFits_17 : decode cX1_findFits 17 = .ok (.iconst 0, 1) := by decide +kernel
theorem dX1_findFits_18 : decode cX1_findFits 18 = .ok (.istore_n 2, 1) := by decide +kernel
theorem dX1_findFits_19 : decode cX1_findFits 19 = .ok (.iload_n 2, 1) := by decide +kernel
theorem dX1_findFits_20 : decode cX1_findFits 20 = .ok (.aload_n 0, 1) := by decide +kernel
theorem dX1_findFits_21 : decode cX1_findFits 21 = .ok (.getfield 15, 3) := by decide +kernel
theorem dX1_findFits_24 : decode cX1_findFits 24 = .ok (.getfield 90, 3) := by decide +kernel
theorem dX1_findFits_27 : decode cX1_findFits 27 = .ok (.if_icmp .ge 64, 3) := by decide +kernel
theorem dX1_findFits_30 : decode cX1_findFits 30 = .ok (.aload_n 1, 1) := by decide +kernel
theorem dX1_findFits_31 : decode cX1_findFits 31 = .ok (.aload_n 0, 1) := by decide +kernel
theorem dX1_findFits_32 : decode cX1_findFits 32 = .ok (.getfield 19, 3) := by decide +kernel
theorem dX1_findFits_35 : decode cX1_findFits 35 = .ok (.iload_n 2, 1) := by decide +kernel
theorem dX1_findFits_36 : decode cX1_findFits 36 = .ok (.invokevirtual 83, 3) := by decide +kernel
theorem dX1_findFits_39 : decode cX1_findFits 39 = .ok (.invokevirtual 99, 3) := by decide +kernel
theorem dX1_findFits_42 : decode cX1_findFits 42 = .ok (.ifCond .eq 43, 3) := by decide +kernel
theorem dX1_findFits_45 : decode cX1_findFits 45 = .ok (.aload_n 0, 1) := by decide +kernel
theorem dX1_findFits_46 : decode cX1_findFits 46 = .ok (.dup, 1) := by decide +kernel
theorem dX1_findFits_47 : decode cX1_findFits 47 = .ok (.getfield 28, 3) := by decide +kernel
theorem dX1_findFits_50 : decode cX1_findFits 50 = .ok (.aload_n 0, 1) := by decide +kernel
theorem dX1_findFits_51 : decode cX1_findFits 51 = .ok (.getfield 19, 3) := by decide +kernel
theorem dX1_findFits_54 : decode cX1_findFits 54 = .ok (.iload_n 2, 1) := by decide +kernel
theorem dX1_findFits_55 : decode cX1_findFits 55 = .ok (.iconst 0, 1) := by decide +kernel
theorem dX1_findFits_56 : decode cX1_findFits 56 = .ok (.bipush 99, 2) := by decide +kernel
theorem dX1_findFits_58 : decode cX1_findFits 58 = .ok (.invokevirtual 104, 3) := by decide +kernel
theorem dX1_findFits_61 : decode cX1_findFits 61 = .ok (.iadd, 1) := by decide +kernel
theorem dX1_findFits_62 : decode cX1_findFits 62 = .ok (.putfield 28, 3) := by decide +kernel
theorem dX1_findFits_65 : decode cX1_findFits 65 = .ok (.aload_n 0, 1) := by decide +kernel
theorem dX1_findFits_66 : decode cX1_findFits 66 = .ok (.aload_n 0, 1) := by decide +kernel
theorem dX1_findFits_67 : decode cX1_findFits 67 = .ok (.getfield 66, 3) := by decide +kernel
theorem dX1_findFits_70 : decode cX1_findFits 70 = .ok (.iconst (-1), 1) := by decide +kernel
theorem dX1_findFits_71 : decode cX1_findFits 71 = .ok (.if_icmp .ne 7, 3) := by decide +kernel
theorem dX1_findFits_74 : decode cX1_findFits 74 = .ok (.iload_n 2, 1) := by decide +kernel
theorem dX1_findFits_75 : decode cX1_findFits 75 = .ok (.goto 7, 3) := by decide +kernel
theorem dX1_findFits_78 : decode cX1_findFits 78 = .ok (.aload_n 0, 1) := by decide +kernel
theorem dX1_findFits_79 : decode cX1_findFits 79 = .ok (.getfield 66, 3) := by decide +kernel
theorem dX1_findFits_82 : decode cX1_findFits 82 = .ok (.putfield 66, 3) := by decide +kernel
theorem dX1_findFits_85 : decode cX1_findFits 85 = .ok (.iinc 2 1, 3) := by decide +kernel
theorem dX1_findFits_88 : decode cX1_findFits 88 = .ok (.goto (-69), 3) := by decide +kernel
theorem dX1_findFits_91 : decode cX1_findFits 91 = .ok (.return_, 1) := by decide +kernel
theorem dX2_init_0 : decode cX2_init 0 = .ok (.aload_n 0, 1) := by decide +kernel
theorem dX2_init_1 : decode cX2_init 1 = .ok (.invokespecial 3, 3) := by decide +kernel
theorem dX2_init_4 : decode cX2_init 4 = .ok (.aload_n 0, 1) := by decide +kernel
theorem dX2_init_5 : decode cX2_init 5 = .ok (.bipush 6, 2) := by decide +kernel
theorem dX2_init_7 : decode cX2_init 7 = .ok (.newarray .int, 2) := by decide +kernel
theorem dX2_init_9 : decode cX2_init 9 = .ok (.putfield 9, 3) := by decide +kernel
theorem dX2_init_12 : decode cX2_init 12 = .ok (.aload_n 0, 1) := by decide +kernel
theorem dX2_init_13 : decode cX2_init 13 = .ok (.bipush 6, 2) := by decide +kernel
theorem dX2_init_15 : decode cX2_init 15 = .ok (.newarray .int, 2) := by decide +kernel
theorem dX2_init_17 : decode cX2_init 17 = .ok (.putfield 15, 3) := by decide +kernel
theorem dX2_init_20 : decode cX2_init 20 = .ok (.aload_n 0, 1) := by decide +kernel
theorem dX2_init_21 : decode cX2_init 21 = .ok (.bipush 6, 2) := by decide +kernel
theorem dX2_init_23 : decode cX2_init 23 = .ok (.newarray .int, 2) := by decide +kernel
theorem dX2_init_25 : decode cX2_init 25 = .ok (.putfield 18, 3) := by decide +kernel
theorem dX2_init_28 : decode cX2_init 28 = .ok (.aload_n 0, 1) := by decide +kernel
theorem dX2_init_29 : decode cX2_init 29 = .ok (.aload_n 1, 1) := by decide +kernel
theorem dX2_init_30 : decode cX2_init 30 = .ok (.putfield 21, 3) := by decide +kernel
theorem dX2_init_33 : decode cX2_init 33 = .ok (.aload_n 0, 1) := by decide +kernel
theorem dX2_init_34 : decode cX2_init 34 = .ok (.aload_n 2, 1) := by decide +kernel
theorem dX2_init_35 : decode cX2_init 35 = .ok (.putfield 25, 3) := by decide +kernel
theorem dX2_init_38 : decode cX2_init 38 = .ok (.return_, 1) := by decide +kernel
theorem dX2_asTold_0 : decode cX2_asTold 0 = .ok (.aload_n 0, 1) := by decide +kernel
theorem dX2_asTold_1 : decode cX2_asTold 1 = .ok (.getfield 21, 3) := by decide +kernel
theorem dX2_asTold_4 : decode cX2_asTold 4 = .ok (.getfield 29, 3) := by decide +kernel
theorem dX2_asTold_7 : decode cX2_asTold 7 = .ok (.iconst 0, 1) := by decide +kernel
theorem dX2_asTold_8 : decode cX2_asTold 8 = .ok (.aload_n 0, 1) := by decide +kernel
theorem dX2_asTold_9 : decode cX2_asTold 9 = .ok (.getfield 9, 3) := by decide +kernel
theorem dX2_asTold_12 : decode cX2_asTold 12 = .ok (.iconst 0, 1) := by decide +kernel
theorem dX2_asTold_13 : decode cX2_asTold 13 = .ok (.bipush 6, 2) := by decide +kernel
theorem dX2_asTold_15 : decode cX2_asTold 15 = .ok (.invokestatic 32, 3) := by decide +kernel
theorem dX2_asTold_18 : decode cX2_asTold 18 = .ok (.aload_n 0, 1) := by decide +kernel
theorem dX2_asTold_19 : decode cX2_asTold 19 = .ok (.getfield 21, 3) := by decide +kernel
theorem dX2_asTold_22 : decode cX2_asTold 22 = .ok (.getfield 38, 3) := by decide +kernel
theorem dX2_asTold_25 : decode cX2_asTold 25 = .ok (.iconst 0, 1) := by decide +kernel
theorem dX2_asTold_26 : decode cX2_asTold 26 = .ok (.aload_n 0, 1) := by decide +kernel
theorem dX2_asTold_27 : decode cX2_asTold 27 = .ok (.getfield 15, 3) := by decide +kernel
theorem dX2_asTold_30 : decode cX2_asTold 30 = .ok (.iconst 0, 1) := by decide +kernel
theorem dX2_asTold_31 : decode cX2_asTold 31 = .ok (.bipush 6, 2) := by decide +kernel
theorem dX2_asTold_33 : decode cX2_asTold 33 = .ok (.invokestatic 32, 3) := by decide +kernel
theorem dX2_asTold_36 : decode cX2_asTold 36 = .ok (.aload_n 0, 1) := by decide +kernel
theorem dX2_asTold_37 : decode cX2_asTold 37 = .ok (.aload_n 0, 1) := by decide +kernel
theorem dX2_asTold_38 : decode cX2_asTold 38 = .ok (.getfield 21, 3) := by decide +kernel
theorem dX2_asTold_41 : decode cX2_asTold 41 = .ok (.invokevirtual 39, 3) := by decide +kernel
theorem dX2_asTold_44 : decode cX2_asTold 44 = .ok (.putfield 43, 3) := by decide +kernel
theorem dX2_asTold_47 : decode cX2_asTold 47 = .ok (.aload_n 0, 1) := by decide +kernel
theorem dX2_asTold_48 : decode cX2_asTold 48 = .ok (.aload_n 0, 1) := by decide +kernel
theorem dX2_asTold_49 : decode cX2_asTold 49 = .ok (.getfield 21, 3) := by decide +kernel
theorem dX2_asTold_52 : decode cX2_asTold 52 = .ok (.getfield 47, 3) := by decide +kernel
theorem dX2_asTold_55 : decode cX2_asTold 55 = .ok (.putfield 50, 3) := by decide +kernel
theorem dX2_asTold_58 : decode cX2_asTold 58 = .ok (.return_, 1) := by decide +kernel
theorem dX2_stoodAt_0 : decode cX2_stoodAt 0 = .ok (.aload_n 0, 1) := by decide +kernel
theorem dX2_stoodAt_1 : decode cX2_stoodAt 1 = .ok (.iload_n 1, 1) := by decide +kernel
theorem dX2_stoodAt_2 : decode cX2_stoodAt 2 = .ok (.invokevirtual 51, 3) := by decide +kernel
theorem dX2_stoodAt_5 : decode cX2_stoodAt 5 = .ok (.aload_n 0, 1) := by decide +kernel
theorem dX2_stoodAt_6 : decode cX2_stoodAt 6 = .ok (.getfield 25, 3) := by decide +kernel
theorem dX2_stoodAt_9 : decode cX2_stoodAt 9 = .ok (.aload_n 0, 1) := by decide +kernel
theorem dX2_stoodAt_10 : decode cX2_stoodAt 10 = .ok (.getfield 43, 3) := by decide +kernel
theorem dX2_stoodAt_13 : decode cX2_stoodAt 13 = .ok (.aload_n 0, 1) := by decide +kernel
theorem dX2_stoodAt_14 : decode cX2_stoodAt 14 = .ok (.getfield 50, 3) := by decide +kernel
theorem dX2_stoodAt_17 : decode cX2_stoodAt 17 = .ok (.invokevirtual 55, 3) := by decide +kernel
theorem dX2_stoodAt_20 : decode cX2_stoodAt 20 = .ok (.ireturn, 1) := by decide +kernel
theorem dX2_goTo_0 : decode cX2_goTo 0 = .ok (.iconst 0, 1) := by decide +kernel
theorem dX2_goTo_1 : decode cX2_goTo 1 = .ok (.istore_n 2, 1) := by decide +kernel
theorem dX2_goTo_2 : decode cX2_goTo 2 = .ok (.iload_n 2, 1) := by decide +kernel
theorem dX2_goTo_3 : decode cX2_goTo 3 = .ok (.aload_n 0, 1) := by decide +kernel
theorem dX2_goTo_4 : decode cX2_goTo 4 = .ok (.getfield 21, 3) := by decide +kernel
theorem dX2_goTo_7 : decode cX2_goTo 7 = .ok (.getfield 61, 3) := by decide +kernel
theorem dX2_goTo_10 : decode cX2_goTo 10 = .ok (.if_icmp .ge 48, 3) := by decide +kernel
theorem dX2_goTo_13 : decode cX2_goTo 13 = .ok (.aload_n 0, 1) := by decide +kernel
theorem dX2_goTo_14 : decode cX2_goTo 14 = .ok (.getfield 25, 3) := by decide +kernel
theorem dX2_goTo_17 : decode cX2_goTo 17 = .ok (.getfield 64, 3) := by decide +kernel
theorem dX2_goTo_20 : decode cX2_goTo 20 = .ok (.iload_n 2, 1) := by decide +kernel
theorem dX2_goTo_21 : decode cX2_goTo 21 = .ok (.aload_n 0, 1) := by decide +kernel
theorem dX2_goTo_22 : decode cX2_goTo 22 = .ok (.getfield 21, 3) := by decide +kernel
theorem dX2_goTo_25 : decode cX2_goTo 25 = .ok (.aload_n 0, 1) := by decide +kernel
theorem dX2_goTo_26 : decode cX2_goTo 26 = .ok (.getfield 21, 3) := by decide +kernel
theorem dX2_goTo_29 : decode cX2_goTo 29 = .ok (.getfield 67, 3) := by decide +kernel
theorem dX2_goTo_32 : decode cX2_goTo 32 = .ok (.iload_n 2, 1) := by decide +kernel
theorem dX2_goTo_33 : decode cX2_goTo 33 = .ok (.iaload, 1) := by decide +kernel
theorem dX2_goTo_34 : decode cX2_goTo 34 = .ok (.aload_n 0, 1) := by decide +kernel
theorem dX2_goTo_35 : decode cX2_goTo 35 = .ok (.getfield 9, 3) := by decide +kernel
theorem dX2_goTo_38 : decode cX2_goTo 38 = .ok (.iload_n 2, 1) := by decide +kernel
theorem dX2_goTo_39 : decode cX2_goTo 39 = .ok (.iaload, 1) := by decide +kernel
theorem dX2_goTo_40 : decode cX2_goTo 40 = .ok (.iload_n 1, 1) := by decide +kernel
theorem dX2_goTo_41 : decode cX2_goTo 41 = .ok (.imul, 1) := by decide +kernel
theorem dX2_goTo_42 : decode cX2_goTo 42 = .ok (.aload_n 0, 1) := by decide +kernel
theorem dX2_goTo_43 : decode cX2_goTo 43 = .ok (.getfield 15, 3) := by decide +kernel
theorem dX2_goTo_46 : decode cX2_goTo 46 = .ok (.iload_n 2, 1) := by decide +kernel
theorem dX2_goTo_47 : decode cX2_goTo 47 = .ok (.iaload, 1) := by decide +kernel
theorem dX2_goTo_48 : decode cX2_goTo 48 = .ok (.invokevirtual 70, 3) := by decide +kernel
theorem dX2_goTo_51 : decode cX2_goTo 51 = .ok (.iastore, 1) := by decide +kernel
theorem dX2_goTo_52 : decode cX2_goTo 52 = .ok (.iinc 2 1, 3) := by decide +kernel
theorem dX2_goTo_55 : decode cX2_goTo 55 = .ok (.goto (-53), 3) := by decide +kernel
theorem dX2_goTo_58 : decode cX2_goTo 58 = .ok (.return_, 1) := by decide +kernel
theorem dX2_tally_0 : decode cX2_tally 0 = .ok (.aload_n 0, 1) := by decide +kernel
theorem dX2_tally_1 : decode cX2_tally 1 = .ok (.getfield 18, 3) := by decide +kernel
theorem dX2_tally_4 : decode cX2_tally 4 = .ok (.iconst 0, 1) := by decide +kernel
theorem dX2_tally_5 : decode cX2_tally 5 = .ok (.invokestatic 74, 3) := by decide +kernel
theorem dX2_tally_8 : decode cX2_tally 8 = .ok (.iconst 0, 1) := by decide +kernel
theorem dX2_tally_9 : decode cX2_tally 9 = .ok (.istore_n 3, 1) := by decide +kernel
theorem dX2_tally_10 : decode cX2_tally 10 = .ok (.iload_n 3, 1) := by decide +kernel
theorem dX2_tally_11 : decode cX2_tally 11 = .ok (.aload_n 0, 1) := by decide +kernel
theorem dX2_tally_12 : decode cX2_tally 12 = .ok (.getfield 21, 3) := by decide +kernel
theorem dX2_tally_15 : decode cX2_tally 15 = .ok (.getfield 80, 3) := by decide +kernel
theorem dX2_tally_18 : decode cX2_tally 18 = .ok (.if_icmp .ge 49, 3) := by decide +kernel
theorem dX2_tally_21 : decode cX2_tally 21 = .ok (.aload_n 0, 1) := by decide +kernel
theorem dX2_tally_22 : decode cX2_tally 22 = .ok (.iload_n 3, 1) := by decide +kernel
theorem dX2_tally_23 : decode cX2_tally 23 = .ok (.iload_n 1, 1) := by decide +kernel
theorem dX2_tally_24 : decode cX2_tally 24 = .ok (.iload_n 2, 1) := by decide +kernel
theorem dX2_tally_25 : decode cX2_tally 25 = .ok (.invokevirtual 83, 3) := by decide +kernel
theorem dX2_tally_28 : decode cX2_tally 28 = .ok (.istore 4, 2) := by decide +kernel
theorem dX2_tally_30 : decode cX2_tally 30 = .ok (.iload 4, 2) := by decide +kernel
theorem dX2_tally_32 : decode cX2_tally 32 = .ok (.ifCond .le 29, 3) := by decide +kernel
theorem dX2_tally_35 : decode cX2_tally 35 = .ok (.aload_n 0, 1) := by decide +kernel
theorem dX2_tally_36 : decode cX2_tally 36 = .ok (.iload_n 3, 1) := by decide +kernel
theorem dX2_tally_37 : decode cX2_tally 37 = .ok (.invokevirtual 51, 3) := by decide +kernel
theorem dX2_tally_40 : decode cX2_tally 40 = .ok (.aload_n 0, 1) := by decide +kernel
theorem dX2_tally_41 : decode cX2_tally 41 = .ok (.aload_n 0, 1) := by decide +kernel
theorem dX2_tally_42 : decode cX2_tally 42 = .ok (.getfield 25, 3) := by decide +kernel
theorem dX2_tally_45 : decode cX2_tally 45 = .ok (.aload_n 0, 1) := by decide +kernel
theorem dX2_tally_46 : decode cX2_tally 46 = .ok (.getfield 43, 3) := by decide +kernel
theorem dX2_tally_49 : decode cX2_tally 49 = .ok (.aload_n 0, 1) := by decide +kernel
theorem dX2_tally_50 : decode cX2_tally 50 = .ok (.getfield 50, 3) := by decide +kernel
theorem dX2_tally_53 : decode cX2_tally 53 = .ok (.invokevirtual 55, 3) := by decide +kernel
theorem dX2_tally_56 : decode cX2_tally 56 = .ok (.iload 4, 2) := by decide +kernel
theorem dX2_tally_58 : decode cX2_tally 58 = .ok (.invokevirtual 86, 3) := by decide +kernel
theorem dX2_tally_61 : decode cX2_tally 61 = .ok (.iinc 3 1, 3) := by decide +kernel
theorem dX2_tally_64 : decode cX2_tally 64 = .ok (.goto (-54), 3) := by decide +kernel
theorem dX2_tally_67 : decode cX2_tally 67 = .ok (.return_, 1) := by decide +kernel
theorem dX2_addTimes_0 : decode cX2_addTimes 0 = .ok (.iconst 0, 1) := by decide +kernel
theorem dX2_addTimes_1 : decode cX2_addTimes 1 = .ok (.istore_n 3, 1) := by decide +kernel
theorem dX2_addTimes_2 : decode cX2_addTimes 2 = .ok (.iload_n 3, 1) := by decide +kernel
theorem dX2_addTimes_3 : decode cX2_addTimes 3 = .ok (.aload_n 0, 1) := by decide +kernel
theorem dX2_addTimes_4 : decode cX2_addTimes 4 = .ok (.getfield 21, 3) := by decide +kernel
theorem dX2_addTimes_7 : decode cX2_addTimes 7 = .ok (.getfield 61, 3) := by decide +kernel
theorem dX2_addTimes_10 : decode cX2_addTimes 10 = .ok (.if_icmp .ge 27, 3) := by decide +kernel
theorem dX2_addTimes_13 : decode cX2_addTimes 13 = .ok (.iload_n 1, 1) := by decide +kernel
theorem dX2_addTimes_14 : decode cX2_addTimes 14 = .ok (.iload_n 3, 1) := by decide +kernel
theorem dX2_addTimes_15 : decode cX2_addTimes 15 = .ok (.invokestatic 90, 3) := by decide +kernel
theorem dX2_addTimes_18 : decode cX2_addTimes 18 = .ok (.ifCond .eq 13, 3) := by decide +kernel
theorem dX2_addTimes_21 : decode cX2_addTimes 21 = .ok (.aload_n 0, 1) := by decide +kernel
theorem dX2_addTimes_22 : decode cX2_addTimes 22 = .ok (.getfield 18, 3) := by decide +kernel
theorem dX2_addTimes_25 : decode cX2_addTimes 25 = .ok (.iload_n 3, 1) := by decide +kernel
theorem dX2_addTimes_26 : decode cX2_addTimes 26 = .ok (.dup2, 1) := by decide +kernel
theorem dX2_addTimes_27 : decode cX2_addTimes 27 = .ok (.iaload, 1) := by decide +kernel
theorem dX2_addTimes_28 : decode cX2_addTimes 28 = .ok (.iload_n 2, 1) := by decide +kernel
theorem dX2_addTimes_29 : decode cX2_addTimes 29 = .ok (.iadd, 1) := by decide +kernel
theorem dX2_addTimes_30 : decode cX2_addTimes 30 = .ok (.iastore, 1) := by decide +kernel
theorem dX2_addTimes_31 : decode cX2_addTimes 31 = .ok (.iinc 3 1, 3) := by decide +kernel
theorem dX2_addTimes_34 : decode cX2_addTimes 34 = .ok (.goto (-32), 3) := by decide +kernel
theorem dX2_addTimes_37 : decode cX2_addTimes 37 = .ok (.return_, 1) := by decide +kernel
theorem dX2_minutesLike_0 : decode cX2_minutesLike 0 = .ok (.aload_n 0, 1) := by decide +kernel
theorem dX2_minutesLike_1 : decode cX2_minutesLike 1 = .ok (.iload_n 1, 1) := by decide +kernel
theorem dX2_minutesLike_2 : decode cX2_minutesLike 2 = .ok (.iload_n 3, 1) := by decide +kernel
theorem dX2_minutesLike_3 : decode cX2_minutesLike 3 = .ok (.invokevirtual 94, 3) := by decide +kernel
theorem dX2_minutesLike_6 : decode cX2_minutesLike 6 = .ok (.aload_n 0, 1) := by decide +kernel
theorem dX2_minutesLike_7 : decode cX2_minutesLike 7 = .ok (.iload_n 1, 1) := by decide +kernel
theorem dX2_minutesLike_8 : decode cX2_minutesLike 8 = .ok (.iload_n 2, 1) := by decide +kernel
theorem dX2_minutesLike_9 : decode cX2_minutesLike 9 = .ok (.iconst 1, 1) := by decide +kernel
theorem dX2_minutesLike_10 : decode cX2_minutesLike 10 = .ok (.isub, 1) := by decide +kernel
theorem dX2_minutesLike_11 : decode cX2_minutesLike 11 = .ok (.invokevirtual 94, 3) := by decide +kernel
theorem dX2_minutesLike_14 : decode cX2_minutesLike 14 = .ok (.isub, 1) := by decide +kernel
theorem dX2_minutesLike_15 : decode cX2_minutesLike 15 = .ok (.ireturn, 1) := by decide +kernel
theorem dX2_minutesLikeTo_0 : decode cX2_minutesLikeTo 0 = .ok (.iload_n 2, 1) := by decide +kernel
theorem dX2_minutesLikeTo_1 : decode cX2_minutesLikeTo 1 = .ok (.iload_n 1, 1) := by decide +kernel
theorem dX2_minutesLikeTo_2 : decode cX2_minutesLikeTo 2 = .ok (.if_icmp .lt 14, 3) := by decide +kernel
theorem dX2_minutesLikeTo_5 : decode cX2_minutesLikeTo 5 = .ok (.aload_n 0, 1) := by decide +kernel
theorem dX2_minutesLikeTo_6 : decode cX2_minutesLikeTo 6 = .ok (.getfield 21, 3) := by decide +kernel
theorem dX2_minutesLikeTo_9 : decode cX2_minutesLikeTo 9 = .ok (.getfield 80, 3) := by decide +kernel
theorem dX2_minutesLikeTo_12 : decode cX2_minutesLikeTo 12 = .ok (.iconst 1, 1) := by decide +kernel
theorem dX2_minutesLikeTo_13 : decode cX2_minutesLikeTo 13 = .ok (.if_icmp .ge 7, 3) := by decide +kernel
theorem dX2_minutesLikeTo_16 : decode cX2_minutesLikeTo 16 = .ok (.iconst 0, 1) := by decide +kernel
theorem dX2_minutesLikeTo_17 : decode cX2_minutesLikeTo 17 = .ok (.goto 16, 3) := by decide +kernel
theorem dX2_minutesLikeTo_20 : decode cX2_minutesLikeTo 20 = .ok (.iload_n 2, 1) := by decide +kernel
theorem dX2_minutesLikeTo_21 : decode cX2_minutesLikeTo 21 = .ok (.iload_n 1, 1) := by decide +kernel
theorem dX2_minutesLikeTo_22 : decode cX2_minutesLikeTo 22 = .ok (.isub, 1) := by decide +kernel
theorem dX2_minutesLikeTo_23 : decode cX2_minutesLikeTo 23 = .ok (.aload_n 0, 1) := by decide +kernel
theorem dX2_minutesLikeTo_24 : decode cX2_minutesLikeTo 24 = .ok (.getfield 21, 3) := by decide +kernel
theorem dX2_minutesLikeTo_27 : decode cX2_minutesLikeTo 27 = .ok (.getfield 80, 3) := by decide +kernel
theorem dX2_minutesLikeTo_30 : decode cX2_minutesLikeTo 30 = .ok (.idiv, 1) := by decide +kernel
theorem dX2_minutesLikeTo_31 : decode cX2_minutesLikeTo 31 = .ok (.iconst 1, 1) := by decide +kernel
theorem dX2_minutesLikeTo_32 : decode cX2_minutesLikeTo 32 = .ok (.iadd, 1) := by decide +kernel
theorem dX2_minutesLikeTo_33 : decode cX2_minutesLikeTo 33 = .ok (.ireturn, 1) := by decide +kernel
theorem dX2_spread_0 : decode cX2_spread 0 = .ok (.iconst 0, 1) := by decide +kernel
theorem dX2_spread_1 : decode cX2_spread 1 = .ok (.istore_n 1, 1) := by decide +kernel
theorem dX2_spread_2 : decode cX2_spread 2 = .ok (.bipush 100, 2) := by decide +kernel
theorem dX2_spread_4 : decode cX2_spread 4 = .ok (.istore_n 2, 1) := by decide +kernel
theorem dX2_spread_5 : decode cX2_spread 5 = .ok (.iconst 0, 1) := by decide +kernel
theorem dX2_spread_6 : decode cX2_spread 6 = .ok (.istore_n 3, 1) := by decide +kernel
theorem dX2_spread_7 : decode cX2_spread 7 = .ok (.iload_n 3, 1) := by decide +kernel
theorem dX2_spread_8 : decode cX2_spread 8 = .ok (.aload_n 0, 1) := by decide +kernel
theorem dX2_spread_9 : decode cX2_spread 9 = .ok (.getfield 21, 3) := by decide +kernel
theorem dX2_spread_12 : decode cX2_spread 12 = .ok (.getfield 61, 3) := by decide +kernel
theorem dX2_spread_15 : decode cX2_spread 15 = .ok (.if_icmp .ge 31, 3) := by decide +kernel
theorem dX2_spread_18 : decode cX2_spread 18 = .ok (.iload_n 1, 1) := by decide +kernel
theorem dX2_spread_19 : decode cX2_spread 19 = .ok (.aload_n 0, 1) := by decide +kernel
theorem dX2_spread_20 : decode cX2_spread 20 = .ok (.getfield 18, 3) := by decide +kernel
theorem dX2_spread_23 : decode cX2_spread 23 = .ok (.iload_n 3, 1) := by decide +kernel
theorem dX2_spread_24 : decode cX2_spread 24 = .ok (.iaload, 1) := by decide +kernel
theorem dX2_spread_25 : decode cX2_spread 25 = .ok (.invokestatic 97, 3) := by decide +kernel
theorem dX2_spread_28 : decode cX2_spread 28 = .ok (.istore_n 1, 1) := by decide +kernel
theorem dX2_spread_29 : decode cX2_spread 29 = .ok (.iload_n 2, 1) := by decide +kernel
theorem dX2_spread_30 : decode cX2_spread 30 = .ok (.aload_n 0, 1) := by decide +kernel
theorem dX2_spread_31 : decode cX2_spread 31 = .ok (.getfield 18, 3) := by decide +kernel
theorem dX2_spread_34 : decode cX2_spread 34 = .ok (.iload_n 3, 1) := by decide +kernel
theorem dX2_spread_35 : decode cX2_spread 35 = .ok (.iaload, 1) := by decide +kernel
theorem dX2_spread_36 : decode cX2_spread 36 = .ok (.invokestatic 102, 3) := by decide +kernel
theorem dX2_spread_39 : decode cX2_spread 39 = .ok (.istore_n 2, 1) := by decide +kernel
theorem dX2_spread_40 : decode cX2_spread 40 = .ok (.iinc 3 1, 3) := by decide +kernel
theorem dX2_spread_43 : decode cX2_spread 43 = .ok (.goto (-36), 3) := by decide +kernel
theorem dX2_spread_46 : decode cX2_spread 46 = .ok (.aload_n 0, 1) := by decide +kernel
theorem dX2_spread_47 : decode cX2_spread 47 = .ok (.getfield 21, 3) := by decide +kernel
theorem dX2_spread_50 : decode cX2_spread 50 = .ok (.getfield 61, 3) := by decide +kernel
theorem dX2_spread_53 : decode cX2_spread 53 = .ok (.ifCond .ne 7, 3) := by decide +kernel
theorem dX2_spread_56 : decode cX2_spread 56 = .ok (.iconst 0, 1) := by decide +kernel
theorem dX2_spread_57 : decode cX2_spread 57 = .ok (.goto 6, 3) := by decide +kernel
theorem dX2_spread_60 : decode cX2_spread 60 = .ok (.iload_n 1, 1) := by decide +kernel
theorem dX2_spread_61 : decode cX2_spread 61 = .ok (.iload_n 2, 1) := by decide +kernel
theorem dX2_spread_62 : decode cX2_spread 62 = .ok (.isub, 1) := by decide +kernel
theorem dX2_spread_63 : decode cX2_spread 63 = .ok (.ireturn, 1) := by decide +kernel
theorem dX2_playRounds_0 : decode cX2_playRounds 0 = .ok (.aload_n 0, 1) := by decide +kernel
theorem dX2_playRounds_1 : decode cX2_playRounds 1 = .ok (.invokevirtual 105, 3) := by decide +kernel
theorem dX2_playRounds_4 : decode cX2_playRounds 4 = .ok (.iconst 0, 1) := by decide +kernel
theorem dX2_playRounds_5 : decode cX2_playRounds 5 = .ok (.istore_n 2, 1) := by decide +kernel
theorem dX2_playRounds_6 : decode cX2_playRounds 6 = .ok (.iload_n 2, 1) := by decide +kernel
theorem dX2_playRounds_7 : decode cX2_playRounds 7 = .ok (.bipush 6, 2) := by decide +kernel
theorem dX2_playRounds_9 : decode cX2_playRounds 9 = .ok (.if_icmp .gt 60, 3) := by decide +kernel
theorem dX2_playRounds_12 : decode cX2_playRounds 12 = .ok (.aload_n 0, 1) := by decide +kernel
theorem dX2_playRounds_13 : decode cX2_playRounds 13 = .ok (.getfield 43, 3) := by decide +kernel
theorem dX2_playRounds_16 : decode cX2_playRounds 16 = .ok (.invokestatic 108, 3) := by decide +kernel
theorem dX2_playRounds_19 : decode cX2_playRounds 19 = .ok (.iconst 1, 1) := by decide +kernel
theorem dX2_playRounds_20 : decode cX2_playRounds 20 = .ok (.if_icmp .le 49, 3) := by decide +kernel
theorem dX2_playRounds_23 : decode cX2_playRounds 23 = .ok (.aload_n 0, 1) := by decide +kernel
theorem dX2_playRounds_24 : decode cX2_playRounds 24 = .ok (.iload_n 1, 1) := by decide +kernel
theorem dX2_playRounds_25 : decode cX2_playRounds 25 = .ok (.invokevirtual 114, 3) := by decide +kernel
theorem dX2_playRounds_28 : decode cX2_playRounds 28 = .ok (.istore_n 3, 1) := by decide +kernel
theorem dX2_playRounds_29 : decode cX2_playRounds 29 = .ok (.iinc 2 1, 3) := by decide +kernel
theorem dX2_playRounds_32 : decode cX2_playRounds 32 = .ok (.iload_n 3, 1) := by decide +kernel
theorem dX2_playRounds_33 : decode cX2_playRounds 33 = .ok (.ifCond .ne 6, 3) := by decide +kernel
theorem dX2_playRounds_36 : decode cX2_playRounds 36 = .ok (.goto 33, 3) := by decide +kernel
theorem dX2_playRounds_39 : decode cX2_playRounds 39 = .ok (.aload_n 0, 1) := by decide +kernel
theorem dX2_playRounds_40 : decode cX2_playRounds 40 = .ok (.dup, 1) := by decide +kernel
theorem dX2_playRounds_41 : decode cX2_playRounds 41 = .ok (.getfield 43, 3) := by decide +kernel
theorem dX2_playRounds_44 : decode cX2_playRounds 44 = .ok (.iload_n 3, 1) := by decide +kernel
theorem dX2_playRounds_45 : decode cX2_playRounds 45 = .ok (.iconst (-1), 1) := by decide +kernel
theorem dX2_playRounds_46 : decode cX2_playRounds 46 = .ok (.ixor, 1) := by decide +kernel
theorem dX2_playRounds_47 : decode cX2_playRounds 47 = .ok (.iand, 1) := by decide +kernel
theorem dX2_playRounds_48 : decode cX2_playRounds 48 = .ok (.putfield 43, 3) := by decide +kernel
theorem dX2_playRounds_51 : decode cX2_playRounds 51 = .ok (.aload_n 0, 1) := by decide +kernel
theorem dX2_playRounds_52 : decode cX2_playRounds 52 = .ok (.dup, 1) := by decide +kernel
theorem dX2_playRounds_53 : decode cX2_playRounds 53 = .ok (.getfield 50, 3) := by decide +kernel
theorem dX2_playRounds_56 : decode cX2_playRounds 56 = .ok (.aload_n 0, 1) := by decide +kernel
theorem dX2_playRounds_57 : decode cX2_playRounds 57 = .ok (.getfield 50, 3) := by decide +kernel
theorem dX2_playRounds_60 : decode cX2_playRounds 60 = .ok (.iconst 1, 1) := by decide +kernel
theorem dX2_playRounds_61 : decode cX2_playRounds 61 = .ok (.isub, 1) := by decide +kernel
theorem dX2_playRounds_62 : decode cX2_playRounds 62 = .ok (.iand, 1) := by decide +kernel
theorem dX2_playRounds_63 : decode cX2_playRounds 63 = .ok (.putfield 50, 3) := by decide +kernel
theorem dX2_playRounds_66 : decode cX2_playRounds 66 = .ok (.goto (-60), 3) := by decide +kernel
theorem dX2_playRounds_69 : decode cX2_playRounds 69 = .ok (.iload_n 2, 1) := by decide +kernel
theorem dX2_playRounds_70 : decode cX2_playRounds 70 = .ok (.ireturn, 1) := by decide +kernel
theorem dX3_init_0 : decode cX3_init 0 = .ok (.aload_n 0, 1) := by decide +kernel
theorem dX3_init_1 : decode cX3_init 1 = .ok (.invokespecial 3, 3) := by decide +kernel
theorem dX3_init_4 : decode cX3_init 4 = .ok (.aload_n 0, 1) := by decide +kernel
theorem dX3_init_5 : decode cX3_init 5 = .ok (.bipush 6, 2) := by decide +kernel
theorem dX3_init_7 : decode cX3_init 7 = .ok (.newarray .int, 2) := by decide +kernel
theorem dX3_init_9 : decode cX3_init 9 = .ok (.putfield 9, 3) := by decide +kernel
theorem dX3_init_12 : decode cX3_init 12 = .ok (.aload_n 0, 1) := by decide +kernel
theorem dX3_init_13 : decode cX3_init 13 = .ok (.bipush 6, 2) := by decide +kernel
theorem dX3_init_15 : decode cX3_init 15 = .ok (.newarray .int, 2) := by decide +kernel
theorem dX3_init_17 : decode cX3_init 17 = .ok (.putfield 15, 3) := by decide +kernel
theorem dX3_init_20 : decode cX3_init 20 = .ok (.aload_n 0, 1) := by decide +kernel
theorem dX3_init_21 : decode cX3_init 21 = .ok (.bipush 12, 2) := by decide +kernel
theorem dX3_init_23 : decode cX3_init 23 = .ok (.newarray .int, 2) := by decide +kernel
theorem dX3_init_25 : decode cX3_init 25 = .ok (.putfield 18, 3) := by decide +kernel
theorem dX3_init_28 : decode cX3_init 28 = .ok (.aload_n 0, 1) := by decide +kernel
theorem dX3_init_29 : decode cX3_init 29 = .ok (.aload_n 1, 1) := by decide +kernel
theorem dX3_init_30 : decode cX3_init 30 = .ok (.putfield 21, 3) := by decide +kernel
theorem dX3_init_33 : decode cX3_init 33 = .ok (.return_, 1) := by decide +kernel
theorem dX3_settle_0 : decode cX3_settle 0 = .ok (.aload_n 0, 1) := by decide +kernel
theorem dX3_settle_1 : decode cX3_settle 1 = .ok (.getfield 15, 3) := by decide +kernel
theorem dX3_settle_4 : decode cX3_settle 4 = .ok (.iconst (-1), 1) := by decide +kernel
theorem dX3_settle_5 : decode cX3_settle 5 = .ok (.invokestatic 25, 3) := by decide +kernel
theorem dX3_settle_8 : decode cX3_settle 8 = .ok (.aload_n 0, 1) := by decide +kernel
theorem dX3_settle_9 : decode cX3_settle 9 = .ok (.getfield 18, 3) := by decide +kernel
theorem dX3_settle_12 : decode cX3_settle 12 = .ok (.iconst (-1), 1) := by decide +kernel
theorem dX3_settle_13 : decode cX3_settle 13 = .ok (.invokestatic 25, 3) := by decide +kernel
theorem dX3_settle_16 : decode cX3_settle 16 = .ok (.aload_n 0, 1) := by decide +kernel
theorem dX3_settle_17 : decode cX3_settle 17 = .ok (.iconst 0, 1) := by decide +kernel
theorem dX3_settle_18 : decode cX3_settle 18 = .ok (.putfield 31, 3) := by decide +kernel
theorem dX3_settle_21 : decode cX3_settle 21 = .ok (.aload_n 0, 1) := by decide +kernel
theorem dX3_settle_22 : decode cX3_settle 22 = .ok (.iload_n 2, 1) := by decide +kernel
theorem dX3_settle_23 : decode cX3_settle 23 = .ok (.putfield 35, 3) := by decide +kernel
theorem dX3_settle_26 : decode cX3_settle 26 = .ok (.aload_n 0, 1) := by decide +kernel
theorem dX3_settle_27 : decode cX3_settle 27 = .ok (.iload_n 1, 1) := by decide +kernel
theorem dX3_settle_28 : decode cX3_settle 28 = .ok (.aload_n 0, 1) := by decide +kernel
theorem dX3_settle_29 : decode cX3_settle 29 = .ok (.getfield 21, 3) := by decide +kernel
theorem dX3_settle_32 : decode cX3_settle 32 = .ok (.iconst 2, 1) := by decide +kernel
theorem dX3_settle_33 : decode cX3_settle 33 = .ok (.invokevirtual 39, 3) := by decide +kernel
theorem dX3_settle_36 : decode cX3_settle 36 = .ok (.iconst (-1), 1) := by decide +kernel
theorem dX3_settle_37 : decode cX3_settle 37 = .ok (.ixor, 1) := by decide +kernel
theorem dX3_settle_38 : decode cX3_settle 38 = .ok (.iand, 1) := by decide +kernel
theorem dX3_settle_39 : decode cX3_settle 39 = .ok (.invokevirtual 45, 3) := by decide +kernel
theorem dX3_settle_42 : decode cX3_settle 42 = .ok (.ireturn, 1) := by decide +kernel
theorem dX3_settleFaint_0 : decode cX3_settleFaint 0 = .ok (.aload_n 0, 1) := by decide +kernel
theorem dX3_settleFaint_1 : decode cX3_settleFaint 1 = .ok (.iload_n 1, 1) := by decide +kernel
theorem dX3_settleFaint_2 : decode cX3_settleFaint 2 = .ok (.aload_n 0, 1) := by decide +kernel
end
section
theorem dX3_settleFaint_3 : decode cX3_settleFaint 3 = .ok (.getfield 21, 3) := by decide +kernel
theorem dX3_settleFaint_6 : decode cX3_settleFaint 6 = .ok (.iconst 2, 1) := by decide +kernel
theorem dX3_settleFaint_7 : decode cX3_settleFaint 7 = .ok (.invokevirtual 39, 3) := by decide +kernel
theorem dX3_settleFaint_10 : decode cX3_settleFaint 10 = .ok (.iand, 1) := by decide +kernel
theorem dX3_settleFaint_11 : decode cX3_settleFaint 11 = .ok (.invokevirtual 45, 3) := by decide +kernel
theorem dX3_settleFaint_14 : decode cX3_settleFaint 14 = .ok (.pop, 1) := by decide +kernel
theorem dX3_settleFaint_15 : decode cX3_settleFaint 15 = .ok (.return_, 1) := by decide +kernel
theorem dX3_seatAll_0 : decode cX3_seatAll 0 = .ok (.iload_n 1, 1) := by decide +kernel
theorem dX3_seatAll_1 : decode cX3_seatAll 1 = .ok (.istore_n 2, 1) := by decide +kernel
theorem dX3_seatAll_2 : decode cX3_seatAll 2 = .ok (.iconst (-1), 1) := by decide +kernel
theorem dX3_seatAll_3 : decode cX3_seatAll 3 = .ok (.istore_n 3, 1) := by decide +kernel
theorem dX3_seatAll_4 : decode cX3_seatAll 4 = .ok (.iload_n 3, 1) := by decide +kernel
theorem dX3_seatAll_5 : decode cX3_seatAll 5 = .ok (.aload_n 0, 1) := by decide +kernel
theorem dX3_seatAll_6 : decode cX3_seatAll 6 = .ok (.getfield 21, 3) := by decide +kernel
theorem dX3_seatAll_9 : decode cX3_seatAll 9 = .ok (.invokevirtual 48, 3) := by decide +kernel
theorem dX3_seatAll_12 : decode cX3_seatAll 12 = .ok (.if_icmp .gt 108, 3) := by decide +kernel
theorem dX3_seatAll_15 : decode cX3_seatAll 15 = .ok (.aload_n 0, 1) := by decide +kernel
theorem dX3_seatAll_16 : decode cX3_seatAll 16 = .ok (.getfield 35, 3) := by decide +kernel
theorem dX3_seatAll_19 : decode cX3_seatAll 19 = .ok (.ifCond .eq 101, 3) := by decide +kernel
theorem dX3_seatAll_22 : decode cX3_seatAll 22 = .ok (.iload_n 2, 1) := by decide +kernel
theorem dX3_seatAll_23 : decode cX3_seatAll 23 = .ok (.ifCond .eq 97, 3) := by decide +kernel
theorem dX3_seatAll_26 : decode cX3_seatAll 26 = .ok (.iconst 0, 1) := by decide +kernel
theorem dX3_seatAll_27 : decode cX3_seatAll 27 = .ok (.istore 4, 2) := by decide +kernel
theorem dX3_seatAll_29 : decode cX3_seatAll 29 = .ok (.iload 4, 2) := by decide +kernel
theorem dX3_seatAll_31 : decode cX3_seatAll 31 = .ok (.aload_n 0, 1) := by decide +kernel
theorem dX3_seatAll_32 : decode cX3_seatAll 32 = .ok (.getfield 21, 3) := by decide +kernel
theorem dX3_seatAll_35 : decode cX3_seatAll 35 = .ok (.getfield 52, 3) := by decide +kernel
theorem dX3_seatAll_38 : decode cX3_seatAll 38 = .ok (.if_icmp .ge 76, 3) := by decide +kernel
theorem dX3_seatAll_41 : decode cX3_seatAll 41 = .ok (.iload_n 2, 1) := by decide +kernel
theorem dX3_seatAll_42 : decode cX3_seatAll 42 = .ok (.iload 4, 2) := by decide +kernel
theorem dX3_seatAll_44 : decode cX3_seatAll 44 = .ok (.invokestatic 55, 3) := by decide +kernel
theorem dX3_seatAll_47 : decode cX3_seatAll 47 = .ok (.ifCond .eq 35, 3) := by decide +kernel
theorem dX3_seatAll_50 : decode cX3_seatAll 50 = .ok (.aload_n 0, 1) := by decide +kernel
theorem dX3_seatAll_51 : decode cX3_seatAll 51 = .ok (.getfield 21, 3) := by decide +kernel
theorem dX3_seatAll_54 : decode cX3_seatAll 54 = .ok (.aload_n 0, 1) := by decide +kernel
theorem dX3_seatAll_55 : decode cX3_seatAll 55 = .ok (.getfield 9, 3) := by decide +kernel
theorem dX3_seatAll_58 : decode cX3_seatAll 58 = .ok (.iload 4, 2) := by decide +kernel
theorem dX3_seatAll_60 : decode cX3_seatAll 60 = .ok (.iaload, 1) := by decide +kernel
theorem dX3_seatAll_61 : decode cX3_seatAll 61 = .ok (.iload_n 3, 1) := by decide +kernel
theorem dX3_seatAll_62 : decode cX3_seatAll 62 = .ok (.aload_n 0, 1) := by decide +kernel
theorem dX3_seatAll_63 : decode cX3_seatAll 63 = .ok (.getfield 21, 3) := by decide +kernel
theorem dX3_seatAll_66 : decode cX3_seatAll 66 = .ok (.iload 4, 2) := by decide +kernel
theorem dX3_seatAll_68 : decode cX3_seatAll 68 = .ok (.invokevirtual 59, 3) := by decide +kernel
theorem dX3_seatAll_71 : decode cX3_seatAll 71 = .ok (.iadd, 1) := by decide +kernel
theorem dX3_seatAll_72 : decode cX3_seatAll 72 = .ok (.aload_n 0, 1) := by decide +kernel
theorem dX3_seatAll_73 : decode cX3_seatAll 73 = .ok (.getfield 35, 3) := by decide +kernel
theorem dX3_seatAll_76 : decode cX3_seatAll 76 = .ok (.invokevirtual 62, 3) := by decide +kernel
theorem dX3_seatAll_79 : decode cX3_seatAll 79 = .ok (.goto 4, 3) := by decide +kernel
theorem dX3_seatAll_82 : decode cX3_seatAll 82 = .ok (.iconst (-1), 1) := by decide +kernel
theorem dX3_seatAll_83 : decode cX3_seatAll 83 = .ok (.istore 5, 2) := by decide +kernel
theorem dX3_seatAll_85 : decode cX3_seatAll 85 = .ok (.iload 5, 2) := by decide +kernel
theorem dX3_seatAll_87 : decode cX3_seatAll 87 = .ok (.iconst (-1), 1) := by decide +kernel
theorem dX3_seatAll_88 : decode cX3_seatAll 88 = .ok (.if_icmp .eq 20, 3) := by decide +kernel
theorem dX3_seatAll_91 : decode cX3_seatAll 91 = .ok (.aload_n 0, 1) := by decide +kernel
theorem dX3_seatAll_92 : decode cX3_seatAll 92 = .ok (.iload 4, 2) := by decide +kernel
theorem dX3_seatAll_94 : decode cX3_seatAll 94 = .ok (.iload 5, 2) := by decide +kernel
theorem dX3_seatAll_96 : decode cX3_seatAll 96 = .ok (.invokevirtual 66, 3) := by decide +kernel
theorem dX3_seatAll_99 : decode cX3_seatAll 99 = .ok (.iload_n 2, 1) := by decide +kernel
theorem dX3_seatAll_100 : decode cX3_seatAll 100 = .ok (.iconst 1, 1) := by decide +kernel
theorem dX3_seatAll_101 : decode cX3_seatAll 101 = .ok (.iload 4, 2) := by decide +kernel
theorem dX3_seatAll_103 : decode cX3_seatAll 103 = .ok (.ishl, 1) := by decide +kernel
theorem dX3_seatAll_104 : decode cX3_seatAll 104 = .ok (.iconst (-1), 1) := by decide +kernel
theorem dX3_seatAll_105 : decode cX3_seatAll 105 = .ok (.ixor, 1) := by decide +kernel
theorem dX3_seatAll_106 : decode cX3_seatAll 106 = .ok (.iand, 1) := by decide +kernel
theorem dX3_seatAll_107 : decode cX3_seatAll 107 = .ok (.istore_n 2, 1) := by decide +kernel
theorem dX3_seatAll_108 : decode cX3_seatAll 108 = .ok (.iinc 4 1, 3) := by decide +kernel
theorem dX3_seatAll_111 : decode cX3_seatAll 111 = .ok (.goto (-82), 3) := by decide +kernel
theorem dX3_seatAll_114 : decode cX3_seatAll 114 = .ok (.iinc 3 1, 3) := by decide +kernel
theorem dX3_seatAll_117 : decode cX3_seatAll 117 = .ok (.goto (-113), 3) := by decide +kernel
theorem dX3_seatAll_120 : decode cX3_seatAll 120 = .ok (.iload_n 2, 1) := by decide +kernel
theorem dX3_seatAll_121 : decode cX3_seatAll 121 = .ok (.ireturn, 1) := by decide +kernel
theorem dX3_seatOne_0 : decode cX3_seatOne 0 = .ok (.aload_n 0, 1) := by decide +kernel
theorem dX3_seatOne_1 : decode cX3_seatOne 1 = .ok (.getfield 15, 3) := by decide +kernel
theorem dX3_seatOne_4 : decode cX3_seatOne 4 = .ok (.iload_n 1, 1) := by decide +kernel
theorem dX3_seatOne_5 : decode cX3_seatOne 5 = .ok (.iload_n 2, 1) := by decide +kernel
theorem dX3_seatOne_6 : decode cX3_seatOne 6 = .ok (.iastore, 1) := by decide +kernel
theorem dX3_seatOne_7 : decode cX3_seatOne 7 = .ok (.aload_n 0, 1) := by decide +kernel
theorem dX3_seatOne_8 : decode cX3_seatOne 8 = .ok (.iload_n 1, 1) := by decide +kernel
theorem dX3_seatOne_9 : decode cX3_seatOne 9 = .ok (.iload_n 2, 1) := by decide +kernel
theorem dX3_seatOne_10 : decode cX3_seatOne 10 = .ok (.invokevirtual 70, 3) := by decide +kernel
theorem dX3_seatOne_13 : decode cX3_seatOne 13 = .ok (.aload_n 0, 1) := by decide +kernel
theorem dX3_seatOne_14 : decode cX3_seatOne 14 = .ok (.getfield 21, 3) := by decide +kernel
theorem dX3_seatOne_17 : decode cX3_seatOne 17 = .ok (.getfield 73, 3) := by decide +kernel
theorem dX3_seatOne_20 : decode cX3_seatOne 20 = .ok (.iload_n 1, 1) := by decide +kernel
theorem dX3_seatOne_21 : decode cX3_seatOne 21 = .ok (.iaload, 1) := by decide +kernel
theorem dX3_seatOne_22 : decode cX3_seatOne 22 = .ok (.iconst 3, 1) := by decide +kernel
theorem dX3_seatOne_23 : decode cX3_seatOne 23 = .ok (.if_icmp .eq 4, 3) := by decide +kernel
theorem dX3_seatOne_26 : decode cX3_seatOne 26 = .ok (.return_, 1) := by decide +kernel
theorem dX3_seatOne_27 : decode cX3_seatOne 27 = .ok (.iconst 1, 1) := by decide +kernel
theorem dX3_seatOne_28 : decode cX3_seatOne 28 = .ok (.istore_n 3, 1) := by decide +kernel
theorem dX3_seatOne_29 : decode cX3_seatOne 29 = .ok (.iload_n 3, 1) := by decide +kernel
theorem dX3_seatOne_30 : decode cX3_seatOne 30 = .ok (.aload_n 0, 1) := by decide +kernel
theorem dX3_seatOne_31 : decode cX3_seatOne 31 = .ok (.getfield 21, 3) := by decide +kernel
theorem dX3_seatOne_34 : decode cX3_seatOne 34 = .ok (.invokevirtual 48, 3) := by decide +kernel
theorem dX3_seatOne_37 : decode cX3_seatOne 37 = .ok (.if_icmp .gt 43, 3) := by decide +kernel
theorem dX3_seatOne_40 : decode cX3_seatOne 40 = .ok (.aload_n 0, 1) := by decide +kernel
theorem dX3_seatOne_41 : decode cX3_seatOne 41 = .ok (.getfield 21, 3) := by decide +kernel
theorem dX3_seatOne_44 : decode cX3_seatOne 44 = .ok (.iload_n 2, 1) := by decide +kernel
theorem dX3_seatOne_45 : decode cX3_seatOne 45 = .ok (.iload_n 3, 1) := by decide +kernel
theorem dX3_seatOne_46 : decode cX3_seatOne 46 = .ok (.aload_n 0, 1) := by decide +kernel
theorem dX3_seatOne_47 : decode cX3_seatOne 47 = .ok (.getfield 35, 3) := by decide +kernel
theorem dX3_seatOne_50 : decode cX3_seatOne 50 = .ok (.invokevirtual 62, 3) := by decide +kernel
theorem dX3_seatOne_53 : decode cX3_seatOne 53 = .ok (.istore 4, 2) := by decide +kernel
theorem dX3_seatOne_55 : decode cX3_seatOne 55 = .ok (.iload 4, 2) := by decide +kernel
theorem dX3_seatOne_57 : decode cX3_seatOne 57 = .ok (.iconst (-1), 1) := by decide +kernel
theorem dX3_seatOne_58 : decode cX3_seatOne 58 = .ok (.if_icmp .eq 16, 3) := by decide +kernel
theorem dX3_seatOne_61 : decode cX3_seatOne 61 = .ok (.aload_n 0, 1) := by decide +kernel
theorem dX3_seatOne_62 : decode cX3_seatOne 62 = .ok (.iload_n 1, 1) := by decide +kernel
theorem dX3_seatOne_63 : decode cX3_seatOne 63 = .ok (.iload 4, 2) := by decide +kernel
theorem dX3_seatOne_65 : decode cX3_seatOne 65 = .ok (.invokevirtual 70, 3) := by decide +kernel
theorem dX3_seatOne_68 : decode cX3_seatOne 68 = .ok (.aload_n 0, 1) := by decide +kernel
theorem dX3_seatOne_69 : decode cX3_seatOne 69 = .ok (.iconst 1, 1) := by decide +kernel
theorem dX3_seatOne_70 : decode cX3_seatOne 70 = .ok (.putfield 31, 3) := by decide +kernel
theorem dX3_seatOne_73 : decode cX3_seatOne 73 = .ok (.return_, 1) := by decide +kernel
theorem dX3_seatOne_74 : decode cX3_seatOne 74 = .ok (.iinc 3 1, 3) := by decide +kernel
theorem dX3_seatOne_77 : decode cX3_seatOne 77 = .ok (.goto (-48), 3) := by decide +kernel
theorem dX3_seatOne_80 : decode cX3_seatOne 80 = .ok (.return_, 1) := by decide +kernel
theorem dX3_take_0 : decode cX3_take 0 = .ok (.aload_n 0, 1) := by decide +kernel
theorem dX3_take_1 : decode cX3_take 1 = .ok (.getfield 18, 3) := by decide +kernel
theorem dX3_take_4 : decode cX3_take 4 = .ok (.iload_n 2, 1) := by decide +kernel
theorem dX3_take_5 : decode cX3_take 5 = .ok (.iload_n 1, 1) := by decide +kernel
theorem dX3_take_6 : decode cX3_take 6 = .ok (.iastore, 1) := by decide +kernel
theorem dX3_take_7 : decode cX3_take 7 = .ok (.aload_n 0, 1) := by decide +kernel
theorem dX3_take_8 : decode cX3_take 8 = .ok (.dup, 1) := by decide +kernel
theorem dX3_take_9 : decode cX3_take 9 = .ok (.getfield 35, 3) := by decide +kernel
theorem dX3_take_12 : decode cX3_take 12 = .ok (.iconst 1, 1) := by decide +kernel
theorem dX3_take_13 : decode cX3_take 13 = .ok (.iload_n 2, 1) := by decide +kernel
theorem dX3_take_14 : decode cX3_take 14 = .ok (.ishl, 1) := by decide +kernel
theorem dX3_take_15 : decode cX3_take 15 = .ok (.iconst (-1), 1) := by decide +kernel
theorem dX3_take_16 : decode cX3_take 16 = .ok (.ixor, 1) := by decide +kernel
theorem dX3_take_17 : decode cX3_take 17 = .ok (.iand, 1) := by decide +kernel
theorem dX3_take_18 : decode cX3_take 18 = .ok (.putfield 35, 3) := by decide +kernel
theorem dX3_take_21 : decode cX3_take 21 = .ok (.return_, 1) := by decide +kernel
theorem dX4_init_0 : decode cX4_init 0 = .ok (.aload_n 0, 1) := by decide +kernel
theorem dX4_init_1 : decode cX4_init 1 = .ok (.invokespecial 3, 3) := by decide +kernel
theorem dX4_init_4 : decode cX4_init 4 = .ok (.aload_n 0, 1) := by decide +kernel
theorem dX4_init_5 : decode cX4_init 5 = .ok (.bipush 6, 2) := by decide +kernel
theorem dX4_init_7 : decode cX4_init 7 = .ok (.newarray .int, 2) := by decide +kernel
theorem dX4_init_9 : decode cX4_init 9 = .ok (.putfield 9, 3) := by decide +kernel
theorem dX4_init_12 : decode cX4_init 12 = .ok (.aload_n 0, 1) := by decide +kernel
theorem dX4_init_13 : decode cX4_init 13 = .ok (.bipush 6, 2) := by decide +kernel
theorem dX4_init_15 : decode cX4_init 15 = .ok (.newarray .int, 2) := by decide +kernel
theorem dX4_init_17 : decode cX4_init 17 = .ok (.putfield 15, 3) := by decide +kernel
theorem dX4_init_20 : decode cX4_init 20 = .ok (.return_, 1) := by decide +kernel
theorem dX4_add_0 : decode cX4_add 0 = .ok (.aload_n 0, 1) := by decide +kernel
theorem dX4_add_1 : decode cX4_add 1 = .ok (.getfield 18, 3) := by decide +kernel
theorem dX4_add_4 : decode cX4_add 4 = .ok (.bipush 6, 2) := by decide +kernel
theorem dX4_add_6 : decode cX4_add 6 = .ok (.if_icmp .ge 33, 3) := by decide +kernel
theorem dX4_add_9 : decode cX4_add 9 = .ok (.aload_n 0, 1) := by decide +kernel
theorem dX4_add_10 : decode cX4_add 10 = .ok (.getfield 9, 3) := by decide +kernel
theorem dX4_add_13 : decode cX4_add 13 = .ok (.aload_n 0, 1) := by decide +kernel
theorem dX4_add_14 : decode cX4_add 14 = .ok (.getfield 18, 3) := by decide +kernel
theorem dX4_add_17 : decode cX4_add 17 = .ok (.iload_n 1, 1) := by decide +kernel
theorem dX4_add_18 : decode cX4_add 18 = .ok (.iastore, 1) := by decide +kernel
theorem dX4_add_19 : decode cX4_add 19 = .ok (.aload_n 0, 1) := by decide +kernel
theorem dX4_add_20 : decode cX4_add 20 = .ok (.getfield 15, 3) := by decide +kernel
theorem dX4_add_23 : decode cX4_add 23 = .ok (.aload_n 0, 1) := by decide +kernel
theorem dX4_add_24 : decode cX4_add 24 = .ok (.getfield 18, 3) := by decide +kernel
theorem dX4_add_27 : decode cX4_add 27 = .ok (.iload_n 2, 1) := by decide +kernel
theorem dX4_add_28 : decode cX4_add 28 = .ok (.iastore, 1) := by decide +kernel
theorem dX4_add_29 : decode cX4_add 29 = .ok (.aload_n 0, 1) := by decide +kernel
theorem dX4_add_30 : decode cX4_add 30 = .ok (.dup, 1) := by decide +kernel
theorem dX4_add_31 : decode cX4_add 31 = .ok (.getfield 18, 3) := by decide +kernel
theorem dX4_add_34 : decode cX4_add 34 = .ok (.iconst 1, 1) := by decide +kernel
theorem dX4_add_35 : decode cX4_add 35 = .ok (.iadd, 1) := by decide +kernel
theorem dX4_add_36 : decode cX4_add 36 = .ok (.putfield 18, 3) := by decide +kernel
theorem dX4_add_39 : decode cX4_add 39 = .ok (.return_, 1) := by decide +kernel
theorem dX4_fit_0 : decode cX4_fit 0 = .ok (.iconst 0, 1) := by decide +kernel
theorem dX4_fit_1 : decode cX4_fit 1 = .ok (.istore_n 2, 1) := by decide +kernel
theorem dX4_fit_2 : decode cX4_fit 2 = .ok (.iload_n 2, 1) := by decide +kernel
theorem dX4_fit_3 : decode cX4_fit 3 = .ok (.aload_n 0, 1) := by decide +kernel
theorem dX4_fit_4 : decode cX4_fit 4 = .ok (.getfield 18, 3) := by decide +kernel
theorem dX4_fit_7 : decode cX4_fit 7 = .ok (.if_icmp .ge 30, 3) := by decide +kernel
theorem dX4_fit_10 : decode cX4_fit 10 = .ok (.iload_n 1, 1) := by decide +kernel
theorem dX4_fit_11 : decode cX4_fit 11 = .ok (.aload_n 0, 1) := by decide +kernel
theorem dX4_fit_12 : decode cX4_fit 12 = .ok (.getfield 9, 3) := by decide +kernel
theorem dX4_fit_15 : decode cX4_fit 15 = .ok (.iload_n 2, 1) := by decide +kernel
theorem dX4_fit_16 : decode cX4_fit 16 = .ok (.iaload, 1) := by decide +kernel
theorem dX4_fit_17 : decode cX4_fit 17 = .ok (.ishr, 1) := by decide +kernel
theorem dX4_fit_18 : decode cX4_fit 18 = .ok (.iconst 1, 1) := by decide +kernel
theorem dX4_fit_19 : decode cX4_fit 19 = .ok (.iand, 1) := by decide +kernel
theorem dX4_fit_20 : decode cX4_fit 20 = .ok (.aload_n 0, 1) := by decide +kernel
theorem dX4_fit_21 : decode cX4_fit 21 = .ok (.getfield 15, 3) := by decide +kernel
theorem dX4_fit_24 : decode cX4_fit 24 = .ok (.iload_n 2, 1) := by decide +kernel
theorem dX4_fit_25 : decode cX4_fit 25 = .ok (.iaload, 1) := by decide +kernel
theorem dX4_fit_26 : decode cX4_fit 26 = .ok (.if_icmp .eq 5, 3) := by decide +kernel
theorem dX4_fit_29 : decode cX4_fit 29 = .ok (.iconst 0, 1) := by decide +kernel
theorem dX4_fit_30 : decode cX4_fit 30 = .ok (.ireturn, 1) := by decide +kernel
theorem dX4_fit_31 : decode cX4_fit 31 = .ok (.iinc 2 1, 3) := by decide +kernel
theorem dX4_fit_34 : decode cX4_fit 34 = .ok (.goto (-32), 3) := by decide +kernel
theorem dX4_fit_37 : decode cX4_fit 37 = .ok (.iconst 1, 1) := by decide +kernel
theorem dX4_fit_38 : decode cX4_fit 38 = .ok (.ireturn, 1) := by decide +kernel
theorem dX5_init_0 : decode cX5_init 0 = .ok (.aload_n 0, 1) := by decide +kernel
theorem dX5_init_1 : decode cX5_init 1 = .ok (.invokespecial 3, 3) := by decide +kernel
theorem dX5_init_4 : decode cX5_init 4 = .ok (.aload_n 0, 1) := by decide +kernel
theorem dX5_init_5 : decode cX5_init 5 = .ok (.sipush 200, 3) := by decide +kernel
theorem dX5_init_8 : decode cX5_init 8 = .ok (.newarray .int, 2) := by decide +kernel
theorem dX5_init_10 : decode cX5_init 10 = .ok (.putfield 9, 3) := by decide +kernel
theorem dX5_init_13 : decode cX5_init 13 = .ok (.aload_n 0, 1) := by decide +kernel
theorem dX5_init_14 : decode cX5_init 14 = .ok (.new 15, 3) := by decide +kernel
theorem dX5_init_17 : decode cX5_init 17 = .ok (.dup, 1) := by decide +kernel
theorem dX5_init_18 : decode cX5_init 18 = .ok (.invokespecial 17, 3) := by decide +kernel
theorem dX5_init_21 : decode cX5_init 21 = .ok (.putfield 18, 3) := by decide +kernel
theorem dX5_init_24 : decode cX5_init 24 = .ok (.aload_n 0, 1) := by decide +kernel
theorem dX5_init_25 : decode cX5_init 25 = .ok (.iconst 4, 1) := by decide +kernel
theorem dX5_init_26 : decode cX5_init 26 = .ok (.newarray .int, 2) := by decide +kernel
theorem dX5_init_28 : decode cX5_init 28 = .ok (.putfield 22, 3) := by decide +kernel
theorem dX5_init_31 : decode cX5_init 31 = .ok (.return_, 1) := by decide +kernel
theorem dX5_append_0 : decode cX5_append 0 = .ok (.aload_n 0, 1) := by decide +kernel
theorem dX5_append_1 : decode cX5_append 1 = .ok (.getfield 25, 3) := by decide +kernel
theorem dX5_append_4 : decode cX5_append 4 = .ok (.sipush 200, 3) := by decide +kernel
theorem dX5_append_7 : decode cX5_append 7 = .ok (.if_icmp .ge 23, 3) := by decide +kernel
theorem dX5_append_10 : decode cX5_append 10 = .ok (.aload_n 0, 1) := by decide +kernel
theorem dX5_append_11 : decode cX5_append 11 = .ok (.getfield 9, 3) := by decide +kernel
theorem dX5_append_14 : decode cX5_append 14 = .ok (.aload_n 0, 1) := by decide +kernel
theorem dX5_append_15 : decode cX5_append 15 = .ok (.getfield 25, 3) := by decide +kernel
theorem dX5_append_18 : decode cX5_append 18 = .ok (.iload_n 1, 1) := by decide +kernel
theorem dX5_append_19 : decode cX5_append 19 = .ok (.iastore, 1) := by decide +kernel
theorem dX5_append_20 : decode cX5_append 20 = .ok (.aload_n 0, 1) := by decide +kernel
theorem dX5_append_21 : decode cX5_append 21 = .ok (.dup, 1) := by decide +kernel
theorem dX5_append_22 : decode cX5_append 22 = .ok (.getfield 25, 3) := by decide +kernel
theorem dX5_append_25 : decode cX5_append 25 = .ok (.iconst 1, 1) := by decide +kernel
theorem dX5_append_26 : decode cX5_append 26 = .ok (.iadd, 1) := by decide +kernel
theorem dX5_append_27 : decode cX5_append 27 = .ok (.putfield 25, 3) := by decide +kernel
theorem dX5_append_30 : decode cX5_append 30 = .ok (.return_, 1) := by decide +kernel
theorem dX5_read_0 : decode cX5_read 0 = .ok (.aload_n 0, 1) := by decide +kernel
theorem dX5_read_1 : decode cX5_read 1 = .ok (.getfield 18, 3) := by decide +kernel
theorem dX5_read_4 : decode cX5_read 4 = .ok (.aload_n 1, 1) := by decide +kernel
theorem dX5_read_5 : decode cX5_read 5 = .ok (.invokevirtual 29, 3) := by decide +kernel
theorem dX5_read_8 : decode cX5_read 8 = .ok (.aload_n 0, 1) := by decide +kernel
theorem dX5_read_9 : decode cX5_read 9 = .ok (.iconst 0, 1) := by decide +kernel
theorem dX5_read_10 : decode cX5_read 10 = .ok (.putfield 33, 3) := by decide +kernel
theorem dX5_read_13 : decode cX5_read 13 = .ok (.aload_n 0, 1) := by decide +kernel
theorem dX5_read_14 : decode cX5_read 14 = .ok (.iconst 1, 1) := by decide +kernel
theorem dX5_read_15 : decode cX5_read 15 = .ok (.putfield 36, 3) := by decide +kernel
theorem dX5_read_18 : decode cX5_read 18 = .ok (.aload_n 0, 1) := by decide +kernel
theorem dX5_read_19 : decode cX5_read 19 = .ok (.getfield 36, 3) := by decide +kernel
theorem dX5_read_22 : decode cX5_read 22 = .ok (.bipush 12, 2) := by decide +kernel
theorem dX5_read_24 : decode cX5_read 24 = .ok (.if_icmp .gt 64, 3) := by decide +kernel
theorem dX5_read_27 : decode cX5_read 27 = .ok (.aload_n 0, 1) := by decide +kernel
theorem dX5_read_28 : decode cX5_read 28 = .ok (.invokevirtual 39, 3) := by decide +kernel
theorem dX5_read_31 : decode cX5_read 31 = .ok (.ifCond .ne 8, 3) := by decide +kernel
theorem dX5_read_34 : decode cX5_read 34 = .ok (.aload_n 0, 1) := by decide +kernel
theorem dX5_read_35 : decode cX5_read 35 = .ok (.getfield 43, 3) := by decide +kernel
theorem dX5_read_38 : decode cX5_read 38 = .ok (.ireturn, 1) := by decide +kernel
theorem dX5_read_39 : decode cX5_read 39 = .ok (.aload_n 0, 1) := by decide +kernel
theorem dX5_read_40 : decode cX5_read 40 = .ok (.invokevirtual 46, 3) := by decide +kernel
theorem dX5_read_43 : decode cX5_read 43 = .ok (.aload_n 0, 1) := by decide +kernel
theorem dX5_read_44 : decode cX5_read 44 = .ok (.getfield 43, 3) := by decide +kernel
theorem dX5_read_47 : decode cX5_read 47 = .ok (.aload_n 0, 1) := by decide +kernel
theorem dX5_read_48 : decode cX5_read 48 = .ok (.getfield 25, 3) := by decide +kernel
theorem dX5_read_51 : decode cX5_read 51 = .ok (.if_icmp .lt 5, 3) := by decide +kernel
theorem dX5_read_54 : decode cX5_read 54 = .ok (.iconst (-1), 1) := by decide +kernel
theorem dX5_read_55 : decode cX5_read 55 = .ok (.ireturn, 1) := by decide +kernel
theorem dX5_read_56 : decode cX5_read 56 = .ok (.aload_n 0, 1) := by decide +kernel
theorem dX5_read_57 : decode cX5_read 57 = .ok (.getfield 9, 3) := by decide +kernel
theorem dX5_read_60 : decode cX5_read 60 = .ok (.aload_n 0, 1) := by decide +kernel
theorem dX5_read_61 : decode cX5_read 61 = .ok (.getfield 43, 3) := by decide +kernel
theorem dX5_read_64 : decode cX5_read 64 = .ok (.iaload, 1) := by decide +kernel
theorem dX5_read_65 : decode cX5_read 65 = .ok (.bipush 59, 2) := by decide +kernel
theorem dX5_read_67 : decode cX5_read 67 = .ok (.if_icmp .eq 8, 3) := by decide +kernel
theorem dX5_read_70 : decode cX5_read 70 = .ok (.aload_n 0, 1) := by decide +kernel
theorem dX5_read_71 : decode cX5_read 71 = .ok (.getfield 43, 3) := by decide +kernel
theorem dX5_read_74 : decode cX5_read 74 = .ok (.ireturn, 1) := by decide +kernel
theorem dX5_read_75 : decode cX5_read 75 = .ok (.aload_n 0, 1) := by decide +kernel
theorem dX5_read_76 : decode cX5_read 76 = .ok (.dup, 1) := by decide +kernel
theorem dX5_read_77 : decode cX5_read 77 = .ok (.getfield 36, 3) := by decide +kernel
theorem dX5_read_80 : decode cX5_read 80 = .ok (.iconst 1, 1) := by decide +kernel
theorem dX5_read_81 : decode cX5_read 81 = .ok (.iadd, 1) := by decide +kernel
theorem dX5_read_82 : decode cX5_read 82 = .ok (.putfield 36, 3) := by decide +kernel
theorem dX5_read_85 : decode cX5_read 85 = .ok (.goto (-67), 3) := by decide +kernel
theorem dX5_read_88 : decode cX5_read 88 = .ok (.aload_n 0, 1) := by decide +kernel
theorem dX5_read_89 : decode cX5_read 89 = .ok (.getfield 43, 3) := by decide +kernel
theorem dX5_read_92 : decode cX5_read 92 = .ok (.ireturn, 1) := by decide +kernel
theorem dX5_nextToken_0 : decode cX5_nextToken 0 = .ok (.aload_n 0, 1) := by decide +kernel
theorem dX5_nextToken_1 : decode cX5_nextToken 1 = .ok (.aload_n 0, 1) := by decide +kernel
theorem dX5_nextToken_2 : decode cX5_nextToken 2 = .ok (.getfield 33, 3) := by decide +kernel
theorem dX5_nextToken_5 : decode cX5_nextToken 5 = .ok (.putfield 43, 3) := by decide +kernel
theorem dX5_nextToken_8 : decode cX5_nextToken 8 = .ok (.aload_n 0, 1) := by decide +kernel
theorem dX5_nextToken_9 : decode cX5_nextToken 9 = .ok (.getfield 43, 3) := by decide +kernel
theorem dX5_nextToken_12 : decode cX5_nextToken 12 = .ok (.aload_n 0, 1) := by decide +kernel
theorem dX5_nextToken_13 : decode cX5_nextToken 13 = .ok (.getfield 25, 3) := by decide +kernel
theorem dX5_nextToken_16 : decode cX5_nextToken 16 = .ok (.if_icmp .ge 30, 3) := by decide +kernel
theorem dX5_nextToken_19 : decode cX5_nextToken 19 = .ok (.aload_n 0, 1) := by decide +kernel
theorem dX5_nextToken_20 : decode cX5_nextToken 20 = .ok (.getfield 9, 3) := by decide +kernel
theorem dX5_nextToken_23 : decode cX5_nextToken 23 = .ok (.aload_n 0, 1) := by decide +kernel
theorem dX5_nextToken_24 : decode cX5_nextToken 24 = .ok (.getfield 43, 3) := by decide +kernel
theorem dX5_nextToken_27 : decode cX5_nextToken 27 = .ok (.iaload, 1) := by decide +kernel
theorem dX5_nextToken_28 : decode cX5_nextToken 28 = .ok (.bipush 32, 2) := by decide +kernel
theorem dX5_nextToken_30 : decode cX5_nextToken 30 = .ok (.if_icmp .ne 16, 3) := by decide +kernel
theorem dX5_nextToken_33 : decode cX5_nextToken 33 = .ok (.aload_n 0, 1) := by decide +kernel
theorem dX5_nextToken_34 : decode cX5_nextToken 34 = .ok (.dup, 1) := by decide +kernel
theorem dX5_nextToken_35 : decode cX5_nextToken 35 = .ok (.getfield 43, 3) := by decide +kernel
theorem dX5_nextToken_38 : decode cX5_nextToken 38 = .ok (.iconst 1, 1) := by decide +kernel
theorem dX5_nextToken_39 : decode cX5_nextToken 39 = .ok (.iadd, 1) := by decide +kernel
theorem dX5_nextToken_40 : decode cX5_nextToken 40 = .ok (.putfield 43, 3) := by decide +kernel
theorem dX5_nextToken_43 : decode cX5_nextToken 43 = .ok (.goto (-35), 3) := by decide +kernel
theorem dX5_nextToken_46 : decode cX5_nextToken 46 = .ok (.aload_n 0, 1) := by decide +kernel
theorem dX5_nextToken_47 : decode cX5_nextToken 47 = .ok (.aload_n 0, 1) := by decide +kernel
theorem dX5_nextToken_48 : decode cX5_nextToken 48 = .ok (.getfield 43, 3) := by decide +kernel
theorem dX5_nextToken_51 : decode cX5_nextToken 51 = .ok (.putfield 33, 3) := by decide +kernel
theorem dX5_nextToken_54 : decode cX5_nextToken 54 = .ok (.aload_n 0, 1) := by decide +kernel
theorem dX5_nextToken_55 : decode cX5_nextToken 55 = .ok (.getfield 33, 3) := by decide +kernel
theorem dX5_nextToken_58 : decode cX5_nextToken 58 = .ok (.aload_n 0, 1) := by decide +kernel
theorem dX5_nextToken_59 : decode cX5_nextToken 59 = .ok (.getfield 25, 3) := by decide +kernel
theorem dX5_nextToken_62 : decode cX5_nextToken 62 = .ok (.if_icmp .ge 31, 3) := by decide +kernel
theorem dX5_nextToken_65 : decode cX5_nextToken 65 = .ok (.aload_n 0, 1) := by decide +kernel
theorem dX5_nextToken_66 : decode cX5_nextToken 66 = .ok (.getfield 9, 3) := by decide +kernel
theorem dX5_nextToken_69 : decode cX5_nextToken 69 = .ok (.aload_n 0, 1) := by decide +kernel
theorem dX5_nextToken_70 : decode cX5_nextToken 70 = .ok (.getfield 33, 3) := by decide +kernel
theorem dX5_nextToken_73 : decode cX5_nextToken 73 = .ok (.iaload, 1) := by decide +kernel
theorem dX5_nextToken_74 : decode cX5_nextToken 74 = .ok (.invokestatic 49, 3) := by decide +kernel
theorem dX5_nextToken_77 : decode cX5_nextToken 77 = .ok (.ifCond .eq 16, 3) := by decide +kernel
theorem dX5_nextToken_80 : decode cX5_nextToken 80 = .ok (.aload_n 0, 1) := by decide +kernel
theorem dX5_nextToken_81 : decode cX5_nextToken 81 = .ok (.dup, 1) := by decide +kernel
theorem dX5_nextToken_82 : decode cX5_nextToken 82 = .ok (.getfield 33, 3) := by decide +kernel
theorem dX5_nextToken_85 : decode cX5_nextToken 85 = .ok (.iconst 1, 1) := by decide +kernel
theorem dX5_nextToken_86 : decode cX5_nextToken 86 = .ok (.iadd, 1) := by decide +kernel
theorem dX5_nextToken_87 : decode cX5_nextToken 87 = .ok (.putfield 33, 3) := by decide +kernel
theorem dX5_nextToken_90 : decode cX5_nextToken 90 = .ok (.goto (-36), 3) := by decide +kernel
theorem dX5_nextToken_93 : decode cX5_nextToken 93 = .ok (.aload_n 0, 1) := by decide +kernel
theorem dX5_nextToken_94 : decode cX5_nextToken 94 = .ok (.getfield 33, 3) := by decide +kernel
theorem dX5_nextToken_97 : decode cX5_nextToken 97 = .ok (.aload_n 0, 1) := by decide +kernel
theorem dX5_nextToken_98 : decode cX5_nextToken 98 = .ok (.getfield 43, 3) := by decide +kernel
theorem dX5_nextToken_101 : decode cX5_nextToken 101 = .ok (.if_icmp .le 4, 3) := by decide +kernel
theorem dX5_nextToken_104 : decode cX5_nextToken 104 = .ok (.return_, 1) := by decide +kernel
theorem dX5_nextToken_105 : decode cX5_nextToken 105 = .ok (.aload_n 0, 1) := by decide +kernel
theorem dX5_nextToken_106 : decode cX5_nextToken 106 = .ok (.getfield 33, 3) := by decide +kernel
theorem dX5_nextToken_109 : decode cX5_nextToken 109 = .ok (.aload_n 0, 1) := by decide +kernel
theorem dX5_nextToken_110 : decode cX5_nextToken 110 = .ok (.getfield 25, 3) := by decide +kernel
theorem dX5_nextToken_113 : decode cX5_nextToken 113 = .ok (.if_icmp .ge 31, 3) := by decide +kernel
theorem dX5_nextToken_116 : decode cX5_nextToken 116 = .ok (.aload_n 0, 1) := by decide +kernel
theorem dX5_nextToken_117 : decode cX5_nextToken 117 = .ok (.getfield 9, 3) := by decide +kernel
theorem dX5_nextToken_120 : decode cX5_nextToken 120 = .ok (.aload_n 0, 1) := by decide +kernel
theorem dX5_nextToken_121 : decode cX5_nextToken 121 = .ok (.getfield 33, 3) := by decide +kernel
theorem dX5_nextToken_124 : decode cX5_nextToken 124 = .ok (.iaload, 1) := by decide +kernel
theorem dX5_nextToken_125 : decode cX5_nextToken 125 = .ok (.invokestatic 53, 3) := by decide +kernel
theorem dX5_nextToken_128 : decode cX5_nextToken 128 = .ok (.ifCond .eq 16, 3) := by decide +kernel
theorem dX5_nextToken_131 : decode cX5_nextToken 131 = .ok (.aload_n 0, 1) := by decide +kernel
theorem dX5_nextToken_132 : decode cX5_nextToken 132 = .ok (.dup, 1) := by decide +kernel
theorem dX5_nextToken_133 : decode cX5_nextToken 133 = .ok (.getfield 33, 3) := by decide +kernel
theorem dX5_nextToken_136 : decode cX5_nextToken 136 = .ok (.iconst 1, 1) := by decide +kernel
theorem dX5_nextToken_137 : decode cX5_nextToken 137 = .ok (.iadd, 1) := by decide +kernel
theorem dX5_nextToken_138 : decode cX5_nextToken 138 = .ok (.putfield 33, 3) := by decide +kernel
theorem dX5_nextToken_141 : decode cX5_nextToken 141 = .ok (.goto (-36), 3) := by decide +kernel
theorem dX5_nextToken_144 : decode cX5_nextToken 144 = .ok (.aload_n 0, 1) := by decide +kernel
theorem dX5_nextToken_145 : decode cX5_nextToken 145 = .ok (.getfield 33, 3) := by decide +kernel
theorem dX5_nextToken_148 : decode cX5_nextToken 148 = .ok (.aload_n 0, 1) := by decide +kernel
theorem dX5_nextToken_149 : decode cX5_nextToken 149 = .ok (.getfield 43, 3) := by decide +kernel
theorem dX5_nextToken_152 : decode cX5_nextToken 152 = .ok (.if_icmp .ne 24, 3) := by decide +kernel
theorem dX5_nextToken_155 : decode cX5_nextToken 155 = .ok (.aload_n 0, 1) := by decide +kernel
theorem dX5_nextToken_156 : decode cX5_nextToken 156 = .ok (.getfield 33, 3) := by decide +kernel
theorem dX5_nextToken_159 : decode cX5_nextToken 159 = .ok (.aload_n 0, 1) := by decide +kernel
theorem dX5_nextToken_160 : decode cX5_nextToken 160 = .ok (.getfield 25, 3) := by decide +kernel
theorem dX5_nextToken_163 : decode cX5_nextToken 163 = .ok (.if_icmp .ge 13, 3) := by decide +kernel
theorem dX5_nextToken_166 : decode cX5_nextToken 166 = .ok (.aload_n 0, 1) := by decide +kernel
theorem dX5_nextToken_167 : decode cX5_nextToken 167 = .ok (.dup, 1) := by decide +kernel
theorem dX5_nextToken_168 : decode cX5_nextToken 168 = .ok (.getfield 33, 3) := by decide +kernel
theorem dX5_nextToken_171 : decode cX5_nextToken 171 = .ok (.iconst 1, 1) := by decide +kernel
theorem dX5_nextToken_172 : decode cX5_nextToken 172 = .ok (.iadd, 1) := by decide +kernel
theorem dX5_nextToken_173 : decode cX5_nextToken 173 = .ok (.putfield 33, 3) := by decide +kernel
theorem dX5_nextToken_176 : decode cX5_nextToken 176 = .ok (.return_, 1) := by decide +kernel
theorem dX5_isLetter_0 : decode cX5_isLetter 0 = .ok (.iload_n 0, 1) := by decide +kernel
theorem dX5_isLetter_1 : decode cX5_isLetter 1 = .ok (.bipush 97, 2) := by decide +kernel
theorem dX5_isLetter_3 : decode cX5_isLetter 3 = .ok (.if_icmp .lt 13, 3) := by decide +kernel
theorem dX5_isLetter_6 : decode cX5_isLetter 6 = .ok (.iload_n 0, 1) := by decide +kernel
theorem dX5_isLetter_7 : decode cX5_isLetter 7 = .ok (.bipush 122, 2) := by decide +kernel
theorem dX5_isLetter_9 : decode cX5_isLetter 9 = .ok (.if_icmp .gt 7, 3) := by decide +kernel
theorem dX5_isLetter_12 : decode cX5_isLetter 12 = .ok (.iconst 1, 1) := by decide +kernel
theorem dX5_isLetter_13 : decode cX5_isLetter 13 = .ok (.goto 4, 3) := by decide +kernel
theorem dX5_isLetter_16 : decode cX5_isLetter 16 = .ok (.iconst 0, 1) := by decide +kernel
theorem dX5_isLetter_17 : decode cX5_isLetter 17 = .ok (.ireturn, 1) := by decide +kernel
theorem dX5_isDigit_0 : decode cX5_isDigit 0 = .ok (.iload_n 0, 1) := by decide +kernel
theorem dX5_isDigit_1 : decode cX5_isDigit 1 = .ok (.bipush 48, 2) := by decide +kernel
theorem dX5_isDigit_3 : decode cX5_isDigit 3 = .ok (.if_icmp .lt 13, 3) := by decide +kernel
theorem dX5_isDigit_6 : decode cX5_isDigit 6 = .ok (.iload_n 0, 1) := by decide +kernel
theorem dX5_isDigit_7 : decode cX5_isDigit 7 = .ok (.bipush 57, 2) := by decide +kernel
theorem dX5_isDigit_9 : decode cX5_isDigit 9 = .ok (.if_icmp .gt 7, 3) := by decide +kernel
theorem dX5_isDigit_12 : decode cX5_isDigit 12 = .ok (.iconst 1, 1) := by decide +kernel
theorem dX5_isDigit_13 : decode cX5_isDigit 13 = .ok (.goto 4, 3) := by decide +kernel
theorem dX5_isDigit_16 : decode cX5_isDigit 16 = .ok (.iconst 0, 1) := by decide +kernel
theorem dX5_isDigit_17 : decode cX5_isDigit 17 = .ok (.ireturn, 1) := by decide +kernel
theorem dX5_isWord_0 : decode cX5_isWord 0 = .ok (.aload_n 1, 1) := by decide +kernel
theorem dX5_isWord_1 : decode cX5_isWord 1 = .ok (.invokevirtual 56, 3) := by decide +kernel
theorem dX5_isWord_4 : decode cX5_isWord 4 = .ok (.aload_n 0, 1) := by decide +kernel
theorem dX5_isWord_5 : decode cX5_isWord 5 = .ok (.getfield 33, 3) := by decide +kernel
theorem dX5_isWord_8 : decode cX5_isWord 8 = .ok (.aload_n 0, 1) := by decide +kernel
theorem dX5_isWord_9 : decode cX5_isWord 9 = .ok (.getfield 43, 3) := by decide +kernel
theorem dX5_isWord_12 : decode cX5_isWord 12 = .ok (.isub, 1) := by decide +kernel
theorem dX5_isWord_13 : decode cX5_isWord 13 = .ok (.if_icmp .eq 5, 3) := by decide +kernel
theorem dX5_isWord_16 : decode cX5_isWord 16 = .ok (.iconst 0, 1) := by decide +kernel
theorem dX5_isWord_17 : decode cX5_isWord 17 = .ok (.ireturn, 1) := by decide +kernel
theorem dX5_isWord_18 : decode cX5_isWord 18 = .ok (.iconst 0, 1) := by decide +kernel
theorem dX5_isWord_19 : decode cX5_isWord 19 = .ok (.istore_n 2, 1) := by decide +kernel
theorem dX5_isWord_20 : decode cX5_isWord 20 = .ok (.iload_n 2, 1) := by decide +kernel
theorem dX5_isWord_21 : decode cX5_isWord 21 = .ok (.aload_n 1, 1) := by decide +kernel
theorem dX5_isWord_22 : decode cX5_isWord 22 = .ok (.invokevirtual 56, 3) := by decide +kernel
theorem dX5_isWord_25 : decode cX5_isWord 25 = .ok (.if_icmp .ge 30, 3) := by decide +kernel
theorem dX5_isWord_28 : decode cX5_isWord 28 = .ok (.aload_n 0, 1) := by decide +kernel
theorem dX5_isWord_29 : decode cX5_isWord 29 = .ok (.getfield 9, 3) := by decide +kernel
theorem dX5_isWord_32 : decode cX5_isWord 32 = .ok (.aload_n 0, 1) := by decide +kernel
theorem dX5_isWord_33 : decode cX5_isWord 33 = .ok (.getfield 43, 3) := by decide +kernel
theorem dX5_isWord_36 : decode cX5_isWord 36 = .ok (.iload_n 2, 1) := by decide +kernel
theorem dX5_isWord_37 : decode cX5_isWord 37 = .ok (.iadd, 1) := by decide +kernel
theorem dX5_isWord_38 : decode cX5_isWord 38 = .ok (.iaload, 1) := by decide +kernel
theorem dX5_isWord_39 : decode cX5_isWord 39 = .ok (.aload_n 1, 1) := by decide +kernel
theorem dX5_isWord_40 : decode cX5_isWord 40 = .ok (.iload_n 2, 1) := by decide +kernel
theorem dX5_isWord_41 : decode cX5_isWord 41 = .ok (.invokevirtual 61, 3) := by decide +kernel
theorem dX5_isWord_44 : decode cX5_isWord 44 = .ok (.if_icmp .eq 5, 3) := by decide +kernel
theorem dX5_isWord_47 : decode cX5_isWord 47 = .ok (.iconst 0, 1) := by decide +kernel
theorem dX5_isWord_48 : decode cX5_isWord 48 = .ok (.ireturn, 1) := by decide +kernel
theorem dX5_isWord_49 : decode cX5_isWord 49 = .ok (.iinc 2 1, 3) := by decide +kernel
theorem dX5_isWord_52 : decode cX5_isWord 52 = .ok (.goto (-32), 3) := by decide +kernel
theorem dX5_isWord_55 : decode cX5_isWord 55 = .ok (.iconst 1, 1) := by decide +kernel
theorem dX5_isWord_56 : decode cX5_isWord 56 = .ok (.ireturn, 1) := by decide +kernel
theorem dX5_doLine_0 : decode cX5_doLine 0 = .ok (.aload_n 0, 1) := by decide +kernel
theorem dX5_doLine_1 : decode cX5_doLine 1 = .ok (.invokevirtual 46, 3) := by decide +kernel
theorem dX5_doLine_4 : decode cX5_doLine 4 = .ok (.aload_n 0, 1) := by decide +kernel
theorem dX5_doLine_5 : decode cX5_doLine 5 = .ok (.ldc 65, 2) := by decide +kernel
theorem dX5_doLine_7 : decode cX5_doLine 7 = .ok (.invokevirtual 67, 3) := by decide +kernel
theorem dX5_doLine_10 : decode cX5_doLine 10 = .ok (.ifCond .eq 8, 3) := by decide +kernel
theorem dX5_doLine_13 : decode cX5_doLine 13 = .ok (.aload_n 0, 1) := by decide +kernel
theorem dX5_doLine_14 : decode cX5_doLine 14 = .ok (.invokevirtual 71, 3) := by decide +kernel
theorem dX5_doLine_17 : decode cX5_doLine 17 = .ok (.ireturn, 1) := by decide +kernel
theorem dX5_doLine_18 : decode cX5_doLine 18 = .ok (.aload_n 0, 1) := by decide +kernel
theorem dX5_doLine_19 : decode cX5_doLine 19 = .ok (.ldc 74, 2) := by decide +kernel
theorem dX5_doLine_21 : decode cX5_doLine 21 = .ok (.invokevirtual 67, 3) := by decide +kernel
theorem dX5_doLine_24 : decode cX5_doLine 24 = .ok (.ifCond .eq 9, 3) := by decide +kernel
theorem dX5_doLine_27 : decode cX5_doLine 27 = .ok (.aload_n 0, 1) := by decide +kernel
theorem dX5_doLine_28 : decode cX5_doLine 28 = .ok (.iconst 0, 1) := by decide +kernel
theorem dX5_doLine_29 : decode cX5_doLine 29 = .ok (.invokevirtual 76, 3) := by decide +kernel
theorem dX5_doLine_32 : decode cX5_doLine 32 = .ok (.ireturn, 1) := by decide +kernel
theorem dX5_doLine_33 : decode cX5_doLine 33 = .ok (.aload_n 0, 1) := by decide +kernel
theorem dX5_doLine_34 : decode cX5_doLine 34 = .ok (.ldc 80, 2) := by decide +kernel
theorem dX5_doLine_36 : decode cX5_doLine 36 = .ok (.invokevirtual 67, 3) := by decide +kernel
theorem dX5_doLine_39 : decode cX5_doLine 39 = .ok (.ifCond .eq 9, 3) := by decide +kernel
theorem dX5_doLine_42 : decode cX5_doLine 42 = .ok (.aload_n 0, 1) := by decide +kernel
theorem dX5_doLine_43 : decode cX5_doLine 43 = .ok (.iconst 1, 1) := by decide +kernel
theorem dX5_doLine_44 : decode cX5_doLine 44 = .ok (.invokevirtual 76, 3) := by decide +kernel
theorem dX5_doLine_47 : decode cX5_doLine 47 = .ok (.ireturn, 1) := by decide +kernel
theorem dX5_doLine_48 : decode cX5_doLine 48 = .ok (.aload_n 0, 1) := by decide +kernel
theorem dX5_doLine_49 : decode cX5_doLine 49 = .ok (.ldc 82, 2) := by decide +kernel
theorem dX5_doLine_51 : decode cX5_doLine 51 = .ok (.invokevirtual 67, 3) := by decide +kernel
theorem dX5_doLine_54 : decode cX5_doLine 54 = .ok (.ifCond .eq 13, 3) := by decide +kernel
theorem dX5_doLine_57 : decode cX5_doLine 57 = .ok (.aload_n 0, 1) := by decide +kernel
theorem dX5_doLine_58 : decode cX5_doLine 58 = .ok (.getfield 18, 3) := by decide +kernel
theorem dX5_doLine_61 : decode cX5_doLine 61 = .ok (.iconst 0, 1) := by decide +kernel
theorem dX5_doLine_62 : decode cX5_doLine 62 = .ok (.putfield 84, 3) := by decide +kernel
theorem dX5_doLine_65 : decode cX5_doLine 65 = .ok (.iconst 1, 1) := by decide +kernel
theorem dX5_doLine_66 : decode cX5_doLine 66 = .ok (.ireturn, 1) := by decide +kernel
theorem dX5_doLine_67 : decode cX5_doLine 67 = .ok (.aload_n 0, 1) := by decide +kernel
theorem dX5_doLine_68 : decode cX5_doLine 68 = .ok (.invokevirtual 87, 3) := by decide +kernel
theorem dX5_doLine_71 : decode cX5_doLine 71 = .ok (.istore_n 1, 1) := by decide +kernel
theorem dX5_doLine_72 : decode cX5_doLine 72 = .ok (.iload_n 1, 1) := by decide +kernel
theorem dX5_doLine_73 : decode cX5_doLine 73 = .ok (.iconst (-1), 1) := by decide +kernel
theorem dX5_doLine_74 : decode cX5_doLine 74 = .ok (.if_icmp .eq 15, 3) := by decide +kernel
theorem dX5_doLine_77 : decode cX5_doLine 77 = .ok (.aload_n 0, 1) := by decide +kernel
theorem dX5_doLine_78 : decode cX5_doLine 78 = .ok (.iload_n 1, 1) := by decide +kernel
theorem dX5_doLine_79 : decode cX5_doLine 79 = .ok (.invokevirtual 90, 3) := by decide +kernel
theorem dX5_doLine_82 : decode cX5_doLine 82 = .ok (.ifCond .eq 7, 3) := by decide +kernel
theorem dX5_doLine_85 : decode cX5_doLine 85 = .ok (.iconst 1, 1) := by decide +kernel
theorem dX5_doLine_86 : decode cX5_doLine 86 = .ok (.goto 4, 3) := by decide +kernel
theorem dX5_doLine_89 : decode cX5_doLine 89 = .ok (.iconst 0, 1) := by decide +kernel
theorem dX5_doLine_90 : decode cX5_doLine 90 = .ok (.ireturn, 1) := by decide +kernel
theorem dX5_kindOfWord_0 : decode cX5_kindOfWord 0 = .ok (.aload_n 0, 1) := by decide +kernel
theorem dX5_kindOfWord_1 : decode cX5_kindOfWord 1 = .ok (.ldc 93, 2) := by decide +kernel
theorem dX5_kindOfWord_3 : decode cX5_kindOfWord 3 = .ok (.invokevirtual 67, 3) := by decide +kernel
theorem dX5_kindOfWord_6 : decode cX5_kindOfWord 6 = .ok (.ifCond .eq 5, 3) := by decide +kernel
theorem dX5_kindOfWord_9 : decode cX5_kindOfWord 9 = .ok (.iconst 0, 1) := by decide +kernel
theorem dX5_kindOfWord_10 : decode cX5_kindOfWord 10 = .ok (.ireturn, 1) := by decide +kernel
theorem dX5_kindOfWord_11 : decode cX5_kindOfWord 11 = .ok (.aload_n 0, 1) := by decide +kernel
theorem dX5_kindOfWord_12 : decode cX5_kindOfWord 12 = .ok (.ldc 95, 2) := by decide +kernel
theorem dX5_kindOfWord_14 : decode cX5_kindOfWord 14 = .ok (.invokevirtual 67, 3) := by decide +kernel
theorem dX5_kindOfWord_17 : decode cX5_kindOfWord 17 = .ok (.ifCond .eq 5, 3) := by decide +kernel
theorem dX5_kindOfWord_20 : decode cX5_kindOfWord 20 = .ok (.iconst 1, 1) := by decide +kernel
theorem dX5_kindOfWord_21 : decode cX5_kindOfWord 21 = .ok (.ireturn, 1) := by decide +kernel
theorem dX5_kindOfWord_22 : decode cX5_kindOfWord 22 = .ok (.aload_n 0, 1) := by decide +kernel
theorem dX5_kindOfWord_23 : decode cX5_kindOfWord 23 = .ok (.ldc 97, 2) := by decide +kernel
theorem dX5_kindOfWord_25 : decode cX5_kindOfWord 25 = .ok (.invokevirtual 67, 3) := by decide +kernel
theorem dX5_kindOfWord_28 : decode cX5_kindOfWord 28 = .ok (.ifCond .eq 5, 3) := by decide +kernel
theorem dX5_kindOfWord_31 : decode cX5_kindOfWord 31 = .ok (.iconst 2, 1) := by decide +kernel
theorem dX5_kindOfWord_32 : decode cX5_kindOfWord 32 = .ok (.ireturn, 1) := by decide +kernel
theorem dX5_kindOfWord_33 : decode cX5_kindOfWord 33 = .ok (.aload_n 0, 1) := by decide +kernel
theorem dX5_kindOfWord_34 : decode cX5_kindOfWord 34 = .ok (.ldc 99, 2) := by decide +kernel
theorem dX5_kindOfWord_36 : decode cX5_kindOfWord 36 = .ok (.invokevirtual 67, 3) := by decide +kernel
theorem dX5_kindOfWord_39 : decode cX5_kindOfWord 39 = .ok (.ifCond .eq 7, 3) := by decide +kernel
theorem dX5_kindOfWord_42 : decode cX5_kindOfWord 42 = .ok (.iconst 3, 1) := by decide +kernel
theorem dX5_kindOfWord_43 : decode cX5_kindOfWord 43 = .ok (.goto 4, 3) := by decide +kernel
theorem dX5_kindOfWord_46 : decode cX5_kindOfWord 46 = .ok (.iconst (-1), 1) := by decide +kernel
theorem dX5_kindOfWord_47 : decode cX5_kindOfWord 47 = .ok (.ireturn, 1) := by decide +kernel
theorem dX5_doInn_0 : decode cX5_doInn 0 = .ok (.aload_n 0, 1) := by decide +kernel
theorem dX5_doInn_1 : decode cX5_doInn 1 = .ok (.iconst 3, 1) := by decide +kernel
theorem dX5_doInn_2 : decode cX5_doInn 2 = .ok (.bipush 12, 2) := by decide +kernel
theorem dX5_doInn_4 : decode cX5_doInn 4 = .ok (.invokevirtual 101, 3) := by decide +kernel
theorem dX5_doInn_7 : decode cX5_doInn 7 = .ok (.ifCond .ne 5, 3) := by decide +kernel
theorem dX5_doInn_10 : decode cX5_doInn 10 = .ok (.iconst 0, 1) := by decide +kernel
theorem dX5_doInn_11 : decode cX5_doInn 11 = .ok (.ireturn, 1) := by decide +kernel
theorem dX5_doInn_12 : decode cX5_doInn 12 = .ok (.aload_n 0, 1) := by decide +kernel
theorem dX5_doInn_13 : decode cX5_doInn 13 = .ok (.getfield 18, 3) := by decide +kernel
theorem dX5_doInn_16 : decode cX5_doInn 16 = .ok (.aload_n 0, 1) := by decide +kernel
theorem dX5_doInn_17 : decode cX5_doInn 17 = .ok (.getfield 105, 3) := by decide +kernel
theorem dX5_doInn_20 : decode cX5_doInn 20 = .ok (.invokevirtual 108, 3) := by decide +kernel
theorem dX5_doInn_23 : decode cX5_doInn 23 = .ok (.iconst 1, 1) := by decide +kernel
theorem dX5_doInn_24 : decode cX5_doInn 24 = .ok (.ireturn, 1) := by decide +kernel
theorem dX5_doChair_0 : decode cX5_doChair 0 = .ok (.aload_n 0, 1) := by decide +kernel
theorem dX5_doChair_1 : decode cX5_doChair 1 = .ok (.iconst 0, 1) := by decide +kernel
theorem dX5_doChair_2 : decode cX5_doChair 2 = .ok (.aload_n 0, 1) := by decide +kernel
theorem dX5_doChair_3 : decode cX5_doChair 3 = .ok (.getfield 18, 3) := by decide +kernel
theorem dX5_doChair_6 : decode cX5_doChair 6 = .ok (.getfield 112, 3) := by decide +kernel
theorem dX5_doChair_9 : decode cX5_doChair 9 = .ok (.iconst 1, 1) := by decide +kernel
theorem dX5_doChair_10 : decode cX5_doChair 10 = .ok (.isub, 1) := by decide +kernel
theorem dX5_doChair_11 : decode cX5_doChair 11 = .ok (.invokevirtual 101, 3) := by decide +kernel
theorem dX5_doChair_14 : decode cX5_doChair 14 = .ok (.ifCond .eq 18, 3) := by decide +kernel
theorem dX5_doChair_17 : decode cX5_doChair 17 = .ok (.aload_n 0, 1) := by decide +kernel
theorem dX5_doChair_18 : decode cX5_doChair 18 = .ok (.getfield 18, 3) := by decide +kernel
theorem dX5_doChair_21 : decode cX5_doChair 21 = .ok (.aload_n 0, 1) := by decide +kernel
theorem dX5_doChair_22 : decode cX5_doChair 22 = .ok (.getfield 105, 3) := by decide +kernel
theorem dX5_doChair_25 : decode cX5_doChair 25 = .ok (.invokevirtual 115, 3) := by decide +kernel
theorem dX5_doChair_28 : decode cX5_doChair 28 = .ok (.iload_n 1, 1) := by decide +kernel
theorem dX5_doChair_29 : decode cX5_doChair 29 = .ok (.if_icmp .eq 5, 3) := by decide +kernel
theorem dX5_doChair_32 : decode cX5_doChair 32 = .ok (.iconst 0, 1) := by decide +kernel
theorem dX5_doChair_33 : decode cX5_doChair 33 = .ok (.ireturn, 1) := by decide +kernel
theorem dX5_doChair_34 : decode cX5_doChair 34 = .ok (.aload_n 0, 1) := by decide +kernel
theorem dX5_doChair_35 : decode cX5_doChair 35 = .ok (.getfield 18, 3) := by decide +kernel
theorem dX5_doChair_38 : decode cX5_doChair 38 = .ok (.dup, 1) := by decide +kernel
theorem dX5_doChair_39 : decode cX5_doChair 39 = .ok (.getfield 118, 3) := by decide +kernel
theorem dX5_doChair_42 : decode cX5_doChair 42 = .ok (.iconst 1, 1) := by decide +kernel
theorem dX5_doChair_43 : decode cX5_doChair 43 = .ok (.aload_n 0, 1) := by decide +kernel
theorem dX5_doChair_44 : decode cX5_doChair 44 = .ok (.getfield 105, 3) := by decide +kernel
theorem dX5_doChair_47 : decode cX5_doChair 47 = .ok (.ishl, 1) := by decide +kernel
theorem dX5_doChair_48 : decode cX5_doChair 48 = .ok (.ixor, 1) := by decide +kernel
theorem dX5_doChair_49 : decode cX5_doChair 49 = .ok (.putfield 118, 3) := by decide +kernel
theorem dX5_doChair_52 : decode cX5_doChair 52 = .ok (.iconst 1, 1) := by decide +kernel
theorem dX5_doChair_53 : decode cX5_doChair 53 = .ok (.ireturn, 1) := by decide +kernel
theorem dX5_doGuest_0 : decode cX5_doGuest 0 = .ok (.aload_n 0, 1) := by decide +kernel
theorem dX5_doGuest_1 : decode cX5_doGuest 1 = .ok (.getfield 18, 3) := by decide +kernel
theorem dX5_doGuest_4 : decode cX5_doGuest 4 = .ok (.getfield 84, 3) := by decide +kernel
theorem dX5_doGuest_7 : decode cX5_doGuest 7 = .ok (.bipush 6, 2) := by decide +kernel
theorem dX5_doGuest_9 : decode cX5_doGuest 9 = .ok (.if_icmp .lt 5, 3) := by decide +kernel
theorem dX5_doGuest_12 : decode cX5_doGuest 12 = .ok (.iconst 0, 1) := by decide +kernel
theorem dX5_doGuest_13 : decode cX5_doGuest 13 = .ok (.ireturn, 1) := by decide +kernel
theorem dX5_doGuest_14 : decode cX5_doGuest 14 = .ok (.iconst 0, 1) := by decide +kernel
theorem dX5_doGuest_15 : decode cX5_doGuest 15 = .ok (.istore_n 2, 1) := by decide +kernel
theorem dX5_doGuest_16 : decode cX5_doGuest 16 = .ok (.iload_n 2, 1) := by decide +kernel
theorem dX5_doGuest_17 : decode cX5_doGuest 17 = .ok (.iconst 4, 1) := by decide +kernel
theorem dX5_doGuest_18 : decode cX5_doGuest 18 = .ok (.if_icmp .ge 34, 3) := by decide +kernel
theorem dX5_doGuest_21 : decode cX5_doGuest 21 = .ok (.aload_n 0, 1) := by decide +kernel
theorem dX5_doGuest_22 : decode cX5_doGuest 22 = .ok (.iconst 0, 1) := by decide +kernel
theorem dX5_doGuest_23 : decode cX5_doGuest 23 = .ok (.aload_n 0, 1) := by decide +kernel
theorem dX5_doGuest_24 : decode cX5_doGuest 24 = .ok (.iload_n 2, 1) := by decide +kernel
theorem dX5_doGuest_25 : decode cX5_doGuest 25 = .ok (.invokevirtual 121, 3) := by decide +kernel
theorem dX5_doGuest_28 : decode cX5_doGuest 28 = .ok (.invokevirtual 101, 3) := by decide +kernel
theorem dX5_doGuest_31 : decode cX5_doGuest 31 = .ok (.ifCond .ne 5, 3) := by decide +kernel
theorem dX5_doGuest_34 : decode cX5_doGuest 34 = .ok (.iconst 0, 1) := by decide +kernel
theorem dX5_doGuest_35 : decode cX5_doGuest 35 = .ok (.ireturn, 1) := by decide +kernel
theorem dX5_doGuest_36 : decode cX5_doGuest 36 = .ok (.aload_n 0, 1) := by decide +kernel
theorem dX5_doGuest_37 : decode cX5_doGuest 37 = .ok (.getfield 22, 3) := by decide +kernel
theorem dX5_doGuest_40 : decode cX5_doGuest 40 = .ok (.iload_n 2, 1) := by decide +kernel
theorem dX5_doGuest_41 : decode cX5_doGuest 41 = .ok (.aload_n 0, 1) := by decide +kernel
theorem dX5_doGuest_42 : decode cX5_doGuest 42 = .ok (.getfield 105, 3) := by decide +kernel
theorem dX5_doGuest_45 : decode cX5_doGuest 45 = .ok (.iastore, 1) := by decide +kernel
theorem dX5_doGuest_46 : decode cX5_doGuest 46 = .ok (.iinc 2 1, 3) := by decide +kernel
theorem dX5_doGuest_49 : decode cX5_doGuest 49 = .ok (.goto (-33), 3) := by decide +kernel
theorem dX5_doGuest_52 : decode cX5_doGuest 52 = .ok (.aload_n 0, 1) := by decide +kernel
theorem dX5_doGuest_53 : decode cX5_doGuest 53 = .ok (.getfield 18, 3) := by decide +kernel
theorem dX5_doGuest_56 : decode cX5_doGuest 56 = .ok (.iload_n 1, 1) := by decide +kernel
theorem dX5_doGuest_57 : decode cX5_doGuest 57 = .ok (.aload_n 0, 1) := by decide +kernel
theorem dX5_doGuest_58 : decode cX5_doGuest 58 = .ok (.getfield 22, 3) := by decide +kernel
theorem dX5_doGuest_61 : decode cX5_doGuest 61 = .ok (.invokevirtual 125, 3) := by decide +kernel
theorem dX5_doGuest_64 : decode cX5_doGuest 64 = .ok (.ireturn, 1) := by decide +kernel
theorem dX5_mostOf_0 : decode cX5_mostOf 0 = .ok (.iload_n 1, 1) := by decide +kernel
theorem dX5_mostOf_1 : decode cX5_mostOf 1 = .ok (.tableswitch 41 0 2 #[27, 37, 39], 27) := by decide +kernel
theorem dX5_mostOf_28 : decode cX5_mostOf 28 = .ok (.aload_n 0, 1) := by decide +kernel
theorem dX5_mostOf_29 : decode cX5_mostOf 29 = .ok (.getfield 18, 3) := by decide +kernel
theorem dX5_mostOf_32 : decode cX5_mostOf 32 = .ok (.getfield 112, 3) := by decide +kernel
theorem dX5_mostOf_35 : decode cX5_mostOf 35 = .ok (.iconst 1, 1) := by decide +kernel
theorem dX5_mostOf_36 : decode cX5_mostOf 36 = .ok (.isub, 1) := by decide +kernel
theorem dX5_mostOf_37 : decode cX5_mostOf 37 = .ok (.ireturn, 1) := by decide +kernel
theorem dX5_mostOf_38 : decode cX5_mostOf 38 = .ok (.iconst 3, 1) := by decide +kernel
theorem dX5_mostOf_39 : decode cX5_mostOf 39 = .ok (.ireturn, 1) := by decide +kernel
theorem dX5_mostOf_40 : decode cX5_mostOf 40 = .ok (.iconst 1, 1) := by decide +kernel
theorem dX5_mostOf_41 : decode cX5_mostOf 41 = .ok (.ireturn, 1) := by decide +kernel
theorem dX5_mostOf_42 : decode cX5_mostOf 42 = .ok (.bipush 99, 2) := by decide +kernel
theorem dX5_mostOf_44 : decode cX5_mostOf 44 = .ok (.ireturn, 1) := by decide +kernel
theorem dX5_readNumber_0 : decode cX5_readNumber 0 = .ok (.aload_n 0, 1) := by decide +kernel
theorem dX5_readNumber_1 : decode cX5_readNumber 1 = .ok (.invokevirtual 46, 3) := by decide +kernel
theorem dX5_readNumber_4 : decode cX5_readNumber 4 = .ok (.aload_n 0, 1) := by decide +kernel
theorem dX5_readNumber_5 : decode cX5_readNumber 5 = .ok (.getfield 43, 3) := by decide +kernel
theorem dX5_readNumber_8 : decode cX5_readNumber 8 = .ok (.aload_n 0, 1) := by decide +kernel
theorem dX5_readNumber_9 : decode cX5_readNumber 9 = .ok (.getfield 25, 3) := by decide +kernel
theorem dX5_readNumber_12 : decode cX5_readNumber 12 = .ok (.if_icmp .ge 31, 3) := by decide +kernel
theorem dX5_readNumber_15 : decode cX5_readNumber 15 = .ok (.aload_n 0, 1) := by decide +kernel
theorem dX5_readNumber_16 : decode cX5_readNumber 16 = .ok (.getfield 9, 3) := by decide +kernel
theorem dX5_readNumber_19 : decode cX5_readNumber 19 = .ok (.aload_n 0, 1) := by decide +kernel
theorem dX5_readNumber_20 : decode cX5_readNumber 20 = .ok (.getfield 43, 3) := by decide +kernel
theorem dX5_readNumber_23 : decode cX5_readNumber 23 = .ok (.iaload, 1) := by decide +kernel
theorem dX5_readNumber_24 : decode cX5_readNumber 24 = .ok (.invokestatic 53, 3) := by decide +kernel
theorem dX5_readNumber_27 : decode cX5_readNumber 27 = .ok (.ifCond .eq 16, 3) := by decide +kernel
theorem dX5_readNumber_30 : decode cX5_readNumber 30 = .ok (.aload_n 0, 1) := by decide +kernel
theorem dX5_readNumber_31 : decode cX5_readNumber 31 = .ok (.getfield 33, 3) := by decide +kernel
theorem dX5_readNumber_34 : decode cX5_readNumber 34 = .ok (.aload_n 0, 1) := by decide +kernel
theorem dX5_readNumber_35 : decode cX5_readNumber 35 = .ok (.getfield 43, 3) := by decide +kernel
theorem dX5_readNumber_38 : decode cX5_readNumber 38 = .ok (.isub, 1) := by decide +kernel
theorem dX5_readNumber_39 : decode cX5_readNumber 39 = .ok (.iconst 2, 1) := by decide +kernel
theorem dX5_readNumber_40 : decode cX5_readNumber 40 = .ok (.if_icmp .le 5, 3) := by decide +kernel
theorem dX5_readNumber_43 : decode cX5_readNumber 43 = .ok (.iconst 0, 1) := by decide +kernel
theorem dX5_readNumber_44 : decode cX5_readNumber 44 = .ok (.ireturn, 1) := by decide +kernel
theorem dX5_readNumber_45 : decode cX5_readNumber 45 = .ok (.aload_n 0, 1) := by decide +kernel
theorem dX5_readNumber_46 : decode cX5_readNumber 46 = .ok (.iconst 0, 1) := by decide +kernel
theorem dX5_readNumber_47 : decode cX5_readNumber 47 = .ok (.putfield 105, 3) := by decide +kernel
theorem dX5_readNumber_50 : decode cX5_readNumber 50 = .ok (.aload_n 0, 1) := by decide +kernel
theorem dX5_readNumber_51 : decode cX5_readNumber 51 = .ok (.getfield 43, 3) := by decide +kernel
theorem dX5_readNumber_54 : decode cX5_readNumber 54 = .ok (.istore_n 3, 1) := by decide +kernel
theorem dX5_readNumber_55 : decode cX5_readNumber 55 = .ok (.iload_n 3, 1) := by decide +kernel
theorem dX5_readNumber_56 : decode cX5_readNumber 56 = .ok (.aload_n 0, 1) := by decide +kernel
theorem dX5_readNumber_57 : decode cX5_readNumber 57 = .ok (.getfield 33, 3) := by decide +kernel
theorem dX5_readNumber_60 : decode cX5_readNumber 60 = .ok (.if_icmp .ge 30, 3) := by decide +kernel
theorem dX5_readNumber_63 : decode cX5_readNumber 63 = .ok (.aload_n 0, 1) := by decide +kernel
theorem dX5_readNumber_64 : decode cX5_readNumber 64 = .ok (.aload_n 0, 1) := by decide +kernel
theorem dX5_readNumber_65 : decode cX5_readNumber 65 = .ok (.getfield 105, 3) := by decide +kernel
theorem dX5_readNumber_68 : decode cX5_readNumber 68 = .ok (.bipush 10, 2) := by decide +kernel
theorem dX5_readNumber_70 : decode cX5_readNumber 70 = .ok (.imul, 1) := by decide +kernel
theorem dX5_readNumber_71 : decode cX5_readNumber 71 = .ok (.aload_n 0, 1) := by decide +kernel
theorem dX5_readNumber_72 : decode cX5_readNumber 72 = .ok (.getfield 9, 3) := by decide +kernel
theorem dX5_readNumber_75 : decode cX5_readNumber 75 = .ok (.iload_n 3, 1) := by decide +kernel
theorem dX5_readNumber_76 : decode cX5_readNumber 76 = .ok (.iaload, 1) := by decide +kernel
theorem dX5_readNumber_77 : decode cX5_readNumber 77 = .ok (.iadd, 1) := by decide +kernel
theorem dX5_readNumber_78 : decode cX5_readNumber 78 = .ok (.bipush 48, 2) := by decide +kernel
theorem dX5_readNumber_80 : decode cX5_readNumber 80 = .ok (.isub, 1) := by decide +kernel
theorem dX5_readNumber_81 : decode cX5_readNumber 81 = .ok (.putfield 105, 3) := by decide +kernel
theorem dX5_readNumber_84 : decode cX5_readNumber 84 = .ok (.iinc 3 1, 3) := by decide +kernel
theorem dX5_readNumber_87 : decode cX5_readNumber 87 = .ok (.goto (-32), 3) := by decide +kernel
theorem dX5_readNumber_90 : decode cX5_readNumber 90 = .ok (.aload_n 0, 1) := by decide +kernel
theorem dX5_readNumber_91 : decode cX5_readNumber 91 = .ok (.getfield 105, 3) := by decide +kernel
theorem dX5_readNumber_94 : decode cX5_readNumber 94 = .ok (.iload_n 1, 1) := by decide +kernel
theorem dX5_readNumber_95 : decode cX5_readNumber 95 = .ok (.if_icmp .lt 15, 3) := by decide +kernel
theorem dX5_readNumber_98 : decode cX5_readNumber 98 = .ok (.aload_n 0, 1) := by decide +kernel
theorem dX5_readNumber_99 : decode cX5_readNumber 99 = .ok (.getfield 105, 3) := by decide +kernel
theorem dX5_readNumber_102 : decode cX5_readNumber 102 = .ok (.iload_n 2, 1) := by decide +kernel
theorem dX5_readNumber_103 : decode cX5_readNumber 103 = .ok (.if_icmp .gt 7, 3) := by decide +kernel
theorem dX5_readNumber_106 : decode cX5_readNumber 106 = .ok (.iconst 1, 1) := by decide +kernel
theorem dX5_readNumber_107 : decode cX5_readNumber 107 = .ok (.goto 4, 3) := by decide +kernel
theorem dX5_readNumber_110 : decode cX5_readNumber 110 = .ok (.iconst 0, 1) := by decide +kernel
theorem dX5_readNumber_111 : decode cX5_readNumber 111 = .ok (.ireturn, 1) := by decide +kernel
theorem dX6_init_0 : decode cX6_init 0 = .ok (.aload_n 0, 1) := by decide +kernel
theorem dX6_init_1 : decode cX6_init 1 = .ok (.invokespecial 3, 3) := by decide +kernel
theorem dX6_init_4 : decode cX6_init 4 = .ok (.aload_n 0, 1) := by decide +kernel
theorem dX6_init_5 : decode cX6_init 5 = .ok (.bipush 8, 2) := by decide +kernel
theorem dX6_init_7 : decode cX6_init 7 = .ok (.putfield 9, 3) := by decide +kernel
theorem dX6_init_10 : decode cX6_init 10 = .ok (.aload_n 0, 1) := by decide +kernel
theorem dX6_init_11 : decode cX6_init 11 = .ok (.bipush 6, 2) := by decide +kernel
theorem dX6_init_13 : decode cX6_init 13 = .ok (.newarray .int, 2) := by decide +kernel
theorem dX6_init_15 : decode cX6_init 15 = .ok (.putfield 15, 3) := by decide +kernel
theorem dX6_init_18 : decode cX6_init 18 = .ok (.aload_n 0, 1) := by decide +kernel
theorem dX6_init_19 : decode cX6_init 19 = .ok (.bipush 6, 2) := by decide +kernel
theorem dX6_init_21 : decode cX6_init 21 = .ok (.newarray .int, 2) := by decide +kernel
theorem dX6_init_23 : decode cX6_init 23 = .ok (.putfield 19, 3) := by decide +kernel
theorem dX6_init_26 : decode cX6_init 26 = .ok (.aload_n 0, 1) := by decide +kernel
theorem dX6_init_27 : decode cX6_init 27 = .ok (.bipush 6, 2) := by decide +kernel
theorem dX6_init_29 : decode cX6_init 29 = .ok (.newarray .int, 2) := by decide +kernel
theorem dX6_init_31 : decode cX6_init 31 = .ok (.putfield 22, 3) := by decide +kernel
theorem dX6_init_34 : decode cX6_init 34 = .ok (.aload_n 0, 1) := by decide +kernel
theorem dX6_init_35 : decode cX6_init 35 = .ok (.bipush 6, 2) := by decide +kernel
theorem dX6_init_37 : decode cX6_init 37 = .ok (.newarray .int, 2) := by decide +kernel
theorem dX6_init_39 : decode cX6_init 39 = .ok (.putfield 25, 3) := by decide +kernel
theorem dX6_init_42 : decode cX6_init 42 = .ok (.aload_n 0, 1) := by decide +kernel
theorem dX6_init_43 : decode cX6_init 43 = .ok (.bipush 6, 2) := by decide +kernel
theorem dX6_init_45 : decode cX6_init 45 = .ok (.newarray .int, 2) := by decide +kernel
theorem dX6_init_47 : decode cX6_init 47 = .ok (.putfield 28, 3) := by decide +kernel
theorem dX6_init_50 : decode cX6_init 50 = .ok (.return_, 1) := by decide +kernel
theorem dX6_copyFrom_0 : decode cX6_copyFrom 0 = .ok (.aload_n 0, 1) := by decide +kernel
theorem dX6_copyFrom_1 : decode cX6_copyFrom 1 = .ok (.aload_n 1, 1) := by decide +kernel
theorem dX6_copyFrom_2 : decode cX6_copyFrom 2 = .ok (.getfield 9, 3) := by decide +kernel
theorem dX6_copyFrom_5 : decode cX6_copyFrom 5 = .ok (.putfield 9, 3) := by decide +kernel
theorem dX6_copyFrom_8 : decode cX6_copyFrom 8 = .ok (.aload_n 0, 1) := by decide +kernel
theorem dX6_copyFrom_9 : decode cX6_copyFrom 9 = .ok (.aload_n 1, 1) := by decide +kernel
theorem dX6_copyFrom_10 : decode cX6_copyFrom 10 = .ok (.getfield 31, 3) := by decide +kernel
theorem dX6_copyFrom_13 : decode cX6_copyFrom 13 = .ok (.putfield 31, 3) := by decide +kernel
theorem dX6_copyFrom_16 : decode cX6_copyFrom 16 = .ok (.aload_n 0, 1) := by decide +kernel
theorem dX6_copyFrom_17 : decode cX6_copyFrom 17 = .ok (.aload_n 1, 1) := by decide +kernel
theorem dX6_copyFrom_18 : decode cX6_copyFrom 18 = .ok (.getfield 34, 3) := by decide +kernel
theorem dX6_copyFrom_21 : decode cX6_copyFrom 21 = .ok (.putfield 34, 3) := by decide +kernel
theorem dX6_copyFrom_24 : decode cX6_copyFrom 24 = .ok (.aload_n 1, 1) := by decide +kernel
theorem dX6_copyFrom_25 : decode cX6_copyFrom 25 = .ok (.getfield 15, 3) := by decide +kernel
theorem dX6_copyFrom_28 : decode cX6_copyFrom 28 = .ok (.iconst 0, 1) := by decide +kernel
theorem dX6_copyFrom_29 : decode cX6_copyFrom 29 = .ok (.aload_n 0, 1) := by decide +kernel
theorem dX6_copyFrom_30 : decode cX6_copyFrom 30 = .ok (.getfield 15, 3) := by decide +kernel
theorem dX6_copyFrom_33 : decode cX6_copyFrom 33 = .ok (.iconst 0, 1) := by decide +kernel
theorem dX6_copyFrom_34 : decode cX6_copyFrom 34 = .ok (.bipush 6, 2) := by decide +kernel
theorem dX6_copyFrom_36 : decode cX6_copyFrom 36 = .ok (.invokestatic 37, 3) := by decide +kernel
theorem dX6_copyFrom_39 : decode cX6_copyFrom 39 = .ok (.aload_n 1, 1) := by decide +kernel
theorem dX6_copyFrom_40 : decode cX6_copyFrom 40 = .ok (.getfield 19, 3) := by decide +kernel
theorem dX6_copyFrom_43 : decode cX6_copyFrom 43 = .ok (.iconst 0, 1) := by decide +kernel
theorem dX6_copyFrom_44 : decode cX6_copyFrom 44 = .ok (.aload_n 0, 1) := by decide +kernel
theorem dX6_copyFrom_45 : decode cX6_copyFrom 45 = .ok (.getfield 19, 3) := by decide +kernel
theorem dX6_copyFrom_48 : decode cX6_copyFrom 48 = .ok (.iconst 0, 1) := by decide +kernel
theorem dX6_copyFrom_49 : decode cX6_copyFrom 49 = .ok (.bipush 6, 2) := by decide +kernel
theorem dX6_copyFrom_51 : decode cX6_copyFrom 51 = .ok (.invokestatic 37, 3) := by decide +kernel
theorem dX6_copyFrom_54 : decode cX6_copyFrom 54 = .ok (.aload_n 1, 1) := by decide +kernel
theorem dX6_copyFrom_55 : decode cX6_copyFrom 55 = .ok (.getfield 22, 3) := by decide +kernel
theorem dX6_copyFrom_58 : decode cX6_copyFrom 58 = .ok (.iconst 0, 1) := by decide +kernel
theorem dX6_copyFrom_59 : decode cX6_copyFrom 59 = .ok (.aload_n 0, 1) := by decide +kernel
theorem dX6_copyFrom_60 : decode cX6_copyFrom 60 = .ok (.getfield 22, 3) := by decide +kernel
theorem dX6_copyFrom_63 : decode cX6_copyFrom 63 = .ok (.iconst 0, 1) := by decide +kernel
theorem dX6_copyFrom_64 : decode cX6_copyFrom 64 = .ok (.bipush 6, 2) := by decide +kernel
theorem dX6_copyFrom_66 : decode cX6_copyFrom 66 = .ok (.invokestatic 37, 3) := by decide +kernel
theorem dX6_copyFrom_69 : decode cX6_copyFrom 69 = .ok (.aload_n 1, 1) := by decide +kernel
theorem dX6_copyFrom_70 : decode cX6_copyFrom 70 = .ok (.getfield 25, 3) := by decide +kernel
theorem dX6_copyFrom_73 : decode cX6_copyFrom 73 = .ok (.iconst 0, 1) := by decide +kernel
theorem dX6_copyFrom_74 : decode cX6_copyFrom 74 = .ok (.aload_n 0, 1) := by decide +kernel
theorem dX6_copyFrom_75 : decode cX6_copyFrom 75 = .ok (.getfield 25, 3) := by decide +kernel
theorem dX6_copyFrom_78 : decode cX6_copyFrom 78 = .ok (.iconst 0, 1) := by decide +kernel
theorem dX6_copyFrom_79 : decode cX6_copyFrom 79 = .ok (.bipush 6, 2) := by decide +kernel
theorem dX6_copyFrom_81 : decode cX6_copyFrom 81 = .ok (.invokestatic 37, 3) := by decide +kernel
theorem dX6_copyFrom_84 : decode cX6_copyFrom 84 = .ok (.aload_n 1, 1) := by decide +kernel
theorem dX6_copyFrom_85 : decode cX6_copyFrom 85 = .ok (.getfield 28, 3) := by decide +kernel
theorem dX6_copyFrom_88 : decode cX6_copyFrom 88 = .ok (.iconst 0, 1) := by decide +kernel
theorem dX6_copyFrom_89 : decode cX6_copyFrom 89 = .ok (.aload_n 0, 1) := by decide +kernel
theorem dX6_copyFrom_90 : decode cX6_copyFrom 90 = .ok (.getfield 28, 3) := by decide +kernel
theorem dX6_copyFrom_93 : decode cX6_copyFrom 93 = .ok (.iconst 0, 1) := by decide +kernel
theorem dX6_copyFrom_94 : decode cX6_copyFrom 94 = .ok (.bipush 6, 2) := by decide +kernel
theorem dX6_copyFrom_96 : decode cX6_copyFrom 96 = .ok (.invokestatic 37, 3) := by decide +kernel
theorem dX6_copyFrom_99 : decode cX6_copyFrom 99 = .ok (.return_, 1) := by decide +kernel
theorem dX6_hasPlace_0 : decode cX6_hasPlace 0 = .ok (.iload_n 1, 1) := by decide +kernel
theorem dX6_hasPlace_1 : decode cX6_hasPlace 1 = .ok (.ifCond .lt 15, 3) := by decide +kernel
theorem dX6_hasPlace_4 : decode cX6_hasPlace 4 = .ok (.iload_n 1, 1) := by decide +kernel
theorem dX6_hasPlace_5 : decode cX6_hasPlace 5 = .ok (.aload_n 0, 1) := by decide +kernel
theorem dX6_hasPlace_6 : decode cX6_hasPlace 6 = .ok (.getfield 9, 3) := by decide +kernel
theorem dX6_hasPlace_9 : decode cX6_hasPlace 9 = .ok (.if_icmp .ge 7, 3) := by decide +kernel
theorem dX6_hasPlace_12 : decode cX6_hasPlace 12 = .ok (.iconst 1, 1) := by decide +kernel
theorem dX6_hasPlace_13 : decode cX6_hasPlace 13 = .ok (.goto 4, 3) := by decide +kernel
theorem dX6_hasPlace_16 : decode cX6_hasPlace 16 = .ok (.iconst 0, 1) := by decide +kernel
theorem dX6_hasPlace_17 : decode cX6_hasPlace 17 = .ok (.ireturn, 1) := by decide +kernel
theorem dX6_hasChair_0 : decode cX6_hasChair 0 = .ok (.aload_n 0, 1) := by decide +kernel
theorem dX6_hasChair_1 : decode cX6_hasChair 1 = .ok (.iload_n 1, 1) := by decide +kernel
theorem dX6_hasChair_2 : decode cX6_hasChair 2 = .ok (.invokevirtual 43, 3) := by decide +kernel
theorem dX6_hasChair_5 : decode cX6_hasChair 5 = .ok (.ifCond .eq 18, 3) := by decide +kernel
theorem dX6_hasChair_8 : decode cX6_hasChair 8 = .ok (.aload_n 0, 1) := by decide +kernel
theorem dX6_hasChair_9 : decode cX6_hasChair 9 = .ok (.getfield 31, 3) := by decide +kernel
theorem dX6_hasChair_12 : decode cX6_hasChair 12 = .ok (.iload_n 1, 1) := by decide +kernel
theorem dX6_hasChair_13 : decode cX6_hasChair 13 = .ok (.invokestatic 47, 3) := by decide +kernel
theorem dX6_hasChair_16 : decode cX6_hasChair 16 = .ok (.ifCond .eq 7, 3) := by decide +kernel
theorem dX6_hasChair_19 : decode cX6_hasChair 19 = .ok (.iconst 1, 1) := by decide +kernel
theorem dX6_hasChair_20 : decode cX6_hasChair 20 = .ok (.goto 4, 3) := by decide +kernel
theorem dX6_hasChair_23 : decode cX6_hasChair 23 = .ok (.iconst 0, 1) := by decide +kernel
theorem dX6_hasChair_24 : decode cX6_hasChair 24 = .ok (.ireturn, 1) := by decide +kernel
theorem dX6_hasGuest_0 : decode cX6_hasGuest 0 = .ok (.iload_n 1, 1) := by decide +kernel
theorem dX6_hasGuest_1 : decode cX6_hasGuest 1 = .ok (.ifCond .lt 15, 3) := by decide +kernel
theorem dX6_hasGuest_4 : decode cX6_hasGuest 4 = .ok (.iload_n 1, 1) := by decide +kernel
theorem dX6_hasGuest_5 : decode cX6_hasGuest 5 = .ok (.aload_n 0, 1) := by decide +kernel
theorem dX6_hasGuest_6 : decode cX6_hasGuest 6 = .ok (.getfield 34, 3) := by decide +kernel
theorem dX6_hasGuest_9 : decode cX6_hasGuest 9 = .ok (.if_icmp .ge 7, 3) := by decide +kernel
theorem dX6_hasGuest_12 : decode cX6_hasGuest 12 = .ok (.iconst 1, 1) := by decide +kernel
theorem dX6_hasGuest_13 : decode cX6_hasGuest 13 = .ok (.goto 4, 3) := by decide +kernel
theorem dX6_hasGuest_16 : decode cX6_hasGuest 16 = .ok (.iconst 0, 1) := by decide +kernel
theorem dX6_hasGuest_17 : decode cX6_hasGuest 17 = .ok (.ireturn, 1) := by decide +kernel
theorem dX6_hasAll_0 : decode cX6_hasAll 0 = .ok (.iload_n 1, 1) := by decide +kernel
theorem dX6_hasAll_1 : decode cX6_hasAll 1 = .ok (.aload_n 0, 1) := by decide +kernel
theorem dX6_hasAll_2 : decode cX6_hasAll 2 = .ok (.invokevirtual 51, 3) := by decide +kernel
theorem dX6_hasAll_5 : decode cX6_hasAll 5 = .ok (.iconst (-1), 1) := by decide +kernel
theorem dX6_hasAll_6 : decode cX6_hasAll 6 = .ok (.ixor, 1) := by decide +kernel
theorem dX6_hasAll_7 : decode cX6_hasAll 7 = .ok (.iand, 1) := by decide +kernel
theorem dX6_hasAll_8 : decode cX6_hasAll 8 = .ok (.ifCond .ne 7, 3) := by decide +kernel
theorem dX6_hasAll_11 : decode cX6_hasAll 11 = .ok (.iconst 1, 1) := by decide +kernel
theorem dX6_hasAll_12 : decode cX6_hasAll 12 = .ok (.goto 4, 3) := by decide +kernel
theorem dX6_hasAll_15 : decode cX6_hasAll 15 = .ok (.iconst 0, 1) := by decide +kernel
theorem dX6_hasAll_16 : decode cX6_hasAll 16 = .ok (.ireturn, 1) := by decide +kernel
theorem dX6_everyone_0 : decode cX6_everyone 0 = .ok (.iconst 1, 1) := by decide +kernel
theorem dX6_everyone_1 : decode cX6_everyone 1 = .ok (.aload_n 0, 1) := by decide +kernel
theorem dX6_everyone_2 : decode cX6_everyone 2 = .ok (.getfield 34, 3) := by decide +kernel
theorem dX6_everyone_5 : decode cX6_everyone 5 = .ok (.ishl, 1) := by decide +kernel
theorem dX6_everyone_6 : decode cX6_everyone 6 = .ok (.iconst 1, 1) := by decide +kernel
theorem dX6_everyone_7 : decode cX6_everyone 7 = .ok (.isub, 1) := by decide +kernel
theorem dX6_everyone_8 : decode cX6_everyone 8 = .ok (.ireturn, 1) := by decide +kernel
theorem dX6_allOfKind_0 : decode cX6_allOfKind 0 = .ok (.iconst 0, 1) := by decide +kernel
theorem dX6_allOfKind_1 : decode cX6_allOfKind 1 = .ok (.istore_n 2, 1) := by decide +kernel
theorem dX6_allOfKind_2 : decode cX6_allOfKind 2 = .ok (.iconst 0, 1) := by decide +kernel
theorem dX6_allOfKind_3 : decode cX6_allOfKind 3 = .ok (.istore_n 3, 1) := by decide +kernel
theorem dX6_allOfKind_4 : decode cX6_allOfKind 4 = .ok (.iload_n 3, 1) := by decide +kernel
theorem dX6_allOfKind_5 : decode cX6_allOfKind 5 = .ok (.aload_n 0, 1) := by decide +kernel
theorem dX6_allOfKind_6 : decode cX6_allOfKind 6 = .ok (.getfield 34, 3) := by decide +kernel
theorem dX6_allOfKind_9 : decode cX6_allOfKind 9 = .ok (.if_icmp .ge 25, 3) := by decide +kernel
theorem dX6_allOfKind_12 : decode cX6_allOfKind 12 = .ok (.aload_n 0, 1) := by decide +kernel
theorem dX6_allOfKind_13 : decode cX6_allOfKind 13 = .ok (.getfield 15, 3) := by decide +kernel
theorem dX6_allOfKind_16 : decode cX6_allOfKind 16 = .ok (.iload_n 3, 1) := by decide +kernel
theorem dX6_allOfKind_17 : decode cX6_allOfKind 17 = .ok (.iaload, 1) := by decide +kernel
theorem dX6_allOfKind_18 : decode cX6_allOfKind 18 = .ok (.iload_n 1, 1) := by decide +kernel
theorem dX6_allOfKind_19 : decode cX6_allOfKind 19 = .ok (.if_icmp .ne 9, 3) := by decide +kernel
theorem dX6_allOfKind_22 : decode cX6_allOfKind 22 = .ok (.iload_n 2, 1) := by decide +kernel
theorem dX6_allOfKind_23 : decode cX6_allOfKind 23 = .ok (.iconst 1, 1) := by decide +kernel
theorem dX6_allOfKind_24 : decode cX6_allOfKind 24 = .ok (.iload_n 3, 1) := by decide +kernel
theorem dX6_allOfKind_25 : decode cX6_allOfKind 25 = .ok (.ishl, 1) := by decide +kernel
theorem dX6_allOfKind_26 : decode cX6_allOfKind 26 = .ok (.ior, 1) := by decide +kernel
theorem dX6_allOfKind_27 : decode cX6_allOfKind 27 = .ok (.istore_n 2, 1) := by decide +kernel
theorem dX6_allOfKind_28 : decode cX6_allOfKind 28 = .ok (.iinc 3 1, 3) := by decide +kernel
theorem dX6_allOfKind_31 : decode cX6_allOfKind 31 = .ok (.goto (-27), 3) := by decide +kernel
theorem dX6_allOfKind_34 : decode cX6_allOfKind 34 = .ok (.iload_n 2, 1) := by decide +kernel
theorem dX6_allOfKind_35 : decode cX6_allOfKind 35 = .ok (.ireturn, 1) := by decide +kernel
theorem dX6_isA_0 : decode cX6_isA 0 = .ok (.iload_n 2, 1) := by decide +kernel
theorem dX6_isA_1 : decode cX6_isA 1 = .ok (.tableswitch 81 0 3 #[31, 33, 49, 65], 31) := by decide +kernel
theorem dX6_isA_32 : decode cX6_isA 32 = .ok (.iconst 1, 1) := by decide +kernel
theorem dX6_isA_33 : decode cX6_isA 33 = .ok (.ireturn, 1) := by decide +kernel
theorem dX6_isA_34 : decode cX6_isA 34 = .ok (.aload_n 0, 1) := by decide +kernel
theorem dX6_isA_35 : decode cX6_isA 35 = .ok (.getfield 15, 3) := by decide +kernel
theorem dX6_isA_38 : decode cX6_isA 38 = .ok (.iload_n 1, 1) := by decide +kernel
theorem dX6_isA_39 : decode cX6_isA 39 = .ok (.iaload, 1) := by decide +kernel
theorem dX6_isA_40 : decode cX6_isA 40 = .ok (.iconst 3, 1) := by decide +kernel
theorem dX6_isA_41 : decode cX6_isA 41 = .ok (.if_icmp .eq 7, 3) := by decide +kernel
theorem dX6_isA_44 : decode cX6_isA 44 = .ok (.iconst 1, 1) := by decide +kernel
theorem dX6_isA_45 : decode cX6_isA 45 = .ok (.goto 4, 3) := by decide +kernel
theorem dX6_isA_48 : decode cX6_isA 48 = .ok (.iconst 0, 1) := by decide +kernel
theorem dX6_isA_49 : decode cX6_isA 49 = .ok (.ireturn, 1) := by decide +kernel
theorem dX6_isA_50 : decode cX6_isA 50 = .ok (.aload_n 0, 1) := by decide +kernel
theorem dX6_isA_51 : decode cX6_isA 51 = .ok (.getfield 15, 3) := by decide +kernel
theorem dX6_isA_54 : decode cX6_isA 54 = .ok (.iload_n 1, 1) := by decide +kernel
theorem dX6_isA_55 : decode cX6_isA 55 = .ok (.iaload, 1) := by decide +kernel
theorem dX6_isA_56 : decode cX6_isA 56 = .ok (.iconst 1, 1) := by decide +kernel
theorem dX6_isA_57 : decode cX6_isA 57 = .ok (.if_icmp .ne 7, 3) := by decide +kernel
theorem dX6_isA_60 : decode cX6_isA 60 = .ok (.iconst 1, 1) := by decide +kernel
theorem dX6_isA_61 : decode cX6_isA 61 = .ok (.goto 4, 3) := by decide +kernel
theorem dX6_isA_64 : decode cX6_isA 64 = .ok (.iconst 0, 1) := by decide +kernel
theorem dX6_isA_65 : decode cX6_isA 65 = .ok (.ireturn, 1) := by decide +kernel
theorem dX6_isA_66 : decode cX6_isA 66 = .ok (.aload_n 0, 1) := by decide +kernel
theorem dX6_isA_67 : decode cX6_isA 67 = .ok (.getfield 15, 3) := by decide +kernel
theorem dX6_isA_70 : decode cX6_isA 70 = .ok (.iload_n 1, 1) := by decide +kernel
theorem dX6_isA_71 : decode cX6_isA 71 = .ok (.iaload, 1) := by decide +kernel
theorem dX6_isA_72 : decode cX6_isA 72 = .ok (.iconst 2, 1) := by decide +kernel
theorem dX6_isA_73 : decode cX6_isA 73 = .ok (.if_icmp .ne 7, 3) := by decide +kernel
theorem dX6_isA_76 : decode cX6_isA 76 = .ok (.iconst 1, 1) := by decide +kernel
theorem dX6_isA_77 : decode cX6_isA 77 = .ok (.goto 4, 3) := by decide +kernel
theorem dX6_isA_80 : decode cX6_isA 80 = .ok (.iconst 0, 1) := by decide +kernel
theorem dX6_isA_81 : decode cX6_isA 81 = .ok (.ireturn, 1) := by decide +kernel
theorem dX6_isA_82 : decode cX6_isA 82 = .ok (.aload_n 0, 1) := by decide +kernel
theorem dX6_isA_83 : decode cX6_isA 83 = .ok (.getfield 15, 3) := by decide +kernel
theorem dX6_isA_86 : decode cX6_isA 86 = .ok (.iload_n 1, 1) := by decide +kernel
theorem dX6_isA_87 : decode cX6_isA 87 = .ok (.iaload, 1) := by decide +kernel
theorem dX6_isA_88 : decode cX6_isA 88 = .ok (.iconst 3, 1) := by decide +kernel
theorem dX6_isA_89 : decode cX6_isA 89 = .ok (.if_icmp .ne 7, 3) := by decide +kernel
theorem dX6_isA_92 : decode cX6_isA 92 = .ok (.iconst 1, 1) := by decide +kernel
theorem dX6_isA_93 : decode cX6_isA 93 = .ok (.goto 4, 3) := by decide +kernel
theorem dX6_isA_96 : decode cX6_isA 96 = .ok (.iconst 0, 1) := by decide +kernel
theorem dX6_isA_97 : decode cX6_isA 97 = .ok (.ireturn, 1) := by decide +kernel
theorem dX6_ease_0 : decode cX6_ease 0 = .ok (.aload_n 0, 1) := by decide +kernel
theorem dX6_ease_1 : decode cX6_ease 1 = .ok (.getfield 15, 3) := by decide +kernel
theorem dX6_ease_4 : decode cX6_ease 4 = .ok (.iload_n 1, 1) := by decide +kernel
theorem dX6_ease_5 : decode cX6_ease 5 = .ok (.iaload, 1) := by decide +kernel
theorem dX6_ease_6 : decode cX6_ease 6 = .ok (.iconst 1, 1) := by decide +kernel
theorem dX6_ease_7 : decode cX6_ease 7 = .ok (.if_icmp .ne 7, 3) := by decide +kernel
theorem dX6_ease_10 : decode cX6_ease 10 = .ok (.iconst 1, 1) := by decide +kernel
theorem dX6_ease_11 : decode cX6_ease 11 = .ok (.goto 4, 3) := by decide +kernel
theorem dX6_ease_14 : decode cX6_ease 14 = .ok (.iconst 0, 1) := by decide +kernel
theorem dX6_ease_15 : decode cX6_ease 15 = .ok (.ireturn, 1) := by decide +kernel
theorem dX6_placeAfter_0 : decode cX6_placeAfter 0 = .ok (.iload_n 3, 1) := by decide +kernel
theorem dX6_placeAfter_1 : decode cX6_placeAfter 1 = .ok (.ifCond .ne 9, 3) := by decide +kernel
theorem dX6_placeAfter_4 : decode cX6_placeAfter 4 = .ok (.iload_n 1, 1) := by decide +kernel
theorem dX6_placeAfter_5 : decode cX6_placeAfter 5 = .ok (.iload_n 2, 1) := by decide +kernel
theorem dX6_placeAfter_6 : decode cX6_placeAfter 6 = .ok (.iadd, 1) := by decide +kernel
theorem dX6_placeAfter_7 : decode cX6_placeAfter 7 = .ok (.goto 6, 3) := by decide +kernel
theorem dX6_placeAfter_10 : decode cX6_placeAfter 10 = .ok (.iload_n 1, 1) := by decide +kernel
theorem dX6_placeAfter_11 : decode cX6_placeAfter 11 = .ok (.iload_n 2, 1) := by decide +kernel
theorem dX6_placeAfter_12 : decode cX6_placeAfter 12 = .ok (.isub, 1) := by decide +kernel
theorem dX6_placeAfter_13 : decode cX6_placeAfter 13 = .ok (.istore 4, 2) := by decide +kernel
theorem dX6_placeAfter_15 : decode cX6_placeAfter 15 = .ok (.aload_n 0, 1) := by decide +kernel
theorem dX6_placeAfter_16 : decode cX6_placeAfter 16 = .ok (.getfield 9, 3) := by decide +kernel
theorem dX6_placeAfter_19 : decode cX6_placeAfter 19 = .ok (.iconst 1, 1) := by decide +kernel
theorem dX6_placeAfter_20 : decode cX6_placeAfter 20 = .ok (.if_icmp .ge 7, 3) := by decide +kernel
theorem dX6_placeAfter_23 : decode cX6_placeAfter 23 = .ok (.iconst 0, 1) := by decide +kernel
theorem dX6_placeAfter_24 : decode cX6_placeAfter 24 = .ok (.goto 12, 3) := by decide +kernel
theorem dX6_placeAfter_27 : decode cX6_placeAfter 27 = .ok (.iload 4, 2) := by decide +kernel
theorem dX6_placeAfter_29 : decode cX6_placeAfter 29 = .ok (.aload_n 0, 1) := by decide +kernel
theorem dX6_placeAfter_30 : decode cX6_placeAfter 30 = .ok (.getfield 9, 3) := by decide +kernel
theorem dX6_placeAfter_33 : decode cX6_placeAfter 33 = .ok (.invokestatic 55, 3) := by decide +kernel
theorem dX6_placeAfter_36 : decode cX6_placeAfter 36 = .ok (.ireturn, 1) := by decide +kernel
theorem dX6_farthest_0 : decode cX6_farthest 0 = .ok (.aload_n 0, 1) := by decide +kernel
theorem dX6_farthest_1 : decode cX6_farthest 1 = .ok (.getfield 9, 3) := by decide +kernel
theorem dX6_farthest_4 : decode cX6_farthest 4 = .ok (.iconst 2, 1) := by decide +kernel
theorem dX6_farthest_5 : decode cX6_farthest 5 = .ok (.idiv, 1) := by decide +kernel
theorem dX6_farthest_6 : decode cX6_farthest 6 = .ok (.ireturn, 1) := by decide +kernel
theorem dX6_leastAt_0 : decode cX6_leastAt 0 = .ok (.iload_n 2, 1) := by decide +kernel
theorem dX6_leastAt_1 : decode cX6_leastAt 1 = .ok (.ifCond .lt 11, 3) := by decide +kernel
theorem dX6_leastAt_4 : decode cX6_leastAt 4 = .ok (.iload_n 2, 1) := by decide +kernel
theorem dX6_leastAt_5 : decode cX6_leastAt 5 = .ok (.aload_n 0, 1) := by decide +kernel
theorem dX6_leastAt_6 : decode cX6_leastAt 6 = .ok (.invokevirtual 61, 3) := by decide +kernel
theorem dX6_leastAt_9 : decode cX6_leastAt 9 = .ok (.if_icmp .le 5, 3) := by decide +kernel
theorem dX6_leastAt_12 : decode cX6_leastAt 12 = .ok (.iconst (-1), 1) := by decide +kernel
theorem dX6_leastAt_13 : decode cX6_leastAt 13 = .ok (.ireturn, 1) := by decide +kernel
theorem dX6_leastAt_14 : decode cX6_leastAt 14 = .ok (.iload_n 1, 1) := by decide +kernel
theorem dX6_leastAt_15 : decode cX6_leastAt 15 = .ok (.iload_n 2, 1) := by decide +kernel
theorem dX6_leastAt_16 : decode cX6_leastAt 16 = .ok (.iadd, 1) := by decide +kernel
theorem dX6_leastAt_17 : decode cX6_leastAt 17 = .ok (.aload_n 0, 1) := by decide +kernel
theorem dX6_leastAt_18 : decode cX6_leastAt 18 = .ok (.getfield 9, 3) := by decide +kernel
theorem dX6_leastAt_21 : decode cX6_leastAt 21 = .ok (.if_icmp .ge 9, 3) := by decide +kernel
theorem dX6_leastAt_24 : decode cX6_leastAt 24 = .ok (.iload_n 1, 1) := by decide +kernel
theorem dX6_leastAt_25 : decode cX6_leastAt 25 = .ok (.iload_n 2, 1) := by decide +kernel
theorem dX6_leastAt_26 : decode cX6_leastAt 26 = .ok (.iadd, 1) := by decide +kernel
theorem dX6_leastAt_27 : decode cX6_leastAt 27 = .ok (.goto 11, 3) := by decide +kernel
theorem dX6_leastAt_30 : decode cX6_leastAt 30 = .ok (.iload_n 1, 1) := by decide +kernel
theorem dX6_leastAt_31 : decode cX6_leastAt 31 = .ok (.iload_n 2, 1) := by decide +kernel
theorem dX6_leastAt_32 : decode cX6_leastAt 32 = .ok (.iadd, 1) := by decide +kernel
theorem dX6_leastAt_33 : decode cX6_leastAt 33 = .ok (.aload_n 0, 1) := by decide +kernel
end
section
theorem dX6_leastAt_34 : decode cX6_leastAt 34 = .ok (.getfield 9, 3) := by decide +kernel
theorem dX6_leastAt_37 : decode cX6_leastAt 37 = .ok (.isub, 1) := by decide +kernel
theorem dX6_leastAt_38 : decode cX6_leastAt 38 = .ok (.istore 4, 2) := by decide +kernel
theorem dX6_leastAt_40 : decode cX6_leastAt 40 = .ok (.iload_n 1, 1) := by decide +kernel
theorem dX6_leastAt_41 : decode cX6_leastAt 41 = .ok (.iload_n 2, 1) := by decide +kernel
theorem dX6_leastAt_42 : decode cX6_leastAt 42 = .ok (.isub, 1) := by decide +kernel
theorem dX6_leastAt_43 : decode cX6_leastAt 43 = .ok (.ifCond .lt 9, 3) := by decide +kernel
theorem dX6_leastAt_46 : decode cX6_leastAt 46 = .ok (.iload_n 1, 1) := by decide +kernel
theorem dX6_leastAt_47 : decode cX6_leastAt 47 = .ok (.iload_n 2, 1) := by decide +kernel
theorem dX6_leastAt_48 : decode cX6_leastAt 48 = .ok (.isub, 1) := by decide +kernel
theorem dX6_leastAt_49 : decode cX6_leastAt 49 = .ok (.goto 11, 3) := by decide +kernel
theorem dX6_leastAt_52 : decode cX6_leastAt 52 = .ok (.iload_n 1, 1) := by decide +kernel
theorem dX6_leastAt_53 : decode cX6_leastAt 53 = .ok (.iload_n 2, 1) := by decide +kernel
theorem dX6_leastAt_54 : decode cX6_leastAt 54 = .ok (.isub, 1) := by decide +kernel
theorem dX6_leastAt_55 : decode cX6_leastAt 55 = .ok (.aload_n 0, 1) := by decide +kernel
theorem dX6_leastAt_56 : decode cX6_leastAt 56 = .ok (.getfield 9, 3) := by decide +kernel
theorem dX6_leastAt_59 : decode cX6_leastAt 59 = .ok (.iadd, 1) := by decide +kernel
theorem dX6_leastAt_60 : decode cX6_leastAt 60 = .ok (.istore 5, 2) := by decide +kernel
theorem dX6_leastAt_62 : decode cX6_leastAt 62 = .ok (.iload 4, 2) := by decide +kernel
theorem dX6_leastAt_64 : decode cX6_leastAt 64 = .ok (.iload 5, 2) := by decide +kernel
theorem dX6_leastAt_66 : decode cX6_leastAt 66 = .ok (.if_icmp .ge 8, 3) := by decide +kernel
theorem dX6_leastAt_69 : decode cX6_leastAt 69 = .ok (.iload 4, 2) := by decide +kernel
theorem dX6_leastAt_71 : decode cX6_leastAt 71 = .ok (.goto 5, 3) := by decide +kernel
theorem dX6_leastAt_74 : decode cX6_leastAt 74 = .ok (.iload 5, 2) := by decide +kernel
theorem dX6_leastAt_76 : decode cX6_leastAt 76 = .ok (.istore 6, 2) := by decide +kernel
theorem dX6_leastAt_78 : decode cX6_leastAt 78 = .ok (.iload_n 3, 1) := by decide +kernel
theorem dX6_leastAt_79 : decode cX6_leastAt 79 = .ok (.iload 6, 2) := by decide +kernel
theorem dX6_leastAt_81 : decode cX6_leastAt 81 = .ok (.invokestatic 47, 3) := by decide +kernel
theorem dX6_leastAt_84 : decode cX6_leastAt 84 = .ok (.ifCond .eq 6, 3) := by decide +kernel
theorem dX6_leastAt_87 : decode cX6_leastAt 87 = .ok (.iload 6, 2) := by decide +kernel
theorem dX6_leastAt_89 : decode cX6_leastAt 89 = .ok (.ireturn, 1) := by decide +kernel
theorem dX6_leastAt_90 : decode cX6_leastAt 90 = .ok (.iload 4, 2) := by decide +kernel
theorem dX6_leastAt_92 : decode cX6_leastAt 92 = .ok (.iload 5, 2) := by decide +kernel
theorem dX6_leastAt_94 : decode cX6_leastAt 94 = .ok (.iadd, 1) := by decide +kernel
theorem dX6_leastAt_95 : decode cX6_leastAt 95 = .ok (.iload 6, 2) := by decide +kernel
theorem dX6_leastAt_97 : decode cX6_leastAt 97 = .ok (.isub, 1) := by decide +kernel
theorem dX6_leastAt_98 : decode cX6_leastAt 98 = .ok (.istore 7, 2) := by decide +kernel
theorem dX6_leastAt_100 : decode cX6_leastAt 100 = .ok (.iload_n 3, 1) := by decide +kernel
theorem dX6_leastAt_101 : decode cX6_leastAt 101 = .ok (.iload 7, 2) := by decide +kernel
theorem dX6_leastAt_103 : decode cX6_leastAt 103 = .ok (.invokestatic 47, 3) := by decide +kernel
theorem dX6_leastAt_106 : decode cX6_leastAt 106 = .ok (.ifCond .eq 8, 3) := by decide +kernel
theorem dX6_leastAt_109 : decode cX6_leastAt 109 = .ok (.iload 7, 2) := by decide +kernel
theorem dX6_leastAt_111 : decode cX6_leastAt 111 = .ok (.goto 4, 3) := by decide +kernel
theorem dX6_leastAt_114 : decode cX6_leastAt 114 = .ok (.iconst (-1), 1) := by decide +kernel
theorem dX6_leastAt_115 : decode cX6_leastAt 115 = .ok (.ireturn, 1) := by decide +kernel
theorem dX6_nearestChair_0 : decode cX6_nearestChair 0 = .ok (.iconst 0, 1) := by decide +kernel
theorem dX6_nearestChair_1 : decode cX6_nearestChair 1 = .ok (.istore_n 2, 1) := by decide +kernel
theorem dX6_nearestChair_2 : decode cX6_nearestChair 2 = .ok (.iload_n 2, 1) := by decide +kernel
theorem dX6_nearestChair_3 : decode cX6_nearestChair 3 = .ok (.aload_n 0, 1) := by decide +kernel
theorem dX6_nearestChair_4 : decode cX6_nearestChair 4 = .ok (.invokevirtual 61, 3) := by decide +kernel
theorem dX6_nearestChair_7 : decode cX6_nearestChair 7 = .ok (.if_icmp .gt 25, 3) := by decide +kernel
theorem dX6_nearestChair_10 : decode cX6_nearestChair 10 = .ok (.aload_n 0, 1) := by decide +kernel
theorem dX6_nearestChair_11 : decode cX6_nearestChair 11 = .ok (.iload_n 1, 1) := by decide +kernel
theorem dX6_nearestChair_12 : decode cX6_nearestChair 12 = .ok (.iload_n 2, 1) := by decide +kernel
theorem dX6_nearestChair_13 : decode cX6_nearestChair 13 = .ok (.aload_n 0, 1) := by decide +kernel
theorem dX6_nearestChair_14 : decode cX6_nearestChair 14 = .ok (.getfield 31, 3) := by decide +kernel
theorem dX6_nearestChair_17 : decode cX6_nearestChair 17 = .ok (.invokevirtual 64, 3) := by decide +kernel
theorem dX6_nearestChair_20 : decode cX6_nearestChair 20 = .ok (.iconst (-1), 1) := by decide +kernel
theorem dX6_nearestChair_21 : decode cX6_nearestChair 21 = .ok (.if_icmp .eq 5, 3) := by decide +kernel
theorem dX6_nearestChair_24 : decode cX6_nearestChair 24 = .ok (.iload_n 2, 1) := by decide +kernel
theorem dX6_nearestChair_25 : decode cX6_nearestChair 25 = .ok (.ireturn, 1) := by decide +kernel
theorem dX6_nearestChair_26 : decode cX6_nearestChair 26 = .ok (.iinc 2 1, 3) := by decide +kernel
theorem dX6_nearestChair_29 : decode cX6_nearestChair 29 = .ok (.goto (-27), 3) := by decide +kernel
theorem dX6_nearestChair_32 : decode cX6_nearestChair 32 = .ok (.iconst (-1), 1) := by decide +kernel
theorem dX6_nearestChair_33 : decode cX6_nearestChair 33 = .ok (.ireturn, 1) := by decide +kernel
theorem dX6_allWorth_0 : decode cX6_allWorth 0 = .ok (.iconst 0, 1) := by decide +kernel
theorem dX6_allWorth_1 : decode cX6_allWorth 1 = .ok (.istore_n 1, 1) := by decide +kernel
theorem dX6_allWorth_2 : decode cX6_allWorth 2 = .ok (.iconst 0, 1) := by decide +kernel
theorem dX6_allWorth_3 : decode cX6_allWorth 3 = .ok (.istore_n 2, 1) := by decide +kernel
theorem dX6_allWorth_4 : decode cX6_allWorth 4 = .ok (.iload_n 2, 1) := by decide +kernel
theorem dX6_allWorth_5 : decode cX6_allWorth 5 = .ok (.aload_n 0, 1) := by decide +kernel
theorem dX6_allWorth_6 : decode cX6_allWorth 6 = .ok (.getfield 34, 3) := by decide +kernel
theorem dX6_allWorth_9 : decode cX6_allWorth 9 = .ok (.if_icmp .ge 18, 3) := by decide +kernel
theorem dX6_allWorth_12 : decode cX6_allWorth 12 = .ok (.iload_n 1, 1) := by decide +kernel
theorem dX6_allWorth_13 : decode cX6_allWorth 13 = .ok (.aload_n 0, 1) := by decide +kernel
theorem dX6_allWorth_14 : decode cX6_allWorth 14 = .ok (.getfield 28, 3) := by decide +kernel
theorem dX6_allWorth_17 : decode cX6_allWorth 17 = .ok (.iload_n 2, 1) := by decide +kernel
theorem dX6_allWorth_18 : decode cX6_allWorth 18 = .ok (.iaload, 1) := by decide +kernel
theorem dX6_allWorth_19 : decode cX6_allWorth 19 = .ok (.iadd, 1) := by decide +kernel
theorem dX6_allWorth_20 : decode cX6_allWorth 20 = .ok (.istore_n 1, 1) := by decide +kernel
theorem dX6_allWorth_21 : decode cX6_allWorth 21 = .ok (.iinc 2 1, 3) := by decide +kernel
theorem dX6_allWorth_24 : decode cX6_allWorth 24 = .ok (.goto (-20), 3) := by decide +kernel
theorem dX6_allWorth_27 : decode cX6_allWorth 27 = .ok (.iload_n 1, 1) := by decide +kernel
theorem dX6_allWorth_28 : decode cX6_allWorth 28 = .ok (.ireturn, 1) := by decide +kernel
theorem dX6_greatestWorth_0 : decode cX6_greatestWorth 0 = .ok (.iconst 0, 1) := by decide +kernel
theorem dX6_greatestWorth_1 : decode cX6_greatestWorth 1 = .ok (.istore_n 2, 1) := by decide +kernel
theorem dX6_greatestWorth_2 : decode cX6_greatestWorth 2 = .ok (.iconst 0, 1) := by decide +kernel
theorem dX6_greatestWorth_3 : decode cX6_greatestWorth 3 = .ok (.istore_n 3, 1) := by decide +kernel
theorem dX6_greatestWorth_4 : decode cX6_greatestWorth 4 = .ok (.iload_n 3, 1) := by decide +kernel
theorem dX6_greatestWorth_5 : decode cX6_greatestWorth 5 = .ok (.aload_n 0, 1) := by decide +kernel
theorem dX6_greatestWorth_6 : decode cX6_greatestWorth 6 = .ok (.getfield 34, 3) := by decide +kernel
theorem dX6_greatestWorth_9 : decode cX6_greatestWorth 9 = .ok (.if_icmp .ge 28, 3) := by decide +kernel
theorem dX6_greatestWorth_12 : decode cX6_greatestWorth 12 = .ok (.iload_n 1, 1) := by decide +kernel
theorem dX6_greatestWorth_13 : decode cX6_greatestWorth 13 = .ok (.iload_n 3, 1) := by decide +kernel
theorem dX6_greatestWorth_14 : decode cX6_greatestWorth 14 = .ok (.invokestatic 47, 3) := by decide +kernel
theorem dX6_greatestWorth_17 : decode cX6_greatestWorth 17 = .ok (.ifCond .eq 14, 3) := by decide +kernel
theorem dX6_greatestWorth_20 : decode cX6_greatestWorth 20 = .ok (.iload_n 2, 1) := by decide +kernel
theorem dX6_greatestWorth_21 : decode cX6_greatestWorth 21 = .ok (.aload_n 0, 1) := by decide +kernel
theorem dX6_greatestWorth_22 : decode cX6_greatestWorth 22 = .ok (.getfield 28, 3) := by decide +kernel
theorem dX6_greatestWorth_25 : decode cX6_greatestWorth 25 = .ok (.iload_n 3, 1) := by decide +kernel
theorem dX6_greatestWorth_26 : decode cX6_greatestWorth 26 = .ok (.iaload, 1) := by decide +kernel
theorem dX6_greatestWorth_27 : decode cX6_greatestWorth 27 = .ok (.invokestatic 68, 3) := by decide +kernel
theorem dX6_greatestWorth_30 : decode cX6_greatestWorth 30 = .ok (.istore_n 2, 1) := by decide +kernel
theorem dX6_greatestWorth_31 : decode cX6_greatestWorth 31 = .ok (.iinc 3 1, 3) := by decide +kernel
theorem dX6_greatestWorth_34 : decode cX6_greatestWorth 34 = .ok (.goto (-30), 3) := by decide +kernel
theorem dX6_greatestWorth_37 : decode cX6_greatestWorth 37 = .ok (.iload_n 2, 1) := by decide +kernel
theorem dX6_greatestWorth_38 : decode cX6_greatestWorth 38 = .ok (.ireturn, 1) := by decide +kernel
theorem dX6_beginInn_0 : decode cX6_beginInn 0 = .ok (.aload_n 0, 1) := by decide +kernel
theorem dX6_beginInn_1 : decode cX6_beginInn 1 = .ok (.iload_n 1, 1) := by decide +kernel
theorem dX6_beginInn_2 : decode cX6_beginInn 2 = .ok (.putfield 9, 3) := by decide +kernel
theorem dX6_beginInn_5 : decode cX6_beginInn 5 = .ok (.aload_n 0, 1) := by decide +kernel
theorem dX6_beginInn_6 : decode cX6_beginInn 6 = .ok (.iconst 0, 1) := by decide +kernel
theorem dX6_beginInn_7 : decode cX6_beginInn 7 = .ok (.putfield 31, 3) := by decide +kernel
theorem dX6_beginInn_10 : decode cX6_beginInn 10 = .ok (.aload_n 0, 1) := by decide +kernel
theorem dX6_beginInn_11 : decode cX6_beginInn 11 = .ok (.iconst 0, 1) := by decide +kernel
theorem dX6_beginInn_12 : decode cX6_beginInn 12 = .ok (.putfield 34, 3) := by decide +kernel
theorem dX6_beginInn_15 : decode cX6_beginInn 15 = .ok (.return_, 1) := by decide +kernel
theorem dX6_addGuest_0 : decode cX6_addGuest 0 = .ok (.aload_n 0, 1) := by decide +kernel
theorem dX6_addGuest_1 : decode cX6_addGuest 1 = .ok (.getfield 34, 3) := by decide +kernel
theorem dX6_addGuest_4 : decode cX6_addGuest 4 = .ok (.bipush 6, 2) := by decide +kernel
theorem dX6_addGuest_6 : decode cX6_addGuest 6 = .ok (.if_icmp .ge 9, 3) := by decide +kernel
theorem dX6_addGuest_9 : decode cX6_addGuest 9 = .ok (.aload_n 2, 1) := by decide +kernel
theorem dX6_addGuest_10 : decode cX6_addGuest 10 = .ok (.arraylength, 1) := by decide +kernel
theorem dX6_addGuest_11 : decode cX6_addGuest 11 = .ok (.iconst 4, 1) := by decide +kernel
theorem dX6_addGuest_12 : decode cX6_addGuest 12 = .ok (.if_icmp .ge 5, 3) := by decide +kernel
theorem dX6_addGuest_15 : decode cX6_addGuest 15 = .ok (.iconst 0, 1) := by decide +kernel
theorem dX6_addGuest_16 : decode cX6_addGuest 16 = .ok (.ireturn, 1) := by decide +kernel
theorem dX6_addGuest_17 : decode cX6_addGuest 17 = .ok (.aload_n 0, 1) := by decide +kernel
theorem dX6_addGuest_18 : decode cX6_addGuest 18 = .ok (.getfield 15, 3) := by decide +kernel
theorem dX6_addGuest_21 : decode cX6_addGuest 21 = .ok (.aload_n 0, 1) := by decide +kernel
theorem dX6_addGuest_22 : decode cX6_addGuest 22 = .ok (.getfield 34, 3) := by decide +kernel
theorem dX6_addGuest_25 : decode cX6_addGuest 25 = .ok (.iload_n 1, 1) := by decide +kernel
theorem dX6_addGuest_26 : decode cX6_addGuest 26 = .ok (.iastore, 1) := by decide +kernel
theorem dX6_addGuest_27 : decode cX6_addGuest 27 = .ok (.aload_n 0, 1) := by decide +kernel
theorem dX6_addGuest_28 : decode cX6_addGuest 28 = .ok (.getfield 19, 3) := by decide +kernel
theorem dX6_addGuest_31 : decode cX6_addGuest 31 = .ok (.aload_n 0, 1) := by decide +kernel
theorem dX6_addGuest_32 : decode cX6_addGuest 32 = .ok (.getfield 34, 3) := by decide +kernel
theorem dX6_addGuest_35 : decode cX6_addGuest 35 = .ok (.aload_n 2, 1) := by decide +kernel
theorem dX6_addGuest_36 : decode cX6_addGuest 36 = .ok (.iconst 0, 1) := by decide +kernel
theorem dX6_addGuest_37 : decode cX6_addGuest 37 = .ok (.iaload, 1) := by decide +kernel
theorem dX6_addGuest_38 : decode cX6_addGuest 38 = .ok (.iastore, 1) := by decide +kernel
theorem dX6_addGuest_39 : decode cX6_addGuest 39 = .ok (.aload_n 0, 1) := by decide +kernel
theorem dX6_addGuest_40 : decode cX6_addGuest 40 = .ok (.getfield 22, 3) := by decide +kernel
theorem dX6_addGuest_43 : decode cX6_addGuest 43 = .ok (.aload_n 0, 1) := by decide +kernel
theorem dX6_addGuest_44 : decode cX6_addGuest 44 = .ok (.getfield 34, 3) := by decide +kernel
theorem dX6_addGuest_47 : decode cX6_addGuest 47 = .ok (.aload_n 2, 1) := by decide +kernel
theorem dX6_addGuest_48 : decode cX6_addGuest 48 = .ok (.iconst 1, 1) := by decide +kernel
theorem dX6_addGuest_49 : decode cX6_addGuest 49 = .ok (.iaload, 1) := by decide +kernel
theorem dX6_addGuest_50 : decode cX6_addGuest 50 = .ok (.iastore, 1) := by decide +kernel
theorem dX6_addGuest_51 : decode cX6_addGuest 51 = .ok (.aload_n 0, 1) := by decide +kernel
theorem dX6_addGuest_52 : decode cX6_addGuest 52 = .ok (.getfield 25, 3) := by decide +kernel
theorem dX6_addGuest_55 : decode cX6_addGuest 55 = .ok (.aload_n 0, 1) := by decide +kernel
theorem dX6_addGuest_56 : decode cX6_addGuest 56 = .ok (.getfield 34, 3) := by decide +kernel
theorem dX6_addGuest_59 : decode cX6_addGuest 59 = .ok (.aload_n 2, 1) := by decide +kernel
theorem dX6_addGuest_60 : decode cX6_addGuest 60 = .ok (.iconst 2, 1) := by decide +kernel
theorem dX6_addGuest_61 : decode cX6_addGuest 61 = .ok (.iaload, 1) := by decide +kernel
theorem dX6_addGuest_62 : decode cX6_addGuest 62 = .ok (.iastore, 1) := by decide +kernel
theorem dX6_addGuest_63 : decode cX6_addGuest 63 = .ok (.aload_n 0, 1) := by decide +kernel
theorem dX6_addGuest_64 : decode cX6_addGuest 64 = .ok (.getfield 28, 3) := by decide +kernel
theorem dX6_addGuest_67 : decode cX6_addGuest 67 = .ok (.aload_n 0, 1) := by decide +kernel
theorem dX6_addGuest_68 : decode cX6_addGuest 68 = .ok (.getfield 34, 3) := by decide +kernel
theorem dX6_addGuest_71 : decode cX6_addGuest 71 = .ok (.aload_n 2, 1) := by decide +kernel
theorem dX6_addGuest_72 : decode cX6_addGuest 72 = .ok (.iconst 3, 1) := by decide +kernel
theorem dX6_addGuest_73 : decode cX6_addGuest 73 = .ok (.iaload, 1) := by decide +kernel
theorem dX6_addGuest_74 : decode cX6_addGuest 74 = .ok (.iastore, 1) := by decide +kernel
theorem dX6_addGuest_75 : decode cX6_addGuest 75 = .ok (.aload_n 0, 1) := by decide +kernel
theorem dX6_addGuest_76 : decode cX6_addGuest 76 = .ok (.dup, 1) := by decide +kernel
theorem dX6_addGuest_77 : decode cX6_addGuest 77 = .ok (.getfield 34, 3) := by decide +kernel
theorem dX6_addGuest_80 : decode cX6_addGuest 80 = .ok (.iconst 1, 1) := by decide +kernel
theorem dX6_addGuest_81 : decode cX6_addGuest 81 = .ok (.iadd, 1) := by decide +kernel
theorem dX6_addGuest_82 : decode cX6_addGuest 82 = .ok (.putfield 34, 3) := by decide +kernel
theorem dX6_addGuest_85 : decode cX6_addGuest 85 = .ok (.iconst 1, 1) := by decide +kernel
theorem dX6_addGuest_86 : decode cX6_addGuest 86 = .ok (.ireturn, 1) := by decide +kernel
theorem dX7_init_0 : decode cX7_init 0 = .ok (.aload_n 0, 1) := by decide +kernel
theorem dX7_init_1 : decode cX7_init 1 = .ok (.invokespecial 1, 3) := by decide +kernel
theorem dX7_init_4 : decode cX7_init 4 = .ok (.aload_n 0, 1) := by decide +kernel
theorem dX7_init_5 : decode cX7_init 5 = .ok (.new 7, 3) := by decide +kernel
theorem dX7_init_8 : decode cX7_init 8 = .ok (.dup, 1) := by decide +kernel
theorem dX7_init_9 : decode cX7_init 9 = .ok (.invokespecial 9, 3) := by decide +kernel
theorem dX7_init_12 : decode cX7_init 12 = .ok (.putfield 10, 3) := by decide +kernel
theorem dX7_init_15 : decode cX7_init 15 = .ok (.aload_n 0, 1) := by decide +kernel
theorem dX7_init_16 : decode cX7_init 16 = .ok (.new 16, 3) := by decide +kernel
theorem dX7_init_19 : decode cX7_init 19 = .ok (.dup, 1) := by decide +kernel
theorem dX7_init_20 : decode cX7_init 20 = .ok (.invokespecial 18, 3) := by decide +kernel
theorem dX7_init_23 : decode cX7_init 23 = .ok (.putfield 19, 3) := by decide +kernel
theorem dX7_init_26 : decode cX7_init 26 = .ok (.aload_n 0, 1) := by decide +kernel
theorem dX7_init_27 : decode cX7_init 27 = .ok (.new 23, 3) := by decide +kernel
theorem dX7_init_30 : decode cX7_init 30 = .ok (.dup, 1) := by decide +kernel
theorem dX7_init_31 : decode cX7_init 31 = .ok (.aload_n 0, 1) := by decide +kernel
theorem dX7_init_32 : decode cX7_init 32 = .ok (.getfield 10, 3) := by decide +kernel
theorem dX7_init_35 : decode cX7_init 35 = .ok (.invokespecial 25, 3) := by decide +kernel
theorem dX7_init_38 : decode cX7_init 38 = .ok (.putfield 28, 3) := by decide +kernel
theorem dX7_init_41 : decode cX7_init 41 = .ok (.aload_n 0, 1) := by decide +kernel
theorem dX7_init_42 : decode cX7_init 42 = .ok (.new 32, 3) := by decide +kernel
theorem dX7_init_45 : decode cX7_init 45 = .ok (.dup, 1) := by decide +kernel
theorem dX7_init_46 : decode cX7_init 46 = .ok (.aload_n 0, 1) := by decide +kernel
theorem dX7_init_47 : decode cX7_init 47 = .ok (.getfield 10, 3) := by decide +kernel
theorem dX7_init_50 : decode cX7_init 50 = .ok (.aload_n 0, 1) := by decide +kernel
theorem dX7_init_51 : decode cX7_init 51 = .ok (.getfield 28, 3) := by decide +kernel
theorem dX7_init_54 : decode cX7_init 54 = .ok (.invokespecial 34, 3) := by decide +kernel
theorem dX7_init_57 : decode cX7_init 57 = .ok (.putfield 37, 3) := by decide +kernel
theorem dX7_init_60 : decode cX7_init 60 = .ok (.aload_n 0, 1) := by decide +kernel
theorem dX7_init_61 : decode cX7_init 61 = .ok (.new 41, 3) := by decide +kernel
theorem dX7_init_64 : decode cX7_init 64 = .ok (.dup, 1) := by decide +kernel
theorem dX7_init_65 : decode cX7_init 65 = .ok (.aload_n 0, 1) := by decide +kernel
theorem dX7_init_66 : decode cX7_init 66 = .ok (.getfield 10, 3) := by decide +kernel
theorem dX7_init_69 : decode cX7_init 69 = .ok (.aload_n 0, 1) := by decide +kernel
theorem dX7_init_70 : decode cX7_init 70 = .ok (.getfield 37, 3) := by decide +kernel
theorem dX7_init_73 : decode cX7_init 73 = .ok (.invokespecial 43, 3) := by decide +kernel
theorem dX7_init_76 : decode cX7_init 76 = .ok (.putfield 46, 3) := by decide +kernel
theorem dX7_init_79 : decode cX7_init 79 = .ok (.aload_n 0, 1) := by decide +kernel
theorem dX7_init_80 : decode cX7_init 80 = .ok (.new 50, 3) := by decide +kernel
theorem dX7_init_83 : decode cX7_init 83 = .ok (.dup, 1) := by decide +kernel
theorem dX7_init_84 : decode cX7_init 84 = .ok (.invokespecial 52, 3) := by decide +kernel
theorem dX7_init_87 : decode cX7_init 87 = .ok (.putfield 53, 3) := by decide +kernel
theorem dX7_init_90 : decode cX7_init 90 = .ok (.aload_n 0, 1) := by decide +kernel
theorem dX7_init_91 : decode cX7_init 91 = .ok (.new 50, 3) := by decide +kernel
theorem dX7_init_94 : decode cX7_init 94 = .ok (.dup, 1) := by decide +kernel
theorem dX7_init_95 : decode cX7_init 95 = .ok (.invokespecial 52, 3) := by decide +kernel
theorem dX7_init_98 : decode cX7_init 98 = .ok (.putfield 57, 3) := by decide +kernel
theorem dX7_init_101 : decode cX7_init 101 = .ok (.aload_n 0, 1) := by decide +kernel
theorem dX7_init_102 : decode cX7_init 102 = .ok (.new 50, 3) := by decide +kernel
theorem dX7_init_105 : decode cX7_init 105 = .ok (.dup, 1) := by decide +kernel
theorem dX7_init_106 : decode cX7_init 106 = .ok (.invokespecial 52, 3) := by decide +kernel
theorem dX7_init_109 : decode cX7_init 109 = .ok (.putfield 60, 3) := by decide +kernel
theorem dX7_init_112 : decode cX7_init 112 = .ok (.aload_n 0, 1) := by decide +kernel
theorem dX7_init_113 : decode cX7_init 113 = .ok (.new 63, 3) := by decide +kernel
theorem dX7_init_116 : decode cX7_init 116 = .ok (.dup, 1) := by decide +kernel
theorem dX7_init_117 : decode cX7_init 117 = .ok (.invokespecial 65, 3) := by decide +kernel
theorem dX7_init_120 : decode cX7_init 120 = .ok (.putfield 66, 3) := by decide +kernel
theorem dX7_init_123 : decode cX7_init 123 = .ok (.return_, 1) := by decide +kernel
theorem dX7_write_0 : decode cX7_write 0 = .ok (.iload_n 3, 1) := by decide +kernel
theorem dX7_write_1 : decode cX7_write 1 = .ok (.iconst 1, 1) := by decide +kernel
theorem dX7_write_2 : decode cX7_write 2 = .ok (.if_icmp .lt 9, 3) := by decide +kernel
theorem dX7_write_5 : decode cX7_write 5 = .ok (.iload_n 3, 1) := by decide +kernel
theorem dX7_write_6 : decode cX7_write 6 = .ok (.bipush 8, 2) := by decide +kernel
theorem dX7_write_8 : decode cX7_write 8 = .ok (.if_icmp .le 6, 3) := by decide +kernel
theorem dX7_write_11 : decode cX7_write 11 = .ok (.bipush (-3), 2) := by decide +kernel
theorem dX7_write_13 : decode cX7_write 13 = .ok (.ireturn, 1) := by decide +kernel
theorem dX7_write_14 : decode cX7_write 14 = .ok (.aload_n 0, 1) := by decide +kernel
theorem dX7_write_15 : decode cX7_write 15 = .ok (.getfield 19, 3) := by decide +kernel
theorem dX7_write_18 : decode cX7_write 18 = .ok (.getfield 70, 3) := by decide +kernel
theorem dX7_write_21 : decode cX7_write 21 = .ok (.iload_n 3, 1) := by decide +kernel
theorem dX7_write_22 : decode cX7_write 22 = .ok (.iadd, 1) := by decide +kernel
theorem dX7_write_23 : decode cX7_write 23 = .ok (.sipush 200, 3) := by decide +kernel
theorem dX7_write_26 : decode cX7_write 26 = .ok (.if_icmp .le 6, 3) := by decide +kernel
theorem dX7_write_29 : decode cX7_write 29 = .ok (.bipush (-5), 2) := by decide +kernel
theorem dX7_write_31 : decode cX7_write 31 = .ok (.ireturn, 1) := by decide +kernel
theorem dX7_write_32 : decode cX7_write 32 = .ok (.iconst 0, 1) := by decide +kernel
theorem dX7_write_33 : decode cX7_write 33 = .ok (.istore 4, 2) := by decide +kernel
theorem dX7_write_35 : decode cX7_write 35 = .ok (.iload 4, 2) := by decide +kernel
theorem dX7_write_37 : decode cX7_write 37 = .ok (.iload_n 3, 1) := by decide +kernel
theorem dX7_write_38 : decode cX7_write 38 = .ok (.if_icmp .ge 28, 3) := by decide +kernel
theorem dX7_write_41 : decode cX7_write 41 = .ok (.aload_n 0, 1) := by decide +kernel
theorem dX7_write_42 : decode cX7_write 42 = .ok (.getfield 19, 3) := by decide +kernel
theorem dX7_write_45 : decode cX7_write 45 = .ok (.lload_n 1, 1) := by decide +kernel
theorem dX7_write_46 : decode cX7_write 46 = .ok (.bipush 8, 2) := by decide +kernel
theorem dX7_write_48 : decode cX7_write 48 = .ok (.iload 4, 2) := by decide +kernel
theorem dX7_write_50 : decode cX7_write 50 = .ok (.imul, 1) := by decide +kernel
theorem dX7_write_51 : decode cX7_write 51 = .ok (.lshr, 1) := by decide +kernel
theorem dX7_write_52 : decode cX7_write 52 = .ok (.ldc2_w 74, 3) := by decide +kernel
theorem dX7_write_55 : decode cX7_write 55 = .ok (.land, 1) := by decide +kernel
theorem dX7_write_56 : decode cX7_write 56 = .ok (.l2i, 1) := by decide +kernel
theorem dX7_write_57 : decode cX7_write 57 = .ok (.invokevirtual 76, 3) := by decide +kernel
theorem dX7_write_60 : decode cX7_write 60 = .ok (.iinc 4 1, 3) := by decide +kernel
theorem dX7_write_63 : decode cX7_write 63 = .ok (.goto (-28), 3) := by decide +kernel
theorem dX7_write_66 : decode cX7_write 66 = .ok (.aload_n 0, 1) := by decide +kernel
theorem dX7_write_67 : decode cX7_write 67 = .ok (.getfield 19, 3) := by decide +kernel
theorem dX7_write_70 : decode cX7_write 70 = .ok (.getfield 70, 3) := by decide +kernel
theorem dX7_write_73 : decode cX7_write 73 = .ok (.ireturn, 1) := by decide +kernel
theorem dX7_erase_0 : decode cX7_erase 0 = .ok (.aload_n 0, 1) := by decide +kernel
theorem dX7_erase_1 : decode cX7_erase 1 = .ok (.getfield 19, 3) := by decide +kernel
theorem dX7_erase_4 : decode cX7_erase 4 = .ok (.getfield 70, 3) := by decide +kernel
theorem dX7_erase_7 : decode cX7_erase 7 = .ok (.istore_n 1, 1) := by decide +kernel
theorem dX7_erase_8 : decode cX7_erase 8 = .ok (.aload_n 0, 1) := by decide +kernel
theorem dX7_erase_9 : decode cX7_erase 9 = .ok (.getfield 19, 3) := by decide +kernel
theorem dX7_erase_12 : decode cX7_erase 12 = .ok (.iconst 0, 1) := by decide +kernel
theorem dX7_erase_13 : decode cX7_erase 13 = .ok (.putfield 70, 3) := by decide +kernel
theorem dX7_erase_16 : decode cX7_erase 16 = .ok (.iload_n 1, 1) := by decide +kernel
theorem dX7_erase_17 : decode cX7_erase 17 = .ok (.ireturn, 1) := by decide +kernel
theorem dX7_fault_0 : decode cX7_fault 0 = .ok (.aload_n 0, 1) := by decide +kernel
theorem dX7_fault_1 : decode cX7_fault 1 = .ok (.getfield 19, 3) := by decide +kernel
theorem dX7_fault_4 : decode cX7_fault 4 = .ok (.aload_n 0, 1) := by decide +kernel
theorem dX7_fault_5 : decode cX7_fault 5 = .ok (.getfield 10, 3) := by decide +kernel
theorem dX7_fault_8 : decode cX7_fault 8 = .ok (.invokevirtual 80, 3) := by decide +kernel
theorem dX7_fault_11 : decode cX7_fault 11 = .ok (.ireturn, 1) := by decide +kernel
theorem dX7_inn_0 : decode cX7_inn 0 = .ok (.aload_n 0, 1) := by decide +kernel
theorem dX7_inn_1 : decode cX7_inn 1 = .ok (.getfield 19, 3) := by decide +kernel
theorem dX7_inn_4 : decode cX7_inn 4 = .ok (.aload_n 0, 1) := by decide +kernel
theorem dX7_inn_5 : decode cX7_inn 5 = .ok (.getfield 10, 3) := by decide +kernel
theorem dX7_inn_8 : decode cX7_inn 8 = .ok (.invokevirtual 80, 3) := by decide +kernel
theorem dX7_inn_11 : decode cX7_inn 11 = .ok (.iconst (-1), 1) := by decide +kernel
theorem dX7_inn_12 : decode cX7_inn 12 = .ok (.if_icmp .eq 6, 3) := by decide +kernel
theorem dX7_inn_15 : decode cX7_inn 15 = .ok (.bipush (-4), 2) := by decide +kernel
theorem dX7_inn_17 : decode cX7_inn 17 = .ok (.ireturn, 1) := by decide +kernel
theorem dX7_inn_18 : decode cX7_inn 18 = .ok (.aload_n 0, 1) := by decide +kernel
theorem dX7_inn_19 : decode cX7_inn 19 = .ok (.getfield 10, 3) := by decide +kernel
theorem dX7_inn_22 : decode cX7_inn 22 = .ok (.aload_n 0, 1) := by decide +kernel
theorem dX7_inn_23 : decode cX7_inn 23 = .ok (.getfield 19, 3) := by decide +kernel
theorem dX7_inn_26 : decode cX7_inn 26 = .ok (.getfield 84, 3) := by decide +kernel
theorem dX7_inn_29 : decode cX7_inn 29 = .ok (.invokevirtual 87, 3) := by decide +kernel
theorem dX7_inn_32 : decode cX7_inn 32 = .ok (.aload_n 0, 1) := by decide +kernel
theorem dX7_inn_33 : decode cX7_inn 33 = .ok (.getfield 19, 3) := by decide +kernel
theorem dX7_inn_36 : decode cX7_inn 36 = .ok (.iconst 0, 1) := by decide +kernel
theorem dX7_inn_37 : decode cX7_inn 37 = .ok (.putfield 70, 3) := by decide +kernel
theorem dX7_inn_40 : decode cX7_inn 40 = .ok (.aload_n 0, 1) := by decide +kernel
theorem dX7_inn_41 : decode cX7_inn 41 = .ok (.getfield 53, 3) := by decide +kernel
theorem dX7_inn_44 : decode cX7_inn 44 = .ok (.aload_n 0, 1) := by decide +kernel
theorem dX7_inn_45 : decode cX7_inn 45 = .ok (.getfield 10, 3) := by decide +kernel
theorem dX7_inn_48 : decode cX7_inn 48 = .ok (.invokevirtual 90, 3) := by decide +kernel
theorem dX7_inn_51 : decode cX7_inn 51 = .ok (.aload_n 0, 1) := by decide +kernel
theorem dX7_inn_52 : decode cX7_inn 52 = .ok (.getfield 57, 3) := by decide +kernel
theorem dX7_inn_55 : decode cX7_inn 55 = .ok (.iconst 0, 1) := by decide +kernel
theorem dX7_inn_56 : decode cX7_inn 56 = .ok (.putfield 93, 3) := by decide +kernel
theorem dX7_inn_59 : decode cX7_inn 59 = .ok (.aload_n 0, 1) := by decide +kernel
theorem dX7_inn_60 : decode cX7_inn 60 = .ok (.getfield 60, 3) := by decide +kernel
theorem dX7_inn_63 : decode cX7_inn 63 = .ok (.iconst 0, 1) := by decide +kernel
theorem dX7_inn_64 : decode cX7_inn 64 = .ok (.putfield 93, 3) := by decide +kernel
theorem dX7_inn_67 : decode cX7_inn 67 = .ok (.aload_n 0, 1) := by decide +kernel
theorem dX7_inn_68 : decode cX7_inn 68 = .ok (.getfield 66, 3) := by decide +kernel
theorem dX7_inn_71 : decode cX7_inn 71 = .ok (.iconst 0, 1) := by decide +kernel
theorem dX7_inn_72 : decode cX7_inn 72 = .ok (.putfield 97, 3) := by decide +kernel
theorem dX7_inn_75 : decode cX7_inn 75 = .ok (.aload_n 0, 1) := by decide +kernel
theorem dX7_inn_76 : decode cX7_inn 76 = .ok (.getfield 19, 3) := by decide +kernel
theorem dX7_inn_79 : decode cX7_inn 79 = .ok (.getfield 100, 3) := by decide +kernel
theorem dX7_inn_82 : decode cX7_inn 82 = .ok (.ireturn, 1) := by decide +kernel
theorem dX7_place_0 : decode cX7_place 0 = .ok (.aload_n 0, 1) := by decide +kernel
theorem dX7_place_1 : decode cX7_place 1 = .ok (.getfield 10, 3) := by decide +kernel
theorem dX7_place_4 : decode cX7_place 4 = .ok (.iload_n 1, 1) := by decide +kernel
theorem dX7_place_5 : decode cX7_place 5 = .ok (.invokevirtual 103, 3) := by decide +kernel
theorem dX7_place_8 : decode cX7_place 8 = .ok (.ifCond .ne 6, 3) := by decide +kernel
theorem dX7_place_11 : decode cX7_place 11 = .ok (.bipush (-2), 2) := by decide +kernel
theorem dX7_place_13 : decode cX7_place 13 = .ok (.ireturn, 1) := by decide +kernel
theorem dX7_place_14 : decode cX7_place 14 = .ok (.iload_n 2, 1) := by decide +kernel
theorem dX7_place_15 : decode cX7_place 15 = .ok (.tableswitch 68 0 2 #[25, 42, 52], 25) := by decide +kernel
theorem dX7_place_40 : decode cX7_place 40 = .ok (.aload_n 0, 1) := by decide +kernel
theorem dX7_place_41 : decode cX7_place 41 = .ok (.getfield 10, 3) := by decide +kernel
theorem dX7_place_44 : decode cX7_place 44 = .ok (.iload_n 1, 1) := by decide +kernel
theorem dX7_place_45 : decode cX7_place 45 = .ok (.invokevirtual 107, 3) := by decide +kernel
theorem dX7_place_48 : decode cX7_place 48 = .ok (.ifCond .eq 7, 3) := by decide +kernel
theorem dX7_place_51 : decode cX7_place 51 = .ok (.iconst 1, 1) := by decide +kernel
theorem dX7_place_52 : decode cX7_place 52 = .ok (.goto 4, 3) := by decide +kernel
theorem dX7_place_55 : decode cX7_place 55 = .ok (.iconst 0, 1) := by decide +kernel
theorem dX7_place_56 : decode cX7_place 56 = .ok (.ireturn, 1) := by decide +kernel
theorem dX7_place_57 : decode cX7_place 57 = .ok (.aload_n 0, 1) := by decide +kernel
theorem dX7_place_58 : decode cX7_place 58 = .ok (.getfield 53, 3) := by decide +kernel
theorem dX7_place_61 : decode cX7_place 61 = .ok (.getfield 110, 3) := by decide +kernel
theorem dX7_place_64 : decode cX7_place 64 = .ok (.iload_n 1, 1) := by decide +kernel
theorem dX7_place_65 : decode cX7_place 65 = .ok (.iaload, 1) := by decide +kernel
theorem dX7_place_66 : decode cX7_place 66 = .ok (.ireturn, 1) := by decide +kernel
theorem dX7_place_67 : decode cX7_place 67 = .ok (.aload_n 0, 1) := by decide +kernel
theorem dX7_place_68 : decode cX7_place 68 = .ok (.getfield 53, 3) := by decide +kernel
theorem dX7_place_71 : decode cX7_place 71 = .ok (.iload_n 1, 1) := by decide +kernel
theorem dX7_place_72 : decode cX7_place 72 = .ok (.aload_n 0, 1) := by decide +kernel
theorem dX7_place_73 : decode cX7_place 73 = .ok (.getfield 10, 3) := by decide +kernel
theorem dX7_place_76 : decode cX7_place 76 = .ok (.getfield 114, 3) := by decide +kernel
theorem dX7_place_79 : decode cX7_place 79 = .ok (.invokevirtual 117, 3) := by decide +kernel
theorem dX7_place_82 : decode cX7_place 82 = .ok (.ireturn, 1) := by decide +kernel
theorem dX7_place_83 : decode cX7_place 83 = .ok (.bipush (-3), 2) := by decide +kernel
theorem dX7_place_85 : decode cX7_place 85 = .ok (.ireturn, 1) := by decide +kernel
theorem dX7_guest_0 : decode cX7_guest 0 = .ok (.aload_n 0, 1) := by decide +kernel
theorem dX7_guest_1 : decode cX7_guest 1 = .ok (.getfield 10, 3) := by decide +kernel
theorem dX7_guest_4 : decode cX7_guest 4 = .ok (.iload_n 1, 1) := by decide +kernel
theorem dX7_guest_5 : decode cX7_guest 5 = .ok (.invokevirtual 121, 3) := by decide +kernel
theorem dX7_guest_8 : decode cX7_guest 8 = .ok (.ifCond .ne 6, 3) := by decide +kernel
theorem dX7_guest_11 : decode cX7_guest 11 = .ok (.bipush (-2), 2) := by decide +kernel
theorem dX7_guest_13 : decode cX7_guest 13 = .ok (.ireturn, 1) := by decide +kernel
theorem dX7_guest_14 : decode cX7_guest 14 = .ok (.iload_n 2, 1) := by decide +kernel
theorem dX7_guest_15 : decode cX7_guest 15 = .ok (.tableswitch 111 0 6 #[41, 51, 61, 71, 81, 91, 101], 41) := by decide +kernel
theorem dX7_guest_56 : decode cX7_guest 56 = .ok (.aload_n 0, 1) := by decide +kernel
theorem dX7_guest_57 : decode cX7_guest 57 = .ok (.getfield 10, 3) := by decide +kernel
theorem dX7_guest_60 : decode cX7_guest 60 = .ok (.getfield 124, 3) := by decide +kernel
theorem dX7_guest_63 : decode cX7_guest 63 = .ok (.iload_n 1, 1) := by decide +kernel
theorem dX7_guest_64 : decode cX7_guest 64 = .ok (.iaload, 1) := by decide +kernel
theorem dX7_guest_65 : decode cX7_guest 65 = .ok (.ireturn, 1) := by decide +kernel
theorem dX7_guest_66 : decode cX7_guest 66 = .ok (.aload_n 0, 1) := by decide +kernel
theorem dX7_guest_67 : decode cX7_guest 67 = .ok (.getfield 53, 3) := by decide +kernel
theorem dX7_guest_70 : decode cX7_guest 70 = .ok (.getfield 127, 3) := by decide +kernel
theorem dX7_guest_73 : decode cX7_guest 73 = .ok (.iload_n 1, 1) := by decide +kernel
theorem dX7_guest_74 : decode cX7_guest 74 = .ok (.iaload, 1) := by decide +kernel
theorem dX7_guest_75 : decode cX7_guest 75 = .ok (.ireturn, 1) := by decide +kernel
theorem dX7_guest_76 : decode cX7_guest 76 = .ok (.aload_n 0, 1) := by decide +kernel
theorem dX7_guest_77 : decode cX7_guest 77 = .ok (.getfield 10, 3) := by decide +kernel
theorem dX7_guest_80 : decode cX7_guest 80 = .ok (.getfield 130, 3) := by decide +kernel
theorem dX7_guest_83 : decode cX7_guest 83 = .ok (.iload_n 1, 1) := by decide +kernel
theorem dX7_guest_84 : decode cX7_guest 84 = .ok (.iaload, 1) := by decide +kernel
theorem dX7_guest_85 : decode cX7_guest 85 = .ok (.ireturn, 1) := by decide +kernel
theorem dX7_guest_86 : decode cX7_guest 86 = .ok (.aload_n 0, 1) := by decide +kernel
theorem dX7_guest_87 : decode cX7_guest 87 = .ok (.getfield 10, 3) := by decide +kernel
theorem dX7_guest_90 : decode cX7_guest 90 = .ok (.getfield 133, 3) := by decide +kernel
theorem dX7_guest_93 : decode cX7_guest 93 = .ok (.iload_n 1, 1) := by decide +kernel
theorem dX7_guest_94 : decode cX7_guest 94 = .ok (.iaload, 1) := by decide +kernel
theorem dX7_guest_95 : decode cX7_guest 95 = .ok (.ireturn, 1) := by decide +kernel
theorem dX7_guest_96 : decode cX7_guest 96 = .ok (.aload_n 0, 1) := by decide +kernel
theorem dX7_guest_97 : decode cX7_guest 97 = .ok (.getfield 10, 3) := by decide +kernel
theorem dX7_guest_100 : decode cX7_guest 100 = .ok (.getfield 136, 3) := by decide +kernel
theorem dX7_guest_103 : decode cX7_guest 103 = .ok (.iload_n 1, 1) := by decide +kernel
theorem dX7_guest_104 : decode cX7_guest 104 = .ok (.iaload, 1) := by decide +kernel
theorem dX7_guest_105 : decode cX7_guest 105 = .ok (.ireturn, 1) := by decide +kernel
theorem dX7_guest_106 : decode cX7_guest 106 = .ok (.aload_n 0, 1) := by decide +kernel
theorem dX7_guest_107 : decode cX7_guest 107 = .ok (.getfield 53, 3) := by decide +kernel
theorem dX7_guest_110 : decode cX7_guest 110 = .ok (.getfield 139, 3) := by decide +kernel
theorem dX7_guest_113 : decode cX7_guest 113 = .ok (.iload_n 1, 1) := by decide +kernel
theorem dX7_guest_114 : decode cX7_guest 114 = .ok (.iaload, 1) := by decide +kernel
theorem dX7_guest_115 : decode cX7_guest 115 = .ok (.ireturn, 1) := by decide +kernel
theorem dX7_guest_116 : decode cX7_guest 116 = .ok (.aload_n 0, 1) := by decide +kernel
theorem dX7_guest_117 : decode cX7_guest 117 = .ok (.getfield 53, 3) := by decide +kernel
theorem dX7_guest_120 : decode cX7_guest 120 = .ok (.getfield 142, 3) := by decide +kernel
theorem dX7_guest_123 : decode cX7_guest 123 = .ok (.iload_n 1, 1) := by decide +kernel
theorem dX7_guest_124 : decode cX7_guest 124 = .ok (.iaload, 1) := by decide +kernel
theorem dX7_guest_125 : decode cX7_guest 125 = .ok (.ireturn, 1) := by decide +kernel
theorem dX7_guest_126 : decode cX7_guest 126 = .ok (.bipush (-3), 2) := by decide +kernel
theorem dX7_guest_128 : decode cX7_guest 128 = .ok (.ireturn, 1) := by decide +kernel
theorem dX7_as_0 : decode cX7_as 0 = .ok (.aload_n 0, 1) := by decide +kernel
theorem dX7_as_1 : decode cX7_as 1 = .ok (.getfield 10, 3) := by decide +kernel
theorem dX7_as_4 : decode cX7_as 4 = .ok (.iload_n 1, 1) := by decide +kernel
theorem dX7_as_5 : decode cX7_as 5 = .ok (.invokevirtual 121, 3) := by decide +kernel
theorem dX7_as_8 : decode cX7_as 8 = .ok (.ifCond .ne 6, 3) := by decide +kernel
theorem dX7_as_11 : decode cX7_as 11 = .ok (.bipush (-2), 2) := by decide +kernel
theorem dX7_as_13 : decode cX7_as 13 = .ok (.ireturn, 1) := by decide +kernel
theorem dX7_as_14 : decode cX7_as 14 = .ok (.iload_n 2, 1) := by decide +kernel
theorem dX7_as_15 : decode cX7_as 15 = .ok (.ifCond .lt 8, 3) := by decide +kernel
theorem dX7_as_18 : decode cX7_as 18 = .ok (.iload_n 2, 1) := by decide +kernel
theorem dX7_as_19 : decode cX7_as 19 = .ok (.iconst 4, 1) := by decide +kernel
theorem dX7_as_20 : decode cX7_as 20 = .ok (.if_icmp .le 6, 3) := by decide +kernel
theorem dX7_as_23 : decode cX7_as 23 = .ok (.bipush (-3), 2) := by decide +kernel
theorem dX7_as_25 : decode cX7_as 25 = .ok (.ireturn, 1) := by decide +kernel
theorem dX7_as_26 : decode cX7_as 26 = .ok (.aload_n 0, 1) := by decide +kernel
theorem dX7_as_27 : decode cX7_as 27 = .ok (.getfield 10, 3) := by decide +kernel
theorem dX7_as_30 : decode cX7_as 30 = .ok (.iload_n 1, 1) := by decide +kernel
theorem dX7_as_31 : decode cX7_as 31 = .ok (.iload_n 2, 1) := by decide +kernel
theorem dX7_as_32 : decode cX7_as 32 = .ok (.invokevirtual 145, 3) := by decide +kernel
theorem dX7_as_35 : decode cX7_as 35 = .ok (.ifCond .ne 6, 3) := by decide +kernel
theorem dX7_as_38 : decode cX7_as 38 = .ok (.bipush (-4), 2) := by decide +kernel
theorem dX7_as_40 : decode cX7_as 40 = .ok (.ireturn, 1) := by decide +kernel
theorem dX7_as_41 : decode cX7_as 41 = .ok (.aload_n 0, 1) := by decide +kernel
theorem dX7_as_42 : decode cX7_as 42 = .ok (.getfield 10, 3) := by decide +kernel
theorem dX7_as_45 : decode cX7_as 45 = .ok (.aload_n 0, 1) := by decide +kernel
theorem dX7_as_46 : decode cX7_as 46 = .ok (.getfield 53, 3) := by decide +kernel
theorem dX7_as_49 : decode cX7_as 49 = .ok (.getfield 127, 3) := by decide +kernel
theorem dX7_as_52 : decode cX7_as 52 = .ok (.iload_n 1, 1) := by decide +kernel
theorem dX7_as_53 : decode cX7_as 53 = .ok (.iaload, 1) := by decide +kernel
theorem dX7_as_54 : decode cX7_as 54 = .ok (.invokevirtual 149, 3) := by decide +kernel
theorem dX7_as_57 : decode cX7_as 57 = .ok (.istore_n 3, 1) := by decide +kernel
theorem dX7_as_58 : decode cX7_as 58 = .ok (.iload_n 3, 1) := by decide +kernel
theorem dX7_as_59 : decode cX7_as 59 = .ok (.iconst (-1), 1) := by decide +kernel
theorem dX7_as_60 : decode cX7_as 60 = .ok (.if_icmp .ne 7, 3) := by decide +kernel
theorem dX7_as_63 : decode cX7_as 63 = .ok (.iconst (-1), 1) := by decide +kernel
theorem dX7_as_64 : decode cX7_as 64 = .ok (.goto 16, 3) := by decide +kernel
theorem dX7_as_67 : decode cX7_as 67 = .ok (.bipush 100, 2) := by decide +kernel
theorem dX7_as_69 : decode cX7_as 69 = .ok (.iload_n 3, 1) := by decide +kernel
theorem dX7_as_70 : decode cX7_as 70 = .ok (.iadd, 1) := by decide +kernel
theorem dX7_as_71 : decode cX7_as 71 = .ok (.aload_n 0, 1) := by decide +kernel
theorem dX7_as_72 : decode cX7_as 72 = .ok (.getfield 10, 3) := by decide +kernel
theorem dX7_as_75 : decode cX7_as 75 = .ok (.iload_n 1, 1) := by decide +kernel
theorem dX7_as_76 : decode cX7_as 76 = .ok (.invokevirtual 153, 3) := by decide +kernel
theorem dX7_as_79 : decode cX7_as 79 = .ok (.isub, 1) := by decide +kernel
theorem dX7_as_80 : decode cX7_as 80 = .ok (.ireturn, 1) := by decide +kernel
theorem dX7_walk_0 : decode cX7_walk 0 = .ok (.iload_n 1, 1) := by decide +kernel
theorem dX7_walk_1 : decode cX7_walk 1 = .ok (.iconst 1, 1) := by decide +kernel
theorem dX7_walk_2 : decode cX7_walk 2 = .ok (.if_icmp .lt 9, 3) := by decide +kernel
theorem dX7_walk_5 : decode cX7_walk 5 = .ok (.iload_n 1, 1) := by decide +kernel
theorem dX7_walk_6 : decode cX7_walk 6 = .ok (.bipush 99, 2) := by decide +kernel
theorem dX7_walk_8 : decode cX7_walk 8 = .ok (.if_icmp .le 6, 3) := by decide +kernel
theorem dX7_walk_11 : decode cX7_walk 11 = .ok (.bipush (-3), 2) := by decide +kernel
theorem dX7_walk_13 : decode cX7_walk 13 = .ok (.ireturn, 1) := by decide +kernel
theorem dX7_walk_14 : decode cX7_walk 14 = .ok (.aload_n 0, 1) := by decide +kernel
theorem dX7_walk_15 : decode cX7_walk 15 = .ok (.getfield 53, 3) := by decide +kernel
theorem dX7_walk_18 : decode cX7_walk 18 = .ok (.getfield 156, 3) := by decide +kernel
theorem dX7_walk_21 : decode cX7_walk 21 = .ok (.ifCond .ne 6, 3) := by decide +kernel
theorem dX7_walk_24 : decode cX7_walk 24 = .ok (.bipush (-4), 2) := by decide +kernel
theorem dX7_walk_26 : decode cX7_walk 26 = .ok (.ireturn, 1) := by decide +kernel
theorem dX7_walk_27 : decode cX7_walk 27 = .ok (.aload_n 0, 1) := by decide +kernel
theorem dX7_walk_28 : decode cX7_walk 28 = .ok (.getfield 53, 3) := by decide +kernel
theorem dX7_walk_31 : decode cX7_walk 31 = .ok (.getfield 159, 3) := by decide +kernel
theorem dX7_walk_34 : decode cX7_walk 34 = .ok (.iload_n 1, 1) := by decide +kernel
theorem dX7_walk_35 : decode cX7_walk 35 = .ok (.iadd, 1) := by decide +kernel
theorem dX7_walk_36 : decode cX7_walk 36 = .ok (.sipush 9999, 3) := by decide +kernel
theorem dX7_walk_39 : decode cX7_walk 39 = .ok (.if_icmp .le 6, 3) := by decide +kernel
theorem dX7_walk_42 : decode cX7_walk 42 = .ok (.bipush (-5), 2) := by decide +kernel
theorem dX7_walk_44 : decode cX7_walk 44 = .ok (.ireturn, 1) := by decide +kernel
theorem dX7_walk_45 : decode cX7_walk 45 = .ok (.aload_n 0, 1) := by decide +kernel
theorem dX7_walk_46 : decode cX7_walk 46 = .ok (.getfield 53, 3) := by decide +kernel
theorem dX7_walk_49 : decode cX7_walk 49 = .ok (.aload_n 0, 1) := by decide +kernel
theorem dX7_walk_50 : decode cX7_walk 50 = .ok (.getfield 10, 3) := by decide +kernel
theorem dX7_walk_53 : decode cX7_walk 53 = .ok (.iload_n 1, 1) := by decide +kernel
theorem dX7_walk_54 : decode cX7_walk 54 = .ok (.invokevirtual 162, 3) := by decide +kernel
theorem dX7_walk_57 : decode cX7_walk 57 = .ok (.aload_n 0, 1) := by decide +kernel
theorem dX7_walk_58 : decode cX7_walk 58 = .ok (.getfield 53, 3) := by decide +kernel
theorem dX7_walk_61 : decode cX7_walk 61 = .ok (.getfield 159, 3) := by decide +kernel
theorem dX7_walk_64 : decode cX7_walk 64 = .ok (.ireturn, 1) := by decide +kernel
theorem dX7_stop_0 : decode cX7_stop 0 = .ok (.aload_n 0, 1) := by decide +kernel
theorem dX7_stop_1 : decode cX7_stop 1 = .ok (.getfield 53, 3) := by decide +kernel
theorem dX7_stop_4 : decode cX7_stop 4 = .ok (.getfield 156, 3) := by decide +kernel
theorem dX7_stop_7 : decode cX7_stop 7 = .ok (.ifCond .ne 6, 3) := by decide +kernel
theorem dX7_stop_10 : decode cX7_stop 10 = .ok (.bipush (-4), 2) := by decide +kernel
theorem dX7_stop_12 : decode cX7_stop 12 = .ok (.ireturn, 1) := by decide +kernel
theorem dX7_stop_13 : decode cX7_stop 13 = .ok (.aload_n 0, 1) := by decide +kernel
theorem dX7_stop_14 : decode cX7_stop 14 = .ok (.getfield 53, 3) := by decide +kernel
theorem dX7_stop_17 : decode cX7_stop 17 = .ok (.getfield 127, 3) := by decide +kernel
theorem dX7_stop_20 : decode cX7_stop 20 = .ok (.iconst 0, 1) := by decide +kernel
theorem dX7_stop_21 : decode cX7_stop 21 = .ok (.aload_n 0, 1) := by decide +kernel
theorem dX7_stop_22 : decode cX7_stop 22 = .ok (.getfield 28, 3) := by decide +kernel
theorem dX7_stop_25 : decode cX7_stop 25 = .ok (.getfield 166, 3) := by decide +kernel
theorem dX7_stop_28 : decode cX7_stop 28 = .ok (.iconst 0, 1) := by decide +kernel
theorem dX7_stop_29 : decode cX7_stop 29 = .ok (.bipush 6, 2) := by decide +kernel
theorem dX7_stop_31 : decode cX7_stop 31 = .ok (.invokestatic 167, 3) := by decide +kernel
theorem dX7_stop_34 : decode cX7_stop 34 = .ok (.aload_n 0, 1) := by decide +kernel
theorem dX7_stop_35 : decode cX7_stop 35 = .ok (.getfield 28, 3) := by decide +kernel
theorem dX7_stop_38 : decode cX7_stop 38 = .ok (.aload_n 0, 1) := by decide +kernel
theorem dX7_stop_39 : decode cX7_stop 39 = .ok (.getfield 10, 3) := by decide +kernel
theorem dX7_stop_42 : decode cX7_stop 42 = .ok (.invokevirtual 173, 3) := by decide +kernel
theorem dX7_stop_45 : decode cX7_stop 45 = .ok (.aload_n 0, 1) := by decide +kernel
theorem dX7_stop_46 : decode cX7_stop 46 = .ok (.getfield 10, 3) := by decide +kernel
theorem dX7_stop_49 : decode cX7_stop 49 = .ok (.getfield 177, 3) := by decide +kernel
theorem dX7_stop_52 : decode cX7_stop 52 = .ok (.invokevirtual 180, 3) := by decide +kernel
theorem dX7_stop_55 : decode cX7_stop 55 = .ok (.istore_n 1, 1) := by decide +kernel
theorem dX7_stop_56 : decode cX7_stop 56 = .ok (.aload_n 0, 1) := by decide +kernel
theorem dX7_stop_57 : decode cX7_stop 57 = .ok (.getfield 28, 3) := by decide +kernel
theorem dX7_stop_60 : decode cX7_stop 60 = .ok (.aload_n 0, 1) := by decide +kernel
theorem dX7_stop_61 : decode cX7_stop 61 = .ok (.getfield 10, 3) := by decide +kernel
theorem dX7_stop_64 : decode cX7_stop 64 = .ok (.invokevirtual 173, 3) := by decide +kernel
theorem dX7_stop_67 : decode cX7_stop 67 = .ok (.invokevirtual 183, 3) := by decide +kernel
theorem dX7_stop_70 : decode cX7_stop 70 = .ok (.aload_n 0, 1) := by decide +kernel
theorem dX7_stop_71 : decode cX7_stop 71 = .ok (.getfield 53, 3) := by decide +kernel
theorem dX7_stop_74 : decode cX7_stop 74 = .ok (.aload_n 0, 1) := by decide +kernel
theorem dX7_stop_75 : decode cX7_stop 75 = .ok (.getfield 10, 3) := by decide +kernel
theorem dX7_stop_78 : decode cX7_stop 78 = .ok (.aload_n 0, 1) := by decide +kernel
theorem dX7_stop_79 : decode cX7_stop 79 = .ok (.getfield 28, 3) := by decide +kernel
theorem dX7_stop_82 : decode cX7_stop 82 = .ok (.iload_n 1, 1) := by decide +kernel
theorem dX7_stop_83 : decode cX7_stop 83 = .ok (.invokevirtual 186, 3) := by decide +kernel
theorem dX7_stop_86 : decode cX7_stop 86 = .ok (.iload_n 1, 1) := by decide +kernel
theorem dX7_stop_87 : decode cX7_stop 87 = .ok (.ireturn, 1) := by decide +kernel
theorem dX7_play_0 : decode cX7_play 0 = .ok (.aload_n 0, 1) := by decide +kernel
theorem dX7_play_1 : decode cX7_play 1 = .ok (.getfield 53, 3) := by decide +kernel
theorem dX7_play_4 : decode cX7_play 4 = .ok (.getfield 156, 3) := by decide +kernel
theorem dX7_play_7 : decode cX7_play 7 = .ok (.ifCond .eq 6, 3) := by decide +kernel
theorem dX7_play_10 : decode cX7_play 10 = .ok (.bipush (-4), 2) := by decide +kernel
theorem dX7_play_12 : decode cX7_play 12 = .ok (.ireturn, 1) := by decide +kernel
theorem dX7_play_13 : decode cX7_play 13 = .ok (.aload_n 0, 1) := by decide +kernel
theorem dX7_play_14 : decode cX7_play 14 = .ok (.getfield 53, 3) := by decide +kernel
theorem dX7_play_17 : decode cX7_play 17 = .ok (.invokevirtual 190, 3) := by decide +kernel
theorem dX7_play_20 : decode cX7_play 20 = .ok (.aload_n 0, 1) := by decide +kernel
theorem dX7_play_21 : decode cX7_play 21 = .ok (.getfield 53, 3) := by decide +kernel
theorem dX7_play_24 : decode cX7_play 24 = .ok (.getfield 159, 3) := by decide +kernel
theorem dX7_play_27 : decode cX7_play 27 = .ok (.ireturn, 1) := by decide +kernel
theorem dX7_keep_0 : decode cX7_keep 0 = .ok (.iload_n 1, 1) := by decide +kernel
theorem dX7_keep_1 : decode cX7_keep 1 = .ok (.invokestatic 193, 3) := by decide +kernel
theorem dX7_keep_4 : decode cX7_keep 4 = .ok (.ifCond .ne 6, 3) := by decide +kernel
theorem dX7_keep_7 : decode cX7_keep 7 = .ok (.bipush (-2), 2) := by decide +kernel
theorem dX7_keep_9 : decode cX7_keep 9 = .ok (.ireturn, 1) := by decide +kernel
theorem dX7_keep_10 : decode cX7_keep 10 = .ok (.iload_n 1, 1) := by decide +kernel
theorem dX7_keep_11 : decode cX7_keep 11 = .ok (.ifCond .ne 10, 3) := by decide +kernel
theorem dX7_keep_14 : decode cX7_keep 14 = .ok (.aload_n 0, 1) := by decide +kernel
theorem dX7_keep_15 : decode cX7_keep 15 = .ok (.getfield 57, 3) := by decide +kernel
theorem dX7_keep_18 : decode cX7_keep 18 = .ok (.goto 7, 3) := by decide +kernel
theorem dX7_keep_21 : decode cX7_keep 21 = .ok (.aload_n 0, 1) := by decide +kernel
theorem dX7_keep_22 : decode cX7_keep 22 = .ok (.getfield 60, 3) := by decide +kernel
theorem dX7_keep_25 : decode cX7_keep 25 = .ok (.astore_n 2, 1) := by decide +kernel
theorem dX7_keep_26 : decode cX7_keep 26 = .ok (.aload_n 2, 1) := by decide +kernel
theorem dX7_keep_27 : decode cX7_keep 27 = .ok (.aload_n 0, 1) := by decide +kernel
theorem dX7_keep_28 : decode cX7_keep 28 = .ok (.getfield 53, 3) := by decide +kernel
theorem dX7_keep_31 : decode cX7_keep 31 = .ok (.invokevirtual 196, 3) := by decide +kernel
theorem dX7_keep_34 : decode cX7_keep 34 = .ok (.aload_n 2, 1) := by decide +kernel
theorem dX7_keep_35 : decode cX7_keep 35 = .ok (.iconst 1, 1) := by decide +kernel
theorem dX7_keep_36 : decode cX7_keep 36 = .ok (.putfield 93, 3) := by decide +kernel
theorem dX7_keep_39 : decode cX7_keep 39 = .ok (.aload_n 0, 1) := by decide +kernel
theorem dX7_keep_40 : decode cX7_keep 40 = .ok (.getfield 53, 3) := by decide +kernel
theorem dX7_keep_43 : decode cX7_keep 43 = .ok (.getfield 159, 3) := by decide +kernel
theorem dX7_keep_46 : decode cX7_keep 46 = .ok (.ireturn, 1) := by decide +kernel
theorem dX7_back_0 : decode cX7_back 0 = .ok (.iload_n 1, 1) := by decide +kernel
theorem dX7_back_1 : decode cX7_back 1 = .ok (.invokestatic 193, 3) := by decide +kernel
theorem dX7_back_4 : decode cX7_back 4 = .ok (.ifCond .ne 6, 3) := by decide +kernel
theorem dX7_back_7 : decode cX7_back 7 = .ok (.bipush (-2), 2) := by decide +kernel
theorem dX7_back_9 : decode cX7_back 9 = .ok (.ireturn, 1) := by decide +kernel
theorem dX7_back_10 : decode cX7_back 10 = .ok (.iload_n 1, 1) := by decide +kernel
theorem dX7_back_11 : decode cX7_back 11 = .ok (.ifCond .ne 10, 3) := by decide +kernel
theorem dX7_back_14 : decode cX7_back 14 = .ok (.aload_n 0, 1) := by decide +kernel
theorem dX7_back_15 : decode cX7_back 15 = .ok (.getfield 57, 3) := by decide +kernel
theorem dX7_back_18 : decode cX7_back 18 = .ok (.goto 7, 3) := by decide +kernel
theorem dX7_back_21 : decode cX7_back 21 = .ok (.aload_n 0, 1) := by decide +kernel
theorem dX7_back_22 : decode cX7_back 22 = .ok (.getfield 60, 3) := by decide +kernel
theorem dX7_back_25 : decode cX7_back 25 = .ok (.astore_n 2, 1) := by decide +kernel
theorem dX7_back_26 : decode cX7_back 26 = .ok (.aload_n 2, 1) := by decide +kernel
theorem dX7_back_27 : decode cX7_back 27 = .ok (.getfield 93, 3) := by decide +kernel
theorem dX7_back_30 : decode cX7_back 30 = .ok (.ifCond .ne 6, 3) := by decide +kernel
theorem dX7_back_33 : decode cX7_back 33 = .ok (.bipush (-4), 2) := by decide +kernel
theorem dX7_back_35 : decode cX7_back 35 = .ok (.ireturn, 1) := by decide +kernel
theorem dX7_back_36 : decode cX7_back 36 = .ok (.aload_n 0, 1) := by decide +kernel
theorem dX7_back_37 : decode cX7_back 37 = .ok (.getfield 53, 3) := by decide +kernel
theorem dX7_back_40 : decode cX7_back 40 = .ok (.aload_n 2, 1) := by decide +kernel
theorem dX7_back_41 : decode cX7_back 41 = .ok (.invokevirtual 196, 3) := by decide +kernel
theorem dX7_back_44 : decode cX7_back 44 = .ok (.aload_n 0, 1) := by decide +kernel
theorem dX7_back_45 : decode cX7_back 45 = .ok (.getfield 53, 3) := by decide +kernel
theorem dX7_back_48 : decode cX7_back 48 = .ok (.getfield 159, 3) := by decide +kernel
theorem dX7_back_51 : decode cX7_back 51 = .ok (.ireturn, 1) := by decide +kernel
theorem dX7_standing_0 : decode cX7_standing 0 = .ok (.iload_n 1, 1) := by decide +kernel
theorem dX7_standing_1 : decode cX7_standing 1 = .ok (.invokestatic 199, 3) := by decide +kernel
theorem dX7_standing_4 : decode cX7_standing 4 = .ok (.ifCond .ne 6, 3) := by decide +kernel
theorem dX7_standing_7 : decode cX7_standing 7 = .ok (.bipush (-3), 2) := by decide +kernel
theorem dX7_standing_9 : decode cX7_standing 9 = .ok (.ireturn, 1) := by decide +kernel
theorem dX7_standing_10 : decode cX7_standing 10 = .ok (.aload_n 0, 1) := by decide +kernel
theorem dX7_standing_11 : decode cX7_standing 11 = .ok (.getfield 37, 3) := by decide +kernel
theorem dX7_standing_14 : decode cX7_standing 14 = .ok (.invokevirtual 202, 3) := by decide +kernel
theorem dX7_standing_17 : decode cX7_standing 17 = .ok (.aload_n 0, 1) := by decide +kernel
theorem dX7_standing_18 : decode cX7_standing 18 = .ok (.getfield 37, 3) := by decide +kernel
theorem dX7_standing_21 : decode cX7_standing 21 = .ok (.iload_n 1, 1) := by decide +kernel
theorem dX7_standing_22 : decode cX7_standing 22 = .ok (.invokevirtual 205, 3) := by decide +kernel
theorem dX7_standing_25 : decode cX7_standing 25 = .ok (.ireturn, 1) := by decide +kernel
theorem dX7_odds_0 : decode cX7_odds 0 = .ok (.aload_n 0, 1) := by decide +kernel
theorem dX7_odds_1 : decode cX7_odds 1 = .ok (.getfield 10, 3) := by decide +kernel
theorem dX7_odds_4 : decode cX7_odds 4 = .ok (.iload_n 1, 1) := by decide +kernel
theorem dX7_odds_5 : decode cX7_odds 5 = .ok (.invokevirtual 121, 3) := by decide +kernel
theorem dX7_odds_8 : decode cX7_odds 8 = .ok (.ifCond .ne 6, 3) := by decide +kernel
theorem dX7_odds_11 : decode cX7_odds 11 = .ok (.bipush (-2), 2) := by decide +kernel
theorem dX7_odds_13 : decode cX7_odds 13 = .ok (.ireturn, 1) := by decide +kernel
theorem dX7_odds_14 : decode cX7_odds 14 = .ok (.iload_n 2, 1) := by decide +kernel
theorem dX7_odds_15 : decode cX7_odds 15 = .ok (.iload_n 3, 1) := by decide +kernel
theorem dX7_odds_16 : decode cX7_odds 16 = .ok (.invokestatic 208, 3) := by decide +kernel
theorem dX7_odds_19 : decode cX7_odds 19 = .ok (.ifCond .eq 11, 3) := by decide +kernel
theorem dX7_odds_22 : decode cX7_odds 22 = .ok (.iload 4, 2) := by decide +kernel
theorem dX7_odds_24 : decode cX7_odds 24 = .ok (.invokestatic 193, 3) := by decide +kernel
theorem dX7_odds_27 : decode cX7_odds 27 = .ok (.ifCond .ne 6, 3) := by decide +kernel
theorem dX7_odds_30 : decode cX7_odds 30 = .ok (.bipush (-3), 2) := by decide +kernel
theorem dX7_odds_32 : decode cX7_odds 32 = .ok (.ireturn, 1) := by decide +kernel
theorem dX7_odds_33 : decode cX7_odds 33 = .ok (.aload_n 0, 1) := by decide +kernel
theorem dX7_odds_34 : decode cX7_odds 34 = .ok (.getfield 37, 3) := by decide +kernel
theorem dX7_odds_37 : decode cX7_odds 37 = .ok (.invokevirtual 202, 3) := by decide +kernel
theorem dX7_odds_40 : decode cX7_odds 40 = .ok (.aload_n 0, 1) := by decide +kernel
theorem dX7_odds_41 : decode cX7_odds 41 = .ok (.getfield 37, 3) := by decide +kernel
theorem dX7_odds_44 : decode cX7_odds 44 = .ok (.iload_n 2, 1) := by decide +kernel
theorem dX7_odds_45 : decode cX7_odds 45 = .ok (.iload_n 3, 1) := by decide +kernel
theorem dX7_odds_46 : decode cX7_odds 46 = .ok (.invokevirtual 211, 3) := by decide +kernel
theorem dX7_odds_49 : decode cX7_odds 49 = .ok (.aload_n 0, 1) := by decide +kernel
theorem dX7_odds_50 : decode cX7_odds 50 = .ok (.getfield 37, 3) := by decide +kernel
theorem dX7_odds_53 : decode cX7_odds 53 = .ok (.getfield 215, 3) := by decide +kernel
theorem dX7_odds_56 : decode cX7_odds 56 = .ok (.iload_n 1, 1) := by decide +kernel
theorem dX7_odds_57 : decode cX7_odds 57 = .ok (.iaload, 1) := by decide +kernel
theorem dX7_odds_58 : decode cX7_odds 58 = .ok (.istore 5, 2) := by decide +kernel
theorem dX7_odds_60 : decode cX7_odds 60 = .ok (.iload_n 3, 1) := by decide +kernel
theorem dX7_odds_61 : decode cX7_odds 61 = .ok (.iload_n 2, 1) := by decide +kernel
theorem dX7_odds_62 : decode cX7_odds 62 = .ok (.isub, 1) := by decide +kernel
theorem dX7_odds_63 : decode cX7_odds 63 = .ok (.iconst 1, 1) := by decide +kernel
theorem dX7_odds_64 : decode cX7_odds 64 = .ok (.iadd, 1) := by decide +kernel
theorem dX7_odds_65 : decode cX7_odds 65 = .ok (.istore 6, 2) := by decide +kernel
theorem dX7_odds_67 : decode cX7_odds 67 = .ok (.iload 6, 2) := by decide +kernel
theorem dX7_odds_69 : decode cX7_odds 69 = .ok (.iload 5, 2) := by decide +kernel
theorem dX7_odds_71 : decode cX7_odds 71 = .ok (.invokestatic 218, 3) := by decide +kernel
theorem dX7_odds_74 : decode cX7_odds 74 = .ok (.istore 7, 2) := by decide +kernel
theorem dX7_odds_76 : decode cX7_odds 76 = .ok (.iload 7, 2) := by decide +kernel
theorem dX7_odds_78 : decode cX7_odds 78 = .ok (.iconst 1, 1) := by decide +kernel
theorem dX7_odds_79 : decode cX7_odds 79 = .ok (.if_icmp .ge 6, 3) := by decide +kernel
theorem dX7_odds_82 : decode cX7_odds 82 = .ok (.bipush (-3), 2) := by decide +kernel
theorem dX7_odds_84 : decode cX7_odds 84 = .ok (.ireturn, 1) := by decide +kernel
theorem dX7_odds_85 : decode cX7_odds 85 = .ok (.iload 4, 2) := by decide +kernel
theorem dX7_odds_87 : decode cX7_odds 87 = .ok (.ifCond .ne 8, 3) := by decide +kernel
theorem dX7_odds_90 : decode cX7_odds 90 = .ok (.iload 5, 2) := by decide +kernel
theorem dX7_odds_92 : decode cX7_odds 92 = .ok (.goto 5, 3) := by decide +kernel
theorem dX7_odds_95 : decode cX7_odds 95 = .ok (.iload 6, 2) := by decide +kernel
theorem dX7_odds_97 : decode cX7_odds 97 = .ok (.iload 7, 2) := by decide +kernel
theorem dX7_odds_99 : decode cX7_odds 99 = .ok (.idiv, 1) := by decide +kernel
theorem dX7_odds_100 : decode cX7_odds 100 = .ok (.ireturn, 1) := by decide +kernel
theorem dX7_surest_0 : decode cX7_surest 0 = .ok (.aload_n 0, 1) := by decide +kernel
theorem dX7_surest_1 : decode cX7_surest 1 = .ok (.getfield 10, 3) := by decide +kernel
theorem dX7_surest_4 : decode cX7_surest 4 = .ok (.iload_n 1, 1) := by decide +kernel
theorem dX7_surest_5 : decode cX7_surest 5 = .ok (.invokevirtual 121, 3) := by decide +kernel
theorem dX7_surest_8 : decode cX7_surest 8 = .ok (.ifCond .ne 6, 3) := by decide +kernel
theorem dX7_surest_11 : decode cX7_surest 11 = .ok (.bipush (-2), 2) := by decide +kernel
theorem dX7_surest_13 : decode cX7_surest 13 = .ok (.ireturn, 1) := by decide +kernel
theorem dX7_surest_14 : decode cX7_surest 14 = .ok (.iload_n 2, 1) := by decide +kernel
theorem dX7_surest_15 : decode cX7_surest 15 = .ok (.iload_n 3, 1) := by decide +kernel
theorem dX7_surest_16 : decode cX7_surest 16 = .ok (.invokestatic 208, 3) := by decide +kernel
theorem dX7_surest_19 : decode cX7_surest 19 = .ok (.ifCond .eq 14, 3) := by decide +kernel
theorem dX7_surest_22 : decode cX7_surest 22 = .ok (.iload 4, 2) := by decide +kernel
theorem dX7_surest_24 : decode cX7_surest 24 = .ok (.ifCond .lt 9, 3) := by decide +kernel
theorem dX7_surest_27 : decode cX7_surest 27 = .ok (.iload 4, 2) := by decide +kernel
theorem dX7_surest_29 : decode cX7_surest 29 = .ok (.iconst 2, 1) := by decide +kernel
theorem dX7_surest_30 : decode cX7_surest 30 = .ok (.if_icmp .le 6, 3) := by decide +kernel
theorem dX7_surest_33 : decode cX7_surest 33 = .ok (.bipush (-3), 2) := by decide +kernel
theorem dX7_surest_35 : decode cX7_surest 35 = .ok (.ireturn, 1) := by decide +kernel
theorem dX7_surest_36 : decode cX7_surest 36 = .ok (.aload_n 0, 1) := by decide +kernel
theorem dX7_surest_37 : decode cX7_surest 37 = .ok (.getfield 46, 3) := by decide +kernel
theorem dX7_surest_40 : decode cX7_surest 40 = .ok (.iload_n 1, 1) := by decide +kernel
theorem dX7_surest_41 : decode cX7_surest 41 = .ok (.iload_n 2, 1) := by decide +kernel
theorem dX7_surest_42 : decode cX7_surest 42 = .ok (.iload_n 3, 1) := by decide +kernel
theorem dX7_surest_43 : decode cX7_surest 43 = .ok (.invokevirtual 221, 3) := by decide +kernel
theorem dX7_surest_46 : decode cX7_surest 46 = .ok (.iload 4, 2) := by decide +kernel
theorem dX7_surest_48 : decode cX7_surest 48 = .ok (.ifCond .ne 11, 3) := by decide +kernel
theorem dX7_surest_51 : decode cX7_surest 51 = .ok (.aload_n 0, 1) := by decide +kernel
theorem dX7_surest_52 : decode cX7_surest 52 = .ok (.getfield 46, 3) := by decide +kernel
theorem dX7_surest_55 : decode cX7_surest 55 = .ok (.getfield 225, 3) := by decide +kernel
theorem dX7_surest_58 : decode cX7_surest 58 = .ok (.ireturn, 1) := by decide +kernel
theorem dX7_surest_59 : decode cX7_surest 59 = .ok (.iload 4, 2) := by decide +kernel
theorem dX7_surest_61 : decode cX7_surest 61 = .ok (.iconst 1, 1) := by decide +kernel
theorem dX7_surest_62 : decode cX7_surest 62 = .ok (.if_icmp .ne 13, 3) := by decide +kernel
theorem dX7_surest_65 : decode cX7_surest 65 = .ok (.aload_n 0, 1) := by decide +kernel
theorem dX7_surest_66 : decode cX7_surest 66 = .ok (.getfield 46, 3) := by decide +kernel
theorem dX7_surest_69 : decode cX7_surest 69 = .ok (.getfield 228, 3) := by decide +kernel
theorem dX7_surest_72 : decode cX7_surest 72 = .ok (.goto 10, 3) := by decide +kernel
theorem dX7_surest_75 : decode cX7_surest 75 = .ok (.aload_n 0, 1) := by decide +kernel
theorem dX7_surest_76 : decode cX7_surest 76 = .ok (.getfield 46, 3) := by decide +kernel
theorem dX7_surest_79 : decode cX7_surest 79 = .ok (.getfield 231, 3) := by decide +kernel
theorem dX7_surest_82 : decode cX7_surest 82 = .ok (.ireturn, 1) := by decide +kernel
theorem dX7_still_0 : decode cX7_still 0 = .ok (.iload_n 1, 1) := by decide +kernel
theorem dX7_still_1 : decode cX7_still 1 = .ok (.iload_n 2, 1) := by decide +kernel
theorem dX7_still_2 : decode cX7_still 2 = .ok (.invokestatic 208, 3) := by decide +kernel
theorem dX7_still_5 : decode cX7_still 5 = .ok (.ifCond .eq 10, 3) := by decide +kernel
theorem dX7_still_8 : decode cX7_still 8 = .ok (.iload_n 3, 1) := by decide +kernel
theorem dX7_still_9 : decode cX7_still 9 = .ok (.invokestatic 193, 3) := by decide +kernel
theorem dX7_still_12 : decode cX7_still 12 = .ok (.ifCond .ne 6, 3) := by decide +kernel
theorem dX7_still_15 : decode cX7_still 15 = .ok (.bipush (-3), 2) := by decide +kernel
theorem dX7_still_17 : decode cX7_still 17 = .ok (.ireturn, 1) := by decide +kernel
theorem dX7_still_18 : decode cX7_still 18 = .ok (.aload_n 0, 1) := by decide +kernel
theorem dX7_still_19 : decode cX7_still 19 = .ok (.getfield 46, 3) := by decide +kernel
theorem dX7_still_22 : decode cX7_still 22 = .ok (.iload_n 1, 1) := by decide +kernel
theorem dX7_still_23 : decode cX7_still 23 = .ok (.iload_n 2, 1) := by decide +kernel
theorem dX7_still_24 : decode cX7_still 24 = .ok (.invokevirtual 234, 3) := by decide +kernel
theorem dX7_still_27 : decode cX7_still 27 = .ok (.iload_n 3, 1) := by decide +kernel
theorem dX7_still_28 : decode cX7_still 28 = .ok (.ifCond .ne 13, 3) := by decide +kernel
theorem dX7_still_31 : decode cX7_still 31 = .ok (.aload_n 0, 1) := by decide +kernel
theorem dX7_still_32 : decode cX7_still 32 = .ok (.getfield 46, 3) := by decide +kernel
theorem dX7_still_35 : decode cX7_still 35 = .ok (.getfield 231, 3) := by decide +kernel
theorem dX7_still_38 : decode cX7_still 38 = .ok (.goto 10, 3) := by decide +kernel
theorem dX7_still_41 : decode cX7_still 41 = .ok (.aload_n 0, 1) := by decide +kernel
theorem dX7_still_42 : decode cX7_still 42 = .ok (.getfield 46, 3) := by decide +kernel
theorem dX7_still_45 : decode cX7_still 45 = .ok (.getfield 237, 3) := by decide +kernel
theorem dX7_still_48 : decode cX7_still 48 = .ok (.ireturn, 1) := by decide +kernel
theorem dX7_plot_0 : decode cX7_plot 0 = .ok (.aload_n 0, 1) := by decide +kernel
theorem dX7_plot_1 : decode cX7_plot 1 = .ok (.getfield 10, 3) := by decide +kernel
theorem dX7_plot_4 : decode cX7_plot 4 = .ok (.iload_n 1, 1) := by decide +kernel
theorem dX7_plot_5 : decode cX7_plot 5 = .ok (.invokevirtual 121, 3) := by decide +kernel
theorem dX7_plot_8 : decode cX7_plot 8 = .ok (.ifCond .eq 22, 3) := by decide +kernel
theorem dX7_plot_11 : decode cX7_plot 11 = .ok (.aload_n 0, 1) := by decide +kernel
theorem dX7_plot_12 : decode cX7_plot 12 = .ok (.getfield 10, 3) := by decide +kernel
theorem dX7_plot_15 : decode cX7_plot 15 = .ok (.iload_n 2, 1) := by decide +kernel
theorem dX7_plot_16 : decode cX7_plot 16 = .ok (.invokevirtual 240, 3) := by decide +kernel
theorem dX7_plot_19 : decode cX7_plot 19 = .ok (.ifCond .eq 11, 3) := by decide +kernel
theorem dX7_plot_22 : decode cX7_plot 22 = .ok (.iload_n 2, 1) := by decide +kernel
theorem dX7_plot_23 : decode cX7_plot 23 = .ok (.iload_n 1, 1) := by decide +kernel
theorem dX7_plot_24 : decode cX7_plot 24 = .ok (.invokestatic 243, 3) := by decide +kernel
theorem dX7_plot_27 : decode cX7_plot 27 = .ok (.ifCond .eq 6, 3) := by decide +kernel
theorem dX7_plot_30 : decode cX7_plot 30 = .ok (.bipush (-2), 2) := by decide +kernel
theorem dX7_plot_32 : decode cX7_plot 32 = .ok (.ireturn, 1) := by decide +kernel
theorem dX7_plot_33 : decode cX7_plot 33 = .ok (.iload_n 3, 1) := by decide +kernel
theorem dX7_plot_34 : decode cX7_plot 34 = .ok (.invokestatic 199, 3) := by decide +kernel
theorem dX7_plot_37 : decode cX7_plot 37 = .ok (.ifCond .eq 11, 3) := by decide +kernel
theorem dX7_plot_40 : decode cX7_plot 40 = .ok (.iload 4, 2) := by decide +kernel
theorem dX7_plot_42 : decode cX7_plot 42 = .ok (.invokestatic 193, 3) := by decide +kernel
theorem dX7_plot_45 : decode cX7_plot 45 = .ok (.ifCond .ne 6, 3) := by decide +kernel
theorem dX7_plot_48 : decode cX7_plot 48 = .ok (.bipush (-3), 2) := by decide +kernel
theorem dX7_plot_50 : decode cX7_plot 50 = .ok (.ireturn, 1) := by decide +kernel
theorem dX7_plot_51 : decode cX7_plot 51 = .ok (.aload_n 0, 1) := by decide +kernel
theorem dX7_plot_52 : decode cX7_plot 52 = .ok (.getfield 46, 3) := by decide +kernel
theorem dX7_plot_55 : decode cX7_plot 55 = .ok (.iload_n 1, 1) := by decide +kernel
theorem dX7_plot_56 : decode cX7_plot 56 = .ok (.iload_n 2, 1) := by decide +kernel
theorem dX7_plot_57 : decode cX7_plot 57 = .ok (.iload_n 3, 1) := by decide +kernel
theorem dX7_plot_58 : decode cX7_plot 58 = .ok (.invokevirtual 246, 3) := by decide +kernel
theorem dX7_plot_61 : decode cX7_plot 61 = .ok (.iload 4, 2) := by decide +kernel
theorem dX7_plot_63 : decode cX7_plot 63 = .ok (.ifCond .ne 13, 3) := by decide +kernel
theorem dX7_plot_66 : decode cX7_plot 66 = .ok (.aload_n 0, 1) := by decide +kernel
theorem dX7_plot_67 : decode cX7_plot 67 = .ok (.getfield 46, 3) := by decide +kernel
theorem dX7_plot_70 : decode cX7_plot 70 = .ok (.getfield 231, 3) := by decide +kernel
theorem dX7_plot_73 : decode cX7_plot 73 = .ok (.goto 10, 3) := by decide +kernel
theorem dX7_plot_76 : decode cX7_plot 76 = .ok (.aload_n 0, 1) := by decide +kernel
theorem dX7_plot_77 : decode cX7_plot 77 = .ok (.getfield 46, 3) := by decide +kernel
theorem dX7_plot_80 : decode cX7_plot 80 = .ok (.getfield 237, 3) := by decide +kernel
theorem dX7_plot_83 : decode cX7_plot 83 = .ok (.ireturn, 1) := by decide +kernel
theorem dX7_price_0 : decode cX7_price 0 = .ok (.iload_n 1, 1) := by decide +kernel
theorem dX7_price_1 : decode cX7_price 1 = .ok (.invokestatic 199, 3) := by decide +kernel
theorem dX7_price_4 : decode cX7_price 4 = .ok (.ifCond .ne 6, 3) := by decide +kernel
theorem dX7_price_7 : decode cX7_price 7 = .ok (.bipush (-3), 2) := by decide +kernel
theorem dX7_price_9 : decode cX7_price 9 = .ok (.ireturn, 1) := by decide +kernel
theorem dX7_price_10 : decode cX7_price 10 = .ok (.aload_n 0, 1) := by decide +kernel
theorem dX7_price_11 : decode cX7_price 11 = .ok (.getfield 37, 3) := by decide +kernel
theorem dX7_price_14 : decode cX7_price 14 = .ok (.invokevirtual 202, 3) := by decide +kernel
theorem dX7_price_17 : decode cX7_price 17 = .ok (.aload_n 0, 1) := by decide +kernel
theorem dX7_price_18 : decode cX7_price 18 = .ok (.getfield 37, 3) := by decide +kernel
theorem dX7_price_21 : decode cX7_price 21 = .ok (.iload_n 1, 1) := by decide +kernel
theorem dX7_price_22 : decode cX7_price 22 = .ok (.invokevirtual 205, 3) := by decide +kernel
theorem dX7_price_25 : decode cX7_price 25 = .ok (.istore_n 2, 1) := by decide +kernel
theorem dX7_price_26 : decode cX7_price 26 = .ok (.aload_n 0, 1) := by decide +kernel
theorem dX7_price_27 : decode cX7_price 27 = .ok (.getfield 28, 3) := by decide +kernel
theorem dX7_price_30 : decode cX7_price 30 = .ok (.getfield 249, 3) := by decide +kernel
theorem dX7_price_33 : decode cX7_price 33 = .ok (.ifCond .eq 14, 3) := by decide +kernel
theorem dX7_price_36 : decode cX7_price 36 = .ok (.aload_n 0, 1) := by decide +kernel
theorem dX7_price_37 : decode cX7_price 37 = .ok (.getfield 10, 3) := by decide +kernel
theorem dX7_price_40 : decode cX7_price 40 = .ok (.iload_n 2, 1) := by decide +kernel
theorem dX7_price_41 : decode cX7_price 41 = .ok (.invokevirtual 252, 3) := by decide +kernel
theorem dX7_price_44 : decode cX7_price 44 = .ok (.goto 4, 3) := by decide +kernel
theorem dX7_price_47 : decode cX7_price 47 = .ok (.iconst 0, 1) := by decide +kernel
theorem dX7_price_48 : decode cX7_price 48 = .ok (.ireturn, 1) := by decide +kernel
theorem dX7_laid_0 : decode cX7_laid 0 = .ok (.iload_n 1, 1) := by decide +kernel
theorem dX7_laid_1 : decode cX7_laid 1 = .ok (.ifCond .lt 30, 3) := by decide +kernel
theorem dX7_laid_4 : decode cX7_laid 4 = .ok (.iload_n 1, 1) := by decide +kernel
theorem dX7_laid_5 : decode cX7_laid 5 = .ok (.aload_n 0, 1) := by decide +kernel
theorem dX7_laid_6 : decode cX7_laid 6 = .ok (.getfield 10, 3) := by decide +kernel
theorem dX7_laid_9 : decode cX7_laid 9 = .ok (.getfield 255, 3) := by decide +kernel
theorem dX7_laid_12 : decode cX7_laid 12 = .ok (.if_icmp .gt 19, 3) := by decide +kernel
theorem dX7_laid_15 : decode cX7_laid 15 = .ok (.iload_n 2, 1) := by decide +kernel
theorem dX7_laid_16 : decode cX7_laid 16 = .ok (.iload_n 3, 1) := by decide +kernel
theorem dX7_laid_17 : decode cX7_laid 17 = .ok (.invokestatic 208, 3) := by decide +kernel
theorem dX7_laid_20 : decode cX7_laid 20 = .ok (.ifCond .eq 11, 3) := by decide +kernel
theorem dX7_laid_23 : decode cX7_laid 23 = .ok (.iload 4, 2) := by decide +kernel
theorem dX7_laid_25 : decode cX7_laid 25 = .ok (.invokestatic 193, 3) := by decide +kernel
theorem dX7_laid_28 : decode cX7_laid 28 = .ok (.ifCond .ne 6, 3) := by decide +kernel
theorem dX7_laid_31 : decode cX7_laid 31 = .ok (.bipush (-3), 2) := by decide +kernel
theorem dX7_laid_33 : decode cX7_laid 33 = .ok (.ireturn, 1) := by decide +kernel
theorem dX7_laid_34 : decode cX7_laid 34 = .ok (.aload_n 0, 1) := by decide +kernel
theorem dX7_laid_35 : decode cX7_laid 35 = .ok (.getfield 46, 3) := by decide +kernel
theorem dX7_laid_38 : decode cX7_laid 38 = .ok (.iload_n 1, 1) := by decide +kernel
theorem dX7_laid_39 : decode cX7_laid 39 = .ok (.iload_n 2, 1) := by decide +kernel
theorem dX7_laid_40 : decode cX7_laid 40 = .ok (.iload_n 3, 1) := by decide +kernel
theorem dX7_laid_41 : decode cX7_laid 41 = .ok (.invokevirtual 258, 3) := by decide +kernel
theorem dX7_laid_44 : decode cX7_laid 44 = .ok (.iload 4, 2) := by decide +kernel
theorem dX7_laid_46 : decode cX7_laid 46 = .ok (.ifCond .ne 13, 3) := by decide +kernel
theorem dX7_laid_49 : decode cX7_laid 49 = .ok (.aload_n 0, 1) := by decide +kernel
theorem dX7_laid_50 : decode cX7_laid 50 = .ok (.getfield 46, 3) := by decide +kernel
theorem dX7_laid_53 : decode cX7_laid 53 = .ok (.getfield 231, 3) := by decide +kernel
theorem dX7_laid_56 : decode cX7_laid 56 = .ok (.goto 10, 3) := by decide +kernel
theorem dX7_laid_59 : decode cX7_laid 59 = .ok (.aload_n 0, 1) := by decide +kernel
theorem dX7_laid_60 : decode cX7_laid 60 = .ok (.getfield 46, 3) := by decide +kernel
theorem dX7_laid_63 : decode cX7_laid 63 = .ok (.getfield 237, 3) := by decide +kernel
theorem dX7_laid_66 : decode cX7_laid 66 = .ok (.ireturn, 1) := by decide +kernel
theorem dX7_left_0 : decode cX7_left 0 = .ok (.iload_n 1, 1) := by decide +kernel
theorem dX7_left_1 : decode cX7_left 1 = .ok (.invokestatic 199, 3) := by decide +kernel
theorem dX7_left_4 : decode cX7_left 4 = .ok (.ifCond .eq 10, 3) := by decide +kernel
theorem dX7_left_7 : decode cX7_left 7 = .ok (.iload_n 2, 1) := by decide +kernel
theorem dX7_left_8 : decode cX7_left 8 = .ok (.invokestatic 193, 3) := by decide +kernel
theorem dX7_left_11 : decode cX7_left 11 = .ok (.ifCond .ne 6, 3) := by decide +kernel
theorem dX7_left_14 : decode cX7_left 14 = .ok (.bipush (-3), 2) := by decide +kernel
theorem dX7_left_16 : decode cX7_left 16 = .ok (.ireturn, 1) := by decide +kernel
theorem dX7_left_17 : decode cX7_left 17 = .ok (.aload_n 0, 1) := by decide +kernel
theorem dX7_left_18 : decode cX7_left 18 = .ok (.getfield 37, 3) := by decide +kernel
theorem dX7_left_21 : decode cX7_left 21 = .ok (.iload_n 1, 1) := by decide +kernel
theorem dX7_left_22 : decode cX7_left 22 = .ok (.invokevirtual 261, 3) := by decide +kernel
theorem dX7_left_25 : decode cX7_left 25 = .ok (.istore_n 3, 1) := by decide +kernel
theorem dX7_left_26 : decode cX7_left 26 = .ok (.iload_n 2, 1) := by decide +kernel
theorem dX7_left_27 : decode cX7_left 27 = .ok (.ifCond .ne 13, 3) := by decide +kernel
theorem dX7_left_30 : decode cX7_left 30 = .ok (.aload_n 0, 1) := by decide +kernel
theorem dX7_left_31 : decode cX7_left 31 = .ok (.getfield 37, 3) := by decide +kernel
theorem dX7_left_34 : decode cX7_left 34 = .ok (.getfield 264, 3) := by decide +kernel
theorem dX7_left_37 : decode cX7_left 37 = .ok (.goto 4, 3) := by decide +kernel
theorem dX7_left_40 : decode cX7_left 40 = .ok (.iload_n 3, 1) := by decide +kernel
theorem dX7_left_41 : decode cX7_left 41 = .ok (.ireturn, 1) := by decide +kernel
theorem dX7_seen_0 : decode cX7_seen 0 = .ok (.aload_n 0, 1) := by decide +kernel
theorem dX7_seen_1 : decode cX7_seen 1 = .ok (.getfield 10, 3) := by decide +kernel
theorem dX7_seen_4 : decode cX7_seen 4 = .ok (.iload_n 1, 1) := by decide +kernel
theorem dX7_seen_5 : decode cX7_seen 5 = .ok (.invokevirtual 121, 3) := by decide +kernel
theorem dX7_seen_8 : decode cX7_seen 8 = .ok (.ifCond .ne 6, 3) := by decide +kernel
theorem dX7_seen_11 : decode cX7_seen 11 = .ok (.bipush (-2), 2) := by decide +kernel
theorem dX7_seen_13 : decode cX7_seen 13 = .ok (.ireturn, 1) := by decide +kernel
theorem dX7_seen_14 : decode cX7_seen 14 = .ok (.iload_n 2, 1) := by decide +kernel
theorem dX7_seen_15 : decode cX7_seen 15 = .ok (.invokestatic 193, 3) := by decide +kernel
theorem dX7_seen_18 : decode cX7_seen 18 = .ok (.ifCond .ne 6, 3) := by decide +kernel
theorem dX7_seen_21 : decode cX7_seen 21 = .ok (.bipush (-3), 2) := by decide +kernel
theorem dX7_seen_23 : decode cX7_seen 23 = .ok (.ireturn, 1) := by decide +kernel
theorem dX7_seen_24 : decode cX7_seen 24 = .ok (.aload_n 0, 1) := by decide +kernel
theorem dX7_seen_25 : decode cX7_seen 25 = .ok (.getfield 66, 3) := by decide +kernel
theorem dX7_seen_28 : decode cX7_seen 28 = .ok (.getfield 97, 3) := by decide +kernel
theorem dX7_seen_31 : decode cX7_seen 31 = .ok (.bipush 6, 2) := by decide +kernel
theorem dX7_seen_33 : decode cX7_seen 33 = .ok (.if_icmp .lt 6, 3) := by decide +kernel
theorem dX7_seen_36 : decode cX7_seen 36 = .ok (.bipush (-5), 2) := by decide +kernel
theorem dX7_seen_38 : decode cX7_seen 38 = .ok (.ireturn, 1) := by decide +kernel
theorem dX7_seen_39 : decode cX7_seen 39 = .ok (.aload_n 0, 1) := by decide +kernel
theorem dX7_seen_40 : decode cX7_seen 40 = .ok (.getfield 66, 3) := by decide +kernel
theorem dX7_seen_43 : decode cX7_seen 43 = .ok (.iload_n 1, 1) := by decide +kernel
theorem dX7_seen_44 : decode cX7_seen 44 = .ok (.iload_n 2, 1) := by decide +kernel
theorem dX7_seen_45 : decode cX7_seen 45 = .ok (.invokevirtual 267, 3) := by decide +kernel
theorem dX7_seen_48 : decode cX7_seen 48 = .ok (.aload_n 0, 1) := by decide +kernel
theorem dX7_seen_49 : decode cX7_seen 49 = .ok (.getfield 66, 3) := by decide +kernel
theorem dX7_seen_52 : decode cX7_seen 52 = .ok (.getfield 97, 3) := by decide +kernel
theorem dX7_seen_55 : decode cX7_seen 55 = .ok (.ireturn, 1) := by decide +kernel
theorem dX7_forget_0 : decode cX7_forget 0 = .ok (.aload_n 0, 1) := by decide +kernel
theorem dX7_forget_1 : decode cX7_forget 1 = .ok (.getfield 66, 3) := by decide +kernel
theorem dX7_forget_4 : decode cX7_forget 4 = .ok (.getfield 97, 3) := by decide +kernel
theorem dX7_forget_7 : decode cX7_forget 7 = .ok (.istore_n 1, 1) := by decide +kernel
theorem dX7_forget_8 : decode cX7_forget 8 = .ok (.aload_n 0, 1) := by decide +kernel
theorem dX7_forget_9 : decode cX7_forget 9 = .ok (.getfield 66, 3) := by decide +kernel
theorem dX7_forget_12 : decode cX7_forget 12 = .ok (.iconst 0, 1) := by decide +kernel
theorem dX7_forget_13 : decode cX7_forget 13 = .ok (.putfield 97, 3) := by decide +kernel
theorem dX7_forget_16 : decode cX7_forget 16 = .ok (.iload_n 1, 1) := by decide +kernel
theorem dX7_forget_17 : decode cX7_forget 17 = .ok (.ireturn, 1) := by decide +kernel
theorem dX7_fits_0 : decode cX7_fits 0 = .ok (.iload_n 1, 1) := by decide +kernel
theorem dX7_fits_1 : decode cX7_fits 1 = .ok (.invokestatic 193, 3) := by decide +kernel
theorem dX7_fits_4 : decode cX7_fits 4 = .ok (.ifCond .ne 6, 3) := by decide +kernel
theorem dX7_fits_7 : decode cX7_fits 7 = .ok (.bipush (-3), 2) := by decide +kernel
theorem dX7_fits_9 : decode cX7_fits 9 = .ok (.ireturn, 1) := by decide +kernel
theorem dX7_fits_10 : decode cX7_fits 10 = .ok (.aload_n 0, 1) := by decide +kernel
theorem dX7_fits_11 : decode cX7_fits 11 = .ok (.getfield 46, 3) := by decide +kernel
theorem dX7_fits_14 : decode cX7_fits 14 = .ok (.aload_n 0, 1) := by decide +kernel
theorem dX7_fits_15 : decode cX7_fits 15 = .ok (.getfield 66, 3) := by decide +kernel
theorem dX7_fits_18 : decode cX7_fits 18 = .ok (.invokevirtual 270, 3) := by decide +kernel
theorem dX7_fits_21 : decode cX7_fits 21 = .ok (.iload_n 1, 1) := by decide +kernel
theorem dX7_fits_22 : decode cX7_fits 22 = .ok (.ifCond .ne 13, 3) := by decide +kernel
theorem dX7_fits_25 : decode cX7_fits 25 = .ok (.aload_n 0, 1) := by decide +kernel
theorem dX7_fits_26 : decode cX7_fits 26 = .ok (.getfield 46, 3) := by decide +kernel
theorem dX7_fits_29 : decode cX7_fits 29 = .ok (.getfield 231, 3) := by decide +kernel
theorem dX7_fits_32 : decode cX7_fits 32 = .ok (.goto 10, 3) := by decide +kernel
theorem dX7_fits_35 : decode cX7_fits 35 = .ok (.aload_n 0, 1) := by decide +kernel
theorem dX7_fits_36 : decode cX7_fits 36 = .ok (.getfield 46, 3) := by decide +kernel
end
section
theorem dX7_fits_39 : decode cX7_fits 39 = .ok (.getfield 237, 3) := by decide +kernel
theorem dX7_fits_42 : decode cX7_fits 42 = .ok (.ireturn, 1) := by decide +kernel
theorem dX7_count_0 : decode cX7_count 0 = .ok (.iload_n 1, 1) := by decide +kernel
theorem dX7_count_1 : decode cX7_count 1 = .ok (.tableswitch 119 0 7 #[47, 55, 63, 71, 79, 95, 103, 111], 47) := by decide +kernel
theorem dX7_count_48 : decode cX7_count 48 = .ok (.aload_n 0, 1) := by decide +kernel
theorem dX7_count_49 : decode cX7_count 49 = .ok (.getfield 10, 3) := by decide +kernel
theorem dX7_count_52 : decode cX7_count 52 = .ok (.getfield 255, 3) := by decide +kernel
theorem dX7_count_55 : decode cX7_count 55 = .ok (.ireturn, 1) := by decide +kernel
theorem dX7_count_56 : decode cX7_count 56 = .ok (.aload_n 0, 1) := by decide +kernel
theorem dX7_count_57 : decode cX7_count 57 = .ok (.getfield 10, 3) := by decide +kernel
theorem dX7_count_60 : decode cX7_count 60 = .ok (.getfield 114, 3) := by decide +kernel
theorem dX7_count_63 : decode cX7_count 63 = .ok (.ireturn, 1) := by decide +kernel
theorem dX7_count_64 : decode cX7_count 64 = .ok (.aload_n 0, 1) := by decide +kernel
theorem dX7_count_65 : decode cX7_count 65 = .ok (.getfield 10, 3) := by decide +kernel
theorem dX7_count_68 : decode cX7_count 68 = .ok (.getfield 177, 3) := by decide +kernel
theorem dX7_count_71 : decode cX7_count 71 = .ok (.ireturn, 1) := by decide +kernel
theorem dX7_count_72 : decode cX7_count 72 = .ok (.aload_n 0, 1) := by decide +kernel
theorem dX7_count_73 : decode cX7_count 73 = .ok (.getfield 53, 3) := by decide +kernel
theorem dX7_count_76 : decode cX7_count 76 = .ok (.getfield 159, 3) := by decide +kernel
theorem dX7_count_79 : decode cX7_count 79 = .ok (.ireturn, 1) := by decide +kernel
theorem dX7_count_80 : decode cX7_count 80 = .ok (.aload_n 0, 1) := by decide +kernel
theorem dX7_count_81 : decode cX7_count 81 = .ok (.getfield 53, 3) := by decide +kernel
theorem dX7_count_84 : decode cX7_count 84 = .ok (.getfield 156, 3) := by decide +kernel
theorem dX7_count_87 : decode cX7_count 87 = .ok (.ifCond .eq 7, 3) := by decide +kernel
theorem dX7_count_90 : decode cX7_count 90 = .ok (.iconst 1, 1) := by decide +kernel
theorem dX7_count_91 : decode cX7_count 91 = .ok (.goto 4, 3) := by decide +kernel
theorem dX7_count_94 : decode cX7_count 94 = .ok (.iconst 0, 1) := by decide +kernel
theorem dX7_count_95 : decode cX7_count 95 = .ok (.ireturn, 1) := by decide +kernel
theorem dX7_count_96 : decode cX7_count 96 = .ok (.aload_n 0, 1) := by decide +kernel
theorem dX7_count_97 : decode cX7_count 97 = .ok (.getfield 53, 3) := by decide +kernel
theorem dX7_count_100 : decode cX7_count 100 = .ok (.getfield 274, 3) := by decide +kernel
theorem dX7_count_103 : decode cX7_count 103 = .ok (.ireturn, 1) := by decide +kernel
theorem dX7_count_104 : decode cX7_count 104 = .ok (.aload_n 0, 1) := by decide +kernel
theorem dX7_count_105 : decode cX7_count 105 = .ok (.getfield 66, 3) := by decide +kernel
theorem dX7_count_108 : decode cX7_count 108 = .ok (.getfield 97, 3) := by decide +kernel
theorem dX7_count_111 : decode cX7_count 111 = .ok (.ireturn, 1) := by decide +kernel
theorem dX7_count_112 : decode cX7_count 112 = .ok (.aload_n 0, 1) := by decide +kernel
theorem dX7_count_113 : decode cX7_count 113 = .ok (.getfield 19, 3) := by decide +kernel
theorem dX7_count_116 : decode cX7_count 116 = .ok (.getfield 70, 3) := by decide +kernel
theorem dX7_count_119 : decode cX7_count 119 = .ok (.ireturn, 1) := by decide +kernel
theorem dX7_count_120 : decode cX7_count 120 = .ok (.bipush (-3), 2) := by decide +kernel
theorem dX7_count_122 : decode cX7_count 122 = .ok (.ireturn, 1) := by decide +kernel
theorem dX7_isMinute_0 : decode cX7_isMinute 0 = .ok (.iload_n 0, 1) := by decide +kernel
theorem dX7_isMinute_1 : decode cX7_isMinute 1 = .ok (.ifCond .lt 13, 3) := by decide +kernel
theorem dX7_isMinute_4 : decode cX7_isMinute 4 = .ok (.iload_n 0, 1) := by decide +kernel
theorem dX7_isMinute_5 : decode cX7_isMinute 5 = .ok (.bipush 99, 2) := by decide +kernel
theorem dX7_isMinute_7 : decode cX7_isMinute 7 = .ok (.if_icmp .gt 7, 3) := by decide +kernel
theorem dX7_isMinute_10 : decode cX7_isMinute 10 = .ok (.iconst 1, 1) := by decide +kernel
theorem dX7_isMinute_11 : decode cX7_isMinute 11 = .ok (.goto 4, 3) := by decide +kernel
theorem dX7_isMinute_14 : decode cX7_isMinute 14 = .ok (.iconst 0, 1) := by decide +kernel
theorem dX7_isMinute_15 : decode cX7_isMinute 15 = .ok (.ireturn, 1) := by decide +kernel
theorem dX7_areMinutes_0 : decode cX7_areMinutes 0 = .ok (.iload_n 0, 1) := by decide +kernel
theorem dX7_areMinutes_1 : decode cX7_areMinutes 1 = .ok (.invokestatic 199, 3) := by decide +kernel
theorem dX7_areMinutes_4 : decode cX7_areMinutes 4 = .ok (.ifCond .eq 19, 3) := by decide +kernel
theorem dX7_areMinutes_7 : decode cX7_areMinutes 7 = .ok (.iload_n 1, 1) := by decide +kernel
theorem dX7_areMinutes_8 : decode cX7_areMinutes 8 = .ok (.invokestatic 199, 3) := by decide +kernel
theorem dX7_areMinutes_11 : decode cX7_areMinutes 11 = .ok (.ifCond .eq 12, 3) := by decide +kernel
theorem dX7_areMinutes_14 : decode cX7_areMinutes 14 = .ok (.iload_n 0, 1) := by decide +kernel
theorem dX7_areMinutes_15 : decode cX7_areMinutes 15 = .ok (.iload_n 1, 1) := by decide +kernel
theorem dX7_areMinutes_16 : decode cX7_areMinutes 16 = .ok (.if_icmp .gt 7, 3) := by decide +kernel
theorem dX7_areMinutes_19 : decode cX7_areMinutes 19 = .ok (.iconst 1, 1) := by decide +kernel
theorem dX7_areMinutes_20 : decode cX7_areMinutes 20 = .ok (.goto 4, 3) := by decide +kernel
theorem dX7_areMinutes_23 : decode cX7_areMinutes 23 = .ok (.iconst 0, 1) := by decide +kernel
theorem dX7_areMinutes_24 : decode cX7_areMinutes 24 = .ok (.ireturn, 1) := by decide +kernel
theorem dX7_isEither_0 : decode cX7_isEither 0 = .ok (.iload_n 0, 1) := by decide +kernel
theorem dX7_isEither_1 : decode cX7_isEither 1 = .ok (.ifCond .eq 8, 3) := by decide +kernel
theorem dX7_isEither_4 : decode cX7_isEither 4 = .ok (.iload_n 0, 1) := by decide +kernel
theorem dX7_isEither_5 : decode cX7_isEither 5 = .ok (.iconst 1, 1) := by decide +kernel
theorem dX7_isEither_6 : decode cX7_isEither 6 = .ok (.if_icmp .ne 7, 3) := by decide +kernel
theorem dX7_isEither_9 : decode cX7_isEither 9 = .ok (.iconst 1, 1) := by decide +kernel
theorem dX7_isEither_10 : decode cX7_isEither 10 = .ok (.goto 4, 3) := by decide +kernel
theorem dX7_isEither_13 : decode cX7_isEither 13 = .ok (.iconst 0, 1) := by decide +kernel
theorem dX7_isEither_14 : decode cX7_isEither 14 = .ok (.ireturn, 1) := by decide +kernel
theorem dX7_holds_0 : decode cX7_holds 0 = .ok (.iload_n 0, 1) := by decide +kernel
theorem dX7_holds_1 : decode cX7_holds 1 = .ok (.iload_n 1, 1) := by decide +kernel
theorem dX7_holds_2 : decode cX7_holds 2 = .ok (.ishr, 1) := by decide +kernel
theorem dX7_holds_3 : decode cX7_holds 3 = .ok (.iconst 1, 1) := by decide +kernel
theorem dX7_holds_4 : decode cX7_holds 4 = .ok (.iand, 1) := by decide +kernel
theorem dX7_holds_5 : decode cX7_holds 5 = .ok (.iconst 1, 1) := by decide +kernel
theorem dX7_holds_6 : decode cX7_holds 6 = .ok (.if_icmp .ne 7, 3) := by decide +kernel
theorem dX7_holds_9 : decode cX7_holds 9 = .ok (.iconst 1, 1) := by decide +kernel
theorem dX7_holds_10 : decode cX7_holds 10 = .ok (.goto 4, 3) := by decide +kernel
theorem dX7_holds_13 : decode cX7_holds 13 = .ok (.iconst 0, 1) := by decide +kernel
theorem dX7_holds_14 : decode cX7_holds 14 = .ok (.ireturn, 1) := by decide +kernel
theorem dX7_commonDivisor_0 : decode cX7_commonDivisor 0 = .ok (.iload_n 0, 1) := by decide +kernel
theorem dX7_commonDivisor_1 : decode cX7_commonDivisor 1 = .ok (.istore_n 2, 1) := by decide +kernel
theorem dX7_commonDivisor_2 : decode cX7_commonDivisor 2 = .ok (.iload_n 1, 1) := by decide +kernel
theorem dX7_commonDivisor_3 : decode cX7_commonDivisor 3 = .ok (.istore_n 3, 1) := by decide +kernel
theorem dX7_commonDivisor_4 : decode cX7_commonDivisor 4 = .ok (.iconst 0, 1) := by decide +kernel
theorem dX7_commonDivisor_5 : decode cX7_commonDivisor 5 = .ok (.istore 4, 2) := by decide +kernel
theorem dX7_commonDivisor_7 : decode cX7_commonDivisor 7 = .ok (.iload 4, 2) := by decide +kernel
theorem dX7_commonDivisor_9 : decode cX7_commonDivisor 9 = .ok (.bipush 64, 2) := by decide +kernel
theorem dX7_commonDivisor_11 : decode cX7_commonDivisor 11 = .ok (.if_icmp .ge 23, 3) := by decide +kernel
theorem dX7_commonDivisor_14 : decode cX7_commonDivisor 14 = .ok (.iload_n 3, 1) := by decide +kernel
theorem dX7_commonDivisor_15 : decode cX7_commonDivisor 15 = .ok (.ifCond .eq 19, 3) := by decide +kernel
theorem dX7_commonDivisor_18 : decode cX7_commonDivisor 18 = .ok (.iload_n 2, 1) := by decide +kernel
theorem dX7_commonDivisor_19 : decode cX7_commonDivisor 19 = .ok (.iload_n 3, 1) := by decide +kernel
theorem dX7_commonDivisor_20 : decode cX7_commonDivisor 20 = .ok (.irem, 1) := by decide +kernel
theorem dX7_commonDivisor_21 : decode cX7_commonDivisor 21 = .ok (.istore 5, 2) := by decide +kernel
theorem dX7_commonDivisor_23 : decode cX7_commonDivisor 23 = .ok (.iload_n 3, 1) := by decide +kernel
theorem dX7_commonDivisor_24 : decode cX7_commonDivisor 24 = .ok (.istore_n 2, 1) := by decide +kernel
theorem dX7_commonDivisor_25 : decode cX7_commonDivisor 25 = .ok (.iload 5, 2) := by decide +kernel
theorem dX7_commonDivisor_27 : decode cX7_commonDivisor 27 = .ok (.istore_n 3, 1) := by decide +kernel
theorem dX7_commonDivisor_28 : decode cX7_commonDivisor 28 = .ok (.iinc 4 1, 3) := by decide +kernel
theorem dX7_commonDivisor_31 : decode cX7_commonDivisor 31 = .ok (.goto (-24), 3) := by decide +kernel
theorem dX7_commonDivisor_34 : decode cX7_commonDivisor 34 = .ok (.iload_n 2, 1) := by decide +kernel
theorem dX7_commonDivisor_35 : decode cX7_commonDivisor 35 = .ok (.ireturn, 1) := by decide +kernel
theorem dX8_init_0 : decode cX8_init 0 = .ok (.aload_n 0, 1) := by decide +kernel
theorem dX8_init_1 : decode cX8_init 1 = .ok (.invokespecial 1, 3) := by decide +kernel
theorem dX8_init_4 : decode cX8_init 4 = .ok (.aload_n 0, 1) := by decide +kernel
theorem dX8_init_5 : decode cX8_init 5 = .ok (.bipush 81, 2) := by decide +kernel
theorem dX8_init_7 : decode cX8_init 7 = .ok (.newarray .int, 2) := by decide +kernel
theorem dX8_init_9 : decode cX8_init 9 = .ok (.putfield 7, 3) := by decide +kernel
theorem dX8_init_12 : decode cX8_init 12 = .ok (.aload_n 0, 1) := by decide +kernel
theorem dX8_init_13 : decode cX8_init 13 = .ok (.iconst 2, 1) := by decide +kernel
theorem dX8_init_14 : decode cX8_init 14 = .ok (.newarray .boolean, 2) := by decide +kernel
theorem dX8_init_16 : decode cX8_init 16 = .ok (.putfield 13, 3) := by decide +kernel
theorem dX8_init_19 : decode cX8_init 19 = .ok (.aload_n 0, 1) := by decide +kernel
theorem dX8_init_20 : decode cX8_init 20 = .ok (.sipush 200, 3) := by decide +kernel
theorem dX8_init_23 : decode cX8_init 23 = .ok (.newarray .int, 2) := by decide +kernel
theorem dX8_init_25 : decode cX8_init 25 = .ok (.putfield 17, 3) := by decide +kernel
theorem dX8_init_28 : decode cX8_init 28 = .ok (.aload_n 0, 1) := by decide +kernel
theorem dX8_init_29 : decode cX8_init 29 = .ok (.bipush 60, 2) := by decide +kernel
theorem dX8_init_31 : decode cX8_init 31 = .ok (.newarray .int, 2) := by decide +kernel
theorem dX8_init_33 : decode cX8_init 33 = .ok (.putfield 20, 3) := by decide +kernel
theorem dX8_init_36 : decode cX8_init 36 = .ok (.aload_n 0, 1) := by decide +kernel
theorem dX8_init_37 : decode cX8_init 37 = .ok (.bipush 8, 2) := by decide +kernel
theorem dX8_init_39 : decode cX8_init 39 = .ok (.putfield 23, 3) := by decide +kernel
theorem dX8_init_42 : decode cX8_init 42 = .ok (.aload_n 0, 1) := by decide +kernel
theorem dX8_init_43 : decode cX8_init 43 = .ok (.bipush 6, 2) := by decide +kernel
theorem dX8_init_45 : decode cX8_init 45 = .ok (.newarray .int, 2) := by decide +kernel
theorem dX8_init_47 : decode cX8_init 47 = .ok (.putfield 27, 3) := by decide +kernel
theorem dX8_init_50 : decode cX8_init 50 = .ok (.aload_n 0, 1) := by decide +kernel
theorem dX8_init_51 : decode cX8_init 51 = .ok (.bipush 6, 2) := by decide +kernel
theorem dX8_init_53 : decode cX8_init 53 = .ok (.newarray .int, 2) := by decide +kernel
theorem dX8_init_55 : decode cX8_init 55 = .ok (.putfield 30, 3) := by decide +kernel
theorem dX8_init_58 : decode cX8_init 58 = .ok (.aload_n 0, 1) := by decide +kernel
theorem dX8_init_59 : decode cX8_init 59 = .ok (.bipush 6, 2) := by decide +kernel
theorem dX8_init_61 : decode cX8_init 61 = .ok (.newarray .int, 2) := by decide +kernel
theorem dX8_init_63 : decode cX8_init 63 = .ok (.putfield 33, 3) := by decide +kernel
theorem dX8_init_66 : decode cX8_init 66 = .ok (.aload_n 0, 1) := by decide +kernel
theorem dX8_init_67 : decode cX8_init 67 = .ok (.bipush 6, 2) := by decide +kernel
theorem dX8_init_69 : decode cX8_init 69 = .ok (.newarray .int, 2) := by decide +kernel
theorem dX8_init_71 : decode cX8_init 71 = .ok (.putfield 36, 3) := by decide +kernel
theorem dX8_init_74 : decode cX8_init 74 = .ok (.aload_n 0, 1) := by decide +kernel
theorem dX8_init_75 : decode cX8_init 75 = .ok (.bipush 6, 2) := by decide +kernel
theorem dX8_init_77 : decode cX8_init 77 = .ok (.newarray .int, 2) := by decide +kernel
theorem dX8_init_79 : decode cX8_init 79 = .ok (.putfield 39, 3) := by decide +kernel
theorem dX8_init_82 : decode cX8_init 82 = .ok (.aload_n 0, 1) := by decide +kernel
theorem dX8_init_83 : decode cX8_init 83 = .ok (.bipush 6, 2) := by decide +kernel
theorem dX8_init_85 : decode cX8_init 85 = .ok (.newarray .int, 2) := by decide +kernel
theorem dX8_init_87 : decode cX8_init 87 = .ok (.putfield 42, 3) := by decide +kernel
theorem dX8_init_90 : decode cX8_init 90 = .ok (.aload_n 0, 1) := by decide +kernel
theorem dX8_init_91 : decode cX8_init 91 = .ok (.bipush 6, 2) := by decide +kernel
theorem dX8_init_93 : decode cX8_init 93 = .ok (.newarray .int, 2) := by decide +kernel
theorem dX8_init_95 : decode cX8_init 95 = .ok (.putfield 45, 3) := by decide +kernel
theorem dX8_init_98 : decode cX8_init 98 = .ok (.aload_n 0, 1) := by decide +kernel
theorem dX8_init_99 : decode cX8_init 99 = .ok (.bipush 6, 2) := by decide +kernel
theorem dX8_init_101 : decode cX8_init 101 = .ok (.newarray .int, 2) := by decide +kernel
theorem dX8_init_103 : decode cX8_init 103 = .ok (.putfield 48, 3) := by decide +kernel
theorem dX8_init_106 : decode cX8_init 106 = .ok (.aload_n 0, 1) := by decide +kernel
theorem dX8_init_107 : decode cX8_init 107 = .ok (.bipush 6, 2) := by decide +kernel
theorem dX8_init_109 : decode cX8_init 109 = .ok (.newarray .int, 2) := by decide +kernel
theorem dX8_init_111 : decode cX8_init 111 = .ok (.putfield 51, 3) := by decide +kernel
theorem dX8_init_114 : decode cX8_init 114 = .ok (.aload_n 0, 1) := by decide +kernel
theorem dX8_init_115 : decode cX8_init 115 = .ok (.sipush 384, 3) := by decide +kernel
theorem dX8_init_118 : decode cX8_init 118 = .ok (.newarray .int, 2) := by decide +kernel
theorem dX8_init_120 : decode cX8_init 120 = .ok (.putfield 54, 3) := by decide +kernel
theorem dX8_init_123 : decode cX8_init 123 = .ok (.aload_n 0, 1) := by decide +kernel
theorem dX8_init_124 : decode cX8_init 124 = .ok (.bipush 6, 2) := by decide +kernel
theorem dX8_init_126 : decode cX8_init 126 = .ok (.newarray .int, 2) := by decide +kernel
theorem dX8_init_128 : decode cX8_init 128 = .ok (.putfield 57, 3) := by decide +kernel
theorem dX8_init_131 : decode cX8_init 131 = .ok (.aload_n 0, 1) := by decide +kernel
theorem dX8_init_132 : decode cX8_init 132 = .ok (.bipush 12, 2) := by decide +kernel
theorem dX8_init_134 : decode cX8_init 134 = .ok (.newarray .int, 2) := by decide +kernel
theorem dX8_init_136 : decode cX8_init 136 = .ok (.putfield 60, 3) := by decide +kernel
theorem dX8_init_139 : decode cX8_init 139 = .ok (.aload_n 0, 1) := by decide +kernel
theorem dX8_init_140 : decode cX8_init 140 = .ok (.invokevirtual 63, 3) := by decide +kernel
theorem dX8_init_143 : decode cX8_init 143 = .ok (.return_, 1) := by decide +kernel
theorem dX8_in_0 : decode cX8_in 0 = .ok (.lload_n 0, 1) := by decide +kernel
theorem dX8_in_1 : decode cX8_in 1 = .ok (.lload_n 2, 1) := by decide +kernel
theorem dX8_in_2 : decode cX8_in 2 = .ok (.lcmp, 1) := by decide +kernel
theorem dX8_in_3 : decode cX8_in 3 = .ok (.ifCond .lt 14, 3) := by decide +kernel
theorem dX8_in_6 : decode cX8_in 6 = .ok (.lload_n 0, 1) := by decide +kernel
theorem dX8_in_7 : decode cX8_in 7 = .ok (.lload 4, 2) := by decide +kernel
theorem dX8_in_9 : decode cX8_in 9 = .ok (.lcmp, 1) := by decide +kernel
theorem dX8_in_10 : decode cX8_in 10 = .ok (.ifCond .gt 7, 3) := by decide +kernel
theorem dX8_in_13 : decode cX8_in 13 = .ok (.iconst 1, 1) := by decide +kernel
theorem dX8_in_14 : decode cX8_in 14 = .ok (.goto 4, 3) := by decide +kernel
theorem dX8_in_17 : decode cX8_in 17 = .ok (.iconst 0, 1) := by decide +kernel
theorem dX8_in_18 : decode cX8_in 18 = .ok (.ireturn, 1) := by decide +kernel
theorem dX8_has_0 : decode cX8_has 0 = .ok (.iload_n 0, 1) := by decide +kernel
theorem dX8_has_1 : decode cX8_has 1 = .ok (.iload_n 1, 1) := by decide +kernel
theorem dX8_has_2 : decode cX8_has 2 = .ok (.ishr, 1) := by decide +kernel
theorem dX8_has_3 : decode cX8_has 3 = .ok (.iconst 1, 1) := by decide +kernel
theorem dX8_has_4 : decode cX8_has 4 = .ok (.iand, 1) := by decide +kernel
theorem dX8_has_5 : decode cX8_has 5 = .ok (.iconst 1, 1) := by decide +kernel
theorem dX8_has_6 : decode cX8_has 6 = .ok (.if_icmp .ne 7, 3) := by decide +kernel
theorem dX8_has_9 : decode cX8_has 9 = .ok (.iconst 1, 1) := by decide +kernel
theorem dX8_has_10 : decode cX8_has 10 = .ok (.goto 4, 3) := by decide +kernel
theorem dX8_has_13 : decode cX8_has 13 = .ok (.iconst 0, 1) := by decide +kernel
theorem dX8_has_14 : decode cX8_has 14 = .ok (.ireturn, 1) := by decide +kernel
theorem dX8_bits_0 : decode cX8_bits 0 = .ok (.iconst 0, 1) := by decide +kernel
theorem dX8_bits_1 : decode cX8_bits 1 = .ok (.istore_n 1, 1) := by decide +kernel
theorem dX8_bits_2 : decode cX8_bits 2 = .ok (.iconst 0, 1) := by decide +kernel
theorem dX8_bits_3 : decode cX8_bits 3 = .ok (.istore_n 2, 1) := by decide +kernel
theorem dX8_bits_4 : decode cX8_bits 4 = .ok (.iload_n 2, 1) := by decide +kernel
theorem dX8_bits_5 : decode cX8_bits 5 = .ok (.bipush 12, 2) := by decide +kernel
theorem dX8_bits_7 : decode cX8_bits 7 = .ok (.if_icmp .ge 17, 3) := by decide +kernel
theorem dX8_bits_10 : decode cX8_bits 10 = .ok (.iload_n 1, 1) := by decide +kernel
theorem dX8_bits_11 : decode cX8_bits 11 = .ok (.iload_n 0, 1) := by decide +kernel
theorem dX8_bits_12 : decode cX8_bits 12 = .ok (.iload_n 2, 1) := by decide +kernel
theorem dX8_bits_13 : decode cX8_bits 13 = .ok (.ishr, 1) := by decide +kernel
theorem dX8_bits_14 : decode cX8_bits 14 = .ok (.iconst 1, 1) := by decide +kernel
theorem dX8_bits_15 : decode cX8_bits 15 = .ok (.iand, 1) := by decide +kernel
theorem dX8_bits_16 : decode cX8_bits 16 = .ok (.iadd, 1) := by decide +kernel
theorem dX8_bits_17 : decode cX8_bits 17 = .ok (.istore_n 1, 1) := by decide +kernel
theorem dX8_bits_18 : decode cX8_bits 18 = .ok (.iinc 2 1, 3) := by decide +kernel
theorem dX8_bits_21 : decode cX8_bits 21 = .ok (.goto (-17), 3) := by decide +kernel
theorem dX8_bits_24 : decode cX8_bits 24 = .ok (.iload_n 1, 1) := by decide +kernel
theorem dX8_bits_25 : decode cX8_bits 25 = .ok (.ireturn, 1) := by decide +kernel
theorem dX8_begin_0 : decode cX8_begin 0 = .ok (.iconst 0, 1) := by decide +kernel
theorem dX8_begin_1 : decode cX8_begin 1 = .ok (.istore_n 1, 1) := by decide +kernel
theorem dX8_begin_2 : decode cX8_begin 2 = .ok (.iload_n 1, 1) := by decide +kernel
theorem dX8_begin_3 : decode cX8_begin 3 = .ok (.bipush 27, 2) := by decide +kernel
theorem dX8_begin_5 : decode cX8_begin 5 = .ok (.if_icmp .ge 34, 3) := by decide +kernel
theorem dX8_begin_8 : decode cX8_begin 8 = .ok (.aload_n 0, 1) := by decide +kernel
theorem dX8_begin_9 : decode cX8_begin 9 = .ok (.getfield 7, 3) := by decide +kernel
theorem dX8_begin_12 : decode cX8_begin 12 = .ok (.iload_n 1, 1) := by decide +kernel
theorem dX8_begin_13 : decode cX8_begin 13 = .ok (.iload_n 1, 1) := by decide +kernel
theorem dX8_begin_14 : decode cX8_begin 14 = .ok (.i2l, 1) := by decide +kernel
theorem dX8_begin_15 : decode cX8_begin 15 = .ok (.ldc2_w 66, 3) := by decide +kernel
theorem dX8_begin_18 : decode cX8_begin 18 = .ok (.ldc2_w 68, 3) := by decide +kernel
theorem dX8_begin_21 : decode cX8_begin 21 = .ok (.invokestatic 70, 3) := by decide +kernel
theorem dX8_begin_24 : decode cX8_begin 24 = .ok (.ifCond .eq 7, 3) := by decide +kernel
theorem dX8_begin_27 : decode cX8_begin 27 = .ok (.iconst (-1), 1) := by decide +kernel
theorem dX8_begin_28 : decode cX8_begin 28 = .ok (.goto 4, 3) := by decide +kernel
theorem dX8_begin_31 : decode cX8_begin 31 = .ok (.iconst 0, 1) := by decide +kernel
theorem dX8_begin_32 : decode cX8_begin 32 = .ok (.iastore, 1) := by decide +kernel
theorem dX8_begin_33 : decode cX8_begin 33 = .ok (.iinc 1 1, 3) := by decide +kernel
theorem dX8_begin_36 : decode cX8_begin 36 = .ok (.goto (-34), 3) := by decide +kernel
theorem dX8_begin_39 : decode cX8_begin 39 = .ok (.iconst 0, 1) := by decide +kernel
theorem dX8_begin_40 : decode cX8_begin 40 = .ok (.istore_n 1, 1) := by decide +kernel
theorem dX8_begin_41 : decode cX8_begin 41 = .ok (.iload_n 1, 1) := by decide +kernel
theorem dX8_begin_42 : decode cX8_begin 42 = .ok (.aload_n 0, 1) := by decide +kernel
theorem dX8_begin_43 : decode cX8_begin 43 = .ok (.getfield 74, 3) := by decide +kernel
theorem dX8_begin_46 : decode cX8_begin 46 = .ok (.if_icmp .ge 23, 3) := by decide +kernel
theorem dX8_begin_49 : decode cX8_begin 49 = .ok (.aload_n 0, 1) := by decide +kernel
theorem dX8_begin_50 : decode cX8_begin 50 = .ok (.getfield 7, 3) := by decide +kernel
theorem dX8_begin_53 : decode cX8_begin 53 = .ok (.iconst 3, 1) := by decide +kernel
theorem dX8_begin_54 : decode cX8_begin 54 = .ok (.iload_n 1, 1) := by decide +kernel
theorem dX8_begin_55 : decode cX8_begin 55 = .ok (.iadd, 1) := by decide +kernel
theorem dX8_begin_56 : decode cX8_begin 56 = .ok (.aload_n 0, 1) := by decide +kernel
theorem dX8_begin_57 : decode cX8_begin 57 = .ok (.getfield 30, 3) := by decide +kernel
theorem dX8_begin_60 : decode cX8_begin 60 = .ok (.iload_n 1, 1) := by decide +kernel
theorem dX8_begin_61 : decode cX8_begin 61 = .ok (.iaload, 1) := by decide +kernel
theorem dX8_begin_62 : decode cX8_begin 62 = .ok (.iastore, 1) := by decide +kernel
theorem dX8_begin_63 : decode cX8_begin 63 = .ok (.iinc 1 1, 3) := by decide +kernel
theorem dX8_begin_66 : decode cX8_begin 66 = .ok (.goto (-25), 3) := by decide +kernel
theorem dX8_begin_69 : decode cX8_begin 69 = .ok (.return_, 1) := by decide +kernel
theorem dX8_write_0 : decode cX8_write 0 = .ok (.iload_n 3, 1) := by decide +kernel
theorem dX8_write_1 : decode cX8_write 1 = .ok (.i2l, 1) := by decide +kernel
theorem dX8_write_2 : decode cX8_write 2 = .ok (.lconst 1, 1) := by decide +kernel
theorem dX8_write_3 : decode cX8_write 3 = .ok (.ldc2_w 77, 3) := by decide +kernel
theorem dX8_write_6 : decode cX8_write 6 = .ok (.invokestatic 70, 3) := by decide +kernel
theorem dX8_write_9 : decode cX8_write 9 = .ok (.ifCond .ne 6, 3) := by decide +kernel
theorem dX8_write_12 : decode cX8_write 12 = .ok (.bipush (-3), 2) := by decide +kernel
theorem dX8_write_14 : decode cX8_write 14 = .ok (.ireturn, 1) := by decide +kernel
theorem dX8_write_15 : decode cX8_write 15 = .ok (.aload_n 0, 1) := by decide +kernel
theorem dX8_write_16 : decode cX8_write 16 = .ok (.getfield 79, 3) := by decide +kernel
theorem dX8_write_19 : decode cX8_write 19 = .ok (.iload_n 3, 1) := by decide +kernel
theorem dX8_write_20 : decode cX8_write 20 = .ok (.iadd, 1) := by decide +kernel
theorem dX8_write_21 : decode cX8_write 21 = .ok (.sipush 200, 3) := by decide +kernel
theorem dX8_write_24 : decode cX8_write 24 = .ok (.if_icmp .le 6, 3) := by decide +kernel
theorem dX8_write_27 : decode cX8_write 27 = .ok (.bipush (-5), 2) := by decide +kernel
theorem dX8_write_29 : decode cX8_write 29 = .ok (.ireturn, 1) := by decide +kernel
theorem dX8_write_30 : decode cX8_write 30 = .ok (.iconst 0, 1) := by decide +kernel
theorem dX8_write_31 : decode cX8_write 31 = .ok (.istore 4, 2) := by decide +kernel
theorem dX8_write_33 : decode cX8_write 33 = .ok (.iload 4, 2) := by decide +kernel
theorem dX8_write_35 : decode cX8_write 35 = .ok (.iload_n 3, 1) := by decide +kernel
theorem dX8_write_36 : decode cX8_write 36 = .ok (.if_icmp .ge 40, 3) := by decide +kernel
theorem dX8_write_39 : decode cX8_write 39 = .ok (.aload_n 0, 1) := by decide +kernel
theorem dX8_write_40 : decode cX8_write 40 = .ok (.getfield 17, 3) := by decide +kernel
theorem dX8_write_43 : decode cX8_write 43 = .ok (.aload_n 0, 1) := by decide +kernel
theorem dX8_write_44 : decode cX8_write 44 = .ok (.getfield 79, 3) := by decide +kernel
theorem dX8_write_47 : decode cX8_write 47 = .ok (.lload_n 1, 1) := by decide +kernel
theorem dX8_write_48 : decode cX8_write 48 = .ok (.bipush 8, 2) := by decide +kernel
theorem dX8_write_50 : decode cX8_write 50 = .ok (.iload 4, 2) := by decide +kernel
theorem dX8_write_52 : decode cX8_write 52 = .ok (.imul, 1) := by decide +kernel
theorem dX8_write_53 : decode cX8_write 53 = .ok (.lshr, 1) := by decide +kernel
theorem dX8_write_54 : decode cX8_write 54 = .ok (.ldc2_w 82, 3) := by decide +kernel
theorem dX8_write_57 : decode cX8_write 57 = .ok (.land, 1) := by decide +kernel
theorem dX8_write_58 : decode cX8_write 58 = .ok (.l2i, 1) := by decide +kernel
theorem dX8_write_59 : decode cX8_write 59 = .ok (.iastore, 1) := by decide +kernel
theorem dX8_write_60 : decode cX8_write 60 = .ok (.aload_n 0, 1) := by decide +kernel
theorem dX8_write_61 : decode cX8_write 61 = .ok (.dup, 1) := by decide +kernel
theorem dX8_write_62 : decode cX8_write 62 = .ok (.getfield 79, 3) := by decide +kernel
theorem dX8_write_65 : decode cX8_write 65 = .ok (.iconst 1, 1) := by decide +kernel
theorem dX8_write_66 : decode cX8_write 66 = .ok (.iadd, 1) := by decide +kernel
theorem dX8_write_67 : decode cX8_write 67 = .ok (.putfield 79, 3) := by decide +kernel
theorem dX8_write_70 : decode cX8_write 70 = .ok (.iinc 4 1, 3) := by decide +kernel
theorem dX8_write_73 : decode cX8_write 73 = .ok (.goto (-40), 3) := by decide +kernel
theorem dX8_write_76 : decode cX8_write 76 = .ok (.aload_n 0, 1) := by decide +kernel
theorem dX8_write_77 : decode cX8_write 77 = .ok (.getfield 79, 3) := by decide +kernel
theorem dX8_write_80 : decode cX8_write 80 = .ok (.ireturn, 1) := by decide +kernel
theorem dX8_erase_0 : decode cX8_erase 0 = .ok (.aload_n 0, 1) := by decide +kernel
theorem dX8_erase_1 : decode cX8_erase 1 = .ok (.getfield 79, 3) := by decide +kernel
theorem dX8_erase_4 : decode cX8_erase 4 = .ok (.istore_n 1, 1) := by decide +kernel
theorem dX8_erase_5 : decode cX8_erase 5 = .ok (.aload_n 0, 1) := by decide +kernel
theorem dX8_erase_6 : decode cX8_erase 6 = .ok (.iconst 0, 1) := by decide +kernel
theorem dX8_erase_7 : decode cX8_erase 7 = .ok (.putfield 79, 3) := by decide +kernel
theorem dX8_erase_10 : decode cX8_erase 10 = .ok (.iload_n 1, 1) := by decide +kernel
theorem dX8_erase_11 : decode cX8_erase 11 = .ok (.ireturn, 1) := by decide +kernel
theorem dX8_sort_0 : decode cX8_sort 0 = .ok (.iload_n 0, 1) := by decide +kernel
theorem dX8_sort_1 : decode cX8_sort 1 = .ok (.bipush 97, 2) := by decide +kernel
theorem dX8_sort_3 : decode cX8_sort 3 = .ok (.if_icmp .lt 13, 3) := by decide +kernel
theorem dX8_sort_6 : decode cX8_sort 6 = .ok (.iload_n 0, 1) := by decide +kernel
theorem dX8_sort_7 : decode cX8_sort 7 = .ok (.bipush 122, 2) := by decide +kernel
theorem dX8_sort_9 : decode cX8_sort 9 = .ok (.if_icmp .gt 7, 3) := by decide +kernel
theorem dX8_sort_12 : decode cX8_sort 12 = .ok (.iconst 1, 1) := by decide +kernel
theorem dX8_sort_13 : decode cX8_sort 13 = .ok (.goto 20, 3) := by decide +kernel
theorem dX8_sort_16 : decode cX8_sort 16 = .ok (.iload_n 0, 1) := by decide +kernel
theorem dX8_sort_17 : decode cX8_sort 17 = .ok (.bipush 48, 2) := by decide +kernel
theorem dX8_sort_19 : decode cX8_sort 19 = .ok (.if_icmp .lt 13, 3) := by decide +kernel
theorem dX8_sort_22 : decode cX8_sort 22 = .ok (.iload_n 0, 1) := by decide +kernel
theorem dX8_sort_23 : decode cX8_sort 23 = .ok (.bipush 57, 2) := by decide +kernel
theorem dX8_sort_25 : decode cX8_sort 25 = .ok (.if_icmp .gt 7, 3) := by decide +kernel
theorem dX8_sort_28 : decode cX8_sort 28 = .ok (.iconst 2, 1) := by decide +kernel
theorem dX8_sort_29 : decode cX8_sort 29 = .ok (.goto 4, 3) := by decide +kernel
theorem dX8_sort_32 : decode cX8_sort 32 = .ok (.iconst 0, 1) := by decide +kernel
theorem dX8_sort_33 : decode cX8_sort 33 = .ok (.ireturn, 1) := by decide +kernel
theorem dX8_token_0 : decode cX8_token 0 = .ok (.aload_n 0, 1) := by decide +kernel
theorem dX8_token_1 : decode cX8_token 1 = .ok (.getfield 84, 3) := by decide +kernel
theorem dX8_token_4 : decode cX8_token 4 = .ok (.aload_n 0, 1) := by decide +kernel
theorem dX8_token_5 : decode cX8_token 5 = .ok (.getfield 79, 3) := by decide +kernel
theorem dX8_token_8 : decode cX8_token 8 = .ok (.if_icmp .ge 30, 3) := by decide +kernel
theorem dX8_token_11 : decode cX8_token 11 = .ok (.aload_n 0, 1) := by decide +kernel
theorem dX8_token_12 : decode cX8_token 12 = .ok (.getfield 17, 3) := by decide +kernel
theorem dX8_token_15 : decode cX8_token 15 = .ok (.aload_n 0, 1) := by decide +kernel
theorem dX8_token_16 : decode cX8_token 16 = .ok (.getfield 84, 3) := by decide +kernel
theorem dX8_token_19 : decode cX8_token 19 = .ok (.iaload, 1) := by decide +kernel
theorem dX8_token_20 : decode cX8_token 20 = .ok (.bipush 32, 2) := by decide +kernel
theorem dX8_token_22 : decode cX8_token 22 = .ok (.if_icmp .ne 16, 3) := by decide +kernel
theorem dX8_token_25 : decode cX8_token 25 = .ok (.aload_n 0, 1) := by decide +kernel
theorem dX8_token_26 : decode cX8_token 26 = .ok (.dup, 1) := by decide +kernel
theorem dX8_token_27 : decode cX8_token 27 = .ok (.getfield 84, 3) := by decide +kernel
theorem dX8_token_30 : decode cX8_token 30 = .ok (.iconst 1, 1) := by decide +kernel
theorem dX8_token_31 : decode cX8_token 31 = .ok (.iadd, 1) := by decide +kernel
theorem dX8_token_32 : decode cX8_token 32 = .ok (.putfield 84, 3) := by decide +kernel
theorem dX8_token_35 : decode cX8_token 35 = .ok (.goto (-35), 3) := by decide +kernel
theorem dX8_token_38 : decode cX8_token 38 = .ok (.aload_n 0, 1) := by decide +kernel
theorem dX8_token_39 : decode cX8_token 39 = .ok (.aload_n 0, 1) := by decide +kernel
theorem dX8_token_40 : decode cX8_token 40 = .ok (.getfield 84, 3) := by decide +kernel
theorem dX8_token_43 : decode cX8_token 43 = .ok (.putfield 87, 3) := by decide +kernel
theorem dX8_token_46 : decode cX8_token 46 = .ok (.aload_n 0, 1) := by decide +kernel
theorem dX8_token_47 : decode cX8_token 47 = .ok (.dup, 1) := by decide +kernel
theorem dX8_token_48 : decode cX8_token 48 = .ok (.getfield 84, 3) := by decide +kernel
theorem dX8_token_51 : decode cX8_token 51 = .ok (.aload_n 0, 1) := by decide +kernel
theorem dX8_token_52 : decode cX8_token 52 = .ok (.getfield 84, 3) := by decide +kernel
theorem dX8_token_55 : decode cX8_token 55 = .ok (.aload_n 0, 1) := by decide +kernel
theorem dX8_token_56 : decode cX8_token 56 = .ok (.getfield 79, 3) := by decide +kernel
theorem dX8_token_59 : decode cX8_token 59 = .ok (.if_icmp .ge 7, 3) := by decide +kernel
theorem dX8_token_62 : decode cX8_token 62 = .ok (.iconst 1, 1) := by decide +kernel
theorem dX8_token_63 : decode cX8_token 63 = .ok (.goto 4, 3) := by decide +kernel
theorem dX8_token_66 : decode cX8_token 66 = .ok (.iconst 0, 1) := by decide +kernel
theorem dX8_token_67 : decode cX8_token 67 = .ok (.iadd, 1) := by decide +kernel
theorem dX8_token_68 : decode cX8_token 68 = .ok (.putfield 84, 3) := by decide +kernel
theorem dX8_token_71 : decode cX8_token 71 = .ok (.aload_n 0, 1) := by decide +kernel
theorem dX8_token_72 : decode cX8_token 72 = .ok (.getfield 84, 3) := by decide +kernel
theorem dX8_token_75 : decode cX8_token 75 = .ok (.aload_n 0, 1) := by decide +kernel
theorem dX8_token_76 : decode cX8_token 76 = .ok (.getfield 79, 3) := by decide +kernel
theorem dX8_token_79 : decode cX8_token 79 = .ok (.if_icmp .ge 58, 3) := by decide +kernel
theorem dX8_token_82 : decode cX8_token 82 = .ok (.aload_n 0, 1) := by decide +kernel
theorem dX8_token_83 : decode cX8_token 83 = .ok (.getfield 17, 3) := by decide +kernel
theorem dX8_token_86 : decode cX8_token 86 = .ok (.aload_n 0, 1) := by decide +kernel
theorem dX8_token_87 : decode cX8_token 87 = .ok (.getfield 87, 3) := by decide +kernel
theorem dX8_token_90 : decode cX8_token 90 = .ok (.iaload, 1) := by decide +kernel
theorem dX8_token_91 : decode cX8_token 91 = .ok (.invokestatic 90, 3) := by decide +kernel
theorem dX8_token_94 : decode cX8_token 94 = .ok (.ifCond .le 43, 3) := by decide +kernel
theorem dX8_token_97 : decode cX8_token 97 = .ok (.aload_n 0, 1) := by decide +kernel
theorem dX8_token_98 : decode cX8_token 98 = .ok (.getfield 17, 3) := by decide +kernel
theorem dX8_token_101 : decode cX8_token 101 = .ok (.aload_n 0, 1) := by decide +kernel
theorem dX8_token_102 : decode cX8_token 102 = .ok (.getfield 84, 3) := by decide +kernel
theorem dX8_token_105 : decode cX8_token 105 = .ok (.iaload, 1) := by decide +kernel
theorem dX8_token_106 : decode cX8_token 106 = .ok (.invokestatic 90, 3) := by decide +kernel
theorem dX8_token_109 : decode cX8_token 109 = .ok (.aload_n 0, 1) := by decide +kernel
theorem dX8_token_110 : decode cX8_token 110 = .ok (.getfield 17, 3) := by decide +kernel
theorem dX8_token_113 : decode cX8_token 113 = .ok (.aload_n 0, 1) := by decide +kernel
theorem dX8_token_114 : decode cX8_token 114 = .ok (.getfield 87, 3) := by decide +kernel
theorem dX8_token_117 : decode cX8_token 117 = .ok (.iaload, 1) := by decide +kernel
theorem dX8_token_118 : decode cX8_token 118 = .ok (.invokestatic 90, 3) := by decide +kernel
theorem dX8_token_121 : decode cX8_token 121 = .ok (.if_icmp .ne 16, 3) := by decide +kernel
theorem dX8_token_124 : decode cX8_token 124 = .ok (.aload_n 0, 1) := by decide +kernel
theorem dX8_token_125 : decode cX8_token 125 = .ok (.dup, 1) := by decide +kernel
theorem dX8_token_126 : decode cX8_token 126 = .ok (.getfield 84, 3) := by decide +kernel
theorem dX8_token_129 : decode cX8_token 129 = .ok (.iconst 1, 1) := by decide +kernel
theorem dX8_token_130 : decode cX8_token 130 = .ok (.iadd, 1) := by decide +kernel
theorem dX8_token_131 : decode cX8_token 131 = .ok (.putfield 84, 3) := by decide +kernel
theorem dX8_token_134 : decode cX8_token 134 = .ok (.goto (-63), 3) := by decide +kernel
theorem dX8_token_137 : decode cX8_token 137 = .ok (.aload_n 0, 1) := by decide +kernel
theorem dX8_token_138 : decode cX8_token 138 = .ok (.aload_n 0, 1) := by decide +kernel
theorem dX8_token_139 : decode cX8_token 139 = .ok (.getfield 84, 3) := by decide +kernel
theorem dX8_token_142 : decode cX8_token 142 = .ok (.putfield 94, 3) := by decide +kernel
theorem dX8_token_145 : decode cX8_token 145 = .ok (.return_, 1) := by decide +kernel
theorem dX8_isWord_0 : decode cX8_isWord 0 = .ok (.aload_n 0, 1) := by decide +kernel
theorem dX8_isWord_1 : decode cX8_isWord 1 = .ok (.getfield 94, 3) := by decide +kernel
theorem dX8_isWord_4 : decode cX8_isWord 4 = .ok (.aload_n 0, 1) := by decide +kernel
theorem dX8_isWord_5 : decode cX8_isWord 5 = .ok (.getfield 87, 3) := by decide +kernel
theorem dX8_isWord_8 : decode cX8_isWord 8 = .ok (.isub, 1) := by decide +kernel
theorem dX8_isWord_9 : decode cX8_isWord 9 = .ok (.iload_n 2, 1) := by decide +kernel
theorem dX8_isWord_10 : decode cX8_isWord 10 = .ok (.if_icmp .ne 7, 3) := by decide +kernel
theorem dX8_isWord_13 : decode cX8_isWord 13 = .ok (.iconst 1, 1) := by decide +kernel
theorem dX8_isWord_14 : decode cX8_isWord 14 = .ok (.goto 4, 3) := by decide +kernel
theorem dX8_isWord_17 : decode cX8_isWord 17 = .ok (.iconst 0, 1) := by decide +kernel
theorem dX8_isWord_18 : decode cX8_isWord 18 = .ok (.istore_n 3, 1) := by decide +kernel
theorem dX8_isWord_19 : decode cX8_isWord 19 = .ok (.iconst 0, 1) := by decide +kernel
theorem dX8_isWord_20 : decode cX8_isWord 20 = .ok (.istore 4, 2) := by decide +kernel
theorem dX8_isWord_22 : decode cX8_isWord 22 = .ok (.iload_n 3, 1) := by decide +kernel
theorem dX8_isWord_23 : decode cX8_isWord 23 = .ok (.ifCond .eq 48, 3) := by decide +kernel
theorem dX8_isWord_26 : decode cX8_isWord 26 = .ok (.iload 4, 2) := by decide +kernel
theorem dX8_isWord_28 : decode cX8_isWord 28 = .ok (.iload_n 2, 1) := by decide +kernel
theorem dX8_isWord_29 : decode cX8_isWord 29 = .ok (.if_icmp .ge 42, 3) := by decide +kernel
theorem dX8_isWord_32 : decode cX8_isWord 32 = .ok (.aload_n 0, 1) := by decide +kernel
theorem dX8_isWord_33 : decode cX8_isWord 33 = .ok (.getfield 17, 3) := by decide +kernel
theorem dX8_isWord_36 : decode cX8_isWord 36 = .ok (.aload_n 0, 1) := by decide +kernel
theorem dX8_isWord_37 : decode cX8_isWord 37 = .ok (.getfield 87, 3) := by decide +kernel
theorem dX8_isWord_40 : decode cX8_isWord 40 = .ok (.iload 4, 2) := by decide +kernel
theorem dX8_isWord_42 : decode cX8_isWord 42 = .ok (.iadd, 1) := by decide +kernel
theorem dX8_isWord_43 : decode cX8_isWord 43 = .ok (.iaload, 1) := by decide +kernel
theorem dX8_isWord_44 : decode cX8_isWord 44 = .ok (.bipush 96, 2) := by decide +kernel
theorem dX8_isWord_46 : decode cX8_isWord 46 = .ok (.iload_n 1, 1) := by decide +kernel
theorem dX8_isWord_47 : decode cX8_isWord 47 = .ok (.iconst 5, 1) := by decide +kernel
theorem dX8_isWord_48 : decode cX8_isWord 48 = .ok (.iload 4, 2) := by decide +kernel
theorem dX8_isWord_50 : decode cX8_isWord 50 = .ok (.imul, 1) := by decide +kernel
theorem dX8_isWord_51 : decode cX8_isWord 51 = .ok (.ishr, 1) := by decide +kernel
theorem dX8_isWord_52 : decode cX8_isWord 52 = .ok (.bipush 31, 2) := by decide +kernel
theorem dX8_isWord_54 : decode cX8_isWord 54 = .ok (.iand, 1) := by decide +kernel
theorem dX8_isWord_55 : decode cX8_isWord 55 = .ok (.iadd, 1) := by decide +kernel
theorem dX8_isWord_56 : decode cX8_isWord 56 = .ok (.if_icmp .ne 7, 3) := by decide +kernel
theorem dX8_isWord_59 : decode cX8_isWord 59 = .ok (.iconst 1, 1) := by decide +kernel
theorem dX8_isWord_60 : decode cX8_isWord 60 = .ok (.goto 4, 3) := by decide +kernel
theorem dX8_isWord_63 : decode cX8_isWord 63 = .ok (.iconst 0, 1) := by decide +kernel
theorem dX8_isWord_64 : decode cX8_isWord 64 = .ok (.istore_n 3, 1) := by decide +kernel
theorem dX8_isWord_65 : decode cX8_isWord 65 = .ok (.iinc 4 1, 3) := by decide +kernel
theorem dX8_isWord_68 : decode cX8_isWord 68 = .ok (.goto (-46), 3) := by decide +kernel
theorem dX8_isWord_71 : decode cX8_isWord 71 = .ok (.iload_n 3, 1) := by decide +kernel
theorem dX8_isWord_72 : decode cX8_isWord 72 = .ok (.ireturn, 1) := by decide +kernel
theorem dX8_guestWord_0 : decode cX8_guestWord 0 = .ok (.aload_n 0, 1) := by decide +kernel
theorem dX8_guestWord_1 : decode cX8_guestWord 1 = .ok (.ldc 97, 2) := by decide +kernel
theorem dX8_guestWord_3 : decode cX8_guestWord 3 = .ok (.iconst 5, 1) := by decide +kernel
theorem dX8_guestWord_4 : decode cX8_guestWord 4 = .ok (.invokevirtual 98, 3) := by decide +kernel
theorem dX8_guestWord_7 : decode cX8_guestWord 7 = .ok (.ifCond .eq 7, 3) := by decide +kernel
theorem dX8_guestWord_10 : decode cX8_guestWord 10 = .ok (.iconst 3, 1) := by decide +kernel
theorem dX8_guestWord_11 : decode cX8_guestWord 11 = .ok (.goto 48, 3) := by decide +kernel
theorem dX8_guestWord_14 : decode cX8_guestWord 14 = .ok (.aload_n 0, 1) := by decide +kernel
theorem dX8_guestWord_15 : decode cX8_guestWord 15 = .ok (.sipush 26003, 3) := by decide +kernel
theorem dX8_guestWord_18 : decode cX8_guestWord 18 = .ok (.iconst 3, 1) := by decide +kernel
theorem dX8_guestWord_19 : decode cX8_guestWord 19 = .ok (.invokevirtual 98, 3) := by decide +kernel
theorem dX8_guestWord_22 : decode cX8_guestWord 22 = .ok (.ifCond .eq 7, 3) := by decide +kernel
theorem dX8_guestWord_25 : decode cX8_guestWord 25 = .ok (.iconst 4, 1) := by decide +kernel
theorem dX8_guestWord_26 : decode cX8_guestWord 26 = .ok (.goto 33, 3) := by decide +kernel
theorem dX8_guestWord_29 : decode cX8_guestWord 29 = .ok (.aload_n 0, 1) := by decide +kernel
theorem dX8_guestWord_30 : decode cX8_guestWord 30 = .ok (.ldc 102, 2) := by decide +kernel
theorem dX8_guestWord_32 : decode cX8_guestWord 32 = .ok (.iconst 5, 1) := by decide +kernel
theorem dX8_guestWord_33 : decode cX8_guestWord 33 = .ok (.invokevirtual 98, 3) := by decide +kernel
theorem dX8_guestWord_36 : decode cX8_guestWord 36 = .ok (.ifCond .eq 7, 3) := by decide +kernel
theorem dX8_guestWord_39 : decode cX8_guestWord 39 = .ok (.iconst 5, 1) := by decide +kernel
theorem dX8_guestWord_40 : decode cX8_guestWord 40 = .ok (.goto 19, 3) := by decide +kernel
theorem dX8_guestWord_43 : decode cX8_guestWord 43 = .ok (.aload_n 0, 1) := by decide +kernel
theorem dX8_guestWord_44 : decode cX8_guestWord 44 = .ok (.ldc 103, 2) := by decide +kernel
theorem dX8_guestWord_46 : decode cX8_guestWord 46 = .ok (.iconst 5, 1) := by decide +kernel
theorem dX8_guestWord_47 : decode cX8_guestWord 47 = .ok (.invokevirtual 98, 3) := by decide +kernel
theorem dX8_guestWord_50 : decode cX8_guestWord 50 = .ok (.ifCond .eq 8, 3) := by decide +kernel
theorem dX8_guestWord_53 : decode cX8_guestWord 53 = .ok (.bipush 6, 2) := by decide +kernel
theorem dX8_guestWord_55 : decode cX8_guestWord 55 = .ok (.goto 4, 3) := by decide +kernel
theorem dX8_guestWord_58 : decode cX8_guestWord 58 = .ok (.iconst (-1), 1) := by decide +kernel
theorem dX8_guestWord_59 : decode cX8_guestWord 59 = .ok (.ireturn, 1) := by decide +kernel
theorem dX8_wordOf_0 : decode cX8_wordOf 0 = .ok (.aload_n 0, 1) := by decide +kernel
theorem dX8_wordOf_1 : decode cX8_wordOf 1 = .ok (.invokevirtual 104, 3) := by decide +kernel
theorem dX8_wordOf_4 : decode cX8_wordOf 4 = .ok (.istore_n 1, 1) := by decide +kernel
theorem dX8_wordOf_5 : decode cX8_wordOf 5 = .ok (.iload_n 1, 1) := by decide +kernel
theorem dX8_wordOf_6 : decode cX8_wordOf 6 = .ok (.iconst (-1), 1) := by decide +kernel
theorem dX8_wordOf_7 : decode cX8_wordOf 7 = .ok (.if_icmp .eq 7, 3) := by decide +kernel
theorem dX8_wordOf_10 : decode cX8_wordOf 10 = .ok (.iload_n 1, 1) := by decide +kernel
theorem dX8_wordOf_11 : decode cX8_wordOf 11 = .ok (.goto 63, 3) := by decide +kernel
theorem dX8_wordOf_14 : decode cX8_wordOf 14 = .ok (.aload_n 0, 1) := by decide +kernel
theorem dX8_wordOf_15 : decode cX8_wordOf 15 = .ok (.sipush 14793, 3) := by decide +kernel
theorem dX8_wordOf_18 : decode cX8_wordOf 18 = .ok (.iconst 3, 1) := by decide +kernel
theorem dX8_wordOf_19 : decode cX8_wordOf 19 = .ok (.invokevirtual 98, 3) := by decide +kernel
theorem dX8_wordOf_22 : decode cX8_wordOf 22 = .ok (.ifCond .eq 7, 3) := by decide +kernel
theorem dX8_wordOf_25 : decode cX8_wordOf 25 = .ok (.iconst 0, 1) := by decide +kernel
theorem dX8_wordOf_26 : decode cX8_wordOf 26 = .ok (.goto 48, 3) := by decide +kernel
theorem dX8_wordOf_29 : decode cX8_wordOf 29 = .ok (.aload_n 0, 1) := by decide +kernel
theorem dX8_wordOf_30 : decode cX8_wordOf 30 = .ok (.ldc 108, 2) := by decide +kernel
theorem dX8_wordOf_32 : decode cX8_wordOf 32 = .ok (.iconst 5, 1) := by decide +kernel
theorem dX8_wordOf_33 : decode cX8_wordOf 33 = .ok (.invokevirtual 98, 3) := by decide +kernel
theorem dX8_wordOf_36 : decode cX8_wordOf 36 = .ok (.ifCond .eq 7, 3) := by decide +kernel
theorem dX8_wordOf_39 : decode cX8_wordOf 39 = .ok (.iconst 1, 1) := by decide +kernel
theorem dX8_wordOf_40 : decode cX8_wordOf 40 = .ok (.goto 34, 3) := by decide +kernel
theorem dX8_wordOf_43 : decode cX8_wordOf 43 = .ok (.aload_n 0, 1) := by decide +kernel
theorem dX8_wordOf_44 : decode cX8_wordOf 44 = .ok (.ldc 109, 2) := by decide +kernel
theorem dX8_wordOf_46 : decode cX8_wordOf 46 = .ok (.iconst 4, 1) := by decide +kernel
theorem dX8_wordOf_47 : decode cX8_wordOf 47 = .ok (.invokevirtual 98, 3) := by decide +kernel
theorem dX8_wordOf_50 : decode cX8_wordOf 50 = .ok (.ifCond .eq 7, 3) := by decide +kernel
theorem dX8_wordOf_53 : decode cX8_wordOf 53 = .ok (.iconst 2, 1) := by decide +kernel
theorem dX8_wordOf_54 : decode cX8_wordOf 54 = .ok (.goto 20, 3) := by decide +kernel
theorem dX8_wordOf_57 : decode cX8_wordOf 57 = .ok (.aload_n 0, 1) := by decide +kernel
theorem dX8_wordOf_58 : decode cX8_wordOf 58 = .ok (.ldc 110, 2) := by decide +kernel
theorem dX8_wordOf_60 : decode cX8_wordOf 60 = .ok (.bipush 6, 2) := by decide +kernel
theorem dX8_wordOf_62 : decode cX8_wordOf 62 = .ok (.invokevirtual 98, 3) := by decide +kernel
theorem dX8_wordOf_65 : decode cX8_wordOf 65 = .ok (.ifCond .eq 8, 3) := by decide +kernel
theorem dX8_wordOf_68 : decode cX8_wordOf 68 = .ok (.bipush 7, 2) := by decide +kernel
theorem dX8_wordOf_70 : decode cX8_wordOf 70 = .ok (.goto 4, 3) := by decide +kernel
theorem dX8_wordOf_73 : decode cX8_wordOf 73 = .ok (.iconst (-1), 1) := by decide +kernel
theorem dX8_wordOf_74 : decode cX8_wordOf 74 = .ok (.ireturn, 1) := by decide +kernel
theorem dX8_numberHere_0 : decode cX8_numberHere 0 = .ok (.aload_n 0, 1) := by decide +kernel
theorem dX8_numberHere_1 : decode cX8_numberHere 1 = .ok (.getfield 87, 3) := by decide +kernel
theorem dX8_numberHere_4 : decode cX8_numberHere 4 = .ok (.aload_n 0, 1) := by decide +kernel
theorem dX8_numberHere_5 : decode cX8_numberHere 5 = .ok (.getfield 79, 3) := by decide +kernel
theorem dX8_numberHere_8 : decode cX8_numberHere 8 = .ok (.if_icmp .eq 32, 3) := by decide +kernel
theorem dX8_numberHere_11 : decode cX8_numberHere 11 = .ok (.aload_n 0, 1) := by decide +kernel
theorem dX8_numberHere_12 : decode cX8_numberHere 12 = .ok (.getfield 17, 3) := by decide +kernel
theorem dX8_numberHere_15 : decode cX8_numberHere 15 = .ok (.aload_n 0, 1) := by decide +kernel
theorem dX8_numberHere_16 : decode cX8_numberHere 16 = .ok (.getfield 87, 3) := by decide +kernel
theorem dX8_numberHere_19 : decode cX8_numberHere 19 = .ok (.iaload, 1) := by decide +kernel
theorem dX8_numberHere_20 : decode cX8_numberHere 20 = .ok (.invokestatic 90, 3) := by decide +kernel
theorem dX8_numberHere_23 : decode cX8_numberHere 23 = .ok (.iconst 2, 1) := by decide +kernel
theorem dX8_numberHere_24 : decode cX8_numberHere 24 = .ok (.if_icmp .ne 16, 3) := by decide +kernel
theorem dX8_numberHere_27 : decode cX8_numberHere 27 = .ok (.aload_n 0, 1) := by decide +kernel
theorem dX8_numberHere_28 : decode cX8_numberHere 28 = .ok (.getfield 94, 3) := by decide +kernel
theorem dX8_numberHere_31 : decode cX8_numberHere 31 = .ok (.aload_n 0, 1) := by decide +kernel
theorem dX8_numberHere_32 : decode cX8_numberHere 32 = .ok (.getfield 87, 3) := by decide +kernel
theorem dX8_numberHere_35 : decode cX8_numberHere 35 = .ok (.isub, 1) := by decide +kernel
theorem dX8_numberHere_36 : decode cX8_numberHere 36 = .ok (.iconst 2, 1) := by decide +kernel
theorem dX8_numberHere_37 : decode cX8_numberHere 37 = .ok (.if_icmp .le 5, 3) := by decide +kernel
theorem dX8_numberHere_40 : decode cX8_numberHere 40 = .ok (.iconst (-1), 1) := by decide +kernel
theorem dX8_numberHere_41 : decode cX8_numberHere 41 = .ok (.ireturn, 1) := by decide +kernel
theorem dX8_numberHere_42 : decode cX8_numberHere 42 = .ok (.iconst 0, 1) := by decide +kernel
theorem dX8_numberHere_43 : decode cX8_numberHere 43 = .ok (.istore_n 1, 1) := by decide +kernel
theorem dX8_numberHere_44 : decode cX8_numberHere 44 = .ok (.aload_n 0, 1) := by decide +kernel
theorem dX8_numberHere_45 : decode cX8_numberHere 45 = .ok (.getfield 87, 3) := by decide +kernel
theorem dX8_numberHere_48 : decode cX8_numberHere 48 = .ok (.istore_n 2, 1) := by decide +kernel
theorem dX8_numberHere_49 : decode cX8_numberHere 49 = .ok (.iload_n 2, 1) := by decide +kernel
theorem dX8_numberHere_50 : decode cX8_numberHere 50 = .ok (.aload_n 0, 1) := by decide +kernel
theorem dX8_numberHere_51 : decode cX8_numberHere 51 = .ok (.getfield 94, 3) := by decide +kernel
theorem dX8_numberHere_54 : decode cX8_numberHere 54 = .ok (.if_icmp .ge 24, 3) := by decide +kernel
theorem dX8_numberHere_57 : decode cX8_numberHere 57 = .ok (.bipush 10, 2) := by decide +kernel
theorem dX8_numberHere_59 : decode cX8_numberHere 59 = .ok (.iload_n 1, 1) := by decide +kernel
theorem dX8_numberHere_60 : decode cX8_numberHere 60 = .ok (.imul, 1) := by decide +kernel
theorem dX8_numberHere_61 : decode cX8_numberHere 61 = .ok (.aload_n 0, 1) := by decide +kernel
theorem dX8_numberHere_62 : decode cX8_numberHere 62 = .ok (.getfield 17, 3) := by decide +kernel
theorem dX8_numberHere_65 : decode cX8_numberHere 65 = .ok (.iload_n 2, 1) := by decide +kernel
theorem dX8_numberHere_66 : decode cX8_numberHere 66 = .ok (.iaload, 1) := by decide +kernel
theorem dX8_numberHere_67 : decode cX8_numberHere 67 = .ok (.iadd, 1) := by decide +kernel
theorem dX8_numberHere_68 : decode cX8_numberHere 68 = .ok (.bipush 48, 2) := by decide +kernel
theorem dX8_numberHere_70 : decode cX8_numberHere 70 = .ok (.isub, 1) := by decide +kernel
theorem dX8_numberHere_71 : decode cX8_numberHere 71 = .ok (.istore_n 1, 1) := by decide +kernel
theorem dX8_numberHere_72 : decode cX8_numberHere 72 = .ok (.iinc 2 1, 3) := by decide +kernel
theorem dX8_numberHere_75 : decode cX8_numberHere 75 = .ok (.goto (-26), 3) := by decide +kernel
theorem dX8_numberHere_78 : decode cX8_numberHere 78 = .ok (.iload_n 1, 1) := by decide +kernel
theorem dX8_numberHere_79 : decode cX8_numberHere 79 = .ok (.ireturn, 1) := by decide +kernel
theorem dX8_reads_0 : decode cX8_reads 0 = .ok (.aload_n 0, 1) := by decide +kernel
theorem dX8_reads_1 : decode cX8_reads 1 = .ok (.invokevirtual 111, 3) := by decide +kernel
theorem dX8_reads_4 : decode cX8_reads 4 = .ok (.istore 4, 2) := by decide +kernel
theorem dX8_reads_6 : decode cX8_reads 6 = .ok (.iload 4, 2) := by decide +kernel
theorem dX8_reads_8 : decode cX8_reads 8 = .ok (.i2l, 1) := by decide +kernel
theorem dX8_reads_9 : decode cX8_reads 9 = .ok (.iload_n 2, 1) := by decide +kernel
theorem dX8_reads_10 : decode cX8_reads 10 = .ok (.i2l, 1) := by decide +kernel
theorem dX8_reads_11 : decode cX8_reads 11 = .ok (.iload_n 3, 1) := by decide +kernel
theorem dX8_reads_12 : decode cX8_reads 12 = .ok (.i2l, 1) := by decide +kernel
theorem dX8_reads_13 : decode cX8_reads 13 = .ok (.invokestatic 70, 3) := by decide +kernel
theorem dX8_reads_16 : decode cX8_reads 16 = .ok (.ifCond .ne 5, 3) := by decide +kernel
theorem dX8_reads_19 : decode cX8_reads 19 = .ok (.iconst 0, 1) := by decide +kernel
theorem dX8_reads_20 : decode cX8_reads 20 = .ok (.ireturn, 1) := by decide +kernel
theorem dX8_reads_21 : decode cX8_reads 21 = .ok (.aload_n 0, 1) := by decide +kernel
theorem dX8_reads_22 : decode cX8_reads 22 = .ok (.getfield 20, 3) := by decide +kernel
theorem dX8_reads_25 : decode cX8_reads 25 = .ok (.iconst 5, 1) := by decide +kernel
theorem dX8_reads_26 : decode cX8_reads 26 = .ok (.aload_n 0, 1) := by decide +kernel
theorem dX8_reads_27 : decode cX8_reads 27 = .ok (.getfield 114, 3) := by decide +kernel
theorem dX8_reads_30 : decode cX8_reads 30 = .ok (.imul, 1) := by decide +kernel
theorem dX8_reads_31 : decode cX8_reads 31 = .ok (.iconst 1, 1) := by decide +kernel
theorem dX8_reads_32 : decode cX8_reads 32 = .ok (.iadd, 1) := by decide +kernel
theorem dX8_reads_33 : decode cX8_reads 33 = .ok (.iload_n 1, 1) := by decide +kernel
theorem dX8_reads_34 : decode cX8_reads 34 = .ok (.iadd, 1) := by decide +kernel
theorem dX8_reads_35 : decode cX8_reads 35 = .ok (.iload 4, 2) := by decide +kernel
theorem dX8_reads_37 : decode cX8_reads 37 = .ok (.iastore, 1) := by decide +kernel
theorem dX8_reads_38 : decode cX8_reads 38 = .ok (.aload_n 0, 1) := by decide +kernel
theorem dX8_reads_39 : decode cX8_reads 39 = .ok (.invokevirtual 117, 3) := by decide +kernel
theorem dX8_reads_42 : decode cX8_reads 42 = .ok (.iconst 1, 1) := by decide +kernel
theorem dX8_reads_43 : decode cX8_reads 43 = .ok (.ireturn, 1) := by decide +kernel
theorem dX8_readsGuest_0 : decode cX8_readsGuest 0 = .ok (.aload_n 0, 1) := by decide +kernel
theorem dX8_readsGuest_1 : decode cX8_readsGuest 1 = .ok (.iconst 0, 1) := by decide +kernel
theorem dX8_readsGuest_2 : decode cX8_readsGuest 2 = .ok (.iconst 0, 1) := by decide +kernel
theorem dX8_readsGuest_3 : decode cX8_readsGuest 3 = .ok (.aload_n 0, 1) := by decide +kernel
theorem dX8_readsGuest_4 : decode cX8_readsGuest 4 = .ok (.getfield 120, 3) := by decide +kernel
theorem dX8_readsGuest_7 : decode cX8_readsGuest 7 = .ok (.iconst 1, 1) := by decide +kernel
theorem dX8_readsGuest_8 : decode cX8_readsGuest 8 = .ok (.isub, 1) := by decide +kernel
theorem dX8_readsGuest_9 : decode cX8_readsGuest 9 = .ok (.invokevirtual 123, 3) := by decide +kernel
theorem dX8_readsGuest_12 : decode cX8_readsGuest 12 = .ok (.ifCond .eq 38, 3) := by decide +kernel
theorem dX8_readsGuest_15 : decode cX8_readsGuest 15 = .ok (.aload_n 0, 1) := by decide +kernel
theorem dX8_readsGuest_16 : decode cX8_readsGuest 16 = .ok (.iconst 1, 1) := by decide +kernel
theorem dX8_readsGuest_17 : decode cX8_readsGuest 17 = .ok (.iconst 0, 1) := by decide +kernel
theorem dX8_readsGuest_18 : decode cX8_readsGuest 18 = .ok (.iconst 3, 1) := by decide +kernel
theorem dX8_readsGuest_19 : decode cX8_readsGuest 19 = .ok (.invokevirtual 123, 3) := by decide +kernel
theorem dX8_readsGuest_22 : decode cX8_readsGuest 22 = .ok (.ifCond .eq 28, 3) := by decide +kernel
theorem dX8_readsGuest_25 : decode cX8_readsGuest 25 = .ok (.aload_n 0, 1) := by decide +kernel
theorem dX8_readsGuest_26 : decode cX8_readsGuest 26 = .ok (.iconst 2, 1) := by decide +kernel
theorem dX8_readsGuest_27 : decode cX8_readsGuest 27 = .ok (.iconst 0, 1) := by decide +kernel
theorem dX8_readsGuest_28 : decode cX8_readsGuest 28 = .ok (.iconst 1, 1) := by decide +kernel
theorem dX8_readsGuest_29 : decode cX8_readsGuest 29 = .ok (.invokevirtual 123, 3) := by decide +kernel
theorem dX8_readsGuest_32 : decode cX8_readsGuest 32 = .ok (.ifCond .eq 18, 3) := by decide +kernel
theorem dX8_readsGuest_35 : decode cX8_readsGuest 35 = .ok (.aload_n 0, 1) := by decide +kernel
theorem dX8_readsGuest_36 : decode cX8_readsGuest 36 = .ok (.iconst 3, 1) := by decide +kernel
theorem dX8_readsGuest_37 : decode cX8_readsGuest 37 = .ok (.iconst 0, 1) := by decide +kernel
theorem dX8_readsGuest_38 : decode cX8_readsGuest 38 = .ok (.bipush 99, 2) := by decide +kernel
theorem dX8_readsGuest_40 : decode cX8_readsGuest 40 = .ok (.invokevirtual 123, 3) := by decide +kernel
theorem dX8_readsGuest_43 : decode cX8_readsGuest 43 = .ok (.ifCond .eq 7, 3) := by decide +kernel
theorem dX8_readsGuest_46 : decode cX8_readsGuest 46 = .ok (.iconst 1, 1) := by decide +kernel
theorem dX8_readsGuest_47 : decode cX8_readsGuest 47 = .ok (.goto 4, 3) := by decide +kernel
theorem dX8_readsGuest_50 : decode cX8_readsGuest 50 = .ok (.iconst 0, 1) := by decide +kernel
theorem dX8_readsGuest_51 : decode cX8_readsGuest 51 = .ok (.ireturn, 1) := by decide +kernel
theorem dX8_readsRest_0 : decode cX8_readsRest 0 = .ok (.aload_n 0, 1) := by decide +kernel
theorem dX8_readsRest_1 : decode cX8_readsRest 1 = .ok (.invokevirtual 111, 3) := by decide +kernel
theorem dX8_readsRest_4 : decode cX8_readsRest 4 = .ok (.istore_n 2, 1) := by decide +kernel
theorem dX8_readsRest_5 : decode cX8_readsRest 5 = .ok (.iload_n 2, 1) := by decide +kernel
theorem dX8_readsRest_6 : decode cX8_readsRest 6 = .ok (.i2l, 1) := by decide +kernel
theorem dX8_readsRest_7 : decode cX8_readsRest 7 = .ok (.lconst 0, 1) := by decide +kernel
theorem dX8_readsRest_8 : decode cX8_readsRest 8 = .ok (.aload_n 0, 1) := by decide +kernel
theorem dX8_readsRest_9 : decode cX8_readsRest 9 = .ok (.getfield 120, 3) := by decide +kernel
theorem dX8_readsRest_12 : decode cX8_readsRest 12 = .ok (.iconst 1, 1) := by decide +kernel
theorem dX8_readsRest_13 : decode cX8_readsRest 13 = .ok (.isub, 1) := by decide +kernel
theorem dX8_readsRest_14 : decode cX8_readsRest 14 = .ok (.i2l, 1) := by decide +kernel
theorem dX8_readsRest_15 : decode cX8_readsRest 15 = .ok (.invokestatic 70, 3) := by decide +kernel
theorem dX8_readsRest_18 : decode cX8_readsRest 18 = .ok (.istore_n 3, 1) := by decide +kernel
theorem dX8_readsRest_19 : decode cX8_readsRest 19 = .ok (.iload_n 1, 1) := by decide +kernel
theorem dX8_readsRest_20 : decode cX8_readsRest 20 = .ok (.tableswitch 123 0 7 #[48, 57, 89, 123, 123, 123, 123, 121], 48) := by decide +kernel
theorem dX8_readsRest_68 : decode cX8_readsRest 68 = .ok (.aload_n 0, 1) := by decide +kernel
theorem dX8_readsRest_69 : decode cX8_readsRest 69 = .ok (.iconst 0, 1) := by decide +kernel
theorem dX8_readsRest_70 : decode cX8_readsRest 70 = .ok (.iconst 3, 1) := by decide +kernel
theorem dX8_readsRest_71 : decode cX8_readsRest 71 = .ok (.bipush 12, 2) := by decide +kernel
theorem dX8_readsRest_73 : decode cX8_readsRest 73 = .ok (.invokevirtual 123, 3) := by decide +kernel
theorem dX8_readsRest_76 : decode cX8_readsRest 76 = .ok (.ireturn, 1) := by decide +kernel
theorem dX8_readsRest_77 : decode cX8_readsRest 77 = .ok (.iload_n 3, 1) := by decide +kernel
theorem dX8_readsRest_78 : decode cX8_readsRest 78 = .ok (.ifCond .eq 29, 3) := by decide +kernel
theorem dX8_readsRest_81 : decode cX8_readsRest 81 = .ok (.aload_n 0, 1) := by decide +kernel
theorem dX8_readsRest_82 : decode cX8_readsRest 82 = .ok (.getfield 127, 3) := by decide +kernel
theorem dX8_readsRest_85 : decode cX8_readsRest 85 = .ok (.iload_n 2, 1) := by decide +kernel
theorem dX8_readsRest_86 : decode cX8_readsRest 86 = .ok (.invokestatic 130, 3) := by decide +kernel
theorem dX8_readsRest_89 : decode cX8_readsRest 89 = .ok (.ifCond .ne 18, 3) := by decide +kernel
theorem dX8_readsRest_92 : decode cX8_readsRest 92 = .ok (.aload_n 0, 1) := by decide +kernel
theorem dX8_readsRest_93 : decode cX8_readsRest 93 = .ok (.iconst 0, 1) := by decide +kernel
theorem dX8_readsRest_94 : decode cX8_readsRest 94 = .ok (.iconst 0, 1) := by decide +kernel
theorem dX8_readsRest_95 : decode cX8_readsRest 95 = .ok (.bipush 11, 2) := by decide +kernel
theorem dX8_readsRest_97 : decode cX8_readsRest 97 = .ok (.invokevirtual 123, 3) := by decide +kernel
theorem dX8_readsRest_100 : decode cX8_readsRest 100 = .ok (.ifCond .eq 7, 3) := by decide +kernel
theorem dX8_readsRest_103 : decode cX8_readsRest 103 = .ok (.iconst 1, 1) := by decide +kernel
theorem dX8_readsRest_104 : decode cX8_readsRest 104 = .ok (.goto 4, 3) := by decide +kernel
theorem dX8_readsRest_107 : decode cX8_readsRest 107 = .ok (.iconst 0, 1) := by decide +kernel
theorem dX8_readsRest_108 : decode cX8_readsRest 108 = .ok (.ireturn, 1) := by decide +kernel
theorem dX8_readsRest_109 : decode cX8_readsRest 109 = .ok (.iload_n 3, 1) := by decide +kernel
theorem dX8_readsRest_110 : decode cX8_readsRest 110 = .ok (.ifCond .eq 29, 3) := by decide +kernel
theorem dX8_readsRest_113 : decode cX8_readsRest 113 = .ok (.aload_n 0, 1) := by decide +kernel
theorem dX8_readsRest_114 : decode cX8_readsRest 114 = .ok (.getfield 127, 3) := by decide +kernel
theorem dX8_readsRest_117 : decode cX8_readsRest 117 = .ok (.iload_n 2, 1) := by decide +kernel
theorem dX8_readsRest_118 : decode cX8_readsRest 118 = .ok (.invokestatic 130, 3) := by decide +kernel
theorem dX8_readsRest_121 : decode cX8_readsRest 121 = .ok (.ifCond .eq 18, 3) := by decide +kernel
theorem dX8_readsRest_124 : decode cX8_readsRest 124 = .ok (.aload_n 0, 1) := by decide +kernel
theorem dX8_readsRest_125 : decode cX8_readsRest 125 = .ok (.iconst 0, 1) := by decide +kernel
theorem dX8_readsRest_126 : decode cX8_readsRest 126 = .ok (.iconst 0, 1) := by decide +kernel
theorem dX8_readsRest_127 : decode cX8_readsRest 127 = .ok (.bipush 11, 2) := by decide +kernel
theorem dX8_readsRest_129 : decode cX8_readsRest 129 = .ok (.invokevirtual 123, 3) := by decide +kernel
theorem dX8_readsRest_132 : decode cX8_readsRest 132 = .ok (.ifCond .eq 7, 3) := by decide +kernel
theorem dX8_readsRest_135 : decode cX8_readsRest 135 = .ok (.iconst 1, 1) := by decide +kernel
theorem dX8_readsRest_136 : decode cX8_readsRest 136 = .ok (.goto 4, 3) := by decide +kernel
theorem dX8_readsRest_139 : decode cX8_readsRest 139 = .ok (.iconst 0, 1) := by decide +kernel
theorem dX8_readsRest_140 : decode cX8_readsRest 140 = .ok (.ireturn, 1) := by decide +kernel
theorem dX8_readsRest_141 : decode cX8_readsRest 141 = .ok (.iconst 1, 1) := by decide +kernel
theorem dX8_readsRest_142 : decode cX8_readsRest 142 = .ok (.ireturn, 1) := by decide +kernel
theorem dX8_readsRest_143 : decode cX8_readsRest 143 = .ok (.aload_n 0, 1) := by decide +kernel
theorem dX8_readsRest_144 : decode cX8_readsRest 144 = .ok (.invokevirtual 133, 3) := by decide +kernel
theorem dX8_readsRest_147 : decode cX8_readsRest 147 = .ok (.ireturn, 1) := by decide +kernel
theorem dX8_isGuestWord_0 : decode cX8_isGuestWord 0 = .ok (.iload_n 0, 1) := by decide +kernel
theorem dX8_isGuestWord_1 : decode cX8_isGuestWord 1 = .ok (.i2l, 1) := by decide +kernel
theorem dX8_isGuestWord_2 : decode cX8_isGuestWord 2 = .ok (.ldc2_w 137, 3) := by decide +kernel
theorem dX8_isGuestWord_5 : decode cX8_isGuestWord 5 = .ok (.ldc2_w 139, 3) := by decide +kernel
theorem dX8_isGuestWord_8 : decode cX8_isGuestWord 8 = .ok (.invokestatic 70, 3) := by decide +kernel
theorem dX8_isGuestWord_11 : decode cX8_isGuestWord 11 = .ok (.ireturn, 1) := by decide +kernel
theorem dX8_readsLine_0 : decode cX8_readsLine 0 = .ok (.aload_n 0, 1) := by decide +kernel
theorem dX8_readsLine_1 : decode cX8_readsLine 1 = .ok (.invokevirtual 141, 3) := by decide +kernel
theorem dX8_readsLine_4 : decode cX8_readsLine 4 = .ok (.istore_n 1, 1) := by decide +kernel
theorem dX8_readsLine_5 : decode cX8_readsLine 5 = .ok (.iload_n 1, 1) := by decide +kernel
theorem dX8_readsLine_6 : decode cX8_readsLine 6 = .ok (.iconst (-1), 1) := by decide +kernel
theorem dX8_readsLine_7 : decode cX8_readsLine 7 = .ok (.if_icmp .eq 19, 3) := by decide +kernel
theorem dX8_readsLine_10 : decode cX8_readsLine 10 = .ok (.iload_n 1, 1) := by decide +kernel
theorem dX8_readsLine_11 : decode cX8_readsLine 11 = .ok (.invokestatic 144, 3) := by decide +kernel
theorem dX8_readsLine_14 : decode cX8_readsLine 14 = .ok (.ifCond .eq 14, 3) := by decide +kernel
theorem dX8_readsLine_17 : decode cX8_readsLine 17 = .ok (.aload_n 0, 1) := by decide +kernel
theorem dX8_readsLine_18 : decode cX8_readsLine 18 = .ok (.getfield 148, 3) := by decide +kernel
theorem dX8_readsLine_21 : decode cX8_readsLine 21 = .ok (.bipush 6, 2) := by decide +kernel
theorem dX8_readsLine_23 : decode cX8_readsLine 23 = .ok (.if_icmp .ne 5, 3) := by decide +kernel
theorem dX8_readsLine_26 : decode cX8_readsLine 26 = .ok (.iconst 0, 1) := by decide +kernel
theorem dX8_readsLine_27 : decode cX8_readsLine 27 = .ok (.ireturn, 1) := by decide +kernel
theorem dX8_readsLine_28 : decode cX8_readsLine 28 = .ok (.aload_n 0, 1) := by decide +kernel
theorem dX8_readsLine_29 : decode cX8_readsLine 29 = .ok (.invokevirtual 117, 3) := by decide +kernel
theorem dX8_readsLine_32 : decode cX8_readsLine 32 = .ok (.aload_n 0, 1) := by decide +kernel
theorem dX8_readsLine_33 : decode cX8_readsLine 33 = .ok (.getfield 20, 3) := by decide +kernel
theorem dX8_readsLine_36 : decode cX8_readsLine 36 = .ok (.iconst 5, 1) := by decide +kernel
theorem dX8_readsLine_37 : decode cX8_readsLine 37 = .ok (.aload_n 0, 1) := by decide +kernel
theorem dX8_readsLine_38 : decode cX8_readsLine 38 = .ok (.getfield 114, 3) := by decide +kernel
theorem dX8_readsLine_41 : decode cX8_readsLine 41 = .ok (.imul, 1) := by decide +kernel
theorem dX8_readsLine_42 : decode cX8_readsLine 42 = .ok (.iload_n 1, 1) := by decide +kernel
theorem dX8_readsLine_43 : decode cX8_readsLine 43 = .ok (.iastore, 1) := by decide +kernel
theorem dX8_readsLine_44 : decode cX8_readsLine 44 = .ok (.aload_n 0, 1) := by decide +kernel
theorem dX8_readsLine_45 : decode cX8_readsLine 45 = .ok (.iload_n 1, 1) := by decide +kernel
theorem dX8_readsLine_46 : decode cX8_readsLine 46 = .ok (.invokevirtual 151, 3) := by decide +kernel
theorem dX8_readsLine_49 : decode cX8_readsLine 49 = .ok (.ifCond .ne 5, 3) := by decide +kernel
theorem dX8_readsLine_52 : decode cX8_readsLine 52 = .ok (.iconst 0, 1) := by decide +kernel
theorem dX8_readsLine_53 : decode cX8_readsLine 53 = .ok (.ireturn, 1) := by decide +kernel
theorem dX8_readsLine_54 : decode cX8_readsLine 54 = .ok (.aload_n 0, 1) := by decide +kernel
theorem dX8_readsLine_55 : decode cX8_readsLine 55 = .ok (.getfield 20, 3) := by decide +kernel
theorem dX8_readsLine_58 : decode cX8_readsLine 58 = .ok (.iconst 5, 1) := by decide +kernel
theorem dX8_readsLine_59 : decode cX8_readsLine 59 = .ok (.aload_n 0, 1) := by decide +kernel
theorem dX8_readsLine_60 : decode cX8_readsLine 60 = .ok (.getfield 114, 3) := by decide +kernel
theorem dX8_readsLine_63 : decode cX8_readsLine 63 = .ok (.imul, 1) := by decide +kernel
theorem dX8_readsLine_64 : decode cX8_readsLine 64 = .ok (.iconst 1, 1) := by decide +kernel
theorem dX8_readsLine_65 : decode cX8_readsLine 65 = .ok (.iadd, 1) := by decide +kernel
theorem dX8_readsLine_66 : decode cX8_readsLine 66 = .ok (.iaload, 1) := by decide +kernel
theorem dX8_readsLine_67 : decode cX8_readsLine 67 = .ok (.istore_n 2, 1) := by decide +kernel
theorem dX8_readsLine_68 : decode cX8_readsLine 68 = .ok (.aload_n 0, 1) := by decide +kernel
theorem dX8_readsLine_69 : decode cX8_readsLine 69 = .ok (.iload_n 1, 1) := by decide +kernel
theorem dX8_readsLine_70 : decode cX8_readsLine 70 = .ok (.ifCond .ne 7, 3) := by decide +kernel
theorem dX8_readsLine_73 : decode cX8_readsLine 73 = .ok (.iload_n 2, 1) := by decide +kernel
theorem dX8_readsLine_74 : decode cX8_readsLine 74 = .ok (.goto 7, 3) := by decide +kernel
theorem dX8_readsLine_77 : decode cX8_readsLine 77 = .ok (.aload_n 0, 1) := by decide +kernel
theorem dX8_readsLine_78 : decode cX8_readsLine 78 = .ok (.getfield 120, 3) := by decide +kernel
theorem dX8_readsLine_81 : decode cX8_readsLine 81 = .ok (.putfield 120, 3) := by decide +kernel
theorem dX8_readsLine_84 : decode cX8_readsLine 84 = .ok (.aload_n 0, 1) := by decide +kernel
theorem dX8_readsLine_85 : decode cX8_readsLine 85 = .ok (.iload_n 1, 1) := by decide +kernel
theorem dX8_readsLine_86 : decode cX8_readsLine 86 = .ok (.ifCond .ne 7, 3) := by decide +kernel
theorem dX8_readsLine_89 : decode cX8_readsLine 89 = .ok (.iconst 0, 1) := by decide +kernel
theorem dX8_readsLine_90 : decode cX8_readsLine 90 = .ok (.goto 28, 3) := by decide +kernel
theorem dX8_readsLine_93 : decode cX8_readsLine 93 = .ok (.iload_n 1, 1) := by decide +kernel
theorem dX8_readsLine_94 : decode cX8_readsLine 94 = .ok (.iconst 1, 1) := by decide +kernel
theorem dX8_readsLine_95 : decode cX8_readsLine 95 = .ok (.if_icmp .eq 8, 3) := by decide +kernel
theorem dX8_readsLine_98 : decode cX8_readsLine 98 = .ok (.iload_n 1, 1) := by decide +kernel
theorem dX8_readsLine_99 : decode cX8_readsLine 99 = .ok (.iconst 2, 1) := by decide +kernel
theorem dX8_readsLine_100 : decode cX8_readsLine 100 = .ok (.if_icmp .ne 14, 3) := by decide +kernel
theorem dX8_readsLine_103 : decode cX8_readsLine 103 = .ok (.aload_n 0, 1) := by decide +kernel
theorem dX8_readsLine_104 : decode cX8_readsLine 104 = .ok (.getfield 127, 3) := by decide +kernel
theorem dX8_readsLine_107 : decode cX8_readsLine 107 = .ok (.iconst 1, 1) := by decide +kernel
theorem dX8_readsLine_108 : decode cX8_readsLine 108 = .ok (.iload_n 2, 1) := by decide +kernel
theorem dX8_readsLine_109 : decode cX8_readsLine 109 = .ok (.ishl, 1) := by decide +kernel
theorem dX8_readsLine_110 : decode cX8_readsLine 110 = .ok (.ixor, 1) := by decide +kernel
theorem dX8_readsLine_111 : decode cX8_readsLine 111 = .ok (.goto 7, 3) := by decide +kernel
theorem dX8_readsLine_114 : decode cX8_readsLine 114 = .ok (.aload_n 0, 1) := by decide +kernel
theorem dX8_readsLine_115 : decode cX8_readsLine 115 = .ok (.getfield 127, 3) := by decide +kernel
theorem dX8_readsLine_118 : decode cX8_readsLine 118 = .ok (.putfield 127, 3) := by decide +kernel
theorem dX8_readsLine_121 : decode cX8_readsLine 121 = .ok (.aload_n 0, 1) := by decide +kernel
theorem dX8_readsLine_122 : decode cX8_readsLine 122 = .ok (.iload_n 1, 1) := by decide +kernel
theorem dX8_readsLine_123 : decode cX8_readsLine 123 = .ok (.ifCond .eq 9, 3) := by decide +kernel
theorem dX8_readsLine_126 : decode cX8_readsLine 126 = .ok (.iload_n 1, 1) := by decide +kernel
theorem dX8_readsLine_127 : decode cX8_readsLine 127 = .ok (.bipush 7, 2) := by decide +kernel
theorem dX8_readsLine_129 : decode cX8_readsLine 129 = .ok (.if_icmp .ne 7, 3) := by decide +kernel
theorem dX8_readsLine_132 : decode cX8_readsLine 132 = .ok (.iconst 0, 1) := by decide +kernel
theorem dX8_readsLine_133 : decode cX8_readsLine 133 = .ok (.goto 23, 3) := by decide +kernel
theorem dX8_readsLine_136 : decode cX8_readsLine 136 = .ok (.iload_n 1, 1) := by decide +kernel
theorem dX8_readsLine_137 : decode cX8_readsLine 137 = .ok (.invokestatic 144, 3) := by decide +kernel
theorem dX8_readsLine_140 : decode cX8_readsLine 140 = .ok (.ifCond .eq 12, 3) := by decide +kernel
theorem dX8_readsLine_143 : decode cX8_readsLine 143 = .ok (.aload_n 0, 1) := by decide +kernel
theorem dX8_readsLine_144 : decode cX8_readsLine 144 = .ok (.getfield 148, 3) := by decide +kernel
theorem dX8_readsLine_147 : decode cX8_readsLine 147 = .ok (.iconst 1, 1) := by decide +kernel
theorem dX8_readsLine_148 : decode cX8_readsLine 148 = .ok (.iadd, 1) := by decide +kernel
theorem dX8_readsLine_149 : decode cX8_readsLine 149 = .ok (.goto 7, 3) := by decide +kernel
theorem dX8_readsLine_152 : decode cX8_readsLine 152 = .ok (.aload_n 0, 1) := by decide +kernel
theorem dX8_readsLine_153 : decode cX8_readsLine 153 = .ok (.getfield 148, 3) := by decide +kernel
theorem dX8_readsLine_156 : decode cX8_readsLine 156 = .ok (.putfield 148, 3) := by decide +kernel
theorem dX8_readsLine_159 : decode cX8_readsLine 159 = .ok (.aload_n 0, 1) := by decide +kernel
theorem dX8_readsLine_160 : decode cX8_readsLine 160 = .ok (.dup, 1) := by decide +kernel
theorem dX8_readsLine_161 : decode cX8_readsLine 161 = .ok (.getfield 114, 3) := by decide +kernel
theorem dX8_readsLine_164 : decode cX8_readsLine 164 = .ok (.iconst 1, 1) := by decide +kernel
theorem dX8_readsLine_165 : decode cX8_readsLine 165 = .ok (.iadd, 1) := by decide +kernel
theorem dX8_readsLine_166 : decode cX8_readsLine 166 = .ok (.putfield 114, 3) := by decide +kernel
theorem dX8_readsLine_169 : decode cX8_readsLine 169 = .ok (.iconst 1, 1) := by decide +kernel
theorem dX8_readsLine_170 : decode cX8_readsLine 170 = .ok (.ireturn, 1) := by decide +kernel
theorem dX8_fault_0 : decode cX8_fault 0 = .ok (.aload_n 0, 1) := by decide +kernel
theorem dX8_fault_1 : decode cX8_fault 1 = .ok (.iconst 0, 1) := by decide +kernel
theorem dX8_fault_2 : decode cX8_fault 2 = .ok (.putfield 84, 3) := by decide +kernel
theorem dX8_fault_5 : decode cX8_fault 5 = .ok (.aload_n 0, 1) := by decide +kernel
theorem dX8_fault_6 : decode cX8_fault 6 = .ok (.iconst 0, 1) := by decide +kernel
theorem dX8_fault_7 : decode cX8_fault 7 = .ok (.putfield 114, 3) := by decide +kernel
theorem dX8_fault_10 : decode cX8_fault 10 = .ok (.aload_n 0, 1) := by decide +kernel
theorem dX8_fault_11 : decode cX8_fault 11 = .ok (.aload_n 0, 1) := by decide +kernel
theorem dX8_fault_12 : decode cX8_fault 12 = .ok (.getfield 23, 3) := by decide +kernel
theorem dX8_fault_15 : decode cX8_fault 15 = .ok (.putfield 120, 3) := by decide +kernel
theorem dX8_fault_18 : decode cX8_fault 18 = .ok (.aload_n 0, 1) := by decide +kernel
theorem dX8_fault_19 : decode cX8_fault 19 = .ok (.aload_n 0, 1) := by decide +kernel
theorem dX8_fault_20 : decode cX8_fault 20 = .ok (.getfield 154, 3) := by decide +kernel
theorem dX8_fault_23 : decode cX8_fault 23 = .ok (.putfield 127, 3) := by decide +kernel
theorem dX8_fault_26 : decode cX8_fault 26 = .ok (.aload_n 0, 1) := by decide +kernel
theorem dX8_fault_27 : decode cX8_fault 27 = .ok (.aload_n 0, 1) := by decide +kernel
theorem dX8_fault_28 : decode cX8_fault 28 = .ok (.getfield 74, 3) := by decide +kernel
theorem dX8_fault_31 : decode cX8_fault 31 = .ok (.putfield 148, 3) := by decide +kernel
theorem dX8_fault_34 : decode cX8_fault 34 = .ok (.aload_n 0, 1) := by decide +kernel
theorem dX8_fault_35 : decode cX8_fault 35 = .ok (.invokevirtual 117, 3) := by decide +kernel
theorem dX8_fault_38 : decode cX8_fault 38 = .ok (.aload_n 0, 1) := by decide +kernel
theorem dX8_fault_39 : decode cX8_fault 39 = .ok (.invokevirtual 157, 3) := by decide +kernel
theorem dX8_fault_42 : decode cX8_fault 42 = .ok (.ifCond .ne 8, 3) := by decide +kernel
theorem dX8_fault_45 : decode cX8_fault 45 = .ok (.aload_n 0, 1) := by decide +kernel
theorem dX8_fault_46 : decode cX8_fault 46 = .ok (.getfield 87, 3) := by decide +kernel
theorem dX8_fault_49 : decode cX8_fault 49 = .ok (.ireturn, 1) := by decide +kernel
theorem dX8_fault_50 : decode cX8_fault 50 = .ok (.aload_n 0, 1) := by decide +kernel
theorem dX8_fault_51 : decode cX8_fault 51 = .ok (.getfield 87, 3) := by decide +kernel
theorem dX8_fault_54 : decode cX8_fault 54 = .ok (.aload_n 0, 1) := by decide +kernel
theorem dX8_fault_55 : decode cX8_fault 55 = .ok (.getfield 79, 3) := by decide +kernel
theorem dX8_fault_58 : decode cX8_fault 58 = .ok (.if_icmp .ge 70, 3) := by decide +kernel
theorem dX8_fault_61 : decode cX8_fault 61 = .ok (.aload_n 0, 1) := by decide +kernel
theorem dX8_fault_62 : decode cX8_fault 62 = .ok (.getfield 94, 3) := by decide +kernel
theorem dX8_fault_65 : decode cX8_fault 65 = .ok (.aload_n 0, 1) := by decide +kernel
theorem dX8_fault_66 : decode cX8_fault 66 = .ok (.getfield 87, 3) := by decide +kernel
theorem dX8_fault_69 : decode cX8_fault 69 = .ok (.isub, 1) := by decide +kernel
theorem dX8_fault_70 : decode cX8_fault 70 = .ok (.iconst 1, 1) := by decide +kernel
theorem dX8_fault_71 : decode cX8_fault 71 = .ok (.if_icmp .ne 30, 3) := by decide +kernel
theorem dX8_fault_74 : decode cX8_fault 74 = .ok (.aload_n 0, 1) := by decide +kernel
theorem dX8_fault_75 : decode cX8_fault 75 = .ok (.getfield 17, 3) := by decide +kernel
theorem dX8_fault_78 : decode cX8_fault 78 = .ok (.aload_n 0, 1) := by decide +kernel
theorem dX8_fault_79 : decode cX8_fault 79 = .ok (.getfield 87, 3) := by decide +kernel
theorem dX8_fault_82 : decode cX8_fault 82 = .ok (.iaload, 1) := by decide +kernel
theorem dX8_fault_83 : decode cX8_fault 83 = .ok (.bipush 59, 2) := by decide +kernel
theorem dX8_fault_85 : decode cX8_fault 85 = .ok (.if_icmp .ne 16, 3) := by decide +kernel
theorem dX8_fault_88 : decode cX8_fault 88 = .ok (.aload_n 0, 1) := by decide +kernel
theorem dX8_fault_89 : decode cX8_fault 89 = .ok (.getfield 114, 3) := by decide +kernel
theorem dX8_fault_92 : decode cX8_fault 92 = .ok (.bipush 12, 2) := by decide +kernel
theorem dX8_fault_94 : decode cX8_fault 94 = .ok (.if_icmp .ge 7, 3) := by decide +kernel
theorem dX8_fault_97 : decode cX8_fault 97 = .ok (.iconst 1, 1) := by decide +kernel
theorem dX8_fault_98 : decode cX8_fault 98 = .ok (.goto 4, 3) := by decide +kernel
theorem dX8_fault_101 : decode cX8_fault 101 = .ok (.iconst 0, 1) := by decide +kernel
theorem dX8_fault_102 : decode cX8_fault 102 = .ok (.istore_n 1, 1) := by decide +kernel
theorem dX8_fault_103 : decode cX8_fault 103 = .ok (.iload_n 1, 1) := by decide +kernel
theorem dX8_fault_104 : decode cX8_fault 104 = .ok (.ifCond .eq 12, 3) := by decide +kernel
theorem dX8_fault_107 : decode cX8_fault 107 = .ok (.aload_n 0, 1) := by decide +kernel
theorem dX8_fault_108 : decode cX8_fault 108 = .ok (.invokevirtual 117, 3) := by decide +kernel
theorem dX8_fault_111 : decode cX8_fault 111 = .ok (.aload_n 0, 1) := by decide +kernel
theorem dX8_fault_112 : decode cX8_fault 112 = .ok (.invokevirtual 157, 3) := by decide +kernel
theorem dX8_fault_115 : decode cX8_fault 115 = .ok (.istore_n 1, 1) := by decide +kernel
theorem dX8_fault_116 : decode cX8_fault 116 = .ok (.iload_n 1, 1) := by decide +kernel
theorem dX8_fault_117 : decode cX8_fault 117 = .ok (.ifCond .ne 8, 3) := by decide +kernel
theorem dX8_fault_120 : decode cX8_fault 120 = .ok (.aload_n 0, 1) := by decide +kernel
theorem dX8_fault_121 : decode cX8_fault 121 = .ok (.getfield 87, 3) := by decide +kernel
theorem dX8_fault_124 : decode cX8_fault 124 = .ok (.ireturn, 1) := by decide +kernel
theorem dX8_fault_125 : decode cX8_fault 125 = .ok (.goto (-75), 3) := by decide +kernel
theorem dX8_fault_128 : decode cX8_fault 128 = .ok (.iconst (-1), 1) := by decide +kernel
theorem dX8_fault_129 : decode cX8_fault 129 = .ok (.ireturn, 1) := by decide +kernel
theorem dX8_tell_0 : decode cX8_tell 0 = .ok (.aload_n 0, 1) := by decide +kernel
theorem dX8_tell_1 : decode cX8_tell 1 = .ok (.getfield 20, 3) := by decide +kernel
theorem dX8_tell_4 : decode cX8_tell 4 = .ok (.iload_n 1, 1) := by decide +kernel
theorem dX8_tell_5 : decode cX8_tell 5 = .ok (.iconst 1, 1) := by decide +kernel
theorem dX8_tell_6 : decode cX8_tell 6 = .ok (.iadd, 1) := by decide +kernel
theorem dX8_tell_7 : decode cX8_tell 7 = .ok (.iaload, 1) := by decide +kernel
theorem dX8_tell_8 : decode cX8_tell 8 = .ok (.istore_n 2, 1) := by decide +kernel
theorem dX8_tell_9 : decode cX8_tell 9 = .ok (.aload_n 0, 1) := by decide +kernel
theorem dX8_tell_10 : decode cX8_tell 10 = .ok (.getfield 20, 3) := by decide +kernel
theorem dX8_tell_13 : decode cX8_tell 13 = .ok (.iload_n 1, 1) := by decide +kernel
theorem dX8_tell_14 : decode cX8_tell 14 = .ok (.iaload, 1) := by decide +kernel
theorem dX8_tell_15 : decode cX8_tell 15 = .ok (.tableswitch 80 0 7 #[45, 61, 61, 80, 80, 80, 80, 74], 45) := by decide +kernel
theorem dX8_tell_60 : decode cX8_tell 60 = .ok (.aload_n 0, 1) := by decide +kernel
theorem dX8_tell_61 : decode cX8_tell 61 = .ok (.iload_n 2, 1) := by decide +kernel
theorem dX8_tell_62 : decode cX8_tell 62 = .ok (.putfield 23, 3) := by decide +kernel
theorem dX8_tell_65 : decode cX8_tell 65 = .ok (.aload_n 0, 1) := by decide +kernel
theorem dX8_tell_66 : decode cX8_tell 66 = .ok (.iconst 0, 1) := by decide +kernel
theorem dX8_tell_67 : decode cX8_tell 67 = .ok (.putfield 154, 3) := by decide +kernel
theorem dX8_tell_70 : decode cX8_tell 70 = .ok (.aload_n 0, 1) := by decide +kernel
theorem dX8_tell_71 : decode cX8_tell 71 = .ok (.iconst 0, 1) := by decide +kernel
theorem dX8_tell_72 : decode cX8_tell 72 = .ok (.putfield 74, 3) := by decide +kernel
theorem dX8_tell_75 : decode cX8_tell 75 = .ok (.return_, 1) := by decide +kernel
theorem dX8_tell_76 : decode cX8_tell 76 = .ok (.aload_n 0, 1) := by decide +kernel
theorem dX8_tell_77 : decode cX8_tell 77 = .ok (.dup, 1) := by decide +kernel
theorem dX8_tell_78 : decode cX8_tell 78 = .ok (.getfield 154, 3) := by decide +kernel
theorem dX8_tell_81 : decode cX8_tell 81 = .ok (.iconst 1, 1) := by decide +kernel
theorem dX8_tell_82 : decode cX8_tell 82 = .ok (.iload_n 2, 1) := by decide +kernel
theorem dX8_tell_83 : decode cX8_tell 83 = .ok (.ishl, 1) := by decide +kernel
theorem dX8_tell_84 : decode cX8_tell 84 = .ok (.ixor, 1) := by decide +kernel
theorem dX8_tell_85 : decode cX8_tell 85 = .ok (.putfield 154, 3) := by decide +kernel
theorem dX8_tell_88 : decode cX8_tell 88 = .ok (.return_, 1) := by decide +kernel
theorem dX8_tell_89 : decode cX8_tell 89 = .ok (.aload_n 0, 1) := by decide +kernel
theorem dX8_tell_90 : decode cX8_tell 90 = .ok (.iconst 0, 1) := by decide +kernel
theorem dX8_tell_91 : decode cX8_tell 91 = .ok (.putfield 74, 3) := by decide +kernel
theorem dX8_tell_94 : decode cX8_tell 94 = .ok (.return_, 1) := by decide +kernel
theorem dX8_tell_95 : decode cX8_tell 95 = .ok (.aload_n 0, 1) := by decide +kernel
theorem dX8_tell_96 : decode cX8_tell 96 = .ok (.getfield 27, 3) := by decide +kernel
theorem dX8_tell_99 : decode cX8_tell 99 = .ok (.aload_n 0, 1) := by decide +kernel
theorem dX8_tell_100 : decode cX8_tell 100 = .ok (.getfield 74, 3) := by decide +kernel
theorem dX8_tell_103 : decode cX8_tell 103 = .ok (.aload_n 0, 1) := by decide +kernel
theorem dX8_tell_104 : decode cX8_tell 104 = .ok (.getfield 20, 3) := by decide +kernel
theorem dX8_tell_107 : decode cX8_tell 107 = .ok (.iload_n 1, 1) := by decide +kernel
theorem dX8_tell_108 : decode cX8_tell 108 = .ok (.iaload, 1) := by decide +kernel
theorem dX8_tell_109 : decode cX8_tell 109 = .ok (.iconst 3, 1) := by decide +kernel
theorem dX8_tell_110 : decode cX8_tell 110 = .ok (.isub, 1) := by decide +kernel
theorem dX8_tell_111 : decode cX8_tell 111 = .ok (.iastore, 1) := by decide +kernel
theorem dX8_tell_112 : decode cX8_tell 112 = .ok (.aload_n 0, 1) := by decide +kernel
theorem dX8_tell_113 : decode cX8_tell 113 = .ok (.getfield 30, 3) := by decide +kernel
end
section
theorem dX8_tell_116 : decode cX8_tell 116 = .ok (.aload_n 0, 1) := by decide +kernel
theorem dX8_tell_117 : decode cX8_tell 117 = .ok (.getfield 74, 3) := by decide +kernel
theorem dX8_tell_120 : decode cX8_tell 120 = .ok (.iload_n 2, 1) := by decide +kernel
theorem dX8_tell_121 : decode cX8_tell 121 = .ok (.iastore, 1) := by decide +kernel
theorem dX8_tell_122 : decode cX8_tell 122 = .ok (.aload_n 0, 1) := by decide +kernel
theorem dX8_tell_123 : decode cX8_tell 123 = .ok (.getfield 33, 3) := by decide +kernel
theorem dX8_tell_126 : decode cX8_tell 126 = .ok (.aload_n 0, 1) := by decide +kernel
theorem dX8_tell_127 : decode cX8_tell 127 = .ok (.getfield 74, 3) := by decide +kernel
theorem dX8_tell_130 : decode cX8_tell 130 = .ok (.aload_n 0, 1) := by decide +kernel
theorem dX8_tell_131 : decode cX8_tell 131 = .ok (.getfield 20, 3) := by decide +kernel
theorem dX8_tell_134 : decode cX8_tell 134 = .ok (.iload_n 1, 1) := by decide +kernel
theorem dX8_tell_135 : decode cX8_tell 135 = .ok (.iconst 2, 1) := by decide +kernel
theorem dX8_tell_136 : decode cX8_tell 136 = .ok (.iadd, 1) := by decide +kernel
theorem dX8_tell_137 : decode cX8_tell 137 = .ok (.iaload, 1) := by decide +kernel
theorem dX8_tell_138 : decode cX8_tell 138 = .ok (.iastore, 1) := by decide +kernel
theorem dX8_tell_139 : decode cX8_tell 139 = .ok (.aload_n 0, 1) := by decide +kernel
theorem dX8_tell_140 : decode cX8_tell 140 = .ok (.getfield 36, 3) := by decide +kernel
theorem dX8_tell_143 : decode cX8_tell 143 = .ok (.aload_n 0, 1) := by decide +kernel
theorem dX8_tell_144 : decode cX8_tell 144 = .ok (.getfield 74, 3) := by decide +kernel
theorem dX8_tell_147 : decode cX8_tell 147 = .ok (.aload_n 0, 1) := by decide +kernel
theorem dX8_tell_148 : decode cX8_tell 148 = .ok (.getfield 20, 3) := by decide +kernel
theorem dX8_tell_151 : decode cX8_tell 151 = .ok (.iload_n 1, 1) := by decide +kernel
theorem dX8_tell_152 : decode cX8_tell 152 = .ok (.iconst 3, 1) := by decide +kernel
theorem dX8_tell_153 : decode cX8_tell 153 = .ok (.iadd, 1) := by decide +kernel
theorem dX8_tell_154 : decode cX8_tell 154 = .ok (.iaload, 1) := by decide +kernel
theorem dX8_tell_155 : decode cX8_tell 155 = .ok (.iastore, 1) := by decide +kernel
theorem dX8_tell_156 : decode cX8_tell 156 = .ok (.aload_n 0, 1) := by decide +kernel
theorem dX8_tell_157 : decode cX8_tell 157 = .ok (.getfield 39, 3) := by decide +kernel
theorem dX8_tell_160 : decode cX8_tell 160 = .ok (.aload_n 0, 1) := by decide +kernel
theorem dX8_tell_161 : decode cX8_tell 161 = .ok (.getfield 74, 3) := by decide +kernel
theorem dX8_tell_164 : decode cX8_tell 164 = .ok (.aload_n 0, 1) := by decide +kernel
theorem dX8_tell_165 : decode cX8_tell 165 = .ok (.getfield 20, 3) := by decide +kernel
theorem dX8_tell_168 : decode cX8_tell 168 = .ok (.iload_n 1, 1) := by decide +kernel
theorem dX8_tell_169 : decode cX8_tell 169 = .ok (.iconst 4, 1) := by decide +kernel
theorem dX8_tell_170 : decode cX8_tell 170 = .ok (.iadd, 1) := by decide +kernel
theorem dX8_tell_171 : decode cX8_tell 171 = .ok (.iaload, 1) := by decide +kernel
theorem dX8_tell_172 : decode cX8_tell 172 = .ok (.iastore, 1) := by decide +kernel
theorem dX8_tell_173 : decode cX8_tell 173 = .ok (.aload_n 0, 1) := by decide +kernel
theorem dX8_tell_174 : decode cX8_tell 174 = .ok (.dup, 1) := by decide +kernel
theorem dX8_tell_175 : decode cX8_tell 175 = .ok (.getfield 74, 3) := by decide +kernel
theorem dX8_tell_178 : decode cX8_tell 178 = .ok (.iconst 1, 1) := by decide +kernel
theorem dX8_tell_179 : decode cX8_tell 179 = .ok (.iadd, 1) := by decide +kernel
theorem dX8_tell_180 : decode cX8_tell 180 = .ok (.putfield 74, 3) := by decide +kernel
theorem dX8_tell_183 : decode cX8_tell 183 = .ok (.return_, 1) := by decide +kernel
theorem dX8_inn_0 : decode cX8_inn 0 = .ok (.aload_n 0, 1) := by decide +kernel
theorem dX8_inn_1 : decode cX8_inn 1 = .ok (.invokevirtual 160, 3) := by decide +kernel
theorem dX8_inn_4 : decode cX8_inn 4 = .ok (.iconst (-1), 1) := by decide +kernel
theorem dX8_inn_5 : decode cX8_inn 5 = .ok (.if_icmp .eq 6, 3) := by decide +kernel
theorem dX8_inn_8 : decode cX8_inn 8 = .ok (.bipush (-4), 2) := by decide +kernel
theorem dX8_inn_10 : decode cX8_inn 10 = .ok (.ireturn, 1) := by decide +kernel
theorem dX8_inn_11 : decode cX8_inn 11 = .ok (.iconst 0, 1) := by decide +kernel
theorem dX8_inn_12 : decode cX8_inn 12 = .ok (.istore_n 1, 1) := by decide +kernel
theorem dX8_inn_13 : decode cX8_inn 13 = .ok (.iload_n 1, 1) := by decide +kernel
theorem dX8_inn_14 : decode cX8_inn 14 = .ok (.aload_n 0, 1) := by decide +kernel
theorem dX8_inn_15 : decode cX8_inn 15 = .ok (.getfield 114, 3) := by decide +kernel
theorem dX8_inn_18 : decode cX8_inn 18 = .ok (.if_icmp .ge 16, 3) := by decide +kernel
theorem dX8_inn_21 : decode cX8_inn 21 = .ok (.aload_n 0, 1) := by decide +kernel
theorem dX8_inn_22 : decode cX8_inn 22 = .ok (.iconst 5, 1) := by decide +kernel
theorem dX8_inn_23 : decode cX8_inn 23 = .ok (.iload_n 1, 1) := by decide +kernel
theorem dX8_inn_24 : decode cX8_inn 24 = .ok (.imul, 1) := by decide +kernel
theorem dX8_inn_25 : decode cX8_inn 25 = .ok (.invokevirtual 163, 3) := by decide +kernel
theorem dX8_inn_28 : decode cX8_inn 28 = .ok (.iinc 1 1, 3) := by decide +kernel
theorem dX8_inn_31 : decode cX8_inn 31 = .ok (.goto (-18), 3) := by decide +kernel
theorem dX8_inn_34 : decode cX8_inn 34 = .ok (.aload_n 0, 1) := by decide +kernel
theorem dX8_inn_35 : decode cX8_inn 35 = .ok (.invokevirtual 63, 3) := by decide +kernel
theorem dX8_inn_38 : decode cX8_inn 38 = .ok (.aload_n 0, 1) := by decide +kernel
theorem dX8_inn_39 : decode cX8_inn 39 = .ok (.iconst 0, 1) := by decide +kernel
theorem dX8_inn_40 : decode cX8_inn 40 = .ok (.putfield 167, 3) := by decide +kernel
theorem dX8_inn_43 : decode cX8_inn 43 = .ok (.aload_n 0, 1) := by decide +kernel
theorem dX8_inn_44 : decode cX8_inn 44 = .ok (.getfield 13, 3) := by decide +kernel
theorem dX8_inn_47 : decode cX8_inn 47 = .ok (.iconst 0, 1) := by decide +kernel
theorem dX8_inn_48 : decode cX8_inn 48 = .ok (.iconst 0, 1) := by decide +kernel
theorem dX8_inn_49 : decode cX8_inn 49 = .ok (.bastore, 1) := by decide +kernel
theorem dX8_inn_50 : decode cX8_inn 50 = .ok (.aload_n 0, 1) := by decide +kernel
theorem dX8_inn_51 : decode cX8_inn 51 = .ok (.getfield 13, 3) := by decide +kernel
theorem dX8_inn_54 : decode cX8_inn 54 = .ok (.iconst 1, 1) := by decide +kernel
theorem dX8_inn_55 : decode cX8_inn 55 = .ok (.iconst 0, 1) := by decide +kernel
theorem dX8_inn_56 : decode cX8_inn 56 = .ok (.bastore, 1) := by decide +kernel
theorem dX8_inn_57 : decode cX8_inn 57 = .ok (.aload_n 0, 1) := by decide +kernel
theorem dX8_inn_58 : decode cX8_inn 58 = .ok (.iconst 0, 1) := by decide +kernel
theorem dX8_inn_59 : decode cX8_inn 59 = .ok (.putfield 79, 3) := by decide +kernel
theorem dX8_inn_62 : decode cX8_inn 62 = .ok (.aload_n 0, 1) := by decide +kernel
theorem dX8_inn_63 : decode cX8_inn 63 = .ok (.getfield 114, 3) := by decide +kernel
theorem dX8_inn_66 : decode cX8_inn 66 = .ok (.ireturn, 1) := by decide +kernel
theorem dX8_isPlace_0 : decode cX8_isPlace 0 = .ok (.iload_n 1, 1) := by decide +kernel
theorem dX8_isPlace_1 : decode cX8_isPlace 1 = .ok (.i2l, 1) := by decide +kernel
theorem dX8_isPlace_2 : decode cX8_isPlace 2 = .ok (.lconst 0, 1) := by decide +kernel
theorem dX8_isPlace_3 : decode cX8_isPlace 3 = .ok (.aload_n 0, 1) := by decide +kernel
theorem dX8_isPlace_4 : decode cX8_isPlace 4 = .ok (.getfield 23, 3) := by decide +kernel
theorem dX8_isPlace_7 : decode cX8_isPlace 7 = .ok (.iconst 1, 1) := by decide +kernel
theorem dX8_isPlace_8 : decode cX8_isPlace 8 = .ok (.isub, 1) := by decide +kernel
theorem dX8_isPlace_9 : decode cX8_isPlace 9 = .ok (.i2l, 1) := by decide +kernel
theorem dX8_isPlace_10 : decode cX8_isPlace 10 = .ok (.invokestatic 70, 3) := by decide +kernel
theorem dX8_isPlace_13 : decode cX8_isPlace 13 = .ok (.ireturn, 1) := by decide +kernel
theorem dX8_isGuest_0 : decode cX8_isGuest 0 = .ok (.iload_n 1, 1) := by decide +kernel
theorem dX8_isGuest_1 : decode cX8_isGuest 1 = .ok (.i2l, 1) := by decide +kernel
theorem dX8_isGuest_2 : decode cX8_isGuest 2 = .ok (.lconst 0, 1) := by decide +kernel
theorem dX8_isGuest_3 : decode cX8_isGuest 3 = .ok (.aload_n 0, 1) := by decide +kernel
theorem dX8_isGuest_4 : decode cX8_isGuest 4 = .ok (.getfield 74, 3) := by decide +kernel
theorem dX8_isGuest_7 : decode cX8_isGuest 7 = .ok (.iconst 1, 1) := by decide +kernel
theorem dX8_isGuest_8 : decode cX8_isGuest 8 = .ok (.isub, 1) := by decide +kernel
theorem dX8_isGuest_9 : decode cX8_isGuest 9 = .ok (.i2l, 1) := by decide +kernel
theorem dX8_isGuest_10 : decode cX8_isGuest 10 = .ok (.invokestatic 70, 3) := by decide +kernel
theorem dX8_isGuest_13 : decode cX8_isGuest 13 = .ok (.ireturn, 1) := by decide +kernel
theorem dX8_place_0 : decode cX8_place 0 = .ok (.aload_n 0, 1) := by decide +kernel
theorem dX8_place_1 : decode cX8_place 1 = .ok (.iload_n 1, 1) := by decide +kernel
theorem dX8_place_2 : decode cX8_place 2 = .ok (.invokevirtual 170, 3) := by decide +kernel
theorem dX8_place_5 : decode cX8_place 5 = .ok (.ifCond .ne 6, 3) := by decide +kernel
theorem dX8_place_8 : decode cX8_place 8 = .ok (.bipush (-2), 2) := by decide +kernel
theorem dX8_place_10 : decode cX8_place 10 = .ok (.ireturn, 1) := by decide +kernel
theorem dX8_place_11 : decode cX8_place 11 = .ok (.iconst (-1), 1) := by decide +kernel
theorem dX8_place_12 : decode cX8_place 12 = .ok (.istore_n 3, 1) := by decide +kernel
theorem dX8_place_13 : decode cX8_place 13 = .ok (.iconst 0, 1) := by decide +kernel
theorem dX8_place_14 : decode cX8_place 14 = .ok (.istore 4, 2) := by decide +kernel
theorem dX8_place_16 : decode cX8_place 16 = .ok (.iconst 0, 1) := by decide +kernel
theorem dX8_place_17 : decode cX8_place 17 = .ok (.istore 5, 2) := by decide +kernel
theorem dX8_place_19 : decode cX8_place 19 = .ok (.iload 5, 2) := by decide +kernel
theorem dX8_place_21 : decode cX8_place 21 = .ok (.aload_n 0, 1) := by decide +kernel
theorem dX8_place_22 : decode cX8_place 22 = .ok (.getfield 74, 3) := by decide +kernel
theorem dX8_place_25 : decode cX8_place 25 = .ok (.if_icmp .ge 70, 3) := by decide +kernel
theorem dX8_place_28 : decode cX8_place 28 = .ok (.aload_n 0, 1) := by decide +kernel
theorem dX8_place_29 : decode cX8_place 29 = .ok (.getfield 7, 3) := by decide +kernel
theorem dX8_place_32 : decode cX8_place 32 = .ok (.bipush 9, 2) := by decide +kernel
theorem dX8_place_34 : decode cX8_place 34 = .ok (.iload 5, 2) := by decide +kernel
theorem dX8_place_36 : decode cX8_place 36 = .ok (.iadd, 1) := by decide +kernel
theorem dX8_place_37 : decode cX8_place 37 = .ok (.iaload, 1) := by decide +kernel
theorem dX8_place_38 : decode cX8_place 38 = .ok (.iload_n 1, 1) := by decide +kernel
theorem dX8_place_39 : decode cX8_place 39 = .ok (.if_icmp .eq 17, 3) := by decide +kernel
theorem dX8_place_42 : decode cX8_place 42 = .ok (.aload_n 0, 1) := by decide +kernel
theorem dX8_place_43 : decode cX8_place 43 = .ok (.getfield 7, 3) := by decide +kernel
theorem dX8_place_46 : decode cX8_place 46 = .ok (.bipush 15, 2) := by decide +kernel
theorem dX8_place_48 : decode cX8_place 48 = .ok (.iload 5, 2) := by decide +kernel
theorem dX8_place_50 : decode cX8_place 50 = .ok (.iadd, 1) := by decide +kernel
theorem dX8_place_51 : decode cX8_place 51 = .ok (.iaload, 1) := by decide +kernel
theorem dX8_place_52 : decode cX8_place 52 = .ok (.iload_n 1, 1) := by decide +kernel
theorem dX8_place_53 : decode cX8_place 53 = .ok (.if_icmp .ne 8, 3) := by decide +kernel
theorem dX8_place_56 : decode cX8_place 56 = .ok (.iload 5, 2) := by decide +kernel
theorem dX8_place_58 : decode cX8_place 58 = .ok (.goto 4, 3) := by decide +kernel
theorem dX8_place_61 : decode cX8_place 61 = .ok (.iload_n 3, 1) := by decide +kernel
theorem dX8_place_62 : decode cX8_place 62 = .ok (.istore_n 3, 1) := by decide +kernel
theorem dX8_place_63 : decode cX8_place 63 = .ok (.iload 4, 2) := by decide +kernel
theorem dX8_place_65 : decode cX8_place 65 = .ok (.aload_n 0, 1) := by decide +kernel
theorem dX8_place_66 : decode cX8_place 66 = .ok (.getfield 7, 3) := by decide +kernel
theorem dX8_place_69 : decode cX8_place 69 = .ok (.iconst 3, 1) := by decide +kernel
theorem dX8_place_70 : decode cX8_place 70 = .ok (.iload 5, 2) := by decide +kernel
theorem dX8_place_72 : decode cX8_place 72 = .ok (.iadd, 1) := by decide +kernel
theorem dX8_place_73 : decode cX8_place 73 = .ok (.iaload, 1) := by decide +kernel
theorem dX8_place_74 : decode cX8_place 74 = .ok (.iload_n 1, 1) := by decide +kernel
theorem dX8_place_75 : decode cX8_place 75 = .ok (.if_icmp .ne 10, 3) := by decide +kernel
theorem dX8_place_78 : decode cX8_place 78 = .ok (.iconst 1, 1) := by decide +kernel
theorem dX8_place_79 : decode cX8_place 79 = .ok (.iload 5, 2) := by decide +kernel
theorem dX8_place_81 : decode cX8_place 81 = .ok (.ishl, 1) := by decide +kernel
theorem dX8_place_82 : decode cX8_place 82 = .ok (.goto 4, 3) := by decide +kernel
theorem dX8_place_85 : decode cX8_place 85 = .ok (.iconst 0, 1) := by decide +kernel
theorem dX8_place_86 : decode cX8_place 86 = .ok (.ior, 1) := by decide +kernel
theorem dX8_place_87 : decode cX8_place 87 = .ok (.istore 4, 2) := by decide +kernel
theorem dX8_place_89 : decode cX8_place 89 = .ok (.iinc 5 1, 3) := by decide +kernel
theorem dX8_place_92 : decode cX8_place 92 = .ok (.goto (-73), 3) := by decide +kernel
theorem dX8_place_95 : decode cX8_place 95 = .ok (.iload_n 2, 1) := by decide +kernel
theorem dX8_place_96 : decode cX8_place 96 = .ok (.ifCond .ne 14, 3) := by decide +kernel
theorem dX8_place_99 : decode cX8_place 99 = .ok (.aload_n 0, 1) := by decide +kernel
theorem dX8_place_100 : decode cX8_place 100 = .ok (.getfield 154, 3) := by decide +kernel
theorem dX8_place_103 : decode cX8_place 103 = .ok (.iload_n 1, 1) := by decide +kernel
theorem dX8_place_104 : decode cX8_place 104 = .ok (.ishr, 1) := by decide +kernel
theorem dX8_place_105 : decode cX8_place 105 = .ok (.iconst 1, 1) := by decide +kernel
theorem dX8_place_106 : decode cX8_place 106 = .ok (.iand, 1) := by decide +kernel
theorem dX8_place_107 : decode cX8_place 107 = .ok (.goto 24, 3) := by decide +kernel
theorem dX8_place_110 : decode cX8_place 110 = .ok (.iload_n 2, 1) := by decide +kernel
theorem dX8_place_111 : decode cX8_place 111 = .ok (.iconst 1, 1) := by decide +kernel
theorem dX8_place_112 : decode cX8_place 112 = .ok (.if_icmp .ne 7, 3) := by decide +kernel
theorem dX8_place_115 : decode cX8_place 115 = .ok (.iload_n 3, 1) := by decide +kernel
theorem dX8_place_116 : decode cX8_place 116 = .ok (.goto 15, 3) := by decide +kernel
theorem dX8_place_119 : decode cX8_place 119 = .ok (.iload_n 2, 1) := by decide +kernel
theorem dX8_place_120 : decode cX8_place 120 = .ok (.iconst 2, 1) := by decide +kernel
theorem dX8_place_121 : decode cX8_place 121 = .ok (.if_icmp .ne 8, 3) := by decide +kernel
theorem dX8_place_124 : decode cX8_place 124 = .ok (.iload 4, 2) := by decide +kernel
theorem dX8_place_126 : decode cX8_place 126 = .ok (.goto 5, 3) := by decide +kernel
theorem dX8_place_129 : decode cX8_place 129 = .ok (.bipush (-3), 2) := by decide +kernel
theorem dX8_place_131 : decode cX8_place 131 = .ok (.ireturn, 1) := by decide +kernel
theorem dX8_guest_0 : decode cX8_guest 0 = .ok (.aload_n 0, 1) := by decide +kernel
theorem dX8_guest_1 : decode cX8_guest 1 = .ok (.iload_n 1, 1) := by decide +kernel
theorem dX8_guest_2 : decode cX8_guest 2 = .ok (.invokevirtual 173, 3) := by decide +kernel
theorem dX8_guest_5 : decode cX8_guest 5 = .ok (.ifCond .ne 6, 3) := by decide +kernel
theorem dX8_guest_8 : decode cX8_guest 8 = .ok (.bipush (-2), 2) := by decide +kernel
theorem dX8_guest_10 : decode cX8_guest 10 = .ok (.ireturn, 1) := by decide +kernel
theorem dX8_guest_11 : decode cX8_guest 11 = .ok (.iload_n 2, 1) := by decide +kernel
theorem dX8_guest_12 : decode cX8_guest 12 = .ok (.tableswitch 101 0 6 #[44, 51, 60, 67, 74, 81, 91], 44) := by decide +kernel
theorem dX8_guest_56 : decode cX8_guest 56 = .ok (.aload_n 0, 1) := by decide +kernel
theorem dX8_guest_57 : decode cX8_guest 57 = .ok (.getfield 27, 3) := by decide +kernel
theorem dX8_guest_60 : decode cX8_guest 60 = .ok (.iload_n 1, 1) := by decide +kernel
theorem dX8_guest_61 : decode cX8_guest 61 = .ok (.iaload, 1) := by decide +kernel
theorem dX8_guest_62 : decode cX8_guest 62 = .ok (.ireturn, 1) := by decide +kernel
theorem dX8_guest_63 : decode cX8_guest 63 = .ok (.aload_n 0, 1) := by decide +kernel
theorem dX8_guest_64 : decode cX8_guest 64 = .ok (.getfield 7, 3) := by decide +kernel
theorem dX8_guest_67 : decode cX8_guest 67 = .ok (.iconst 3, 1) := by decide +kernel
theorem dX8_guest_68 : decode cX8_guest 68 = .ok (.iload_n 1, 1) := by decide +kernel
theorem dX8_guest_69 : decode cX8_guest 69 = .ok (.iadd, 1) := by decide +kernel
theorem dX8_guest_70 : decode cX8_guest 70 = .ok (.iaload, 1) := by decide +kernel
theorem dX8_guest_71 : decode cX8_guest 71 = .ok (.ireturn, 1) := by decide +kernel
theorem dX8_guest_72 : decode cX8_guest 72 = .ok (.aload_n 0, 1) := by decide +kernel
theorem dX8_guest_73 : decode cX8_guest 73 = .ok (.getfield 33, 3) := by decide +kernel
theorem dX8_guest_76 : decode cX8_guest 76 = .ok (.iload_n 1, 1) := by decide +kernel
theorem dX8_guest_77 : decode cX8_guest 77 = .ok (.iaload, 1) := by decide +kernel
theorem dX8_guest_78 : decode cX8_guest 78 = .ok (.ireturn, 1) := by decide +kernel
theorem dX8_guest_79 : decode cX8_guest 79 = .ok (.aload_n 0, 1) := by decide +kernel
theorem dX8_guest_80 : decode cX8_guest 80 = .ok (.getfield 36, 3) := by decide +kernel
theorem dX8_guest_83 : decode cX8_guest 83 = .ok (.iload_n 1, 1) := by decide +kernel
theorem dX8_guest_84 : decode cX8_guest 84 = .ok (.iaload, 1) := by decide +kernel
theorem dX8_guest_85 : decode cX8_guest 85 = .ok (.ireturn, 1) := by decide +kernel
theorem dX8_guest_86 : decode cX8_guest 86 = .ok (.aload_n 0, 1) := by decide +kernel
theorem dX8_guest_87 : decode cX8_guest 87 = .ok (.getfield 39, 3) := by decide +kernel
theorem dX8_guest_90 : decode cX8_guest 90 = .ok (.iload_n 1, 1) := by decide +kernel
theorem dX8_guest_91 : decode cX8_guest 91 = .ok (.iaload, 1) := by decide +kernel
theorem dX8_guest_92 : decode cX8_guest 92 = .ok (.ireturn, 1) := by decide +kernel
theorem dX8_guest_93 : decode cX8_guest 93 = .ok (.aload_n 0, 1) := by decide +kernel
theorem dX8_guest_94 : decode cX8_guest 94 = .ok (.getfield 7, 3) := by decide +kernel
theorem dX8_guest_97 : decode cX8_guest 97 = .ok (.bipush 9, 2) := by decide +kernel
theorem dX8_guest_99 : decode cX8_guest 99 = .ok (.iload_n 1, 1) := by decide +kernel
theorem dX8_guest_100 : decode cX8_guest 100 = .ok (.iadd, 1) := by decide +kernel
theorem dX8_guest_101 : decode cX8_guest 101 = .ok (.iaload, 1) := by decide +kernel
theorem dX8_guest_102 : decode cX8_guest 102 = .ok (.ireturn, 1) := by decide +kernel
theorem dX8_guest_103 : decode cX8_guest 103 = .ok (.aload_n 0, 1) := by decide +kernel
theorem dX8_guest_104 : decode cX8_guest 104 = .ok (.getfield 7, 3) := by decide +kernel
theorem dX8_guest_107 : decode cX8_guest 107 = .ok (.bipush 21, 2) := by decide +kernel
theorem dX8_guest_109 : decode cX8_guest 109 = .ok (.iload_n 1, 1) := by decide +kernel
theorem dX8_guest_110 : decode cX8_guest 110 = .ok (.iadd, 1) := by decide +kernel
theorem dX8_guest_111 : decode cX8_guest 111 = .ok (.iaload, 1) := by decide +kernel
theorem dX8_guest_112 : decode cX8_guest 112 = .ok (.ireturn, 1) := by decide +kernel
theorem dX8_guest_113 : decode cX8_guest 113 = .ok (.bipush (-3), 2) := by decide +kernel
theorem dX8_guest_115 : decode cX8_guest 115 = .ok (.ireturn, 1) := by decide +kernel
theorem dX8_far_0 : decode cX8_far 0 = .ok (.iload_n 2, 1) := by decide +kernel
theorem dX8_far_1 : decode cX8_far 1 = .ok (.iload_n 1, 1) := by decide +kernel
theorem dX8_far_2 : decode cX8_far 2 = .ok (.isub, 1) := by decide +kernel
theorem dX8_far_3 : decode cX8_far 3 = .ok (.aload_n 0, 1) := by decide +kernel
theorem dX8_far_4 : decode cX8_far 4 = .ok (.getfield 23, 3) := by decide +kernel
theorem dX8_far_7 : decode cX8_far 7 = .ok (.iadd, 1) := by decide +kernel
theorem dX8_far_8 : decode cX8_far 8 = .ok (.aload_n 0, 1) := by decide +kernel
theorem dX8_far_9 : decode cX8_far 9 = .ok (.getfield 23, 3) := by decide +kernel
theorem dX8_far_12 : decode cX8_far 12 = .ok (.irem, 1) := by decide +kernel
theorem dX8_far_13 : decode cX8_far 13 = .ok (.istore_n 3, 1) := by decide +kernel
theorem dX8_far_14 : decode cX8_far 14 = .ok (.iload_n 3, 1) := by decide +kernel
theorem dX8_far_15 : decode cX8_far 15 = .ok (.aload_n 0, 1) := by decide +kernel
theorem dX8_far_16 : decode cX8_far 16 = .ok (.getfield 23, 3) := by decide +kernel
theorem dX8_far_19 : decode cX8_far 19 = .ok (.iload_n 3, 1) := by decide +kernel
theorem dX8_far_20 : decode cX8_far 20 = .ok (.isub, 1) := by decide +kernel
theorem dX8_far_21 : decode cX8_far 21 = .ok (.if_icmp .ge 7, 3) := by decide +kernel
theorem dX8_far_24 : decode cX8_far 24 = .ok (.iload_n 3, 1) := by decide +kernel
theorem dX8_far_25 : decode cX8_far 25 = .ok (.goto 9, 3) := by decide +kernel
theorem dX8_far_28 : decode cX8_far 28 = .ok (.aload_n 0, 1) := by decide +kernel
theorem dX8_far_29 : decode cX8_far 29 = .ok (.getfield 23, 3) := by decide +kernel
theorem dX8_far_32 : decode cX8_far 32 = .ok (.iload_n 3, 1) := by decide +kernel
theorem dX8_far_33 : decode cX8_far 33 = .ok (.isub, 1) := by decide +kernel
theorem dX8_far_34 : decode cX8_far 34 = .ok (.ireturn, 1) := by decide +kernel
theorem dX8_effort_0 : decode cX8_effort 0 = .ok (.aload_n 0, 1) := by decide +kernel
theorem dX8_effort_1 : decode cX8_effort 1 = .ok (.iload_n 2, 1) := by decide +kernel
theorem dX8_effort_2 : decode cX8_effort 2 = .ok (.iload_n 3, 1) := by decide +kernel
theorem dX8_effort_3 : decode cX8_effort 3 = .ok (.invokevirtual 176, 3) := by decide +kernel
theorem dX8_effort_6 : decode cX8_effort 6 = .ok (.aload_n 0, 1) := by decide +kernel
theorem dX8_effort_7 : decode cX8_effort 7 = .ok (.getfield 27, 3) := by decide +kernel
theorem dX8_effort_10 : decode cX8_effort 10 = .ok (.iload_n 1, 1) := by decide +kernel
theorem dX8_effort_11 : decode cX8_effort 11 = .ok (.iaload, 1) := by decide +kernel
theorem dX8_effort_12 : decode cX8_effort 12 = .ok (.iconst 1, 1) := by decide +kernel
theorem dX8_effort_13 : decode cX8_effort 13 = .ok (.if_icmp .ne 7, 3) := by decide +kernel
theorem dX8_effort_16 : decode cX8_effort 16 = .ok (.iconst 1, 1) := by decide +kernel
theorem dX8_effort_17 : decode cX8_effort 17 = .ok (.goto 4, 3) := by decide +kernel
theorem dX8_effort_20 : decode cX8_effort 20 = .ok (.iconst 0, 1) := by decide +kernel
theorem dX8_effort_21 : decode cX8_effort 21 = .ok (.isub, 1) := by decide +kernel
theorem dX8_effort_22 : decode cX8_effort 22 = .ok (.ireturn, 1) := by decide +kernel
theorem dX8_as_0 : decode cX8_as 0 = .ok (.aload_n 0, 1) := by decide +kernel
theorem dX8_as_1 : decode cX8_as 1 = .ok (.iload_n 1, 1) := by decide +kernel
theorem dX8_as_2 : decode cX8_as 2 = .ok (.invokevirtual 173, 3) := by decide +kernel
theorem dX8_as_5 : decode cX8_as 5 = .ok (.ifCond .ne 6, 3) := by decide +kernel
theorem dX8_as_8 : decode cX8_as 8 = .ok (.bipush (-2), 2) := by decide +kernel
theorem dX8_as_10 : decode cX8_as 10 = .ok (.ireturn, 1) := by decide +kernel
theorem dX8_as_11 : decode cX8_as 11 = .ok (.iload_n 2, 1) := by decide +kernel
theorem dX8_as_12 : decode cX8_as 12 = .ok (.i2l, 1) := by decide +kernel
theorem dX8_as_13 : decode cX8_as 13 = .ok (.lconst 0, 1) := by decide +kernel
theorem dX8_as_14 : decode cX8_as 14 = .ok (.ldc2_w 180, 3) := by decide +kernel
theorem dX8_as_17 : decode cX8_as 17 = .ok (.invokestatic 70, 3) := by decide +kernel
theorem dX8_as_20 : decode cX8_as 20 = .ok (.ifCond .ne 6, 3) := by decide +kernel
theorem dX8_as_23 : decode cX8_as 23 = .ok (.bipush (-3), 2) := by decide +kernel
theorem dX8_as_25 : decode cX8_as 25 = .ok (.ireturn, 1) := by decide +kernel
theorem dX8_as_26 : decode cX8_as 26 = .ok (.aload_n 0, 1) := by decide +kernel
theorem dX8_as_27 : decode cX8_as 27 = .ok (.getfield 27, 3) := by decide +kernel
theorem dX8_as_30 : decode cX8_as 30 = .ok (.iload_n 1, 1) := by decide +kernel
theorem dX8_as_31 : decode cX8_as 31 = .ok (.iaload, 1) := by decide +kernel
theorem dX8_as_32 : decode cX8_as 32 = .ok (.istore_n 3, 1) := by decide +kernel
theorem dX8_as_33 : decode cX8_as 33 = .ok (.iload_n 2, 1) := by decide +kernel
theorem dX8_as_34 : decode cX8_as 34 = .ok (.ifCond .eq 43, 3) := by decide +kernel
theorem dX8_as_37 : decode cX8_as 37 = .ok (.iload_n 2, 1) := by decide +kernel
theorem dX8_as_38 : decode cX8_as 38 = .ok (.iconst 1, 1) := by decide +kernel
theorem dX8_as_39 : decode cX8_as 39 = .ok (.if_icmp .ne 8, 3) := by decide +kernel
theorem dX8_as_42 : decode cX8_as 42 = .ok (.iload_n 3, 1) := by decide +kernel
theorem dX8_as_43 : decode cX8_as 43 = .ok (.iconst 3, 1) := by decide +kernel
theorem dX8_as_44 : decode cX8_as 44 = .ok (.if_icmp .ne 33, 3) := by decide +kernel
theorem dX8_as_47 : decode cX8_as 47 = .ok (.iload_n 2, 1) := by decide +kernel
theorem dX8_as_48 : decode cX8_as 48 = .ok (.iconst 2, 1) := by decide +kernel
theorem dX8_as_49 : decode cX8_as 49 = .ok (.if_icmp .ne 8, 3) := by decide +kernel
theorem dX8_as_52 : decode cX8_as 52 = .ok (.iload_n 3, 1) := by decide +kernel
theorem dX8_as_53 : decode cX8_as 53 = .ok (.iconst 1, 1) := by decide +kernel
theorem dX8_as_54 : decode cX8_as 54 = .ok (.if_icmp .eq 23, 3) := by decide +kernel
theorem dX8_as_57 : decode cX8_as 57 = .ok (.iload_n 2, 1) := by decide +kernel
theorem dX8_as_58 : decode cX8_as 58 = .ok (.iconst 3, 1) := by decide +kernel
theorem dX8_as_59 : decode cX8_as 59 = .ok (.if_icmp .ne 8, 3) := by decide +kernel
theorem dX8_as_62 : decode cX8_as 62 = .ok (.iload_n 3, 1) := by decide +kernel
theorem dX8_as_63 : decode cX8_as 63 = .ok (.iconst 2, 1) := by decide +kernel
theorem dX8_as_64 : decode cX8_as 64 = .ok (.if_icmp .eq 13, 3) := by decide +kernel
theorem dX8_as_67 : decode cX8_as 67 = .ok (.iload_n 2, 1) := by decide +kernel
theorem dX8_as_68 : decode cX8_as 68 = .ok (.iconst 4, 1) := by decide +kernel
theorem dX8_as_69 : decode cX8_as 69 = .ok (.if_icmp .ne 12, 3) := by decide +kernel
theorem dX8_as_72 : decode cX8_as 72 = .ok (.iload_n 3, 1) := by decide +kernel
theorem dX8_as_73 : decode cX8_as 73 = .ok (.iconst 3, 1) := by decide +kernel
theorem dX8_as_74 : decode cX8_as 74 = .ok (.if_icmp .ne 7, 3) := by decide +kernel
theorem dX8_as_77 : decode cX8_as 77 = .ok (.iconst 1, 1) := by decide +kernel
theorem dX8_as_78 : decode cX8_as 78 = .ok (.goto 4, 3) := by decide +kernel
theorem dX8_as_81 : decode cX8_as 81 = .ok (.iconst 0, 1) := by decide +kernel
theorem dX8_as_82 : decode cX8_as 82 = .ok (.istore 4, 2) := by decide +kernel
theorem dX8_as_84 : decode cX8_as 84 = .ok (.iload 4, 2) := by decide +kernel
theorem dX8_as_86 : decode cX8_as 86 = .ok (.ifCond .ne 6, 3) := by decide +kernel
theorem dX8_as_89 : decode cX8_as 89 = .ok (.bipush (-4), 2) := by decide +kernel
theorem dX8_as_91 : decode cX8_as 91 = .ok (.ireturn, 1) := by decide +kernel
theorem dX8_as_92 : decode cX8_as 92 = .ok (.bipush 99, 2) := by decide +kernel
theorem dX8_as_94 : decode cX8_as 94 = .ok (.istore 5, 2) := by decide +kernel
theorem dX8_as_96 : decode cX8_as 96 = .ok (.iconst 0, 1) := by decide +kernel
theorem dX8_as_97 : decode cX8_as 97 = .ok (.istore 6, 2) := by decide +kernel
theorem dX8_as_99 : decode cX8_as 99 = .ok (.iload 6, 2) := by decide +kernel
theorem dX8_as_101 : decode cX8_as 101 = .ok (.aload_n 0, 1) := by decide +kernel
theorem dX8_as_102 : decode cX8_as 102 = .ok (.getfield 23, 3) := by decide +kernel
theorem dX8_as_105 : decode cX8_as 105 = .ok (.if_icmp .ge 59, 3) := by decide +kernel
theorem dX8_as_108 : decode cX8_as 108 = .ok (.aload_n 0, 1) := by decide +kernel
theorem dX8_as_109 : decode cX8_as 109 = .ok (.getfield 154, 3) := by decide +kernel
theorem dX8_as_112 : decode cX8_as 112 = .ok (.iload 6, 2) := by decide +kernel
theorem dX8_as_114 : decode cX8_as 114 = .ok (.invokestatic 130, 3) := by decide +kernel
theorem dX8_as_117 : decode cX8_as 117 = .ok (.ifCond .eq 21, 3) := by decide +kernel
theorem dX8_as_120 : decode cX8_as 120 = .ok (.aload_n 0, 1) := by decide +kernel
theorem dX8_as_121 : decode cX8_as 121 = .ok (.iload_n 1, 1) := by decide +kernel
theorem dX8_as_122 : decode cX8_as 122 = .ok (.aload_n 0, 1) := by decide +kernel
theorem dX8_as_123 : decode cX8_as 123 = .ok (.getfield 7, 3) := by decide +kernel
theorem dX8_as_126 : decode cX8_as 126 = .ok (.iconst 3, 1) := by decide +kernel
theorem dX8_as_127 : decode cX8_as 127 = .ok (.iload_n 1, 1) := by decide +kernel
theorem dX8_as_128 : decode cX8_as 128 = .ok (.iadd, 1) := by decide +kernel
theorem dX8_as_129 : decode cX8_as 129 = .ok (.iaload, 1) := by decide +kernel
theorem dX8_as_130 : decode cX8_as 130 = .ok (.iload 6, 2) := by decide +kernel
theorem dX8_as_132 : decode cX8_as 132 = .ok (.invokevirtual 182, 3) := by decide +kernel
theorem dX8_as_135 : decode cX8_as 135 = .ok (.goto 5, 3) := by decide +kernel
theorem dX8_as_138 : decode cX8_as 138 = .ok (.bipush 99, 2) := by decide +kernel
theorem dX8_as_140 : decode cX8_as 140 = .ok (.istore 7, 2) := by decide +kernel
theorem dX8_as_142 : decode cX8_as 142 = .ok (.iload 7, 2) := by decide +kernel
theorem dX8_as_144 : decode cX8_as 144 = .ok (.iload 5, 2) := by decide +kernel
theorem dX8_as_146 : decode cX8_as 146 = .ok (.if_icmp .ge 8, 3) := by decide +kernel
theorem dX8_as_149 : decode cX8_as 149 = .ok (.iload 7, 2) := by decide +kernel
theorem dX8_as_151 : decode cX8_as 151 = .ok (.goto 5, 3) := by decide +kernel
theorem dX8_as_154 : decode cX8_as 154 = .ok (.iload 5, 2) := by decide +kernel
theorem dX8_as_156 : decode cX8_as 156 = .ok (.istore 5, 2) := by decide +kernel
theorem dX8_as_158 : decode cX8_as 158 = .ok (.iinc 6 1, 3) := by decide +kernel
theorem dX8_as_161 : decode cX8_as 161 = .ok (.goto (-62), 3) := by decide +kernel
theorem dX8_as_164 : decode cX8_as 164 = .ok (.iload 5, 2) := by decide +kernel
theorem dX8_as_166 : decode cX8_as 166 = .ok (.bipush 99, 2) := by decide +kernel
theorem dX8_as_168 : decode cX8_as 168 = .ok (.if_icmp .ne 7, 3) := by decide +kernel
theorem dX8_as_171 : decode cX8_as 171 = .ok (.iconst (-1), 1) := by decide +kernel
theorem dX8_as_172 : decode cX8_as 172 = .ok (.goto 8, 3) := by decide +kernel
theorem dX8_as_175 : decode cX8_as 175 = .ok (.bipush 100, 2) := by decide +kernel
theorem dX8_as_177 : decode cX8_as 177 = .ok (.iload 5, 2) := by decide +kernel
theorem dX8_as_179 : decode cX8_as 179 = .ok (.iadd, 1) := by decide +kernel
theorem dX8_as_180 : decode cX8_as 180 = .ok (.ireturn, 1) := by decide +kernel
theorem dX8_findsTwo_0 : decode cX8_findsTwo 0 = .ok (.bipush 99, 2) := by decide +kernel
theorem dX8_findsTwo_2 : decode cX8_findsTwo 2 = .ok (.istore_n 2, 1) := by decide +kernel
theorem dX8_findsTwo_3 : decode cX8_findsTwo 3 = .ok (.iconst 0, 1) := by decide +kernel
theorem dX8_findsTwo_4 : decode cX8_findsTwo 4 = .ok (.istore_n 3, 1) := by decide +kernel
theorem dX8_findsTwo_5 : decode cX8_findsTwo 5 = .ok (.iload_n 3, 1) := by decide +kernel
theorem dX8_findsTwo_6 : decode cX8_findsTwo 6 = .ok (.aload_n 0, 1) := by decide +kernel
theorem dX8_findsTwo_7 : decode cX8_findsTwo 7 = .ok (.getfield 74, 3) := by decide +kernel
theorem dX8_findsTwo_10 : decode cX8_findsTwo 10 = .ok (.if_icmp .ge 139, 3) := by decide +kernel
theorem dX8_findsTwo_13 : decode cX8_findsTwo 13 = .ok (.iconst 0, 1) := by decide +kernel
theorem dX8_findsTwo_14 : decode cX8_findsTwo 14 = .ok (.istore 4, 2) := by decide +kernel
theorem dX8_findsTwo_16 : decode cX8_findsTwo 16 = .ok (.iload 4, 2) := by decide +kernel
theorem dX8_findsTwo_18 : decode cX8_findsTwo 18 = .ok (.aload_n 0, 1) := by decide +kernel
theorem dX8_findsTwo_19 : decode cX8_findsTwo 19 = .ok (.getfield 23, 3) := by decide +kernel
theorem dX8_findsTwo_22 : decode cX8_findsTwo 22 = .ok (.if_icmp .ge 121, 3) := by decide +kernel
theorem dX8_findsTwo_25 : decode cX8_findsTwo 25 = .ok (.iload_n 1, 1) := by decide +kernel
theorem dX8_findsTwo_26 : decode cX8_findsTwo 26 = .ok (.iload_n 3, 1) := by decide +kernel
theorem dX8_findsTwo_27 : decode cX8_findsTwo 27 = .ok (.invokestatic 130, 3) := by decide +kernel
theorem dX8_findsTwo_30 : decode cX8_findsTwo 30 = .ok (.ifCond .eq 29, 3) := by decide +kernel
theorem dX8_findsTwo_33 : decode cX8_findsTwo 33 = .ok (.aload_n 0, 1) := by decide +kernel
theorem dX8_findsTwo_34 : decode cX8_findsTwo 34 = .ok (.getfield 45, 3) := by decide +kernel
theorem dX8_findsTwo_37 : decode cX8_findsTwo 37 = .ok (.iload_n 3, 1) := by decide +kernel
theorem dX8_findsTwo_38 : decode cX8_findsTwo 38 = .ok (.iaload, 1) := by decide +kernel
theorem dX8_findsTwo_39 : decode cX8_findsTwo 39 = .ok (.iconst (-1), 1) := by decide +kernel
theorem dX8_findsTwo_40 : decode cX8_findsTwo 40 = .ok (.if_icmp .ne 19, 3) := by decide +kernel
theorem dX8_findsTwo_43 : decode cX8_findsTwo 43 = .ok (.aload_n 0, 1) := by decide +kernel
theorem dX8_findsTwo_44 : decode cX8_findsTwo 44 = .ok (.getfield 186, 3) := by decide +kernel
theorem dX8_findsTwo_47 : decode cX8_findsTwo 47 = .ok (.iload 4, 2) := by decide +kernel
theorem dX8_findsTwo_49 : decode cX8_findsTwo 49 = .ok (.invokestatic 130, 3) := by decide +kernel
theorem dX8_findsTwo_52 : decode cX8_findsTwo 52 = .ok (.ifCond .eq 7, 3) := by decide +kernel
theorem dX8_findsTwo_55 : decode cX8_findsTwo 55 = .ok (.iconst 1, 1) := by decide +kernel
theorem dX8_findsTwo_56 : decode cX8_findsTwo 56 = .ok (.goto 4, 3) := by decide +kernel
theorem dX8_findsTwo_59 : decode cX8_findsTwo 59 = .ok (.iconst 0, 1) := by decide +kernel
theorem dX8_findsTwo_60 : decode cX8_findsTwo 60 = .ok (.istore 5, 2) := by decide +kernel
theorem dX8_findsTwo_62 : decode cX8_findsTwo 62 = .ok (.iload 5, 2) := by decide +kernel
theorem dX8_findsTwo_64 : decode cX8_findsTwo 64 = .ok (.ifCond .eq 19, 3) := by decide +kernel
theorem dX8_findsTwo_67 : decode cX8_findsTwo 67 = .ok (.aload_n 0, 1) := by decide +kernel
theorem dX8_findsTwo_68 : decode cX8_findsTwo 68 = .ok (.iload_n 3, 1) := by decide +kernel
theorem dX8_findsTwo_69 : decode cX8_findsTwo 69 = .ok (.aload_n 0, 1) := by decide +kernel
theorem dX8_findsTwo_70 : decode cX8_findsTwo 70 = .ok (.getfield 42, 3) := by decide +kernel
theorem dX8_findsTwo_73 : decode cX8_findsTwo 73 = .ok (.iload_n 3, 1) := by decide +kernel
theorem dX8_findsTwo_74 : decode cX8_findsTwo 74 = .ok (.iaload, 1) := by decide +kernel
theorem dX8_findsTwo_75 : decode cX8_findsTwo 75 = .ok (.iload 4, 2) := by decide +kernel
theorem dX8_findsTwo_77 : decode cX8_findsTwo 77 = .ok (.invokevirtual 182, 3) := by decide +kernel
theorem dX8_findsTwo_80 : decode cX8_findsTwo 80 = .ok (.goto 5, 3) := by decide +kernel
theorem dX8_findsTwo_83 : decode cX8_findsTwo 83 = .ok (.bipush 99, 2) := by decide +kernel
theorem dX8_findsTwo_85 : decode cX8_findsTwo 85 = .ok (.istore 6, 2) := by decide +kernel
theorem dX8_findsTwo_87 : decode cX8_findsTwo 87 = .ok (.aload_n 0, 1) := by decide +kernel
theorem dX8_findsTwo_88 : decode cX8_findsTwo 88 = .ok (.iload 6, 2) := by decide +kernel
theorem dX8_findsTwo_90 : decode cX8_findsTwo 90 = .ok (.iload_n 2, 1) := by decide +kernel
theorem dX8_findsTwo_91 : decode cX8_findsTwo 91 = .ok (.if_icmp .ge 7, 3) := by decide +kernel
theorem dX8_findsTwo_94 : decode cX8_findsTwo 94 = .ok (.iload_n 3, 1) := by decide +kernel
theorem dX8_findsTwo_95 : decode cX8_findsTwo 95 = .ok (.goto 7, 3) := by decide +kernel
theorem dX8_findsTwo_98 : decode cX8_findsTwo 98 = .ok (.aload_n 0, 1) := by decide +kernel
theorem dX8_findsTwo_99 : decode cX8_findsTwo 99 = .ok (.getfield 189, 3) := by decide +kernel
theorem dX8_findsTwo_102 : decode cX8_findsTwo 102 = .ok (.putfield 189, 3) := by decide +kernel
theorem dX8_findsTwo_105 : decode cX8_findsTwo 105 = .ok (.aload_n 0, 1) := by decide +kernel
theorem dX8_findsTwo_106 : decode cX8_findsTwo 106 = .ok (.iload 6, 2) := by decide +kernel
theorem dX8_findsTwo_108 : decode cX8_findsTwo 108 = .ok (.iload_n 2, 1) := by decide +kernel
theorem dX8_findsTwo_109 : decode cX8_findsTwo 109 = .ok (.if_icmp .ge 8, 3) := by decide +kernel
theorem dX8_findsTwo_112 : decode cX8_findsTwo 112 = .ok (.iload 4, 2) := by decide +kernel
theorem dX8_findsTwo_114 : decode cX8_findsTwo 114 = .ok (.goto 7, 3) := by decide +kernel
theorem dX8_findsTwo_117 : decode cX8_findsTwo 117 = .ok (.aload_n 0, 1) := by decide +kernel
theorem dX8_findsTwo_118 : decode cX8_findsTwo 118 = .ok (.getfield 192, 3) := by decide +kernel
theorem dX8_findsTwo_121 : decode cX8_findsTwo 121 = .ok (.putfield 192, 3) := by decide +kernel
theorem dX8_findsTwo_124 : decode cX8_findsTwo 124 = .ok (.iload 6, 2) := by decide +kernel
theorem dX8_findsTwo_126 : decode cX8_findsTwo 126 = .ok (.iload_n 2, 1) := by decide +kernel
theorem dX8_findsTwo_127 : decode cX8_findsTwo 127 = .ok (.if_icmp .ge 8, 3) := by decide +kernel
theorem dX8_findsTwo_130 : decode cX8_findsTwo 130 = .ok (.iload 6, 2) := by decide +kernel
theorem dX8_findsTwo_132 : decode cX8_findsTwo 132 = .ok (.goto 4, 3) := by decide +kernel
theorem dX8_findsTwo_135 : decode cX8_findsTwo 135 = .ok (.iload_n 2, 1) := by decide +kernel
theorem dX8_findsTwo_136 : decode cX8_findsTwo 136 = .ok (.istore_n 2, 1) := by decide +kernel
theorem dX8_findsTwo_137 : decode cX8_findsTwo 137 = .ok (.iinc 4 1, 3) := by decide +kernel
theorem dX8_findsTwo_140 : decode cX8_findsTwo 140 = .ok (.goto (-124), 3) := by decide +kernel
theorem dX8_findsTwo_143 : decode cX8_findsTwo 143 = .ok (.iinc 3 1, 3) := by decide +kernel
theorem dX8_findsTwo_146 : decode cX8_findsTwo 146 = .ok (.goto (-141), 3) := by decide +kernel
theorem dX8_findsTwo_149 : decode cX8_findsTwo 149 = .ok (.iload_n 2, 1) := by decide +kernel
theorem dX8_findsTwo_150 : decode cX8_findsTwo 150 = .ok (.bipush 99, 2) := by decide +kernel
theorem dX8_findsTwo_152 : decode cX8_findsTwo 152 = .ok (.if_icmp .ge 7, 3) := by decide +kernel
theorem dX8_findsTwo_155 : decode cX8_findsTwo 155 = .ok (.iconst 1, 1) := by decide +kernel
theorem dX8_findsTwo_156 : decode cX8_findsTwo 156 = .ok (.goto 4, 3) := by decide +kernel
theorem dX8_findsTwo_159 : decode cX8_findsTwo 159 = .ok (.iconst 0, 1) := by decide +kernel
theorem dX8_findsTwo_160 : decode cX8_findsTwo 160 = .ok (.ireturn, 1) := by decide +kernel
theorem dX8_takeSecond_0 : decode cX8_takeSecond 0 = .ok (.bipush 99, 2) := by decide +kernel
theorem dX8_takeSecond_2 : decode cX8_takeSecond 2 = .ok (.istore_n 2, 1) := by decide +kernel
theorem dX8_takeSecond_3 : decode cX8_takeSecond 3 = .ok (.iconst (-1), 1) := by decide +kernel
theorem dX8_takeSecond_4 : decode cX8_takeSecond 4 = .ok (.istore_n 3, 1) := by decide +kernel
theorem dX8_takeSecond_5 : decode cX8_takeSecond 5 = .ok (.iconst 0, 1) := by decide +kernel
theorem dX8_takeSecond_6 : decode cX8_takeSecond 6 = .ok (.istore 4, 2) := by decide +kernel
theorem dX8_takeSecond_8 : decode cX8_takeSecond 8 = .ok (.iload 4, 2) := by decide +kernel
theorem dX8_takeSecond_10 : decode cX8_takeSecond 10 = .ok (.aload_n 0, 1) := by decide +kernel
theorem dX8_takeSecond_11 : decode cX8_takeSecond 11 = .ok (.getfield 23, 3) := by decide +kernel
theorem dX8_takeSecond_14 : decode cX8_takeSecond 14 = .ok (.if_icmp .ge 66, 3) := by decide +kernel
theorem dX8_takeSecond_17 : decode cX8_takeSecond 17 = .ok (.aload_n 0, 1) := by decide +kernel
theorem dX8_takeSecond_18 : decode cX8_takeSecond 18 = .ok (.getfield 186, 3) := by decide +kernel
theorem dX8_takeSecond_21 : decode cX8_takeSecond 21 = .ok (.iload 4, 2) := by decide +kernel
theorem dX8_takeSecond_23 : decode cX8_takeSecond 23 = .ok (.invokestatic 130, 3) := by decide +kernel
theorem dX8_takeSecond_26 : decode cX8_takeSecond 26 = .ok (.ifCond .eq 18, 3) := by decide +kernel
theorem dX8_takeSecond_29 : decode cX8_takeSecond 29 = .ok (.aload_n 0, 1) := by decide +kernel
theorem dX8_takeSecond_30 : decode cX8_takeSecond 30 = .ok (.aload_n 0, 1) := by decide +kernel
theorem dX8_takeSecond_31 : decode cX8_takeSecond 31 = .ok (.getfield 45, 3) := by decide +kernel
theorem dX8_takeSecond_34 : decode cX8_takeSecond 34 = .ok (.iload_n 1, 1) := by decide +kernel
theorem dX8_takeSecond_35 : decode cX8_takeSecond 35 = .ok (.iaload, 1) := by decide +kernel
theorem dX8_takeSecond_36 : decode cX8_takeSecond 36 = .ok (.iload 4, 2) := by decide +kernel
theorem dX8_takeSecond_38 : decode cX8_takeSecond 38 = .ok (.invokevirtual 176, 3) := by decide +kernel
theorem dX8_takeSecond_41 : decode cX8_takeSecond 41 = .ok (.goto 5, 3) := by decide +kernel
theorem dX8_takeSecond_44 : decode cX8_takeSecond 44 = .ok (.bipush 99, 2) := by decide +kernel
theorem dX8_takeSecond_46 : decode cX8_takeSecond 46 = .ok (.istore 5, 2) := by decide +kernel
theorem dX8_takeSecond_48 : decode cX8_takeSecond 48 = .ok (.iload 5, 2) := by decide +kernel
theorem dX8_takeSecond_50 : decode cX8_takeSecond 50 = .ok (.iload_n 2, 1) := by decide +kernel
theorem dX8_takeSecond_51 : decode cX8_takeSecond 51 = .ok (.if_icmp .ge 8, 3) := by decide +kernel
theorem dX8_takeSecond_54 : decode cX8_takeSecond 54 = .ok (.iload 4, 2) := by decide +kernel
theorem dX8_takeSecond_56 : decode cX8_takeSecond 56 = .ok (.goto 4, 3) := by decide +kernel
theorem dX8_takeSecond_59 : decode cX8_takeSecond 59 = .ok (.iload_n 3, 1) := by decide +kernel
theorem dX8_takeSecond_60 : decode cX8_takeSecond 60 = .ok (.istore_n 3, 1) := by decide +kernel
theorem dX8_takeSecond_61 : decode cX8_takeSecond 61 = .ok (.iload 5, 2) := by decide +kernel
theorem dX8_takeSecond_63 : decode cX8_takeSecond 63 = .ok (.iload_n 2, 1) := by decide +kernel
theorem dX8_takeSecond_64 : decode cX8_takeSecond 64 = .ok (.if_icmp .ge 8, 3) := by decide +kernel
theorem dX8_takeSecond_67 : decode cX8_takeSecond 67 = .ok (.iload 5, 2) := by decide +kernel
theorem dX8_takeSecond_69 : decode cX8_takeSecond 69 = .ok (.goto 4, 3) := by decide +kernel
theorem dX8_takeSecond_72 : decode cX8_takeSecond 72 = .ok (.iload_n 2, 1) := by decide +kernel
theorem dX8_takeSecond_73 : decode cX8_takeSecond 73 = .ok (.istore_n 2, 1) := by decide +kernel
theorem dX8_takeSecond_74 : decode cX8_takeSecond 74 = .ok (.iinc 4 1, 3) := by decide +kernel
theorem dX8_takeSecond_77 : decode cX8_takeSecond 77 = .ok (.goto (-69), 3) := by decide +kernel
theorem dX8_takeSecond_80 : decode cX8_takeSecond 80 = .ok (.aload_n 0, 1) := by decide +kernel
theorem dX8_takeSecond_81 : decode cX8_takeSecond 81 = .ok (.getfield 48, 3) := by decide +kernel
theorem dX8_takeSecond_84 : decode cX8_takeSecond 84 = .ok (.iload_n 1, 1) := by decide +kernel
theorem dX8_takeSecond_85 : decode cX8_takeSecond 85 = .ok (.iload_n 3, 1) := by decide +kernel
theorem dX8_takeSecond_86 : decode cX8_takeSecond 86 = .ok (.iastore, 1) := by decide +kernel
theorem dX8_takeSecond_87 : decode cX8_takeSecond 87 = .ok (.aload_n 0, 1) := by decide +kernel
theorem dX8_takeSecond_88 : decode cX8_takeSecond 88 = .ok (.dup, 1) := by decide +kernel
theorem dX8_takeSecond_89 : decode cX8_takeSecond 89 = .ok (.getfield 186, 3) := by decide +kernel
theorem dX8_takeSecond_92 : decode cX8_takeSecond 92 = .ok (.iload_n 3, 1) := by decide +kernel
theorem dX8_takeSecond_93 : decode cX8_takeSecond 93 = .ok (.iconst (-1), 1) := by decide +kernel
theorem dX8_takeSecond_94 : decode cX8_takeSecond 94 = .ok (.if_icmp .ne 7, 3) := by decide +kernel
theorem dX8_takeSecond_97 : decode cX8_takeSecond 97 = .ok (.iconst (-1), 1) := by decide +kernel
theorem dX8_takeSecond_98 : decode cX8_takeSecond 98 = .ok (.goto 8, 3) := by decide +kernel
theorem dX8_takeSecond_101 : decode cX8_takeSecond 101 = .ok (.iconst 1, 1) := by decide +kernel
theorem dX8_takeSecond_102 : decode cX8_takeSecond 102 = .ok (.iload_n 3, 1) := by decide +kernel
theorem dX8_takeSecond_103 : decode cX8_takeSecond 103 = .ok (.ishl, 1) := by decide +kernel
theorem dX8_takeSecond_104 : decode cX8_takeSecond 104 = .ok (.iconst (-1), 1) := by decide +kernel
theorem dX8_takeSecond_105 : decode cX8_takeSecond 105 = .ok (.ixor, 1) := by decide +kernel
theorem dX8_takeSecond_106 : decode cX8_takeSecond 106 = .ok (.iand, 1) := by decide +kernel
theorem dX8_takeSecond_107 : decode cX8_takeSecond 107 = .ok (.putfield 186, 3) := by decide +kernel
theorem dX8_takeSecond_110 : decode cX8_takeSecond 110 = .ok (.return_, 1) := by decide +kernel
theorem dX8_seat_0 : decode cX8_seat 0 = .ok (.aload_n 0, 1) := by decide +kernel
theorem dX8_seat_1 : decode cX8_seat 1 = .ok (.iload_n 1, 1) := by decide +kernel
theorem dX8_seat_2 : decode cX8_seat 2 = .ok (.invokevirtual 195, 3) := by decide +kernel
theorem dX8_seat_5 : decode cX8_seat 5 = .ok (.ifCond .eq 57, 3) := by decide +kernel
theorem dX8_seat_8 : decode cX8_seat 8 = .ok (.aload_n 0, 1) := by decide +kernel
theorem dX8_seat_9 : decode cX8_seat 9 = .ok (.getfield 45, 3) := by decide +kernel
theorem dX8_seat_12 : decode cX8_seat 12 = .ok (.aload_n 0, 1) := by decide +kernel
theorem dX8_seat_13 : decode cX8_seat 13 = .ok (.getfield 189, 3) := by decide +kernel
theorem dX8_seat_16 : decode cX8_seat 16 = .ok (.aload_n 0, 1) := by decide +kernel
theorem dX8_seat_17 : decode cX8_seat 17 = .ok (.getfield 192, 3) := by decide +kernel
theorem dX8_seat_20 : decode cX8_seat 20 = .ok (.iastore, 1) := by decide +kernel
theorem dX8_seat_21 : decode cX8_seat 21 = .ok (.aload_n 0, 1) := by decide +kernel
theorem dX8_seat_22 : decode cX8_seat 22 = .ok (.dup, 1) := by decide +kernel
theorem dX8_seat_23 : decode cX8_seat 23 = .ok (.getfield 186, 3) := by decide +kernel
theorem dX8_seat_26 : decode cX8_seat 26 = .ok (.iconst 1, 1) := by decide +kernel
theorem dX8_seat_27 : decode cX8_seat 27 = .ok (.aload_n 0, 1) := by decide +kernel
theorem dX8_seat_28 : decode cX8_seat 28 = .ok (.getfield 192, 3) := by decide +kernel
theorem dX8_seat_31 : decode cX8_seat 31 = .ok (.ishl, 1) := by decide +kernel
theorem dX8_seat_32 : decode cX8_seat 32 = .ok (.iconst (-1), 1) := by decide +kernel
theorem dX8_seat_33 : decode cX8_seat 33 = .ok (.ixor, 1) := by decide +kernel
theorem dX8_seat_34 : decode cX8_seat 34 = .ok (.iand, 1) := by decide +kernel
theorem dX8_seat_35 : decode cX8_seat 35 = .ok (.putfield 186, 3) := by decide +kernel
theorem dX8_seat_38 : decode cX8_seat 38 = .ok (.aload_n 0, 1) := by decide +kernel
theorem dX8_seat_39 : decode cX8_seat 39 = .ok (.getfield 27, 3) := by decide +kernel
theorem dX8_seat_42 : decode cX8_seat 42 = .ok (.aload_n 0, 1) := by decide +kernel
theorem dX8_seat_43 : decode cX8_seat 43 = .ok (.getfield 189, 3) := by decide +kernel
theorem dX8_seat_46 : decode cX8_seat 46 = .ok (.iaload, 1) := by decide +kernel
theorem dX8_seat_47 : decode cX8_seat 47 = .ok (.iconst 3, 1) := by decide +kernel
theorem dX8_seat_48 : decode cX8_seat 48 = .ok (.if_icmp .ne (-48), 3) := by decide +kernel
theorem dX8_seat_51 : decode cX8_seat 51 = .ok (.aload_n 0, 1) := by decide +kernel
theorem dX8_seat_52 : decode cX8_seat 52 = .ok (.aload_n 0, 1) := by decide +kernel
theorem dX8_seat_53 : decode cX8_seat 53 = .ok (.getfield 189, 3) := by decide +kernel
theorem dX8_seat_56 : decode cX8_seat 56 = .ok (.invokevirtual 198, 3) := by decide +kernel
theorem dX8_seat_59 : decode cX8_seat 59 = .ok (.goto (-59), 3) := by decide +kernel
theorem dX8_seat_62 : decode cX8_seat 62 = .ok (.return_, 1) := by decide +kernel
theorem dX8_faint_0 : decode cX8_faint 0 = .ok (.iconst 0, 1) := by decide +kernel
theorem dX8_faint_1 : decode cX8_faint 1 = .ok (.istore_n 1, 1) := by decide +kernel
theorem dX8_faint_2 : decode cX8_faint 2 = .ok (.iconst 0, 1) := by decide +kernel
theorem dX8_faint_3 : decode cX8_faint 3 = .ok (.istore_n 2, 1) := by decide +kernel
theorem dX8_faint_4 : decode cX8_faint 4 = .ok (.iload_n 2, 1) := by decide +kernel
theorem dX8_faint_5 : decode cX8_faint 5 = .ok (.aload_n 0, 1) := by decide +kernel
theorem dX8_faint_6 : decode cX8_faint 6 = .ok (.getfield 74, 3) := by decide +kernel
theorem dX8_faint_9 : decode cX8_faint 9 = .ok (.if_icmp .ge 29, 3) := by decide +kernel
theorem dX8_faint_12 : decode cX8_faint 12 = .ok (.iload_n 1, 1) := by decide +kernel
theorem dX8_faint_13 : decode cX8_faint 13 = .ok (.aload_n 0, 1) := by decide +kernel
theorem dX8_faint_14 : decode cX8_faint 14 = .ok (.getfield 27, 3) := by decide +kernel
theorem dX8_faint_17 : decode cX8_faint 17 = .ok (.iload_n 2, 1) := by decide +kernel
theorem dX8_faint_18 : decode cX8_faint 18 = .ok (.iaload, 1) := by decide +kernel
theorem dX8_faint_19 : decode cX8_faint 19 = .ok (.iconst 2, 1) := by decide +kernel
theorem dX8_faint_20 : decode cX8_faint 20 = .ok (.if_icmp .ne 9, 3) := by decide +kernel
theorem dX8_faint_23 : decode cX8_faint 23 = .ok (.iconst 1, 1) := by decide +kernel
theorem dX8_faint_24 : decode cX8_faint 24 = .ok (.iload_n 2, 1) := by decide +kernel
theorem dX8_faint_25 : decode cX8_faint 25 = .ok (.ishl, 1) := by decide +kernel
theorem dX8_faint_26 : decode cX8_faint 26 = .ok (.goto 4, 3) := by decide +kernel
theorem dX8_faint_29 : decode cX8_faint 29 = .ok (.iconst 0, 1) := by decide +kernel
theorem dX8_faint_30 : decode cX8_faint 30 = .ok (.ior, 1) := by decide +kernel
theorem dX8_faint_31 : decode cX8_faint 31 = .ok (.istore_n 1, 1) := by decide +kernel
theorem dX8_faint_32 : decode cX8_faint 32 = .ok (.iinc 2 1, 3) := by decide +kernel
theorem dX8_faint_35 : decode cX8_faint 35 = .ok (.goto (-31), 3) := by decide +kernel
theorem dX8_faint_38 : decode cX8_faint 38 = .ok (.iload_n 1, 1) := by decide +kernel
theorem dX8_faint_39 : decode cX8_faint 39 = .ok (.ireturn, 1) := by decide +kernel
theorem dX8_stops_0 : decode cX8_stops 0 = .ok (.aload_n 0, 1) := by decide +kernel
theorem dX8_stops_1 : decode cX8_stops 1 = .ok (.iload_n 1, 1) := by decide +kernel
theorem dX8_stops_2 : decode cX8_stops 2 = .ok (.putfield 186, 3) := by decide +kernel
theorem dX8_stops_5 : decode cX8_stops 5 = .ok (.iconst 0, 1) := by decide +kernel
theorem dX8_stops_6 : decode cX8_stops 6 = .ok (.istore_n 3, 1) := by decide +kernel
theorem dX8_stops_7 : decode cX8_stops 7 = .ok (.iload_n 3, 1) := by decide +kernel
theorem dX8_stops_8 : decode cX8_stops 8 = .ok (.bipush 6, 2) := by decide +kernel
theorem dX8_stops_10 : decode cX8_stops 10 = .ok (.if_icmp .ge 23, 3) := by decide +kernel
theorem dX8_stops_13 : decode cX8_stops 13 = .ok (.aload_n 0, 1) := by decide +kernel
theorem dX8_stops_14 : decode cX8_stops 14 = .ok (.getfield 45, 3) := by decide +kernel
theorem dX8_stops_17 : decode cX8_stops 17 = .ok (.iload_n 3, 1) := by decide +kernel
theorem dX8_stops_18 : decode cX8_stops 18 = .ok (.iconst (-1), 1) := by decide +kernel
theorem dX8_stops_19 : decode cX8_stops 19 = .ok (.iastore, 1) := by decide +kernel
theorem dX8_stops_20 : decode cX8_stops 20 = .ok (.aload_n 0, 1) := by decide +kernel
theorem dX8_stops_21 : decode cX8_stops 21 = .ok (.getfield 48, 3) := by decide +kernel
theorem dX8_stops_24 : decode cX8_stops 24 = .ok (.iload_n 3, 1) := by decide +kernel
theorem dX8_stops_25 : decode cX8_stops 25 = .ok (.iconst (-1), 1) := by decide +kernel
theorem dX8_stops_26 : decode cX8_stops 26 = .ok (.iastore, 1) := by decide +kernel
theorem dX8_stops_27 : decode cX8_stops 27 = .ok (.iinc 3 1, 3) := by decide +kernel
theorem dX8_stops_30 : decode cX8_stops 30 = .ok (.goto (-23), 3) := by decide +kernel
theorem dX8_stops_33 : decode cX8_stops 33 = .ok (.aload_n 0, 1) := by decide +kernel
theorem dX8_stops_34 : decode cX8_stops 34 = .ok (.iload_n 2, 1) := by decide +kernel
theorem dX8_stops_35 : decode cX8_stops 35 = .ok (.aload_n 0, 1) := by decide +kernel
theorem dX8_stops_36 : decode cX8_stops 36 = .ok (.invokevirtual 201, 3) := by decide +kernel
theorem dX8_stops_39 : decode cX8_stops 39 = .ok (.iconst (-1), 1) := by decide +kernel
theorem dX8_stops_40 : decode cX8_stops 40 = .ok (.ixor, 1) := by decide +kernel
theorem dX8_stops_41 : decode cX8_stops 41 = .ok (.iand, 1) := by decide +kernel
theorem dX8_stops_42 : decode cX8_stops 42 = .ok (.invokevirtual 204, 3) := by decide +kernel
theorem dX8_stops_45 : decode cX8_stops 45 = .ok (.aload_n 0, 1) := by decide +kernel
theorem dX8_stops_46 : decode cX8_stops 46 = .ok (.iload_n 2, 1) := by decide +kernel
theorem dX8_stops_47 : decode cX8_stops 47 = .ok (.aload_n 0, 1) := by decide +kernel
theorem dX8_stops_48 : decode cX8_stops 48 = .ok (.invokevirtual 201, 3) := by decide +kernel
theorem dX8_stops_51 : decode cX8_stops 51 = .ok (.iand, 1) := by decide +kernel
theorem dX8_stops_52 : decode cX8_stops 52 = .ok (.invokevirtual 204, 3) := by decide +kernel
theorem dX8_stops_55 : decode cX8_stops 55 = .ok (.iconst 0, 1) := by decide +kernel
theorem dX8_stops_56 : decode cX8_stops 56 = .ok (.istore_n 3, 1) := by decide +kernel
theorem dX8_stops_57 : decode cX8_stops 57 = .ok (.iconst 0, 1) := by decide +kernel
theorem dX8_stops_58 : decode cX8_stops 58 = .ok (.istore 4, 2) := by decide +kernel
theorem dX8_stops_60 : decode cX8_stops 60 = .ok (.iload 4, 2) := by decide +kernel
theorem dX8_stops_62 : decode cX8_stops 62 = .ok (.aload_n 0, 1) := by decide +kernel
theorem dX8_stops_63 : decode cX8_stops 63 = .ok (.getfield 74, 3) := by decide +kernel
theorem dX8_stops_66 : decode cX8_stops 66 = .ok (.if_icmp .ge 47, 3) := by decide +kernel
theorem dX8_stops_69 : decode cX8_stops 69 = .ok (.iload_n 3, 1) := by decide +kernel
theorem dX8_stops_70 : decode cX8_stops 70 = .ok (.iload_n 2, 1) := by decide +kernel
theorem dX8_stops_71 : decode cX8_stops 71 = .ok (.aload_n 0, 1) := by decide +kernel
theorem dX8_stops_72 : decode cX8_stops 72 = .ok (.invokevirtual 201, 3) := by decide +kernel
theorem dX8_stops_75 : decode cX8_stops 75 = .ok (.iconst (-1), 1) := by decide +kernel
theorem dX8_stops_76 : decode cX8_stops 76 = .ok (.ixor, 1) := by decide +kernel
theorem dX8_stops_77 : decode cX8_stops 77 = .ok (.iand, 1) := by decide +kernel
theorem dX8_stops_78 : decode cX8_stops 78 = .ok (.iload 4, 2) := by decide +kernel
theorem dX8_stops_80 : decode cX8_stops 80 = .ok (.invokestatic 130, 3) := by decide +kernel
theorem dX8_stops_83 : decode cX8_stops 83 = .ok (.ifCond .eq 21, 3) := by decide +kernel
theorem dX8_stops_86 : decode cX8_stops 86 = .ok (.aload_n 0, 1) := by decide +kernel
theorem dX8_stops_87 : decode cX8_stops 87 = .ok (.getfield 45, 3) := by decide +kernel
theorem dX8_stops_90 : decode cX8_stops 90 = .ok (.iload 4, 2) := by decide +kernel
theorem dX8_stops_92 : decode cX8_stops 92 = .ok (.iaload, 1) := by decide +kernel
theorem dX8_stops_93 : decode cX8_stops 93 = .ok (.iconst (-1), 1) := by decide +kernel
theorem dX8_stops_94 : decode cX8_stops 94 = .ok (.if_icmp .ne 10, 3) := by decide +kernel
theorem dX8_stops_97 : decode cX8_stops 97 = .ok (.iconst 1, 1) := by decide +kernel
theorem dX8_stops_98 : decode cX8_stops 98 = .ok (.iload 4, 2) := by decide +kernel
theorem dX8_stops_100 : decode cX8_stops 100 = .ok (.ishl, 1) := by decide +kernel
theorem dX8_stops_101 : decode cX8_stops 101 = .ok (.goto 4, 3) := by decide +kernel
theorem dX8_stops_104 : decode cX8_stops 104 = .ok (.iconst 0, 1) := by decide +kernel
theorem dX8_stops_105 : decode cX8_stops 105 = .ok (.ior, 1) := by decide +kernel
theorem dX8_stops_106 : decode cX8_stops 106 = .ok (.istore_n 3, 1) := by decide +kernel
theorem dX8_stops_107 : decode cX8_stops 107 = .ok (.iinc 4 1, 3) := by decide +kernel
theorem dX8_stops_110 : decode cX8_stops 110 = .ok (.goto (-50), 3) := by decide +kernel
theorem dX8_stops_113 : decode cX8_stops 113 = .ok (.iload_n 3, 1) := by decide +kernel
theorem dX8_stops_114 : decode cX8_stops 114 = .ok (.ireturn, 1) := by decide +kernel
theorem dX8_everybody_0 : decode cX8_everybody 0 = .ok (.iconst 1, 1) := by decide +kernel
theorem dX8_everybody_1 : decode cX8_everybody 1 = .ok (.aload_n 0, 1) := by decide +kernel
theorem dX8_everybody_2 : decode cX8_everybody 2 = .ok (.getfield 74, 3) := by decide +kernel
theorem dX8_everybody_5 : decode cX8_everybody 5 = .ok (.ishl, 1) := by decide +kernel
theorem dX8_everybody_6 : decode cX8_everybody 6 = .ok (.iconst 1, 1) := by decide +kernel
theorem dX8_everybody_7 : decode cX8_everybody 7 = .ok (.isub, 1) := by decide +kernel
theorem dX8_everybody_8 : decode cX8_everybody 8 = .ok (.ireturn, 1) := by decide +kernel
theorem dX8_walked_0 : decode cX8_walked 0 = .ok (.iload_n 2, 1) := by decide +kernel
theorem dX8_walked_1 : decode cX8_walked 1 = .ok (.iload 4, 2) := by decide +kernel
theorem dX8_walked_3 : decode cX8_walked 3 = .ok (.imul, 1) := by decide +kernel
theorem dX8_walked_4 : decode cX8_walked 4 = .ok (.aload_n 0, 1) := by decide +kernel
theorem dX8_walked_5 : decode cX8_walked 5 = .ok (.getfield 23, 3) := by decide +kernel
theorem dX8_walked_8 : decode cX8_walked 8 = .ok (.irem, 1) := by decide +kernel
theorem dX8_walked_9 : decode cX8_walked 9 = .ok (.istore 5, 2) := by decide +kernel
theorem dX8_walked_11 : decode cX8_walked 11 = .ok (.iload_n 3, 1) := by decide +kernel
theorem dX8_walked_12 : decode cX8_walked 12 = .ok (.ifCond .ne 15, 3) := by decide +kernel
theorem dX8_walked_15 : decode cX8_walked 15 = .ok (.iload_n 1, 1) := by decide +kernel
theorem dX8_walked_16 : decode cX8_walked 16 = .ok (.iload 5, 2) := by decide +kernel
theorem dX8_walked_18 : decode cX8_walked 18 = .ok (.iadd, 1) := by decide +kernel
theorem dX8_walked_19 : decode cX8_walked 19 = .ok (.aload_n 0, 1) := by decide +kernel
theorem dX8_walked_20 : decode cX8_walked 20 = .ok (.getfield 23, 3) := by decide +kernel
theorem dX8_walked_23 : decode cX8_walked 23 = .ok (.irem, 1) := by decide +kernel
theorem dX8_walked_24 : decode cX8_walked 24 = .ok (.goto 17, 3) := by decide +kernel
theorem dX8_walked_27 : decode cX8_walked 27 = .ok (.iload_n 1, 1) := by decide +kernel
theorem dX8_walked_28 : decode cX8_walked 28 = .ok (.aload_n 0, 1) := by decide +kernel
theorem dX8_walked_29 : decode cX8_walked 29 = .ok (.getfield 23, 3) := by decide +kernel
theorem dX8_walked_32 : decode cX8_walked 32 = .ok (.iadd, 1) := by decide +kernel
theorem dX8_walked_33 : decode cX8_walked 33 = .ok (.iload 5, 2) := by decide +kernel
theorem dX8_walked_35 : decode cX8_walked 35 = .ok (.isub, 1) := by decide +kernel
theorem dX8_walked_36 : decode cX8_walked 36 = .ok (.aload_n 0, 1) := by decide +kernel
theorem dX8_walked_37 : decode cX8_walked 37 = .ok (.getfield 23, 3) := by decide +kernel
theorem dX8_walked_40 : decode cX8_walked 40 = .ok (.irem, 1) := by decide +kernel
theorem dX8_walked_41 : decode cX8_walked 41 = .ok (.ireturn, 1) := by decide +kernel
theorem dX8_walk_0 : decode cX8_walk 0 = .ok (.iload_n 1, 1) := by decide +kernel
theorem dX8_walk_1 : decode cX8_walk 1 = .ok (.i2l, 1) := by decide +kernel
theorem dX8_walk_2 : decode cX8_walk 2 = .ok (.lconst 1, 1) := by decide +kernel
theorem dX8_walk_3 : decode cX8_walk 3 = .ok (.ldc2_w 207, 3) := by decide +kernel
theorem dX8_walk_6 : decode cX8_walk 6 = .ok (.invokestatic 70, 3) := by decide +kernel
theorem dX8_walk_9 : decode cX8_walk 9 = .ok (.ifCond .ne 6, 3) := by decide +kernel
theorem dX8_walk_12 : decode cX8_walk 12 = .ok (.bipush (-3), 2) := by decide +kernel
theorem dX8_walk_14 : decode cX8_walk 14 = .ok (.ireturn, 1) := by decide +kernel
theorem dX8_walk_15 : decode cX8_walk 15 = .ok (.aload_n 0, 1) := by decide +kernel
theorem dX8_walk_16 : decode cX8_walk 16 = .ok (.getfield 7, 3) := by decide +kernel
theorem dX8_walk_19 : decode cX8_walk 19 = .ok (.iconst 1, 1) := by decide +kernel
theorem dX8_walk_20 : decode cX8_walk 20 = .ok (.iaload, 1) := by decide +kernel
theorem dX8_walk_21 : decode cX8_walk 21 = .ok (.iconst 1, 1) := by decide +kernel
theorem dX8_walk_22 : decode cX8_walk 22 = .ok (.if_icmp .ne 6, 3) := by decide +kernel
theorem dX8_walk_25 : decode cX8_walk 25 = .ok (.bipush (-4), 2) := by decide +kernel
theorem dX8_walk_27 : decode cX8_walk 27 = .ok (.ireturn, 1) := by decide +kernel
theorem dX8_walk_28 : decode cX8_walk 28 = .ok (.aload_n 0, 1) := by decide +kernel
theorem dX8_walk_29 : decode cX8_walk 29 = .ok (.getfield 7, 3) := by decide +kernel
theorem dX8_walk_32 : decode cX8_walk 32 = .ok (.iconst 0, 1) := by decide +kernel
theorem dX8_walk_33 : decode cX8_walk 33 = .ok (.iaload, 1) := by decide +kernel
theorem dX8_walk_34 : decode cX8_walk 34 = .ok (.iload_n 1, 1) := by decide +kernel
theorem dX8_walk_35 : decode cX8_walk 35 = .ok (.iadd, 1) := by decide +kernel
theorem dX8_walk_36 : decode cX8_walk 36 = .ok (.sipush 9999, 3) := by decide +kernel
theorem dX8_walk_39 : decode cX8_walk 39 = .ok (.if_icmp .le 6, 3) := by decide +kernel
theorem dX8_walk_42 : decode cX8_walk 42 = .ok (.bipush (-5), 2) := by decide +kernel
theorem dX8_walk_44 : decode cX8_walk 44 = .ok (.ireturn, 1) := by decide +kernel
theorem dX8_walk_45 : decode cX8_walk 45 = .ok (.iconst 0, 1) := by decide +kernel
theorem dX8_walk_46 : decode cX8_walk 46 = .ok (.istore_n 2, 1) := by decide +kernel
theorem dX8_walk_47 : decode cX8_walk 47 = .ok (.iload_n 2, 1) := by decide +kernel
theorem dX8_walk_48 : decode cX8_walk 48 = .ok (.aload_n 0, 1) := by decide +kernel
theorem dX8_walk_49 : decode cX8_walk 49 = .ok (.getfield 74, 3) := by decide +kernel
theorem dX8_walk_52 : decode cX8_walk 52 = .ok (.if_icmp .ge 42, 3) := by decide +kernel
theorem dX8_walk_55 : decode cX8_walk 55 = .ok (.aload_n 0, 1) := by decide +kernel
theorem dX8_walk_56 : decode cX8_walk 56 = .ok (.getfield 7, 3) := by decide +kernel
theorem dX8_walk_59 : decode cX8_walk 59 = .ok (.iconst 3, 1) := by decide +kernel
theorem dX8_walk_60 : decode cX8_walk 60 = .ok (.iload_n 2, 1) := by decide +kernel
theorem dX8_walk_61 : decode cX8_walk 61 = .ok (.iadd, 1) := by decide +kernel
theorem dX8_walk_62 : decode cX8_walk 62 = .ok (.aload_n 0, 1) := by decide +kernel
theorem dX8_walk_63 : decode cX8_walk 63 = .ok (.aload_n 0, 1) := by decide +kernel
theorem dX8_walk_64 : decode cX8_walk 64 = .ok (.getfield 7, 3) := by decide +kernel
theorem dX8_walk_67 : decode cX8_walk 67 = .ok (.iconst 3, 1) := by decide +kernel
theorem dX8_walk_68 : decode cX8_walk 68 = .ok (.iload_n 2, 1) := by decide +kernel
theorem dX8_walk_69 : decode cX8_walk 69 = .ok (.iadd, 1) := by decide +kernel
theorem dX8_walk_70 : decode cX8_walk 70 = .ok (.iaload, 1) := by decide +kernel
theorem dX8_walk_71 : decode cX8_walk 71 = .ok (.aload_n 0, 1) := by decide +kernel
theorem dX8_walk_72 : decode cX8_walk 72 = .ok (.getfield 33, 3) := by decide +kernel
theorem dX8_walk_75 : decode cX8_walk 75 = .ok (.iload_n 2, 1) := by decide +kernel
theorem dX8_walk_76 : decode cX8_walk 76 = .ok (.iaload, 1) := by decide +kernel
theorem dX8_walk_77 : decode cX8_walk 77 = .ok (.aload_n 0, 1) := by decide +kernel
theorem dX8_walk_78 : decode cX8_walk 78 = .ok (.getfield 36, 3) := by decide +kernel
theorem dX8_walk_81 : decode cX8_walk 81 = .ok (.iload_n 2, 1) := by decide +kernel
theorem dX8_walk_82 : decode cX8_walk 82 = .ok (.iaload, 1) := by decide +kernel
theorem dX8_walk_83 : decode cX8_walk 83 = .ok (.iload_n 1, 1) := by decide +kernel
theorem dX8_walk_84 : decode cX8_walk 84 = .ok (.invokevirtual 209, 3) := by decide +kernel
theorem dX8_walk_87 : decode cX8_walk 87 = .ok (.iastore, 1) := by decide +kernel
theorem dX8_walk_88 : decode cX8_walk 88 = .ok (.iinc 2 1, 3) := by decide +kernel
theorem dX8_walk_91 : decode cX8_walk 91 = .ok (.goto (-44), 3) := by decide +kernel
theorem dX8_walk_94 : decode cX8_walk 94 = .ok (.aload_n 0, 1) := by decide +kernel
theorem dX8_walk_95 : decode cX8_walk 95 = .ok (.getfield 7, 3) := by decide +kernel
theorem dX8_walk_98 : decode cX8_walk 98 = .ok (.iconst 0, 1) := by decide +kernel
theorem dX8_walk_99 : decode cX8_walk 99 = .ok (.dup2, 1) := by decide +kernel
theorem dX8_walk_100 : decode cX8_walk 100 = .ok (.iaload, 1) := by decide +kernel
theorem dX8_walk_101 : decode cX8_walk 101 = .ok (.iload_n 1, 1) := by decide +kernel
theorem dX8_walk_102 : decode cX8_walk 102 = .ok (.iadd, 1) := by decide +kernel
theorem dX8_walk_103 : decode cX8_walk 103 = .ok (.iastore, 1) := by decide +kernel
theorem dX8_walk_104 : decode cX8_walk 104 = .ok (.aload_n 0, 1) := by decide +kernel
theorem dX8_walk_105 : decode cX8_walk 105 = .ok (.getfield 7, 3) := by decide +kernel
theorem dX8_walk_108 : decode cX8_walk 108 = .ok (.iconst 0, 1) := by decide +kernel
theorem dX8_walk_109 : decode cX8_walk 109 = .ok (.iaload, 1) := by decide +kernel
theorem dX8_walk_110 : decode cX8_walk 110 = .ok (.ireturn, 1) := by decide +kernel
theorem dX8_stop_0 : decode cX8_stop 0 = .ok (.aload_n 0, 1) := by decide +kernel
theorem dX8_stop_1 : decode cX8_stop 1 = .ok (.getfield 7, 3) := by decide +kernel
theorem dX8_stop_4 : decode cX8_stop 4 = .ok (.iconst 1, 1) := by decide +kernel
theorem dX8_stop_5 : decode cX8_stop 5 = .ok (.iaload, 1) := by decide +kernel
theorem dX8_stop_6 : decode cX8_stop 6 = .ok (.iconst 1, 1) := by decide +kernel
theorem dX8_stop_7 : decode cX8_stop 7 = .ok (.if_icmp .ne 6, 3) := by decide +kernel
theorem dX8_stop_10 : decode cX8_stop 10 = .ok (.bipush (-4), 2) := by decide +kernel
theorem dX8_stop_12 : decode cX8_stop 12 = .ok (.ireturn, 1) := by decide +kernel
theorem dX8_stop_13 : decode cX8_stop 13 = .ok (.iconst 0, 1) := by decide +kernel
theorem dX8_stop_14 : decode cX8_stop 14 = .ok (.istore_n 1, 1) := by decide +kernel
theorem dX8_stop_15 : decode cX8_stop 15 = .ok (.iconst 0, 1) := by decide +kernel
theorem dX8_stop_16 : decode cX8_stop 16 = .ok (.istore_n 2, 1) := by decide +kernel
theorem dX8_stop_17 : decode cX8_stop 17 = .ok (.iload_n 2, 1) := by decide +kernel
theorem dX8_stop_18 : decode cX8_stop 18 = .ok (.aload_n 0, 1) := by decide +kernel
theorem dX8_stop_19 : decode cX8_stop 19 = .ok (.getfield 74, 3) := by decide +kernel
theorem dX8_stop_22 : decode cX8_stop 22 = .ok (.if_icmp .ge 32, 3) := by decide +kernel
theorem dX8_stop_25 : decode cX8_stop 25 = .ok (.aload_n 0, 1) := by decide +kernel
theorem dX8_stop_26 : decode cX8_stop 26 = .ok (.getfield 42, 3) := by decide +kernel
theorem dX8_stop_29 : decode cX8_stop 29 = .ok (.iload_n 2, 1) := by decide +kernel
theorem dX8_stop_30 : decode cX8_stop 30 = .ok (.aload_n 0, 1) := by decide +kernel
theorem dX8_stop_31 : decode cX8_stop 31 = .ok (.getfield 7, 3) := by decide +kernel
theorem dX8_stop_34 : decode cX8_stop 34 = .ok (.iconst 3, 1) := by decide +kernel
theorem dX8_stop_35 : decode cX8_stop 35 = .ok (.iload_n 2, 1) := by decide +kernel
theorem dX8_stop_36 : decode cX8_stop 36 = .ok (.iadd, 1) := by decide +kernel
theorem dX8_stop_37 : decode cX8_stop 37 = .ok (.iaload, 1) := by decide +kernel
theorem dX8_stop_38 : decode cX8_stop 38 = .ok (.iastore, 1) := by decide +kernel
theorem dX8_stop_39 : decode cX8_stop 39 = .ok (.iload_n 1, 1) := by decide +kernel
theorem dX8_stop_40 : decode cX8_stop 40 = .ok (.aload_n 0, 1) := by decide +kernel
theorem dX8_stop_41 : decode cX8_stop 41 = .ok (.getfield 39, 3) := by decide +kernel
theorem dX8_stop_44 : decode cX8_stop 44 = .ok (.iload_n 2, 1) := by decide +kernel
theorem dX8_stop_45 : decode cX8_stop 45 = .ok (.iaload, 1) := by decide +kernel
theorem dX8_stop_46 : decode cX8_stop 46 = .ok (.iadd, 1) := by decide +kernel
theorem dX8_stop_47 : decode cX8_stop 47 = .ok (.istore_n 1, 1) := by decide +kernel
theorem dX8_stop_48 : decode cX8_stop 48 = .ok (.iinc 2 1, 3) := by decide +kernel
theorem dX8_stop_51 : decode cX8_stop 51 = .ok (.goto (-34), 3) := by decide +kernel
theorem dX8_stop_54 : decode cX8_stop 54 = .ok (.aload_n 0, 1) := by decide +kernel
theorem dX8_stop_55 : decode cX8_stop 55 = .ok (.aload_n 0, 1) := by decide +kernel
theorem dX8_stop_56 : decode cX8_stop 56 = .ok (.getfield 154, 3) := by decide +kernel
theorem dX8_stop_59 : decode cX8_stop 59 = .ok (.aload_n 0, 1) := by decide +kernel
theorem dX8_stop_60 : decode cX8_stop 60 = .ok (.invokevirtual 213, 3) := by decide +kernel
theorem dX8_stop_63 : decode cX8_stop 63 = .ok (.invokevirtual 216, 3) := by decide +kernel
theorem dX8_stop_66 : decode cX8_stop 66 = .ok (.istore_n 2, 1) := by decide +kernel
theorem dX8_stop_67 : decode cX8_stop 67 = .ok (.iconst 0, 1) := by decide +kernel
theorem dX8_stop_68 : decode cX8_stop 68 = .ok (.istore_n 3, 1) := by decide +kernel
theorem dX8_stop_69 : decode cX8_stop 69 = .ok (.iload_n 3, 1) := by decide +kernel
theorem dX8_stop_70 : decode cX8_stop 70 = .ok (.aload_n 0, 1) := by decide +kernel
theorem dX8_stop_71 : decode cX8_stop 71 = .ok (.getfield 74, 3) := by decide +kernel
theorem dX8_stop_74 : decode cX8_stop 74 = .ok (.if_icmp .ge 104, 3) := by decide +kernel
theorem dX8_stop_77 : decode cX8_stop 77 = .ok (.aload_n 0, 1) := by decide +kernel
theorem dX8_stop_78 : decode cX8_stop 78 = .ok (.getfield 7, 3) := by decide +kernel
theorem dX8_stop_81 : decode cX8_stop 81 = .ok (.bipush 9, 2) := by decide +kernel
theorem dX8_stop_83 : decode cX8_stop 83 = .ok (.iload_n 3, 1) := by decide +kernel
theorem dX8_stop_84 : decode cX8_stop 84 = .ok (.iadd, 1) := by decide +kernel
theorem dX8_stop_85 : decode cX8_stop 85 = .ok (.aload_n 0, 1) := by decide +kernel
theorem dX8_stop_86 : decode cX8_stop 86 = .ok (.getfield 45, 3) := by decide +kernel
theorem dX8_stop_89 : decode cX8_stop 89 = .ok (.iload_n 3, 1) := by decide +kernel
theorem dX8_stop_90 : decode cX8_stop 90 = .ok (.iaload, 1) := by decide +kernel
theorem dX8_stop_91 : decode cX8_stop 91 = .ok (.iastore, 1) := by decide +kernel
theorem dX8_stop_92 : decode cX8_stop 92 = .ok (.aload_n 0, 1) := by decide +kernel
theorem dX8_stop_93 : decode cX8_stop 93 = .ok (.getfield 7, 3) := by decide +kernel
theorem dX8_stop_96 : decode cX8_stop 96 = .ok (.bipush 15, 2) := by decide +kernel
theorem dX8_stop_98 : decode cX8_stop 98 = .ok (.iload_n 3, 1) := by decide +kernel
theorem dX8_stop_99 : decode cX8_stop 99 = .ok (.iadd, 1) := by decide +kernel
theorem dX8_stop_100 : decode cX8_stop 100 = .ok (.aload_n 0, 1) := by decide +kernel
theorem dX8_stop_101 : decode cX8_stop 101 = .ok (.getfield 48, 3) := by decide +kernel
theorem dX8_stop_104 : decode cX8_stop 104 = .ok (.iload_n 3, 1) := by decide +kernel
theorem dX8_stop_105 : decode cX8_stop 105 = .ok (.iaload, 1) := by decide +kernel
theorem dX8_stop_106 : decode cX8_stop 106 = .ok (.iastore, 1) := by decide +kernel
theorem dX8_stop_107 : decode cX8_stop 107 = .ok (.aload_n 0, 1) := by decide +kernel
theorem dX8_stop_108 : decode cX8_stop 108 = .ok (.getfield 7, 3) := by decide +kernel
theorem dX8_stop_111 : decode cX8_stop 111 = .ok (.iconst 3, 1) := by decide +kernel
theorem dX8_stop_112 : decode cX8_stop 112 = .ok (.iload_n 3, 1) := by decide +kernel
theorem dX8_stop_113 : decode cX8_stop 113 = .ok (.iadd, 1) := by decide +kernel
theorem dX8_stop_114 : decode cX8_stop 114 = .ok (.aload_n 0, 1) := by decide +kernel
theorem dX8_stop_115 : decode cX8_stop 115 = .ok (.getfield 45, 3) := by decide +kernel
theorem dX8_stop_118 : decode cX8_stop 118 = .ok (.iload_n 3, 1) := by decide +kernel
theorem dX8_stop_119 : decode cX8_stop 119 = .ok (.iaload, 1) := by decide +kernel
theorem dX8_stop_120 : decode cX8_stop 120 = .ok (.iconst (-1), 1) := by decide +kernel
theorem dX8_stop_121 : decode cX8_stop 121 = .ok (.if_icmp .ne 14, 3) := by decide +kernel
theorem dX8_stop_124 : decode cX8_stop 124 = .ok (.aload_n 0, 1) := by decide +kernel
theorem dX8_stop_125 : decode cX8_stop 125 = .ok (.getfield 7, 3) := by decide +kernel
theorem dX8_stop_128 : decode cX8_stop 128 = .ok (.iconst 3, 1) := by decide +kernel
theorem dX8_stop_129 : decode cX8_stop 129 = .ok (.iload_n 3, 1) := by decide +kernel
theorem dX8_stop_130 : decode cX8_stop 130 = .ok (.iadd, 1) := by decide +kernel
theorem dX8_stop_131 : decode cX8_stop 131 = .ok (.iaload, 1) := by decide +kernel
theorem dX8_stop_132 : decode cX8_stop 132 = .ok (.goto 9, 3) := by decide +kernel
theorem dX8_stop_135 : decode cX8_stop 135 = .ok (.aload_n 0, 1) := by decide +kernel
theorem dX8_stop_136 : decode cX8_stop 136 = .ok (.getfield 45, 3) := by decide +kernel
theorem dX8_stop_139 : decode cX8_stop 139 = .ok (.iload_n 3, 1) := by decide +kernel
theorem dX8_stop_140 : decode cX8_stop 140 = .ok (.iaload, 1) := by decide +kernel
theorem dX8_stop_141 : decode cX8_stop 141 = .ok (.iastore, 1) := by decide +kernel
theorem dX8_stop_142 : decode cX8_stop 142 = .ok (.aload_n 0, 1) := by decide +kernel
theorem dX8_stop_143 : decode cX8_stop 143 = .ok (.getfield 7, 3) := by decide +kernel
theorem dX8_stop_146 : decode cX8_stop 146 = .ok (.bipush 21, 2) := by decide +kernel
theorem dX8_stop_148 : decode cX8_stop 148 = .ok (.iload_n 3, 1) := by decide +kernel
theorem dX8_stop_149 : decode cX8_stop 149 = .ok (.iadd, 1) := by decide +kernel
theorem dX8_stop_150 : decode cX8_stop 150 = .ok (.dup2, 1) := by decide +kernel
theorem dX8_stop_151 : decode cX8_stop 151 = .ok (.iaload, 1) := by decide +kernel
theorem dX8_stop_152 : decode cX8_stop 152 = .ok (.iload_n 2, 1) := by decide +kernel
theorem dX8_stop_153 : decode cX8_stop 153 = .ok (.iload_n 3, 1) := by decide +kernel
theorem dX8_stop_154 : decode cX8_stop 154 = .ok (.invokestatic 130, 3) := by decide +kernel
theorem dX8_stop_157 : decode cX8_stop 157 = .ok (.ifCond .eq 12, 3) := by decide +kernel
theorem dX8_stop_160 : decode cX8_stop 160 = .ok (.iload_n 1, 1) := by decide +kernel
theorem dX8_stop_161 : decode cX8_stop 161 = .ok (.iload_n 2, 1) := by decide +kernel
theorem dX8_stop_162 : decode cX8_stop 162 = .ok (.invokestatic 219, 3) := by decide +kernel
theorem dX8_stop_165 : decode cX8_stop 165 = .ok (.idiv, 1) := by decide +kernel
theorem dX8_stop_166 : decode cX8_stop 166 = .ok (.goto 4, 3) := by decide +kernel
theorem dX8_stop_169 : decode cX8_stop 169 = .ok (.iconst 0, 1) := by decide +kernel
theorem dX8_stop_170 : decode cX8_stop 170 = .ok (.iadd, 1) := by decide +kernel
theorem dX8_stop_171 : decode cX8_stop 171 = .ok (.iastore, 1) := by decide +kernel
theorem dX8_stop_172 : decode cX8_stop 172 = .ok (.iinc 3 1, 3) := by decide +kernel
theorem dX8_stop_175 : decode cX8_stop 175 = .ok (.goto (-106), 3) := by decide +kernel
theorem dX8_stop_178 : decode cX8_stop 178 = .ok (.aload_n 0, 1) := by decide +kernel
theorem dX8_stop_179 : decode cX8_stop 179 = .ok (.getfield 7, 3) := by decide +kernel
theorem dX8_stop_182 : decode cX8_stop 182 = .ok (.iconst 1, 1) := by decide +kernel
theorem dX8_stop_183 : decode cX8_stop 183 = .ok (.iconst 1, 1) := by decide +kernel
theorem dX8_stop_184 : decode cX8_stop 184 = .ok (.iastore, 1) := by decide +kernel
theorem dX8_stop_185 : decode cX8_stop 185 = .ok (.aload_n 0, 1) := by decide +kernel
theorem dX8_stop_186 : decode cX8_stop 186 = .ok (.getfield 7, 3) := by decide +kernel
theorem dX8_stop_189 : decode cX8_stop 189 = .ok (.iconst 2, 1) := by decide +kernel
theorem dX8_stop_190 : decode cX8_stop 190 = .ok (.iload_n 2, 1) := by decide +kernel
theorem dX8_stop_191 : decode cX8_stop 191 = .ok (.iastore, 1) := by decide +kernel
theorem dX8_stop_192 : decode cX8_stop 192 = .ok (.iload_n 2, 1) := by decide +kernel
theorem dX8_stop_193 : decode cX8_stop 193 = .ok (.ireturn, 1) := by decide +kernel
theorem dX8_play_0 : decode cX8_play 0 = .ok (.aload_n 0, 1) := by decide +kernel
theorem dX8_play_1 : decode cX8_play 1 = .ok (.getfield 7, 3) := by decide +kernel
theorem dX8_play_4 : decode cX8_play 4 = .ok (.iconst 1, 1) := by decide +kernel
theorem dX8_play_5 : decode cX8_play 5 = .ok (.iaload, 1) := by decide +kernel
theorem dX8_play_6 : decode cX8_play 6 = .ok (.ifCond .ne 6, 3) := by decide +kernel
theorem dX8_play_9 : decode cX8_play 9 = .ok (.bipush (-4), 2) := by decide +kernel
theorem dX8_play_11 : decode cX8_play 11 = .ok (.ireturn, 1) := by decide +kernel
theorem dX8_play_12 : decode cX8_play 12 = .ok (.iconst 0, 1) := by decide +kernel
theorem dX8_play_13 : decode cX8_play 13 = .ok (.istore_n 1, 1) := by decide +kernel
theorem dX8_play_14 : decode cX8_play 14 = .ok (.iload_n 1, 1) := by decide +kernel
theorem dX8_play_15 : decode cX8_play 15 = .ok (.bipush 6, 2) := by decide +kernel
theorem dX8_play_17 : decode cX8_play 17 = .ok (.if_icmp .ge 29, 3) := by decide +kernel
theorem dX8_play_20 : decode cX8_play 20 = .ok (.aload_n 0, 1) := by decide +kernel
theorem dX8_play_21 : decode cX8_play 21 = .ok (.getfield 7, 3) := by decide +kernel
theorem dX8_play_24 : decode cX8_play 24 = .ok (.bipush 9, 2) := by decide +kernel
theorem dX8_play_26 : decode cX8_play 26 = .ok (.iload_n 1, 1) := by decide +kernel
theorem dX8_play_27 : decode cX8_play 27 = .ok (.iadd, 1) := by decide +kernel
theorem dX8_play_28 : decode cX8_play 28 = .ok (.iconst (-1), 1) := by decide +kernel
theorem dX8_play_29 : decode cX8_play 29 = .ok (.iastore, 1) := by decide +kernel
theorem dX8_play_30 : decode cX8_play 30 = .ok (.aload_n 0, 1) := by decide +kernel
theorem dX8_play_31 : decode cX8_play 31 = .ok (.getfield 7, 3) := by decide +kernel
theorem dX8_play_34 : decode cX8_play 34 = .ok (.bipush 15, 2) := by decide +kernel
theorem dX8_play_36 : decode cX8_play 36 = .ok (.iload_n 1, 1) := by decide +kernel
theorem dX8_play_37 : decode cX8_play 37 = .ok (.iadd, 1) := by decide +kernel
theorem dX8_play_38 : decode cX8_play 38 = .ok (.iconst (-1), 1) := by decide +kernel
theorem dX8_play_39 : decode cX8_play 39 = .ok (.iastore, 1) := by decide +kernel
theorem dX8_play_40 : decode cX8_play 40 = .ok (.iinc 1 1, 3) := by decide +kernel
theorem dX8_play_43 : decode cX8_play 43 = .ok (.goto (-29), 3) := by decide +kernel
theorem dX8_play_46 : decode cX8_play 46 = .ok (.aload_n 0, 1) := by decide +kernel
theorem dX8_play_47 : decode cX8_play 47 = .ok (.getfield 7, 3) := by decide +kernel
theorem dX8_play_50 : decode cX8_play 50 = .ok (.iconst 1, 1) := by decide +kernel
theorem dX8_play_51 : decode cX8_play 51 = .ok (.iconst 0, 1) := by decide +kernel
theorem dX8_play_52 : decode cX8_play 52 = .ok (.iastore, 1) := by decide +kernel
theorem dX8_play_53 : decode cX8_play 53 = .ok (.aload_n 0, 1) := by decide +kernel
end
section
theorem dX8_play_54 : decode cX8_play 54 = .ok (.getfield 7, 3) := by decide +kernel
theorem dX8_play_57 : decode cX8_play 57 = .ok (.iconst 2, 1) := by decide +kernel
theorem dX8_play_58 : decode cX8_play 58 = .ok (.iconst 0, 1) := by decide +kernel
theorem dX8_play_59 : decode cX8_play 59 = .ok (.iastore, 1) := by decide +kernel
theorem dX8_play_60 : decode cX8_play 60 = .ok (.aload_n 0, 1) := by decide +kernel
theorem dX8_play_61 : decode cX8_play 61 = .ok (.getfield 7, 3) := by decide +kernel
theorem dX8_play_64 : decode cX8_play 64 = .ok (.iconst 0, 1) := by decide +kernel
theorem dX8_play_65 : decode cX8_play 65 = .ok (.iaload, 1) := by decide +kernel
theorem dX8_play_66 : decode cX8_play 66 = .ok (.ireturn, 1) := by decide +kernel
theorem dX8_copy_0 : decode cX8_copy 0 = .ok (.iconst 0, 1) := by decide +kernel
theorem dX8_copy_1 : decode cX8_copy 1 = .ok (.istore_n 3, 1) := by decide +kernel
theorem dX8_copy_2 : decode cX8_copy 2 = .ok (.iload_n 3, 1) := by decide +kernel
theorem dX8_copy_3 : decode cX8_copy 3 = .ok (.bipush 27, 2) := by decide +kernel
theorem dX8_copy_5 : decode cX8_copy 5 = .ok (.if_icmp .ge 31, 3) := by decide +kernel
theorem dX8_copy_8 : decode cX8_copy 8 = .ok (.aload_n 0, 1) := by decide +kernel
theorem dX8_copy_9 : decode cX8_copy 9 = .ok (.getfield 7, 3) := by decide +kernel
theorem dX8_copy_12 : decode cX8_copy 12 = .ok (.bipush 27, 2) := by decide +kernel
theorem dX8_copy_14 : decode cX8_copy 14 = .ok (.iload_n 2, 1) := by decide +kernel
theorem dX8_copy_15 : decode cX8_copy 15 = .ok (.imul, 1) := by decide +kernel
theorem dX8_copy_16 : decode cX8_copy 16 = .ok (.iload_n 3, 1) := by decide +kernel
theorem dX8_copy_17 : decode cX8_copy 17 = .ok (.iadd, 1) := by decide +kernel
theorem dX8_copy_18 : decode cX8_copy 18 = .ok (.aload_n 0, 1) := by decide +kernel
theorem dX8_copy_19 : decode cX8_copy 19 = .ok (.getfield 7, 3) := by decide +kernel
theorem dX8_copy_22 : decode cX8_copy 22 = .ok (.bipush 27, 2) := by decide +kernel
theorem dX8_copy_24 : decode cX8_copy 24 = .ok (.iload_n 1, 1) := by decide +kernel
theorem dX8_copy_25 : decode cX8_copy 25 = .ok (.imul, 1) := by decide +kernel
theorem dX8_copy_26 : decode cX8_copy 26 = .ok (.iload_n 3, 1) := by decide +kernel
theorem dX8_copy_27 : decode cX8_copy 27 = .ok (.iadd, 1) := by decide +kernel
theorem dX8_copy_28 : decode cX8_copy 28 = .ok (.iaload, 1) := by decide +kernel
theorem dX8_copy_29 : decode cX8_copy 29 = .ok (.iastore, 1) := by decide +kernel
theorem dX8_copy_30 : decode cX8_copy 30 = .ok (.iinc 3 1, 3) := by decide +kernel
theorem dX8_copy_33 : decode cX8_copy 33 = .ok (.goto (-31), 3) := by decide +kernel
theorem dX8_copy_36 : decode cX8_copy 36 = .ok (.return_, 1) := by decide +kernel
theorem dX8_keep_0 : decode cX8_keep 0 = .ok (.iload_n 1, 1) := by decide +kernel
theorem dX8_keep_1 : decode cX8_keep 1 = .ok (.i2l, 1) := by decide +kernel
theorem dX8_keep_2 : decode cX8_keep 2 = .ok (.lconst 0, 1) := by decide +kernel
theorem dX8_keep_3 : decode cX8_keep 3 = .ok (.lconst 1, 1) := by decide +kernel
theorem dX8_keep_4 : decode cX8_keep 4 = .ok (.invokestatic 70, 3) := by decide +kernel
theorem dX8_keep_7 : decode cX8_keep 7 = .ok (.ifCond .ne 6, 3) := by decide +kernel
theorem dX8_keep_10 : decode cX8_keep 10 = .ok (.bipush (-2), 2) := by decide +kernel
theorem dX8_keep_12 : decode cX8_keep 12 = .ok (.ireturn, 1) := by decide +kernel
theorem dX8_keep_13 : decode cX8_keep 13 = .ok (.aload_n 0, 1) := by decide +kernel
theorem dX8_keep_14 : decode cX8_keep 14 = .ok (.iconst 0, 1) := by decide +kernel
theorem dX8_keep_15 : decode cX8_keep 15 = .ok (.iconst 1, 1) := by decide +kernel
theorem dX8_keep_16 : decode cX8_keep 16 = .ok (.iload_n 1, 1) := by decide +kernel
theorem dX8_keep_17 : decode cX8_keep 17 = .ok (.iadd, 1) := by decide +kernel
theorem dX8_keep_18 : decode cX8_keep 18 = .ok (.invokevirtual 222, 3) := by decide +kernel
theorem dX8_keep_21 : decode cX8_keep 21 = .ok (.aload_n 0, 1) := by decide +kernel
theorem dX8_keep_22 : decode cX8_keep 22 = .ok (.getfield 13, 3) := by decide +kernel
theorem dX8_keep_25 : decode cX8_keep 25 = .ok (.iload_n 1, 1) := by decide +kernel
theorem dX8_keep_26 : decode cX8_keep 26 = .ok (.iconst 1, 1) := by decide +kernel
theorem dX8_keep_27 : decode cX8_keep 27 = .ok (.bastore, 1) := by decide +kernel
theorem dX8_keep_28 : decode cX8_keep 28 = .ok (.aload_n 0, 1) := by decide +kernel
theorem dX8_keep_29 : decode cX8_keep 29 = .ok (.getfield 7, 3) := by decide +kernel
theorem dX8_keep_32 : decode cX8_keep 32 = .ok (.iconst 0, 1) := by decide +kernel
theorem dX8_keep_33 : decode cX8_keep 33 = .ok (.iaload, 1) := by decide +kernel
theorem dX8_keep_34 : decode cX8_keep 34 = .ok (.ireturn, 1) := by decide +kernel
theorem dX8_back_0 : decode cX8_back 0 = .ok (.iload_n 1, 1) := by decide +kernel
theorem dX8_back_1 : decode cX8_back 1 = .ok (.i2l, 1) := by decide +kernel
theorem dX8_back_2 : decode cX8_back 2 = .ok (.lconst 0, 1) := by decide +kernel
theorem dX8_back_3 : decode cX8_back 3 = .ok (.lconst 1, 1) := by decide +kernel
theorem dX8_back_4 : decode cX8_back 4 = .ok (.invokestatic 70, 3) := by decide +kernel
theorem dX8_back_7 : decode cX8_back 7 = .ok (.ifCond .ne 6, 3) := by decide +kernel
theorem dX8_back_10 : decode cX8_back 10 = .ok (.bipush (-2), 2) := by decide +kernel
theorem dX8_back_12 : decode cX8_back 12 = .ok (.ireturn, 1) := by decide +kernel
theorem dX8_back_13 : decode cX8_back 13 = .ok (.aload_n 0, 1) := by decide +kernel
theorem dX8_back_14 : decode cX8_back 14 = .ok (.getfield 13, 3) := by decide +kernel
theorem dX8_back_17 : decode cX8_back 17 = .ok (.iload_n 1, 1) := by decide +kernel
theorem dX8_back_18 : decode cX8_back 18 = .ok (.baload, 1) := by decide +kernel
theorem dX8_back_19 : decode cX8_back 19 = .ok (.ifCond .ne 6, 3) := by decide +kernel
theorem dX8_back_22 : decode cX8_back 22 = .ok (.bipush (-4), 2) := by decide +kernel
theorem dX8_back_24 : decode cX8_back 24 = .ok (.ireturn, 1) := by decide +kernel
theorem dX8_back_25 : decode cX8_back 25 = .ok (.aload_n 0, 1) := by decide +kernel
theorem dX8_back_26 : decode cX8_back 26 = .ok (.iconst 1, 1) := by decide +kernel
theorem dX8_back_27 : decode cX8_back 27 = .ok (.iload_n 1, 1) := by decide +kernel
theorem dX8_back_28 : decode cX8_back 28 = .ok (.iadd, 1) := by decide +kernel
theorem dX8_back_29 : decode cX8_back 29 = .ok (.iconst 0, 1) := by decide +kernel
theorem dX8_back_30 : decode cX8_back 30 = .ok (.invokevirtual 222, 3) := by decide +kernel
theorem dX8_back_33 : decode cX8_back 33 = .ok (.aload_n 0, 1) := by decide +kernel
theorem dX8_back_34 : decode cX8_back 34 = .ok (.getfield 7, 3) := by decide +kernel
theorem dX8_back_37 : decode cX8_back 37 = .ok (.iconst 0, 1) := by decide +kernel
theorem dX8_back_38 : decode cX8_back 38 = .ok (.iaload, 1) := by decide +kernel
theorem dX8_back_39 : decode cX8_back 39 = .ok (.ireturn, 1) := by decide +kernel
theorem dX8_layAts_0 : decode cX8_layAts 0 = .ok (.iconst 0, 1) := by decide +kernel
theorem dX8_layAts_1 : decode cX8_layAts 1 = .ok (.istore_n 2, 1) := by decide +kernel
theorem dX8_layAts_2 : decode cX8_layAts 2 = .ok (.iload_n 2, 1) := by decide +kernel
theorem dX8_layAts_3 : decode cX8_layAts 3 = .ok (.aload_n 0, 1) := by decide +kernel
theorem dX8_layAts_4 : decode cX8_layAts 4 = .ok (.getfield 74, 3) := by decide +kernel
theorem dX8_layAts_7 : decode cX8_layAts 7 = .ok (.if_icmp .ge 38, 3) := by decide +kernel
theorem dX8_layAts_10 : decode cX8_layAts 10 = .ok (.aload_n 0, 1) := by decide +kernel
theorem dX8_layAts_11 : decode cX8_layAts 11 = .ok (.getfield 42, 3) := by decide +kernel
theorem dX8_layAts_14 : decode cX8_layAts 14 = .ok (.iload_n 2, 1) := by decide +kernel
theorem dX8_layAts_15 : decode cX8_layAts 15 = .ok (.aload_n 0, 1) := by decide +kernel
theorem dX8_layAts_16 : decode cX8_layAts 16 = .ok (.aload_n 0, 1) := by decide +kernel
theorem dX8_layAts_17 : decode cX8_layAts 17 = .ok (.getfield 30, 3) := by decide +kernel
theorem dX8_layAts_20 : decode cX8_layAts 20 = .ok (.iload_n 2, 1) := by decide +kernel
theorem dX8_layAts_21 : decode cX8_layAts 21 = .ok (.iaload, 1) := by decide +kernel
theorem dX8_layAts_22 : decode cX8_layAts 22 = .ok (.aload_n 0, 1) := by decide +kernel
theorem dX8_layAts_23 : decode cX8_layAts 23 = .ok (.getfield 33, 3) := by decide +kernel
theorem dX8_layAts_26 : decode cX8_layAts 26 = .ok (.iload_n 2, 1) := by decide +kernel
theorem dX8_layAts_27 : decode cX8_layAts 27 = .ok (.iaload, 1) := by decide +kernel
theorem dX8_layAts_28 : decode cX8_layAts 28 = .ok (.aload_n 0, 1) := by decide +kernel
theorem dX8_layAts_29 : decode cX8_layAts 29 = .ok (.getfield 36, 3) := by decide +kernel
theorem dX8_layAts_32 : decode cX8_layAts 32 = .ok (.iload_n 2, 1) := by decide +kernel
theorem dX8_layAts_33 : decode cX8_layAts 33 = .ok (.iaload, 1) := by decide +kernel
theorem dX8_layAts_34 : decode cX8_layAts 34 = .ok (.iload_n 1, 1) := by decide +kernel
theorem dX8_layAts_35 : decode cX8_layAts 35 = .ok (.invokevirtual 209, 3) := by decide +kernel
theorem dX8_layAts_38 : decode cX8_layAts 38 = .ok (.iastore, 1) := by decide +kernel
theorem dX8_layAts_39 : decode cX8_layAts 39 = .ok (.iinc 2 1, 3) := by decide +kernel
theorem dX8_layAts_42 : decode cX8_layAts 42 = .ok (.goto (-40), 3) := by decide +kernel
theorem dX8_layAts_45 : decode cX8_layAts 45 = .ok (.return_, 1) := by decide +kernel
theorem dX8_standingAt_0 : decode cX8_standingAt 0 = .ok (.aload_n 0, 1) := by decide +kernel
theorem dX8_standingAt_1 : decode cX8_standingAt 1 = .ok (.iload_n 1, 1) := by decide +kernel
theorem dX8_standingAt_2 : decode cX8_standingAt 2 = .ok (.invokevirtual 226, 3) := by decide +kernel
theorem dX8_standingAt_5 : decode cX8_standingAt 5 = .ok (.aload_n 0, 1) := by decide +kernel
theorem dX8_standingAt_6 : decode cX8_standingAt 6 = .ok (.aload_n 0, 1) := by decide +kernel
theorem dX8_standingAt_7 : decode cX8_standingAt 7 = .ok (.getfield 154, 3) := by decide +kernel
theorem dX8_standingAt_10 : decode cX8_standingAt 10 = .ok (.aload_n 0, 1) := by decide +kernel
theorem dX8_standingAt_11 : decode cX8_standingAt 11 = .ok (.invokevirtual 213, 3) := by decide +kernel
theorem dX8_standingAt_14 : decode cX8_standingAt 14 = .ok (.invokevirtual 216, 3) := by decide +kernel
theorem dX8_standingAt_17 : decode cX8_standingAt 17 = .ok (.ireturn, 1) := by decide +kernel
theorem dX8_isTime_0 : decode cX8_isTime 0 = .ok (.iload_n 0, 1) := by decide +kernel
theorem dX8_isTime_1 : decode cX8_isTime 1 = .ok (.i2l, 1) := by decide +kernel
theorem dX8_isTime_2 : decode cX8_isTime 2 = .ok (.lconst 0, 1) := by decide +kernel
theorem dX8_isTime_3 : decode cX8_isTime 3 = .ok (.ldc2_w 207, 3) := by decide +kernel
theorem dX8_isTime_6 : decode cX8_isTime 6 = .ok (.invokestatic 70, 3) := by decide +kernel
theorem dX8_isTime_9 : decode cX8_isTime 9 = .ok (.ireturn, 1) := by decide +kernel
theorem dX8_isSpan_0 : decode cX8_isSpan 0 = .ok (.iload_n 0, 1) := by decide +kernel
theorem dX8_isSpan_1 : decode cX8_isSpan 1 = .ok (.invokestatic 229, 3) := by decide +kernel
theorem dX8_isSpan_4 : decode cX8_isSpan 4 = .ok (.ifCond .eq 19, 3) := by decide +kernel
theorem dX8_isSpan_7 : decode cX8_isSpan 7 = .ok (.iload_n 1, 1) := by decide +kernel
theorem dX8_isSpan_8 : decode cX8_isSpan 8 = .ok (.invokestatic 229, 3) := by decide +kernel
theorem dX8_isSpan_11 : decode cX8_isSpan 11 = .ok (.ifCond .eq 12, 3) := by decide +kernel
theorem dX8_isSpan_14 : decode cX8_isSpan 14 = .ok (.iload_n 1, 1) := by decide +kernel
theorem dX8_isSpan_15 : decode cX8_isSpan 15 = .ok (.iload_n 0, 1) := by decide +kernel
theorem dX8_isSpan_16 : decode cX8_isSpan 16 = .ok (.if_icmp .lt 7, 3) := by decide +kernel
theorem dX8_isSpan_19 : decode cX8_isSpan 19 = .ok (.iconst 1, 1) := by decide +kernel
theorem dX8_isSpan_20 : decode cX8_isSpan 20 = .ok (.goto 4, 3) := by decide +kernel
theorem dX8_isSpan_23 : decode cX8_isSpan 23 = .ok (.iconst 0, 1) := by decide +kernel
theorem dX8_isSpan_24 : decode cX8_isSpan 24 = .ok (.ireturn, 1) := by decide +kernel
theorem dX8_standing_0 : decode cX8_standing 0 = .ok (.iload_n 1, 1) := by decide +kernel
theorem dX8_standing_1 : decode cX8_standing 1 = .ok (.invokestatic 229, 3) := by decide +kernel
theorem dX8_standing_4 : decode cX8_standing 4 = .ok (.ifCond .eq 11, 3) := by decide +kernel
theorem dX8_standing_7 : decode cX8_standing 7 = .ok (.aload_n 0, 1) := by decide +kernel
theorem dX8_standing_8 : decode cX8_standing 8 = .ok (.iload_n 1, 1) := by decide +kernel
theorem dX8_standing_9 : decode cX8_standing 9 = .ok (.invokevirtual 232, 3) := by decide +kernel
theorem dX8_standing_12 : decode cX8_standing 12 = .ok (.goto 5, 3) := by decide +kernel
theorem dX8_standing_15 : decode cX8_standing 15 = .ok (.bipush (-3), 2) := by decide +kernel
theorem dX8_standing_17 : decode cX8_standing 17 = .ok (.ireturn, 1) := by decide +kernel
theorem dX8_minutesOf_0 : decode cX8_minutesOf 0 = .ok (.iconst 0, 1) := by decide +kernel
theorem dX8_minutesOf_1 : decode cX8_minutesOf 1 = .ok (.istore 4, 2) := by decide +kernel
theorem dX8_minutesOf_3 : decode cX8_minutesOf 3 = .ok (.iload_n 2, 1) := by decide +kernel
theorem dX8_minutesOf_4 : decode cX8_minutesOf 4 = .ok (.istore 5, 2) := by decide +kernel
theorem dX8_minutesOf_6 : decode cX8_minutesOf 6 = .ok (.iload 5, 2) := by decide +kernel
theorem dX8_minutesOf_8 : decode cX8_minutesOf 8 = .ok (.iload_n 3, 1) := by decide +kernel
theorem dX8_minutesOf_9 : decode cX8_minutesOf 9 = .ok (.if_icmp .gt 32, 3) := by decide +kernel
theorem dX8_minutesOf_12 : decode cX8_minutesOf 12 = .ok (.iload 4, 2) := by decide +kernel
theorem dX8_minutesOf_14 : decode cX8_minutesOf 14 = .ok (.aload_n 0, 1) := by decide +kernel
theorem dX8_minutesOf_15 : decode cX8_minutesOf 15 = .ok (.iload 5, 2) := by decide +kernel
theorem dX8_minutesOf_17 : decode cX8_minutesOf 17 = .ok (.invokevirtual 232, 3) := by decide +kernel
theorem dX8_minutesOf_20 : decode cX8_minutesOf 20 = .ok (.iload_n 1, 1) := by decide +kernel
theorem dX8_minutesOf_21 : decode cX8_minutesOf 21 = .ok (.invokestatic 130, 3) := by decide +kernel
theorem dX8_minutesOf_24 : decode cX8_minutesOf 24 = .ok (.ifCond .eq 7, 3) := by decide +kernel
theorem dX8_minutesOf_27 : decode cX8_minutesOf 27 = .ok (.iconst 1, 1) := by decide +kernel
theorem dX8_minutesOf_28 : decode cX8_minutesOf 28 = .ok (.goto 4, 3) := by decide +kernel
theorem dX8_minutesOf_31 : decode cX8_minutesOf 31 = .ok (.iconst 0, 1) := by decide +kernel
theorem dX8_minutesOf_32 : decode cX8_minutesOf 32 = .ok (.iadd, 1) := by decide +kernel
theorem dX8_minutesOf_33 : decode cX8_minutesOf 33 = .ok (.istore 4, 2) := by decide +kernel
theorem dX8_minutesOf_35 : decode cX8_minutesOf 35 = .ok (.iinc 5 1, 3) := by decide +kernel
theorem dX8_minutesOf_38 : decode cX8_minutesOf 38 = .ok (.goto (-32), 3) := by decide +kernel
theorem dX8_minutesOf_41 : decode cX8_minutesOf 41 = .ok (.iload 4, 2) := by decide +kernel
theorem dX8_minutesOf_43 : decode cX8_minutesOf 43 = .ok (.ireturn, 1) := by decide +kernel
theorem dX8_odds_0 : decode cX8_odds 0 = .ok (.aload_n 0, 1) := by decide +kernel
theorem dX8_odds_1 : decode cX8_odds 1 = .ok (.iload_n 1, 1) := by decide +kernel
theorem dX8_odds_2 : decode cX8_odds 2 = .ok (.invokevirtual 173, 3) := by decide +kernel
theorem dX8_odds_5 : decode cX8_odds 5 = .ok (.ifCond .ne 6, 3) := by decide +kernel
theorem dX8_odds_8 : decode cX8_odds 8 = .ok (.bipush (-2), 2) := by decide +kernel
theorem dX8_odds_10 : decode cX8_odds 10 = .ok (.ireturn, 1) := by decide +kernel
theorem dX8_odds_11 : decode cX8_odds 11 = .ok (.iload_n 2, 1) := by decide +kernel
theorem dX8_odds_12 : decode cX8_odds 12 = .ok (.iload_n 3, 1) := by decide +kernel
theorem dX8_odds_13 : decode cX8_odds 13 = .ok (.invokestatic 235, 3) := by decide +kernel
theorem dX8_odds_16 : decode cX8_odds 16 = .ok (.ifCond .eq 14, 3) := by decide +kernel
theorem dX8_odds_19 : decode cX8_odds 19 = .ok (.iload 4, 2) := by decide +kernel
theorem dX8_odds_21 : decode cX8_odds 21 = .ok (.i2l, 1) := by decide +kernel
theorem dX8_odds_22 : decode cX8_odds 22 = .ok (.lconst 0, 1) := by decide +kernel
theorem dX8_odds_23 : decode cX8_odds 23 = .ok (.lconst 1, 1) := by decide +kernel
theorem dX8_odds_24 : decode cX8_odds 24 = .ok (.invokestatic 70, 3) := by decide +kernel
theorem dX8_odds_27 : decode cX8_odds 27 = .ok (.ifCond .ne 6, 3) := by decide +kernel
theorem dX8_odds_30 : decode cX8_odds 30 = .ok (.bipush (-3), 2) := by decide +kernel
theorem dX8_odds_32 : decode cX8_odds 32 = .ok (.ireturn, 1) := by decide +kernel
theorem dX8_odds_33 : decode cX8_odds 33 = .ok (.aload_n 0, 1) := by decide +kernel
theorem dX8_odds_34 : decode cX8_odds 34 = .ok (.iload_n 1, 1) := by decide +kernel
theorem dX8_odds_35 : decode cX8_odds 35 = .ok (.iload_n 2, 1) := by decide +kernel
theorem dX8_odds_36 : decode cX8_odds 36 = .ok (.iload_n 3, 1) := by decide +kernel
theorem dX8_odds_37 : decode cX8_odds 37 = .ok (.invokevirtual 238, 3) := by decide +kernel
theorem dX8_odds_40 : decode cX8_odds 40 = .ok (.istore 5, 2) := by decide +kernel
theorem dX8_odds_42 : decode cX8_odds 42 = .ok (.iload_n 3, 1) := by decide +kernel
theorem dX8_odds_43 : decode cX8_odds 43 = .ok (.iload_n 2, 1) := by decide +kernel
theorem dX8_odds_44 : decode cX8_odds 44 = .ok (.isub, 1) := by decide +kernel
theorem dX8_odds_45 : decode cX8_odds 45 = .ok (.iconst 1, 1) := by decide +kernel
theorem dX8_odds_46 : decode cX8_odds 46 = .ok (.iadd, 1) := by decide +kernel
theorem dX8_odds_47 : decode cX8_odds 47 = .ok (.istore 6, 2) := by decide +kernel
theorem dX8_odds_49 : decode cX8_odds 49 = .ok (.iload 5, 2) := by decide +kernel
theorem dX8_odds_51 : decode cX8_odds 51 = .ok (.istore 7, 2) := by decide +kernel
theorem dX8_odds_53 : decode cX8_odds 53 = .ok (.iload 6, 2) := by decide +kernel
theorem dX8_odds_55 : decode cX8_odds 55 = .ok (.istore 8, 2) := by decide +kernel
theorem dX8_odds_57 : decode cX8_odds 57 = .ok (.iload 8, 2) := by decide +kernel
theorem dX8_odds_59 : decode cX8_odds 59 = .ok (.ifCond .eq 21, 3) := by decide +kernel
theorem dX8_odds_62 : decode cX8_odds 62 = .ok (.iload 7, 2) := by decide +kernel
theorem dX8_odds_64 : decode cX8_odds 64 = .ok (.iload 8, 2) := by decide +kernel
theorem dX8_odds_66 : decode cX8_odds 66 = .ok (.irem, 1) := by decide +kernel
theorem dX8_odds_67 : decode cX8_odds 67 = .ok (.istore 9, 2) := by decide +kernel
theorem dX8_odds_69 : decode cX8_odds 69 = .ok (.iload 8, 2) := by decide +kernel
theorem dX8_odds_71 : decode cX8_odds 71 = .ok (.istore 7, 2) := by decide +kernel
theorem dX8_odds_73 : decode cX8_odds 73 = .ok (.iload 9, 2) := by decide +kernel
theorem dX8_odds_75 : decode cX8_odds 75 = .ok (.istore 8, 2) := by decide +kernel
theorem dX8_odds_77 : decode cX8_odds 77 = .ok (.goto (-20), 3) := by decide +kernel
theorem dX8_odds_80 : decode cX8_odds 80 = .ok (.iload 4, 2) := by decide +kernel
theorem dX8_odds_82 : decode cX8_odds 82 = .ok (.ifCond .ne 11, 3) := by decide +kernel
theorem dX8_odds_85 : decode cX8_odds 85 = .ok (.iload 5, 2) := by decide +kernel
theorem dX8_odds_87 : decode cX8_odds 87 = .ok (.iload 7, 2) := by decide +kernel
theorem dX8_odds_89 : decode cX8_odds 89 = .ok (.idiv, 1) := by decide +kernel
theorem dX8_odds_90 : decode cX8_odds 90 = .ok (.goto 8, 3) := by decide +kernel
theorem dX8_odds_93 : decode cX8_odds 93 = .ok (.iload 6, 2) := by decide +kernel
theorem dX8_odds_95 : decode cX8_odds 95 = .ok (.iload 7, 2) := by decide +kernel
theorem dX8_odds_97 : decode cX8_odds 97 = .ok (.idiv, 1) := by decide +kernel
theorem dX8_odds_98 : decode cX8_odds 98 = .ok (.ireturn, 1) := by decide +kernel
theorem dX8_surest_0 : decode cX8_surest 0 = .ok (.aload_n 0, 1) := by decide +kernel
theorem dX8_surest_1 : decode cX8_surest 1 = .ok (.iload_n 1, 1) := by decide +kernel
theorem dX8_surest_2 : decode cX8_surest 2 = .ok (.invokevirtual 173, 3) := by decide +kernel
theorem dX8_surest_5 : decode cX8_surest 5 = .ok (.ifCond .ne 6, 3) := by decide +kernel
theorem dX8_surest_8 : decode cX8_surest 8 = .ok (.bipush (-2), 2) := by decide +kernel
theorem dX8_surest_10 : decode cX8_surest 10 = .ok (.ireturn, 1) := by decide +kernel
theorem dX8_surest_11 : decode cX8_surest 11 = .ok (.iload_n 2, 1) := by decide +kernel
theorem dX8_surest_12 : decode cX8_surest 12 = .ok (.iload_n 3, 1) := by decide +kernel
theorem dX8_surest_13 : decode cX8_surest 13 = .ok (.invokestatic 235, 3) := by decide +kernel
theorem dX8_surest_16 : decode cX8_surest 16 = .ok (.ifCond .eq 16, 3) := by decide +kernel
theorem dX8_surest_19 : decode cX8_surest 19 = .ok (.iload 4, 2) := by decide +kernel
theorem dX8_surest_21 : decode cX8_surest 21 = .ok (.i2l, 1) := by decide +kernel
theorem dX8_surest_22 : decode cX8_surest 22 = .ok (.lconst 0, 1) := by decide +kernel
theorem dX8_surest_23 : decode cX8_surest 23 = .ok (.ldc2_w 241, 3) := by decide +kernel
theorem dX8_surest_26 : decode cX8_surest 26 = .ok (.invokestatic 70, 3) := by decide +kernel
theorem dX8_surest_29 : decode cX8_surest 29 = .ok (.ifCond .ne 6, 3) := by decide +kernel
theorem dX8_surest_32 : decode cX8_surest 32 = .ok (.bipush (-3), 2) := by decide +kernel
theorem dX8_surest_34 : decode cX8_surest 34 = .ok (.ireturn, 1) := by decide +kernel
theorem dX8_surest_35 : decode cX8_surest 35 = .ok (.aload_n 0, 1) := by decide +kernel
theorem dX8_surest_36 : decode cX8_surest 36 = .ok (.getfield 33, 3) := by decide +kernel
theorem dX8_surest_39 : decode cX8_surest 39 = .ok (.iload_n 1, 1) := by decide +kernel
theorem dX8_surest_40 : decode cX8_surest 40 = .ok (.iaload, 1) := by decide +kernel
theorem dX8_surest_41 : decode cX8_surest 41 = .ok (.istore 5, 2) := by decide +kernel
theorem dX8_surest_43 : decode cX8_surest 43 = .ok (.aload_n 0, 1) := by decide +kernel
theorem dX8_surest_44 : decode cX8_surest 44 = .ok (.getfield 36, 3) := by decide +kernel
theorem dX8_surest_47 : decode cX8_surest 47 = .ok (.iload_n 1, 1) := by decide +kernel
theorem dX8_surest_48 : decode cX8_surest 48 = .ok (.iaload, 1) := by decide +kernel
theorem dX8_surest_49 : decode cX8_surest 49 = .ok (.istore 6, 2) := by decide +kernel
theorem dX8_surest_51 : decode cX8_surest 51 = .ok (.iconst (-1), 1) := by decide +kernel
theorem dX8_surest_52 : decode cX8_surest 52 = .ok (.istore 7, 2) := by decide +kernel
theorem dX8_surest_54 : decode cX8_surest 54 = .ok (.sipush 999, 3) := by decide +kernel
theorem dX8_surest_57 : decode cX8_surest 57 = .ok (.istore 8, 2) := by decide +kernel
theorem dX8_surest_59 : decode cX8_surest 59 = .ok (.iconst 0, 1) := by decide +kernel
theorem dX8_surest_60 : decode cX8_surest 60 = .ok (.istore 9, 2) := by decide +kernel
theorem dX8_surest_62 : decode cX8_surest 62 = .ok (.iload 9, 2) := by decide +kernel
theorem dX8_surest_64 : decode cX8_surest 64 = .ok (.bipush 8, 2) := by decide +kernel
theorem dX8_surest_66 : decode cX8_surest 66 = .ok (.if_icmp .ge 70, 3) := by decide +kernel
theorem dX8_surest_69 : decode cX8_surest 69 = .ok (.aload_n 0, 1) := by decide +kernel
theorem dX8_surest_70 : decode cX8_surest 70 = .ok (.getfield 33, 3) := by decide +kernel
theorem dX8_surest_73 : decode cX8_surest 73 = .ok (.iload_n 1, 1) := by decide +kernel
theorem dX8_surest_74 : decode cX8_surest 74 = .ok (.iload 9, 2) := by decide +kernel
theorem dX8_surest_76 : decode cX8_surest 76 = .ok (.iconst 2, 1) := by decide +kernel
theorem dX8_surest_77 : decode cX8_surest 77 = .ok (.idiv, 1) := by decide +kernel
theorem dX8_surest_78 : decode cX8_surest 78 = .ok (.iastore, 1) := by decide +kernel
theorem dX8_surest_79 : decode cX8_surest 79 = .ok (.aload_n 0, 1) := by decide +kernel
theorem dX8_surest_80 : decode cX8_surest 80 = .ok (.getfield 36, 3) := by decide +kernel
theorem dX8_surest_83 : decode cX8_surest 83 = .ok (.iload_n 1, 1) := by decide +kernel
theorem dX8_surest_84 : decode cX8_surest 84 = .ok (.iload 9, 2) := by decide +kernel
theorem dX8_surest_86 : decode cX8_surest 86 = .ok (.iconst 2, 1) := by decide +kernel
theorem dX8_surest_87 : decode cX8_surest 87 = .ok (.irem, 1) := by decide +kernel
theorem dX8_surest_88 : decode cX8_surest 88 = .ok (.iastore, 1) := by decide +kernel
theorem dX8_surest_89 : decode cX8_surest 89 = .ok (.aload_n 0, 1) := by decide +kernel
theorem dX8_surest_90 : decode cX8_surest 90 = .ok (.iload_n 1, 1) := by decide +kernel
theorem dX8_surest_91 : decode cX8_surest 91 = .ok (.iload_n 2, 1) := by decide +kernel
theorem dX8_surest_92 : decode cX8_surest 92 = .ok (.iload_n 3, 1) := by decide +kernel
theorem dX8_surest_93 : decode cX8_surest 93 = .ok (.invokevirtual 238, 3) := by decide +kernel
theorem dX8_surest_96 : decode cX8_surest 96 = .ok (.istore 10, 2) := by decide +kernel
theorem dX8_surest_98 : decode cX8_surest 98 = .ok (.iload 10, 2) := by decide +kernel
theorem dX8_surest_100 : decode cX8_surest 100 = .ok (.iload 8, 2) := by decide +kernel
theorem dX8_surest_102 : decode cX8_surest 102 = .ok (.if_icmp .ge 8, 3) := by decide +kernel
theorem dX8_surest_105 : decode cX8_surest 105 = .ok (.iload 9, 2) := by decide +kernel
theorem dX8_surest_107 : decode cX8_surest 107 = .ok (.goto 5, 3) := by decide +kernel
theorem dX8_surest_110 : decode cX8_surest 110 = .ok (.iload 7, 2) := by decide +kernel
theorem dX8_surest_112 : decode cX8_surest 112 = .ok (.istore 7, 2) := by decide +kernel
theorem dX8_surest_114 : decode cX8_surest 114 = .ok (.iload 10, 2) := by decide +kernel
theorem dX8_surest_116 : decode cX8_surest 116 = .ok (.iload 8, 2) := by decide +kernel
theorem dX8_surest_118 : decode cX8_surest 118 = .ok (.if_icmp .ge 8, 3) := by decide +kernel
theorem dX8_surest_121 : decode cX8_surest 121 = .ok (.iload 10, 2) := by decide +kernel
theorem dX8_surest_123 : decode cX8_surest 123 = .ok (.goto 5, 3) := by decide +kernel
theorem dX8_surest_126 : decode cX8_surest 126 = .ok (.iload 8, 2) := by decide +kernel
theorem dX8_surest_128 : decode cX8_surest 128 = .ok (.istore 8, 2) := by decide +kernel
theorem dX8_surest_130 : decode cX8_surest 130 = .ok (.iinc 9 1, 3) := by decide +kernel
theorem dX8_surest_133 : decode cX8_surest 133 = .ok (.goto (-71), 3) := by decide +kernel
theorem dX8_surest_136 : decode cX8_surest 136 = .ok (.aload_n 0, 1) := by decide +kernel
theorem dX8_surest_137 : decode cX8_surest 137 = .ok (.getfield 33, 3) := by decide +kernel
theorem dX8_surest_140 : decode cX8_surest 140 = .ok (.iload_n 1, 1) := by decide +kernel
theorem dX8_surest_141 : decode cX8_surest 141 = .ok (.iload 5, 2) := by decide +kernel
theorem dX8_surest_143 : decode cX8_surest 143 = .ok (.iastore, 1) := by decide +kernel
theorem dX8_surest_144 : decode cX8_surest 144 = .ok (.aload_n 0, 1) := by decide +kernel
theorem dX8_surest_145 : decode cX8_surest 145 = .ok (.getfield 36, 3) := by decide +kernel
theorem dX8_surest_148 : decode cX8_surest 148 = .ok (.iload_n 1, 1) := by decide +kernel
theorem dX8_surest_149 : decode cX8_surest 149 = .ok (.iload 6, 2) := by decide +kernel
theorem dX8_surest_151 : decode cX8_surest 151 = .ok (.iastore, 1) := by decide +kernel
theorem dX8_surest_152 : decode cX8_surest 152 = .ok (.iload 4, 2) := by decide +kernel
theorem dX8_surest_154 : decode cX8_surest 154 = .ok (.ifCond .ne 10, 3) := by decide +kernel
theorem dX8_surest_157 : decode cX8_surest 157 = .ok (.iload 7, 2) := by decide +kernel
theorem dX8_surest_159 : decode cX8_surest 159 = .ok (.iconst 2, 1) := by decide +kernel
theorem dX8_surest_160 : decode cX8_surest 160 = .ok (.idiv, 1) := by decide +kernel
theorem dX8_surest_161 : decode cX8_surest 161 = .ok (.goto 18, 3) := by decide +kernel
theorem dX8_surest_164 : decode cX8_surest 164 = .ok (.iload 4, 2) := by decide +kernel
theorem dX8_surest_166 : decode cX8_surest 166 = .ok (.iconst 1, 1) := by decide +kernel
theorem dX8_surest_167 : decode cX8_surest 167 = .ok (.if_icmp .ne 10, 3) := by decide +kernel
theorem dX8_surest_170 : decode cX8_surest 170 = .ok (.iload 7, 2) := by decide +kernel
theorem dX8_surest_172 : decode cX8_surest 172 = .ok (.iconst 2, 1) := by decide +kernel
theorem dX8_surest_173 : decode cX8_surest 173 = .ok (.irem, 1) := by decide +kernel
theorem dX8_surest_174 : decode cX8_surest 174 = .ok (.goto 5, 3) := by decide +kernel
theorem dX8_surest_177 : decode cX8_surest 177 = .ok (.iload 8, 2) := by decide +kernel
theorem dX8_surest_179 : decode cX8_surest 179 = .ok (.ireturn, 1) := by decide +kernel
theorem dX8_savePaces_0 : decode cX8_savePaces 0 = .ok (.iconst 0, 1) := by decide +kernel
theorem dX8_savePaces_1 : decode cX8_savePaces 1 = .ok (.istore_n 1, 1) := by decide +kernel
theorem dX8_savePaces_2 : decode cX8_savePaces 2 = .ok (.iload_n 1, 1) := by decide +kernel
theorem dX8_savePaces_3 : decode cX8_savePaces 3 = .ok (.aload_n 0, 1) := by decide +kernel
theorem dX8_savePaces_4 : decode cX8_savePaces 4 = .ok (.getfield 74, 3) := by decide +kernel
theorem dX8_savePaces_7 : decode cX8_savePaces 7 = .ok (.if_icmp .ge 21, 3) := by decide +kernel
theorem dX8_savePaces_10 : decode cX8_savePaces 10 = .ok (.aload_n 0, 1) := by decide +kernel
theorem dX8_savePaces_11 : decode cX8_savePaces 11 = .ok (.getfield 51, 3) := by decide +kernel
theorem dX8_savePaces_14 : decode cX8_savePaces 14 = .ok (.iload_n 1, 1) := by decide +kernel
theorem dX8_savePaces_15 : decode cX8_savePaces 15 = .ok (.aload_n 0, 1) := by decide +kernel
theorem dX8_savePaces_16 : decode cX8_savePaces 16 = .ok (.getfield 33, 3) := by decide +kernel
theorem dX8_savePaces_19 : decode cX8_savePaces 19 = .ok (.iload_n 1, 1) := by decide +kernel
theorem dX8_savePaces_20 : decode cX8_savePaces 20 = .ok (.iaload, 1) := by decide +kernel
theorem dX8_savePaces_21 : decode cX8_savePaces 21 = .ok (.iastore, 1) := by decide +kernel
theorem dX8_savePaces_22 : decode cX8_savePaces 22 = .ok (.iinc 1 1, 3) := by decide +kernel
theorem dX8_savePaces_25 : decode cX8_savePaces 25 = .ok (.goto (-23), 3) := by decide +kernel
theorem dX8_savePaces_28 : decode cX8_savePaces 28 = .ok (.return_, 1) := by decide +kernel
theorem dX8_restorePaces_0 : decode cX8_restorePaces 0 = .ok (.iconst 0, 1) := by decide +kernel
theorem dX8_restorePaces_1 : decode cX8_restorePaces 1 = .ok (.istore_n 1, 1) := by decide +kernel
theorem dX8_restorePaces_2 : decode cX8_restorePaces 2 = .ok (.iload_n 1, 1) := by decide +kernel
theorem dX8_restorePaces_3 : decode cX8_restorePaces 3 = .ok (.aload_n 0, 1) := by decide +kernel
theorem dX8_restorePaces_4 : decode cX8_restorePaces 4 = .ok (.getfield 74, 3) := by decide +kernel
theorem dX8_restorePaces_7 : decode cX8_restorePaces 7 = .ok (.if_icmp .ge 21, 3) := by decide +kernel
theorem dX8_restorePaces_10 : decode cX8_restorePaces 10 = .ok (.aload_n 0, 1) := by decide +kernel
theorem dX8_restorePaces_11 : decode cX8_restorePaces 11 = .ok (.getfield 33, 3) := by decide +kernel
theorem dX8_restorePaces_14 : decode cX8_restorePaces 14 = .ok (.iload_n 1, 1) := by decide +kernel
theorem dX8_restorePaces_15 : decode cX8_restorePaces 15 = .ok (.aload_n 0, 1) := by decide +kernel
theorem dX8_restorePaces_16 : decode cX8_restorePaces 16 = .ok (.getfield 51, 3) := by decide +kernel
theorem dX8_restorePaces_19 : decode cX8_restorePaces 19 = .ok (.iload_n 1, 1) := by decide +kernel
theorem dX8_restorePaces_20 : decode cX8_restorePaces 20 = .ok (.iaload, 1) := by decide +kernel
theorem dX8_restorePaces_21 : decode cX8_restorePaces 21 = .ok (.iastore, 1) := by decide +kernel
theorem dX8_restorePaces_22 : decode cX8_restorePaces 22 = .ok (.iinc 1 1, 3) := by decide +kernel
theorem dX8_restorePaces_25 : decode cX8_restorePaces 25 = .ok (.goto (-23), 3) := by decide +kernel
theorem dX8_restorePaces_28 : decode cX8_restorePaces 28 = .ok (.return_, 1) := by decide +kernel
theorem dX8_layStands_0 : decode cX8_layStands 0 = .ok (.iconst 0, 1) := by decide +kernel
theorem dX8_layStands_1 : decode cX8_layStands 1 = .ok (.istore 4, 2) := by decide +kernel
theorem dX8_layStands_3 : decode cX8_layStands 3 = .ok (.iload 4, 2) := by decide +kernel
theorem dX8_layStands_5 : decode cX8_layStands 5 = .ok (.aload_n 0, 1) := by decide +kernel
theorem dX8_layStands_6 : decode cX8_layStands 6 = .ok (.getfield 74, 3) := by decide +kernel
theorem dX8_layStands_9 : decode cX8_layStands 9 = .ok (.if_icmp .ge 35, 3) := by decide +kernel
theorem dX8_layStands_12 : decode cX8_layStands 12 = .ok (.aload_n 0, 1) := by decide +kernel
theorem dX8_layStands_13 : decode cX8_layStands 13 = .ok (.getfield 33, 3) := by decide +kernel
theorem dX8_layStands_16 : decode cX8_layStands 16 = .ok (.iload 4, 2) := by decide +kernel
theorem dX8_layStands_18 : decode cX8_layStands 18 = .ok (.iload_n 1, 1) := by decide +kernel
theorem dX8_layStands_19 : decode cX8_layStands 19 = .ok (.iload 4, 2) := by decide +kernel
theorem dX8_layStands_21 : decode cX8_layStands 21 = .ok (.ishr, 1) := by decide +kernel
theorem dX8_layStands_22 : decode cX8_layStands 22 = .ok (.iconst 1, 1) := by decide +kernel
theorem dX8_layStands_23 : decode cX8_layStands 23 = .ok (.iand, 1) := by decide +kernel
theorem dX8_layStands_24 : decode cX8_layStands 24 = .ok (.iastore, 1) := by decide +kernel
theorem dX8_layStands_25 : decode cX8_layStands 25 = .ok (.aload_n 0, 1) := by decide +kernel
theorem dX8_layStands_26 : decode cX8_layStands 26 = .ok (.getfield 54, 3) := by decide +kernel
theorem dX8_layStands_29 : decode cX8_layStands 29 = .ok (.bipush 6, 2) := by decide +kernel
theorem dX8_layStands_31 : decode cX8_layStands 31 = .ok (.iload_n 1, 1) := by decide +kernel
theorem dX8_layStands_32 : decode cX8_layStands 32 = .ok (.imul, 1) := by decide +kernel
theorem dX8_layStands_33 : decode cX8_layStands 33 = .ok (.iload 4, 2) := by decide +kernel
theorem dX8_layStands_35 : decode cX8_layStands 35 = .ok (.iadd, 1) := by decide +kernel
theorem dX8_layStands_36 : decode cX8_layStands 36 = .ok (.iconst 0, 1) := by decide +kernel
theorem dX8_layStands_37 : decode cX8_layStands 37 = .ok (.iastore, 1) := by decide +kernel
theorem dX8_layStands_38 : decode cX8_layStands 38 = .ok (.iinc 4 1, 3) := by decide +kernel
theorem dX8_layStands_41 : decode cX8_layStands 41 = .ok (.goto (-38), 3) := by decide +kernel
theorem dX8_layStands_44 : decode cX8_layStands 44 = .ok (.iload_n 2, 1) := by decide +kernel
theorem dX8_layStands_45 : decode cX8_layStands 45 = .ok (.istore 4, 2) := by decide +kernel
theorem dX8_layStands_47 : decode cX8_layStands 47 = .ok (.iload 4, 2) := by decide +kernel
theorem dX8_layStands_49 : decode cX8_layStands 49 = .ok (.iload_n 3, 1) := by decide +kernel
theorem dX8_layStands_50 : decode cX8_layStands 50 = .ok (.if_icmp .gt 57, 3) := by decide +kernel
theorem dX8_layStands_53 : decode cX8_layStands 53 = .ok (.aload_n 0, 1) := by decide +kernel
theorem dX8_layStands_54 : decode cX8_layStands 54 = .ok (.iload 4, 2) := by decide +kernel
theorem dX8_layStands_56 : decode cX8_layStands 56 = .ok (.invokevirtual 232, 3) := by decide +kernel
theorem dX8_layStands_59 : decode cX8_layStands 59 = .ok (.istore 5, 2) := by decide +kernel
theorem dX8_layStands_61 : decode cX8_layStands 61 = .ok (.iconst 0, 1) := by decide +kernel
theorem dX8_layStands_62 : decode cX8_layStands 62 = .ok (.istore 6, 2) := by decide +kernel
theorem dX8_layStands_64 : decode cX8_layStands 64 = .ok (.iload 6, 2) := by decide +kernel
theorem dX8_layStands_66 : decode cX8_layStands 66 = .ok (.aload_n 0, 1) := by decide +kernel
theorem dX8_layStands_67 : decode cX8_layStands 67 = .ok (.getfield 74, 3) := by decide +kernel
theorem dX8_layStands_70 : decode cX8_layStands 70 = .ok (.if_icmp .ge 31, 3) := by decide +kernel
theorem dX8_layStands_73 : decode cX8_layStands 73 = .ok (.aload_n 0, 1) := by decide +kernel
theorem dX8_layStands_74 : decode cX8_layStands 74 = .ok (.getfield 54, 3) := by decide +kernel
theorem dX8_layStands_77 : decode cX8_layStands 77 = .ok (.bipush 6, 2) := by decide +kernel
theorem dX8_layStands_79 : decode cX8_layStands 79 = .ok (.iload_n 1, 1) := by decide +kernel
theorem dX8_layStands_80 : decode cX8_layStands 80 = .ok (.imul, 1) := by decide +kernel
theorem dX8_layStands_81 : decode cX8_layStands 81 = .ok (.iload 6, 2) := by decide +kernel
theorem dX8_layStands_83 : decode cX8_layStands 83 = .ok (.iadd, 1) := by decide +kernel
theorem dX8_layStands_84 : decode cX8_layStands 84 = .ok (.dup2, 1) := by decide +kernel
theorem dX8_layStands_85 : decode cX8_layStands 85 = .ok (.iaload, 1) := by decide +kernel
theorem dX8_layStands_86 : decode cX8_layStands 86 = .ok (.iload 5, 2) := by decide +kernel
theorem dX8_layStands_88 : decode cX8_layStands 88 = .ok (.iload 6, 2) := by decide +kernel
theorem dX8_layStands_90 : decode cX8_layStands 90 = .ok (.ishr, 1) := by decide +kernel
theorem dX8_layStands_91 : decode cX8_layStands 91 = .ok (.iconst 1, 1) := by decide +kernel
theorem dX8_layStands_92 : decode cX8_layStands 92 = .ok (.iand, 1) := by decide +kernel
theorem dX8_layStands_93 : decode cX8_layStands 93 = .ok (.iadd, 1) := by decide +kernel
theorem dX8_layStands_94 : decode cX8_layStands 94 = .ok (.iastore, 1) := by decide +kernel
theorem dX8_layStands_95 : decode cX8_layStands 95 = .ok (.iinc 6 1, 3) := by decide +kernel
theorem dX8_layStands_98 : decode cX8_layStands 98 = .ok (.goto (-34), 3) := by decide +kernel
theorem dX8_layStands_101 : decode cX8_layStands 101 = .ok (.iinc 4 1, 3) := by decide +kernel
theorem dX8_layStands_104 : decode cX8_layStands 104 = .ok (.goto (-57), 3) := by decide +kernel
theorem dX8_layStands_107 : decode cX8_layStands 107 = .ok (.return_, 1) := by decide +kernel
theorem dX8_isStill_0 : decode cX8_isStill 0 = .ok (.iconst 1, 1) := by decide +kernel
theorem dX8_isStill_1 : decode cX8_isStill 1 = .ok (.istore_n 2, 1) := by decide +kernel
theorem dX8_isStill_2 : decode cX8_isStill 2 = .ok (.iconst 0, 1) := by decide +kernel
theorem dX8_isStill_3 : decode cX8_isStill 3 = .ok (.istore_n 3, 1) := by decide +kernel
theorem dX8_isStill_4 : decode cX8_isStill 4 = .ok (.iload_n 3, 1) := by decide +kernel
theorem dX8_isStill_5 : decode cX8_isStill 5 = .ok (.aload_n 0, 1) := by decide +kernel
theorem dX8_isStill_6 : decode cX8_isStill 6 = .ok (.getfield 74, 3) := by decide +kernel
theorem dX8_isStill_9 : decode cX8_isStill 9 = .ok (.if_icmp .ge 48, 3) := by decide +kernel
theorem dX8_isStill_12 : decode cX8_isStill 12 = .ok (.iload_n 2, 1) := by decide +kernel
theorem dX8_isStill_13 : decode cX8_isStill 13 = .ok (.ifCond .eq 36, 3) := by decide +kernel
theorem dX8_isStill_16 : decode cX8_isStill 16 = .ok (.aload_n 0, 1) := by decide +kernel
theorem dX8_isStill_17 : decode cX8_isStill 17 = .ok (.getfield 54, 3) := by decide +kernel
theorem dX8_isStill_20 : decode cX8_isStill 20 = .ok (.bipush 6, 2) := by decide +kernel
theorem dX8_isStill_22 : decode cX8_isStill 22 = .ok (.iload_n 1, 1) := by decide +kernel
theorem dX8_isStill_23 : decode cX8_isStill 23 = .ok (.iconst 1, 1) := by decide +kernel
theorem dX8_isStill_24 : decode cX8_isStill 24 = .ok (.iload_n 3, 1) := by decide +kernel
theorem dX8_isStill_25 : decode cX8_isStill 25 = .ok (.ishl, 1) := by decide +kernel
theorem dX8_isStill_26 : decode cX8_isStill 26 = .ok (.ixor, 1) := by decide +kernel
theorem dX8_isStill_27 : decode cX8_isStill 27 = .ok (.imul, 1) := by decide +kernel
theorem dX8_isStill_28 : decode cX8_isStill 28 = .ok (.iload_n 3, 1) := by decide +kernel
theorem dX8_isStill_29 : decode cX8_isStill 29 = .ok (.iadd, 1) := by decide +kernel
theorem dX8_isStill_30 : decode cX8_isStill 30 = .ok (.iaload, 1) := by decide +kernel
theorem dX8_isStill_31 : decode cX8_isStill 31 = .ok (.aload_n 0, 1) := by decide +kernel
theorem dX8_isStill_32 : decode cX8_isStill 32 = .ok (.getfield 54, 3) := by decide +kernel
theorem dX8_isStill_35 : decode cX8_isStill 35 = .ok (.bipush 6, 2) := by decide +kernel
theorem dX8_isStill_37 : decode cX8_isStill 37 = .ok (.iload_n 1, 1) := by decide +kernel
theorem dX8_isStill_38 : decode cX8_isStill 38 = .ok (.imul, 1) := by decide +kernel
theorem dX8_isStill_39 : decode cX8_isStill 39 = .ok (.iload_n 3, 1) := by decide +kernel
theorem dX8_isStill_40 : decode cX8_isStill 40 = .ok (.iadd, 1) := by decide +kernel
theorem dX8_isStill_41 : decode cX8_isStill 41 = .ok (.iaload, 1) := by decide +kernel
theorem dX8_isStill_42 : decode cX8_isStill 42 = .ok (.if_icmp .lt 7, 3) := by decide +kernel
theorem dX8_isStill_45 : decode cX8_isStill 45 = .ok (.iconst 1, 1) := by decide +kernel
theorem dX8_isStill_46 : decode cX8_isStill 46 = .ok (.goto 4, 3) := by decide +kernel
theorem dX8_isStill_49 : decode cX8_isStill 49 = .ok (.iconst 0, 1) := by decide +kernel
theorem dX8_isStill_50 : decode cX8_isStill 50 = .ok (.istore_n 2, 1) := by decide +kernel
theorem dX8_isStill_51 : decode cX8_isStill 51 = .ok (.iinc 3 1, 3) := by decide +kernel
theorem dX8_isStill_54 : decode cX8_isStill 54 = .ok (.goto (-50), 3) := by decide +kernel
theorem dX8_isStill_57 : decode cX8_isStill 57 = .ok (.iload_n 2, 1) := by decide +kernel
theorem dX8_isStill_58 : decode cX8_isStill 58 = .ok (.ireturn, 1) := by decide +kernel
theorem dX8_still_0 : decode cX8_still 0 = .ok (.iload_n 1, 1) := by decide +kernel
theorem dX8_still_1 : decode cX8_still 1 = .ok (.iload_n 2, 1) := by decide +kernel
theorem dX8_still_2 : decode cX8_still 2 = .ok (.invokestatic 235, 3) := by decide +kernel
theorem dX8_still_5 : decode cX8_still 5 = .ok (.ifCond .eq 13, 3) := by decide +kernel
theorem dX8_still_8 : decode cX8_still 8 = .ok (.iload_n 3, 1) := by decide +kernel
theorem dX8_still_9 : decode cX8_still 9 = .ok (.i2l, 1) := by decide +kernel
theorem dX8_still_10 : decode cX8_still 10 = .ok (.lconst 0, 1) := by decide +kernel
theorem dX8_still_11 : decode cX8_still 11 = .ok (.lconst 1, 1) := by decide +kernel
theorem dX8_still_12 : decode cX8_still 12 = .ok (.invokestatic 70, 3) := by decide +kernel
theorem dX8_still_15 : decode cX8_still 15 = .ok (.ifCond .ne 6, 3) := by decide +kernel
theorem dX8_still_18 : decode cX8_still 18 = .ok (.bipush (-3), 2) := by decide +kernel
theorem dX8_still_20 : decode cX8_still 20 = .ok (.ireturn, 1) := by decide +kernel
theorem dX8_still_21 : decode cX8_still 21 = .ok (.aload_n 0, 1) := by decide +kernel
theorem dX8_still_22 : decode cX8_still 22 = .ok (.invokevirtual 243, 3) := by decide +kernel
theorem dX8_still_25 : decode cX8_still 25 = .ok (.iconst 0, 1) := by decide +kernel
theorem dX8_still_26 : decode cX8_still 26 = .ok (.istore 4, 2) := by decide +kernel
theorem dX8_still_28 : decode cX8_still 28 = .ok (.iload 4, 2) := by decide +kernel
theorem dX8_still_30 : decode cX8_still 30 = .ok (.iconst 1, 1) := by decide +kernel
theorem dX8_still_31 : decode cX8_still 31 = .ok (.aload_n 0, 1) := by decide +kernel
theorem dX8_still_32 : decode cX8_still 32 = .ok (.getfield 74, 3) := by decide +kernel
theorem dX8_still_35 : decode cX8_still 35 = .ok (.ishl, 1) := by decide +kernel
theorem dX8_still_36 : decode cX8_still 36 = .ok (.if_icmp .ge 17, 3) := by decide +kernel
theorem dX8_still_39 : decode cX8_still 39 = .ok (.aload_n 0, 1) := by decide +kernel
theorem dX8_still_40 : decode cX8_still 40 = .ok (.iload 4, 2) := by decide +kernel
theorem dX8_still_42 : decode cX8_still 42 = .ok (.iload_n 1, 1) := by decide +kernel
theorem dX8_still_43 : decode cX8_still 43 = .ok (.iload_n 2, 1) := by decide +kernel
theorem dX8_still_44 : decode cX8_still 44 = .ok (.invokevirtual 246, 3) := by decide +kernel
theorem dX8_still_47 : decode cX8_still 47 = .ok (.iinc 4 1, 3) := by decide +kernel
theorem dX8_still_50 : decode cX8_still 50 = .ok (.goto (-22), 3) := by decide +kernel
theorem dX8_still_53 : decode cX8_still 53 = .ok (.aload_n 0, 1) := by decide +kernel
theorem dX8_still_54 : decode cX8_still 54 = .ok (.invokevirtual 250, 3) := by decide +kernel
theorem dX8_still_57 : decode cX8_still 57 = .ok (.iconst 0, 1) := by decide +kernel
theorem dX8_still_58 : decode cX8_still 58 = .ok (.istore 4, 2) := by decide +kernel
theorem dX8_still_60 : decode cX8_still 60 = .ok (.iconst (-1), 1) := by decide +kernel
theorem dX8_still_61 : decode cX8_still 61 = .ok (.istore 5, 2) := by decide +kernel
theorem dX8_still_63 : decode cX8_still 63 = .ok (.iconst 0, 1) := by decide +kernel
theorem dX8_still_64 : decode cX8_still 64 = .ok (.istore 6, 2) := by decide +kernel
theorem dX8_still_66 : decode cX8_still 66 = .ok (.iload 6, 2) := by decide +kernel
theorem dX8_still_68 : decode cX8_still 68 = .ok (.iconst 1, 1) := by decide +kernel
theorem dX8_still_69 : decode cX8_still 69 = .ok (.aload_n 0, 1) := by decide +kernel
theorem dX8_still_70 : decode cX8_still 70 = .ok (.getfield 74, 3) := by decide +kernel
theorem dX8_still_73 : decode cX8_still 73 = .ok (.ishl, 1) := by decide +kernel
theorem dX8_still_74 : decode cX8_still 74 = .ok (.if_icmp .ge 51, 3) := by decide +kernel
theorem dX8_still_77 : decode cX8_still 77 = .ok (.iload 4, 2) := by decide +kernel
theorem dX8_still_79 : decode cX8_still 79 = .ok (.ifCond .ne 17, 3) := by decide +kernel
theorem dX8_still_82 : decode cX8_still 82 = .ok (.aload_n 0, 1) := by decide +kernel
theorem dX8_still_83 : decode cX8_still 83 = .ok (.iload 6, 2) := by decide +kernel
theorem dX8_still_85 : decode cX8_still 85 = .ok (.invokevirtual 253, 3) := by decide +kernel
theorem dX8_still_88 : decode cX8_still 88 = .ok (.ifCond .eq 8, 3) := by decide +kernel
theorem dX8_still_91 : decode cX8_still 91 = .ok (.iload 6, 2) := by decide +kernel
theorem dX8_still_93 : decode cX8_still 93 = .ok (.goto 5, 3) := by decide +kernel
theorem dX8_still_96 : decode cX8_still 96 = .ok (.iload 5, 2) := by decide +kernel
theorem dX8_still_98 : decode cX8_still 98 = .ok (.istore 5, 2) := by decide +kernel
theorem dX8_still_100 : decode cX8_still 100 = .ok (.iload 4, 2) := by decide +kernel
theorem dX8_still_102 : decode cX8_still 102 = .ok (.aload_n 0, 1) := by decide +kernel
theorem dX8_still_103 : decode cX8_still 103 = .ok (.iload 6, 2) := by decide +kernel
theorem dX8_still_105 : decode cX8_still 105 = .ok (.invokevirtual 253, 3) := by decide +kernel
theorem dX8_still_108 : decode cX8_still 108 = .ok (.ifCond .eq 7, 3) := by decide +kernel
theorem dX8_still_111 : decode cX8_still 111 = .ok (.iconst 1, 1) := by decide +kernel
theorem dX8_still_112 : decode cX8_still 112 = .ok (.goto 4, 3) := by decide +kernel
theorem dX8_still_115 : decode cX8_still 115 = .ok (.iconst 0, 1) := by decide +kernel
theorem dX8_still_116 : decode cX8_still 116 = .ok (.iadd, 1) := by decide +kernel
theorem dX8_still_117 : decode cX8_still 117 = .ok (.istore 4, 2) := by decide +kernel
theorem dX8_still_119 : decode cX8_still 119 = .ok (.iinc 6 1, 3) := by decide +kernel
theorem dX8_still_122 : decode cX8_still 122 = .ok (.goto (-56), 3) := by decide +kernel
theorem dX8_still_125 : decode cX8_still 125 = .ok (.iload_n 3, 1) := by decide +kernel
theorem dX8_still_126 : decode cX8_still 126 = .ok (.ifCond .ne 8, 3) := by decide +kernel
theorem dX8_still_129 : decode cX8_still 129 = .ok (.iload 4, 2) := by decide +kernel
theorem dX8_still_131 : decode cX8_still 131 = .ok (.goto 5, 3) := by decide +kernel
theorem dX8_still_134 : decode cX8_still 134 = .ok (.iload 5, 2) := by decide +kernel
theorem dX8_still_136 : decode cX8_still 136 = .ok (.ireturn, 1) := by decide +kernel
theorem dX8_plot_0 : decode cX8_plot 0 = .ok (.aload_n 0, 1) := by decide +kernel
theorem dX8_plot_1 : decode cX8_plot 1 = .ok (.iload_n 1, 1) := by decide +kernel
theorem dX8_plot_2 : decode cX8_plot 2 = .ok (.invokevirtual 173, 3) := by decide +kernel
theorem dX8_plot_5 : decode cX8_plot 5 = .ok (.ifCond .eq 25, 3) := by decide +kernel
theorem dX8_plot_8 : decode cX8_plot 8 = .ok (.iload_n 2, 1) := by decide +kernel
theorem dX8_plot_9 : decode cX8_plot 9 = .ok (.i2l, 1) := by decide +kernel
theorem dX8_plot_10 : decode cX8_plot 10 = .ok (.lconst 0, 1) := by decide +kernel
theorem dX8_plot_11 : decode cX8_plot 11 = .ok (.aload_n 0, 1) := by decide +kernel
theorem dX8_plot_12 : decode cX8_plot 12 = .ok (.invokevirtual 213, 3) := by decide +kernel
theorem dX8_plot_15 : decode cX8_plot 15 = .ok (.i2l, 1) := by decide +kernel
theorem dX8_plot_16 : decode cX8_plot 16 = .ok (.invokestatic 70, 3) := by decide +kernel
theorem dX8_plot_19 : decode cX8_plot 19 = .ok (.ifCond .eq 11, 3) := by decide +kernel
theorem dX8_plot_22 : decode cX8_plot 22 = .ok (.iload_n 2, 1) := by decide +kernel
theorem dX8_plot_23 : decode cX8_plot 23 = .ok (.iload_n 1, 1) := by decide +kernel
theorem dX8_plot_24 : decode cX8_plot 24 = .ok (.invokestatic 130, 3) := by decide +kernel
theorem dX8_plot_27 : decode cX8_plot 27 = .ok (.ifCond .eq 6, 3) := by decide +kernel
theorem dX8_plot_30 : decode cX8_plot 30 = .ok (.bipush (-2), 2) := by decide +kernel
theorem dX8_plot_32 : decode cX8_plot 32 = .ok (.ireturn, 1) := by decide +kernel
theorem dX8_plot_33 : decode cX8_plot 33 = .ok (.iload_n 3, 1) := by decide +kernel
theorem dX8_plot_34 : decode cX8_plot 34 = .ok (.invokestatic 229, 3) := by decide +kernel
theorem dX8_plot_37 : decode cX8_plot 37 = .ok (.ifCond .eq 14, 3) := by decide +kernel
theorem dX8_plot_40 : decode cX8_plot 40 = .ok (.iload 4, 2) := by decide +kernel
theorem dX8_plot_42 : decode cX8_plot 42 = .ok (.i2l, 1) := by decide +kernel
theorem dX8_plot_43 : decode cX8_plot 43 = .ok (.lconst 0, 1) := by decide +kernel
theorem dX8_plot_44 : decode cX8_plot 44 = .ok (.lconst 1, 1) := by decide +kernel
theorem dX8_plot_45 : decode cX8_plot 45 = .ok (.invokestatic 70, 3) := by decide +kernel
theorem dX8_plot_48 : decode cX8_plot 48 = .ok (.ifCond .ne 6, 3) := by decide +kernel
theorem dX8_plot_51 : decode cX8_plot 51 = .ok (.bipush (-3), 2) := by decide +kernel
theorem dX8_plot_53 : decode cX8_plot 53 = .ok (.ireturn, 1) := by decide +kernel
theorem dX8_plot_54 : decode cX8_plot 54 = .ok (.iconst (-1), 1) := by decide +kernel
theorem dX8_plot_55 : decode cX8_plot 55 = .ok (.istore 5, 2) := by decide +kernel
theorem dX8_plot_57 : decode cX8_plot 57 = .ok (.aload_n 0, 1) := by decide +kernel
theorem dX8_plot_58 : decode cX8_plot 58 = .ok (.invokevirtual 243, 3) := by decide +kernel
theorem dX8_plot_61 : decode cX8_plot 61 = .ok (.iconst 0, 1) := by decide +kernel
theorem dX8_plot_62 : decode cX8_plot 62 = .ok (.istore 6, 2) := by decide +kernel
theorem dX8_plot_64 : decode cX8_plot 64 = .ok (.iload 6, 2) := by decide +kernel
theorem dX8_plot_66 : decode cX8_plot 66 = .ok (.iload_n 2, 1) := by decide +kernel
theorem dX8_plot_67 : decode cX8_plot 67 = .ok (.if_icmp .gt 104, 3) := by decide +kernel
theorem dX8_plot_70 : decode cX8_plot 70 = .ok (.iload 6, 2) := by decide +kernel
theorem dX8_plot_72 : decode cX8_plot 72 = .ok (.iload_n 2, 1) := by decide +kernel
theorem dX8_plot_73 : decode cX8_plot 73 = .ok (.iconst (-1), 1) := by decide +kernel
theorem dX8_plot_74 : decode cX8_plot 74 = .ok (.ixor, 1) := by decide +kernel
theorem dX8_plot_75 : decode cX8_plot 75 = .ok (.iand, 1) := by decide +kernel
theorem dX8_plot_76 : decode cX8_plot 76 = .ok (.ifCond .ne 89, 3) := by decide +kernel
theorem dX8_plot_79 : decode cX8_plot 79 = .ok (.iload 5, 2) := by decide +kernel
theorem dX8_plot_81 : decode cX8_plot 81 = .ok (.iconst (-1), 1) := by decide +kernel
theorem dX8_plot_82 : decode cX8_plot 82 = .ok (.if_icmp .eq 16, 3) := by decide +kernel
theorem dX8_plot_85 : decode cX8_plot 85 = .ok (.iload 6, 2) := by decide +kernel
theorem dX8_plot_87 : decode cX8_plot 87 = .ok (.invokestatic 219, 3) := by decide +kernel
theorem dX8_plot_90 : decode cX8_plot 90 = .ok (.iload 5, 2) := by decide +kernel
theorem dX8_plot_92 : decode cX8_plot 92 = .ok (.invokestatic 219, 3) := by decide +kernel
theorem dX8_plot_95 : decode cX8_plot 95 = .ok (.if_icmp .ge 70, 3) := by decide +kernel
theorem dX8_plot_98 : decode cX8_plot 98 = .ok (.iconst 0, 1) := by decide +kernel
theorem dX8_plot_99 : decode cX8_plot 99 = .ok (.istore 7, 2) := by decide +kernel
theorem dX8_plot_101 : decode cX8_plot 101 = .ok (.iload 7, 2) := by decide +kernel
theorem dX8_plot_103 : decode cX8_plot 103 = .ok (.aload_n 0, 1) := by decide +kernel
theorem dX8_plot_104 : decode cX8_plot 104 = .ok (.getfield 74, 3) := by decide +kernel
theorem dX8_plot_107 : decode cX8_plot 107 = .ok (.if_icmp .ge 37, 3) := by decide +kernel
theorem dX8_plot_110 : decode cX8_plot 110 = .ok (.aload_n 0, 1) := by decide +kernel
theorem dX8_plot_111 : decode cX8_plot 111 = .ok (.getfield 33, 3) := by decide +kernel
theorem dX8_plot_114 : decode cX8_plot 114 = .ok (.iload 7, 2) := by decide +kernel
theorem dX8_plot_116 : decode cX8_plot 116 = .ok (.iload 6, 2) := by decide +kernel
theorem dX8_plot_118 : decode cX8_plot 118 = .ok (.iload 7, 2) := by decide +kernel
theorem dX8_plot_120 : decode cX8_plot 120 = .ok (.invokestatic 130, 3) := by decide +kernel
theorem dX8_plot_123 : decode cX8_plot 123 = .ok (.ifCond .eq 7, 3) := by decide +kernel
theorem dX8_plot_126 : decode cX8_plot 126 = .ok (.iconst 0, 1) := by decide +kernel
theorem dX8_plot_127 : decode cX8_plot 127 = .ok (.goto 10, 3) := by decide +kernel
theorem dX8_plot_130 : decode cX8_plot 130 = .ok (.aload_n 0, 1) := by decide +kernel
theorem dX8_plot_131 : decode cX8_plot 131 = .ok (.getfield 51, 3) := by decide +kernel
theorem dX8_plot_134 : decode cX8_plot 134 = .ok (.iload 7, 2) := by decide +kernel
theorem dX8_plot_136 : decode cX8_plot 136 = .ok (.iaload, 1) := by decide +kernel
theorem dX8_plot_137 : decode cX8_plot 137 = .ok (.iastore, 1) := by decide +kernel
theorem dX8_plot_138 : decode cX8_plot 138 = .ok (.iinc 7 1, 3) := by decide +kernel
theorem dX8_plot_141 : decode cX8_plot 141 = .ok (.goto (-40), 3) := by decide +kernel
theorem dX8_plot_144 : decode cX8_plot 144 = .ok (.aload_n 0, 1) := by decide +kernel
theorem dX8_plot_145 : decode cX8_plot 145 = .ok (.iload_n 3, 1) := by decide +kernel
theorem dX8_plot_146 : decode cX8_plot 146 = .ok (.invokevirtual 232, 3) := by decide +kernel
theorem dX8_plot_149 : decode cX8_plot 149 = .ok (.iload_n 1, 1) := by decide +kernel
theorem dX8_plot_150 : decode cX8_plot 150 = .ok (.invokestatic 130, 3) := by decide +kernel
theorem dX8_plot_153 : decode cX8_plot 153 = .ok (.ifCond .eq 8, 3) := by decide +kernel
theorem dX8_plot_156 : decode cX8_plot 156 = .ok (.iload 6, 2) := by decide +kernel
theorem dX8_plot_158 : decode cX8_plot 158 = .ok (.goto 5, 3) := by decide +kernel
theorem dX8_plot_161 : decode cX8_plot 161 = .ok (.iload 5, 2) := by decide +kernel
theorem dX8_plot_163 : decode cX8_plot 163 = .ok (.istore 5, 2) := by decide +kernel
theorem dX8_plot_165 : decode cX8_plot 165 = .ok (.iinc 6 1, 3) := by decide +kernel
theorem dX8_plot_168 : decode cX8_plot 168 = .ok (.goto (-104), 3) := by decide +kernel
theorem dX8_plot_171 : decode cX8_plot 171 = .ok (.aload_n 0, 1) := by decide +kernel
theorem dX8_plot_172 : decode cX8_plot 172 = .ok (.invokevirtual 250, 3) := by decide +kernel
theorem dX8_plot_175 : decode cX8_plot 175 = .ok (.iload 5, 2) := by decide +kernel
theorem dX8_plot_177 : decode cX8_plot 177 = .ok (.iconst (-1), 1) := by decide +kernel
theorem dX8_plot_178 : decode cX8_plot 178 = .ok (.if_icmp .ne 7, 3) := by decide +kernel
theorem dX8_plot_181 : decode cX8_plot 181 = .ok (.iconst (-1), 1) := by decide +kernel
theorem dX8_plot_182 : decode cX8_plot 182 = .ok (.goto 18, 3) := by decide +kernel
theorem dX8_plot_185 : decode cX8_plot 185 = .ok (.iload 4, 2) := by decide +kernel
theorem dX8_plot_187 : decode cX8_plot 187 = .ok (.ifCond .ne 11, 3) := by decide +kernel
theorem dX8_plot_190 : decode cX8_plot 190 = .ok (.iload 5, 2) := by decide +kernel
theorem dX8_plot_192 : decode cX8_plot 192 = .ok (.invokestatic 219, 3) := by decide +kernel
theorem dX8_plot_195 : decode cX8_plot 195 = .ok (.goto 5, 3) := by decide +kernel
theorem dX8_plot_198 : decode cX8_plot 198 = .ok (.iload 5, 2) := by decide +kernel
theorem dX8_plot_200 : decode cX8_plot 200 = .ok (.ireturn, 1) := by decide +kernel
theorem dX8_price_0 : decode cX8_price 0 = .ok (.iload_n 1, 1) := by decide +kernel
theorem dX8_price_1 : decode cX8_price 1 = .ok (.invokestatic 229, 3) := by decide +kernel
theorem dX8_price_4 : decode cX8_price 4 = .ok (.ifCond .ne 6, 3) := by decide +kernel
theorem dX8_price_7 : decode cX8_price 7 = .ok (.bipush (-3), 2) := by decide +kernel
theorem dX8_price_9 : decode cX8_price 9 = .ok (.ireturn, 1) := by decide +kernel
theorem dX8_price_10 : decode cX8_price 10 = .ok (.aload_n 0, 1) := by decide +kernel
theorem dX8_price_11 : decode cX8_price 11 = .ok (.iload_n 1, 1) := by decide +kernel
theorem dX8_price_12 : decode cX8_price 12 = .ok (.invokevirtual 232, 3) := by decide +kernel
theorem dX8_price_15 : decode cX8_price 15 = .ok (.istore_n 2, 1) := by decide +kernel
theorem dX8_price_16 : decode cX8_price 16 = .ok (.iconst 0, 1) := by decide +kernel
theorem dX8_price_17 : decode cX8_price 17 = .ok (.istore_n 3, 1) := by decide +kernel
theorem dX8_price_18 : decode cX8_price 18 = .ok (.iconst 0, 1) := by decide +kernel
theorem dX8_price_19 : decode cX8_price 19 = .ok (.istore 4, 2) := by decide +kernel
theorem dX8_price_21 : decode cX8_price 21 = .ok (.iconst 0, 1) := by decide +kernel
theorem dX8_price_22 : decode cX8_price 22 = .ok (.istore 5, 2) := by decide +kernel
theorem dX8_price_24 : decode cX8_price 24 = .ok (.iload 5, 2) := by decide +kernel
theorem dX8_price_26 : decode cX8_price 26 = .ok (.aload_n 0, 1) := by decide +kernel
theorem dX8_price_27 : decode cX8_price 27 = .ok (.getfield 74, 3) := by decide +kernel
theorem dX8_price_30 : decode cX8_price 30 = .ok (.if_icmp .ge 65, 3) := by decide +kernel
theorem dX8_price_33 : decode cX8_price 33 = .ok (.iload_n 3, 1) := by decide +kernel
theorem dX8_price_34 : decode cX8_price 34 = .ok (.ifCond .ne 14, 3) := by decide +kernel
theorem dX8_price_37 : decode cX8_price 37 = .ok (.aload_n 0, 1) := by decide +kernel
theorem dX8_price_38 : decode cX8_price 38 = .ok (.getfield 48, 3) := by decide +kernel
theorem dX8_price_41 : decode cX8_price 41 = .ok (.iload 5, 2) := by decide +kernel
theorem dX8_price_43 : decode cX8_price 43 = .ok (.iaload, 1) := by decide +kernel
theorem dX8_price_44 : decode cX8_price 44 = .ok (.iconst (-1), 1) := by decide +kernel
theorem dX8_price_45 : decode cX8_price 45 = .ok (.if_icmp .eq 7, 3) := by decide +kernel
theorem dX8_price_48 : decode cX8_price 48 = .ok (.iconst 1, 1) := by decide +kernel
theorem dX8_price_49 : decode cX8_price 49 = .ok (.goto 4, 3) := by decide +kernel
theorem dX8_price_52 : decode cX8_price 52 = .ok (.iconst 0, 1) := by decide +kernel
theorem dX8_price_53 : decode cX8_price 53 = .ok (.istore_n 3, 1) := by decide +kernel
theorem dX8_price_54 : decode cX8_price 54 = .ok (.iload_n 2, 1) := by decide +kernel
theorem dX8_price_55 : decode cX8_price 55 = .ok (.iload 5, 2) := by decide +kernel
theorem dX8_price_57 : decode cX8_price 57 = .ok (.invokestatic 130, 3) := by decide +kernel
theorem dX8_price_60 : decode cX8_price 60 = .ok (.ifCond .eq 25, 3) := by decide +kernel
theorem dX8_price_63 : decode cX8_price 63 = .ok (.aload_n 0, 1) := by decide +kernel
theorem dX8_price_64 : decode cX8_price 64 = .ok (.getfield 39, 3) := by decide +kernel
theorem dX8_price_67 : decode cX8_price 67 = .ok (.iload 5, 2) := by decide +kernel
theorem dX8_price_69 : decode cX8_price 69 = .ok (.iaload, 1) := by decide +kernel
theorem dX8_price_70 : decode cX8_price 70 = .ok (.iload 4, 2) := by decide +kernel
theorem dX8_price_72 : decode cX8_price 72 = .ok (.if_icmp .le 13, 3) := by decide +kernel
theorem dX8_price_75 : decode cX8_price 75 = .ok (.aload_n 0, 1) := by decide +kernel
theorem dX8_price_76 : decode cX8_price 76 = .ok (.getfield 39, 3) := by decide +kernel
theorem dX8_price_79 : decode cX8_price 79 = .ok (.iload 5, 2) := by decide +kernel
theorem dX8_price_81 : decode cX8_price 81 = .ok (.iaload, 1) := by decide +kernel
theorem dX8_price_82 : decode cX8_price 82 = .ok (.goto 5, 3) := by decide +kernel
theorem dX8_price_85 : decode cX8_price 85 = .ok (.iload 4, 2) := by decide +kernel
theorem dX8_price_87 : decode cX8_price 87 = .ok (.istore 4, 2) := by decide +kernel
theorem dX8_price_89 : decode cX8_price 89 = .ok (.iinc 5 1, 3) := by decide +kernel
theorem dX8_price_92 : decode cX8_price 92 = .ok (.goto (-68), 3) := by decide +kernel
theorem dX8_price_95 : decode cX8_price 95 = .ok (.iload_n 3, 1) := by decide +kernel
theorem dX8_price_96 : decode cX8_price 96 = .ok (.ifCond .eq 8, 3) := by decide +kernel
theorem dX8_price_99 : decode cX8_price 99 = .ok (.iload 4, 2) := by decide +kernel
theorem dX8_price_101 : decode cX8_price 101 = .ok (.goto 4, 3) := by decide +kernel
theorem dX8_price_104 : decode cX8_price 104 = .ok (.iconst 0, 1) := by decide +kernel
theorem dX8_price_105 : decode cX8_price 105 = .ok (.ireturn, 1) := by decide +kernel
theorem dX8_apart_0 : decode cX8_apart 0 = .ok (.iconst 0, 1) := by decide +kernel
theorem dX8_apart_1 : decode cX8_apart 1 = .ok (.istore 4, 2) := by decide +kernel
theorem dX8_apart_3 : decode cX8_apart 3 = .ok (.iload 4, 2) := by decide +kernel
theorem dX8_apart_5 : decode cX8_apart 5 = .ok (.bipush 6, 2) := by decide +kernel
theorem dX8_apart_7 : decode cX8_apart 7 = .ok (.if_icmp .ge 17, 3) := by decide +kernel
theorem dX8_apart_10 : decode cX8_apart 10 = .ok (.aload_n 0, 1) := by decide +kernel
theorem dX8_apart_11 : decode cX8_apart 11 = .ok (.getfield 57, 3) := by decide +kernel
theorem dX8_apart_14 : decode cX8_apart 14 = .ok (.iload 4, 2) := by decide +kernel
theorem dX8_apart_16 : decode cX8_apart 16 = .ok (.iconst 0, 1) := by decide +kernel
theorem dX8_apart_17 : decode cX8_apart 17 = .ok (.iastore, 1) := by decide +kernel
theorem dX8_apart_18 : decode cX8_apart 18 = .ok (.iinc 4 1, 3) := by decide +kernel
theorem dX8_apart_21 : decode cX8_apart 21 = .ok (.goto (-18), 3) := by decide +kernel
theorem dX8_apart_24 : decode cX8_apart 24 = .ok (.iload_n 2, 1) := by decide +kernel
theorem dX8_apart_25 : decode cX8_apart 25 = .ok (.istore 4, 2) := by decide +kernel
theorem dX8_apart_27 : decode cX8_apart 27 = .ok (.iload 4, 2) := by decide +kernel
theorem dX8_apart_29 : decode cX8_apart 29 = .ok (.iload_n 3, 1) := by decide +kernel
theorem dX8_apart_30 : decode cX8_apart 30 = .ok (.if_icmp .gt 61, 3) := by decide +kernel
theorem dX8_apart_33 : decode cX8_apart 33 = .ok (.aload_n 0, 1) := by decide +kernel
theorem dX8_apart_34 : decode cX8_apart 34 = .ok (.iload 4, 2) := by decide +kernel
theorem dX8_apart_36 : decode cX8_apart 36 = .ok (.invokevirtual 226, 3) := by decide +kernel
theorem dX8_apart_39 : decode cX8_apart 39 = .ok (.aload_n 0, 1) := by decide +kernel
theorem dX8_apart_40 : decode cX8_apart 40 = .ok (.iload_n 1, 1) := by decide +kernel
theorem dX8_apart_41 : decode cX8_apart 41 = .ok (.aload_n 0, 1) := by decide +kernel
theorem dX8_apart_42 : decode cX8_apart 42 = .ok (.invokevirtual 213, 3) := by decide +kernel
theorem dX8_apart_45 : decode cX8_apart 45 = .ok (.invokevirtual 216, 3) := by decide +kernel
theorem dX8_apart_48 : decode cX8_apart 48 = .ok (.istore 5, 2) := by decide +kernel
theorem dX8_apart_50 : decode cX8_apart 50 = .ok (.iconst 0, 1) := by decide +kernel
theorem dX8_apart_51 : decode cX8_apart 51 = .ok (.istore 6, 2) := by decide +kernel
theorem dX8_apart_53 : decode cX8_apart 53 = .ok (.iload 6, 2) := by decide +kernel
theorem dX8_apart_55 : decode cX8_apart 55 = .ok (.aload_n 0, 1) := by decide +kernel
theorem dX8_apart_56 : decode cX8_apart 56 = .ok (.getfield 74, 3) := by decide +kernel
theorem dX8_apart_59 : decode cX8_apart 59 = .ok (.if_icmp .ge 26, 3) := by decide +kernel
theorem dX8_apart_62 : decode cX8_apart 62 = .ok (.aload_n 0, 1) := by decide +kernel
theorem dX8_apart_63 : decode cX8_apart 63 = .ok (.getfield 57, 3) := by decide +kernel
theorem dX8_apart_66 : decode cX8_apart 66 = .ok (.iload 6, 2) := by decide +kernel
theorem dX8_apart_68 : decode cX8_apart 68 = .ok (.dup2, 1) := by decide +kernel
theorem dX8_apart_69 : decode cX8_apart 69 = .ok (.iaload, 1) := by decide +kernel
theorem dX8_apart_70 : decode cX8_apart 70 = .ok (.iload 5, 2) := by decide +kernel
theorem dX8_apart_72 : decode cX8_apart 72 = .ok (.iload 6, 2) := by decide +kernel
theorem dX8_apart_74 : decode cX8_apart 74 = .ok (.ishr, 1) := by decide +kernel
theorem dX8_apart_75 : decode cX8_apart 75 = .ok (.iconst 1, 1) := by decide +kernel
theorem dX8_apart_76 : decode cX8_apart 76 = .ok (.iand, 1) := by decide +kernel
theorem dX8_apart_77 : decode cX8_apart 77 = .ok (.iadd, 1) := by decide +kernel
theorem dX8_apart_78 : decode cX8_apart 78 = .ok (.iastore, 1) := by decide +kernel
theorem dX8_apart_79 : decode cX8_apart 79 = .ok (.iinc 6 1, 3) := by decide +kernel
theorem dX8_apart_82 : decode cX8_apart 82 = .ok (.goto (-29), 3) := by decide +kernel
theorem dX8_apart_85 : decode cX8_apart 85 = .ok (.iinc 4 1, 3) := by decide +kernel
theorem dX8_apart_88 : decode cX8_apart 88 = .ok (.goto (-61), 3) := by decide +kernel
theorem dX8_apart_91 : decode cX8_apart 91 = .ok (.sipush 999, 3) := by decide +kernel
theorem dX8_apart_94 : decode cX8_apart 94 = .ok (.istore 4, 2) := by decide +kernel
theorem dX8_apart_96 : decode cX8_apart 96 = .ok (.iconst 0, 1) := by decide +kernel
theorem dX8_apart_97 : decode cX8_apart 97 = .ok (.istore 5, 2) := by decide +kernel
theorem dX8_apart_99 : decode cX8_apart 99 = .ok (.iconst 0, 1) := by decide +kernel
theorem dX8_apart_100 : decode cX8_apart 100 = .ok (.istore 6, 2) := by decide +kernel
theorem dX8_apart_102 : decode cX8_apart 102 = .ok (.iload 6, 2) := by decide +kernel
theorem dX8_apart_104 : decode cX8_apart 104 = .ok (.aload_n 0, 1) := by decide +kernel
theorem dX8_apart_105 : decode cX8_apart 105 = .ok (.getfield 74, 3) := by decide +kernel
theorem dX8_apart_108 : decode cX8_apart 108 = .ok (.if_icmp .ge 61, 3) := by decide +kernel
theorem dX8_apart_111 : decode cX8_apart 111 = .ok (.aload_n 0, 1) := by decide +kernel
theorem dX8_apart_112 : decode cX8_apart 112 = .ok (.getfield 57, 3) := by decide +kernel
theorem dX8_apart_115 : decode cX8_apart 115 = .ok (.iload 6, 2) := by decide +kernel
theorem dX8_apart_117 : decode cX8_apart 117 = .ok (.iaload, 1) := by decide +kernel
theorem dX8_apart_118 : decode cX8_apart 118 = .ok (.iload 4, 2) := by decide +kernel
theorem dX8_apart_120 : decode cX8_apart 120 = .ok (.if_icmp .ge 13, 3) := by decide +kernel
theorem dX8_apart_123 : decode cX8_apart 123 = .ok (.aload_n 0, 1) := by decide +kernel
theorem dX8_apart_124 : decode cX8_apart 124 = .ok (.getfield 57, 3) := by decide +kernel
theorem dX8_apart_127 : decode cX8_apart 127 = .ok (.iload 6, 2) := by decide +kernel
theorem dX8_apart_129 : decode cX8_apart 129 = .ok (.iaload, 1) := by decide +kernel
theorem dX8_apart_130 : decode cX8_apart 130 = .ok (.goto 5, 3) := by decide +kernel
theorem dX8_apart_133 : decode cX8_apart 133 = .ok (.iload 4, 2) := by decide +kernel
theorem dX8_apart_135 : decode cX8_apart 135 = .ok (.istore 4, 2) := by decide +kernel
theorem dX8_apart_137 : decode cX8_apart 137 = .ok (.aload_n 0, 1) := by decide +kernel
theorem dX8_apart_138 : decode cX8_apart 138 = .ok (.getfield 57, 3) := by decide +kernel
theorem dX8_apart_141 : decode cX8_apart 141 = .ok (.iload 6, 2) := by decide +kernel
theorem dX8_apart_143 : decode cX8_apart 143 = .ok (.iaload, 1) := by decide +kernel
theorem dX8_apart_144 : decode cX8_apart 144 = .ok (.iload 5, 2) := by decide +kernel
theorem dX8_apart_146 : decode cX8_apart 146 = .ok (.if_icmp .le 13, 3) := by decide +kernel
theorem dX8_apart_149 : decode cX8_apart 149 = .ok (.aload_n 0, 1) := by decide +kernel
theorem dX8_apart_150 : decode cX8_apart 150 = .ok (.getfield 57, 3) := by decide +kernel
theorem dX8_apart_153 : decode cX8_apart 153 = .ok (.iload 6, 2) := by decide +kernel
theorem dX8_apart_155 : decode cX8_apart 155 = .ok (.iaload, 1) := by decide +kernel
theorem dX8_apart_156 : decode cX8_apart 156 = .ok (.goto 5, 3) := by decide +kernel
theorem dX8_apart_159 : decode cX8_apart 159 = .ok (.iload 5, 2) := by decide +kernel
theorem dX8_apart_161 : decode cX8_apart 161 = .ok (.istore 5, 2) := by decide +kernel
theorem dX8_apart_163 : decode cX8_apart 163 = .ok (.iinc 6 1, 3) := by decide +kernel
theorem dX8_apart_166 : decode cX8_apart 166 = .ok (.goto (-64), 3) := by decide +kernel
theorem dX8_apart_169 : decode cX8_apart 169 = .ok (.aload_n 0, 1) := by decide +kernel
theorem dX8_apart_170 : decode cX8_apart 170 = .ok (.getfield 74, 3) := by decide +kernel
theorem dX8_apart_173 : decode cX8_apart 173 = .ok (.ifCond .ne 7, 3) := by decide +kernel
theorem dX8_apart_176 : decode cX8_apart 176 = .ok (.iconst 0, 1) := by decide +kernel
theorem dX8_apart_177 : decode cX8_apart 177 = .ok (.goto 8, 3) := by decide +kernel
theorem dX8_apart_180 : decode cX8_apart 180 = .ok (.iload 5, 2) := by decide +kernel
theorem dX8_apart_182 : decode cX8_apart 182 = .ok (.iload 4, 2) := by decide +kernel
theorem dX8_apart_184 : decode cX8_apart 184 = .ok (.isub, 1) := by decide +kernel
theorem dX8_apart_185 : decode cX8_apart 185 = .ok (.ireturn, 1) := by decide +kernel
theorem dX8_laid_0 : decode cX8_laid 0 = .ok (.iload_n 1, 1) := by decide +kernel
theorem dX8_laid_1 : decode cX8_laid 1 = .ok (.i2l, 1) := by decide +kernel
theorem dX8_laid_2 : decode cX8_laid 2 = .ok (.lconst 0, 1) := by decide +kernel
theorem dX8_laid_3 : decode cX8_laid 3 = .ok (.aload_n 0, 1) := by decide +kernel
theorem dX8_laid_4 : decode cX8_laid 4 = .ok (.getfield 23, 3) := by decide +kernel
theorem dX8_laid_7 : decode cX8_laid 7 = .ok (.i2l, 1) := by decide +kernel
theorem dX8_laid_8 : decode cX8_laid 8 = .ok (.invokestatic 70, 3) := by decide +kernel
theorem dX8_laid_11 : decode cX8_laid 11 = .ok (.ifCond .eq 22, 3) := by decide +kernel
theorem dX8_laid_14 : decode cX8_laid 14 = .ok (.iload_n 2, 1) := by decide +kernel
theorem dX8_laid_15 : decode cX8_laid 15 = .ok (.iload_n 3, 1) := by decide +kernel
theorem dX8_laid_16 : decode cX8_laid 16 = .ok (.invokestatic 235, 3) := by decide +kernel
theorem dX8_laid_19 : decode cX8_laid 19 = .ok (.ifCond .eq 14, 3) := by decide +kernel
theorem dX8_laid_22 : decode cX8_laid 22 = .ok (.iload 4, 2) := by decide +kernel
theorem dX8_laid_24 : decode cX8_laid 24 = .ok (.i2l, 1) := by decide +kernel
theorem dX8_laid_25 : decode cX8_laid 25 = .ok (.lconst 0, 1) := by decide +kernel
theorem dX8_laid_26 : decode cX8_laid 26 = .ok (.lconst 1, 1) := by decide +kernel
theorem dX8_laid_27 : decode cX8_laid 27 = .ok (.invokestatic 70, 3) := by decide +kernel
theorem dX8_laid_30 : decode cX8_laid 30 = .ok (.ifCond .ne 6, 3) := by decide +kernel
theorem dX8_laid_33 : decode cX8_laid 33 = .ok (.bipush (-3), 2) := by decide +kernel
theorem dX8_laid_35 : decode cX8_laid 35 = .ok (.ireturn, 1) := by decide +kernel
theorem dX8_laid_36 : decode cX8_laid 36 = .ok (.iconst (-1), 1) := by decide +kernel
theorem dX8_laid_37 : decode cX8_laid 37 = .ok (.istore 5, 2) := by decide +kernel
theorem dX8_laid_39 : decode cX8_laid 39 = .ok (.sipush 999, 3) := by decide +kernel
theorem dX8_laid_42 : decode cX8_laid 42 = .ok (.istore 6, 2) := by decide +kernel
theorem dX8_laid_44 : decode cX8_laid 44 = .ok (.iconst 0, 1) := by decide +kernel
theorem dX8_laid_45 : decode cX8_laid 45 = .ok (.istore 7, 2) := by decide +kernel
theorem dX8_laid_47 : decode cX8_laid 47 = .ok (.iload 7, 2) := by decide +kernel
theorem dX8_laid_49 : decode cX8_laid 49 = .ok (.iconst 1, 1) := by decide +kernel
theorem dX8_laid_50 : decode cX8_laid 50 = .ok (.aload_n 0, 1) := by decide +kernel
theorem dX8_laid_51 : decode cX8_laid 51 = .ok (.getfield 23, 3) := by decide +kernel
theorem dX8_laid_54 : decode cX8_laid 54 = .ok (.ishl, 1) := by decide +kernel
theorem dX8_laid_55 : decode cX8_laid 55 = .ok (.if_icmp .ge 66, 3) := by decide +kernel
theorem dX8_laid_58 : decode cX8_laid 58 = .ok (.iload 7, 2) := by decide +kernel
theorem dX8_laid_60 : decode cX8_laid 60 = .ok (.invokestatic 219, 3) := by decide +kernel
theorem dX8_laid_63 : decode cX8_laid 63 = .ok (.iload_n 1, 1) := by decide +kernel
theorem dX8_laid_64 : decode cX8_laid 64 = .ok (.if_icmp .ne 14, 3) := by decide +kernel
theorem dX8_laid_67 : decode cX8_laid 67 = .ok (.aload_n 0, 1) := by decide +kernel
theorem dX8_laid_68 : decode cX8_laid 68 = .ok (.iload 7, 2) := by decide +kernel
theorem dX8_laid_70 : decode cX8_laid 70 = .ok (.iload_n 2, 1) := by decide +kernel
theorem dX8_laid_71 : decode cX8_laid 71 = .ok (.iload_n 3, 1) := by decide +kernel
theorem dX8_laid_72 : decode cX8_laid 72 = .ok (.invokevirtual 256, 3) := by decide +kernel
theorem dX8_laid_75 : decode cX8_laid 75 = .ok (.goto 6, 3) := by decide +kernel
theorem dX8_laid_78 : decode cX8_laid 78 = .ok (.sipush 999, 3) := by decide +kernel
theorem dX8_laid_81 : decode cX8_laid 81 = .ok (.istore 8, 2) := by decide +kernel
theorem dX8_laid_83 : decode cX8_laid 83 = .ok (.iload 8, 2) := by decide +kernel
theorem dX8_laid_85 : decode cX8_laid 85 = .ok (.iload 6, 2) := by decide +kernel
theorem dX8_laid_87 : decode cX8_laid 87 = .ok (.if_icmp .ge 8, 3) := by decide +kernel
theorem dX8_laid_90 : decode cX8_laid 90 = .ok (.iload 7, 2) := by decide +kernel
theorem dX8_laid_92 : decode cX8_laid 92 = .ok (.goto 5, 3) := by decide +kernel
theorem dX8_laid_95 : decode cX8_laid 95 = .ok (.iload 5, 2) := by decide +kernel
theorem dX8_laid_97 : decode cX8_laid 97 = .ok (.istore 5, 2) := by decide +kernel
theorem dX8_laid_99 : decode cX8_laid 99 = .ok (.iload 8, 2) := by decide +kernel
theorem dX8_laid_101 : decode cX8_laid 101 = .ok (.iload 6, 2) := by decide +kernel
theorem dX8_laid_103 : decode cX8_laid 103 = .ok (.if_icmp .ge 8, 3) := by decide +kernel
theorem dX8_laid_106 : decode cX8_laid 106 = .ok (.iload 8, 2) := by decide +kernel
theorem dX8_laid_108 : decode cX8_laid 108 = .ok (.goto 5, 3) := by decide +kernel
theorem dX8_laid_111 : decode cX8_laid 111 = .ok (.iload 6, 2) := by decide +kernel
theorem dX8_laid_113 : decode cX8_laid 113 = .ok (.istore 6, 2) := by decide +kernel
theorem dX8_laid_115 : decode cX8_laid 115 = .ok (.iinc 7 1, 3) := by decide +kernel
theorem dX8_laid_118 : decode cX8_laid 118 = .ok (.goto (-71), 3) := by decide +kernel
theorem dX8_laid_121 : decode cX8_laid 121 = .ok (.iload 4, 2) := by decide +kernel
theorem dX8_laid_123 : decode cX8_laid 123 = .ok (.ifCond .ne 8, 3) := by decide +kernel
theorem dX8_laid_126 : decode cX8_laid 126 = .ok (.iload 6, 2) := by decide +kernel
theorem dX8_laid_128 : decode cX8_laid 128 = .ok (.goto 5, 3) := by decide +kernel
theorem dX8_laid_131 : decode cX8_laid 131 = .ok (.iload 5, 2) := by decide +kernel
theorem dX8_laid_133 : decode cX8_laid 133 = .ok (.ireturn, 1) := by decide +kernel
theorem dX8_leastOf_0 : decode cX8_leastOf 0 = .ok (.iload_n 0, 1) := by decide +kernel
theorem dX8_leastOf_1 : decode cX8_leastOf 1 = .ok (.iload_n 0, 1) := by decide +kernel
theorem dX8_leastOf_2 : decode cX8_leastOf 2 = .ok (.ineg, 1) := by decide +kernel
theorem dX8_leastOf_3 : decode cX8_leastOf 3 = .ok (.iand, 1) := by decide +kernel
theorem dX8_leastOf_4 : decode cX8_leastOf 4 = .ok (.ireturn, 1) := by decide +kernel
theorem dX8_left_0 : decode cX8_left 0 = .ok (.iload_n 1, 1) := by decide +kernel
theorem dX8_left_1 : decode cX8_left 1 = .ok (.invokestatic 229, 3) := by decide +kernel
theorem dX8_left_4 : decode cX8_left 4 = .ok (.ifCond .eq 13, 3) := by decide +kernel
theorem dX8_left_7 : decode cX8_left 7 = .ok (.iload_n 2, 1) := by decide +kernel
theorem dX8_left_8 : decode cX8_left 8 = .ok (.i2l, 1) := by decide +kernel
theorem dX8_left_9 : decode cX8_left 9 = .ok (.lconst 0, 1) := by decide +kernel
theorem dX8_left_10 : decode cX8_left 10 = .ok (.lconst 1, 1) := by decide +kernel
theorem dX8_left_11 : decode cX8_left 11 = .ok (.invokestatic 70, 3) := by decide +kernel
theorem dX8_left_14 : decode cX8_left 14 = .ok (.ifCond .ne 6, 3) := by decide +kernel
theorem dX8_left_17 : decode cX8_left 17 = .ok (.bipush (-3), 2) := by decide +kernel
theorem dX8_left_19 : decode cX8_left 19 = .ok (.ireturn, 1) := by decide +kernel
theorem dX8_left_20 : decode cX8_left 20 = .ok (.aload_n 0, 1) := by decide +kernel
theorem dX8_left_21 : decode cX8_left 21 = .ok (.invokevirtual 213, 3) := by decide +kernel
theorem dX8_left_24 : decode cX8_left 24 = .ok (.istore_n 3, 1) := by decide +kernel
theorem dX8_left_25 : decode cX8_left 25 = .ok (.aload_n 0, 1) := by decide +kernel
theorem dX8_left_26 : decode cX8_left 26 = .ok (.getfield 154, 3) := by decide +kernel
theorem dX8_left_29 : decode cX8_left 29 = .ok (.istore 4, 2) := by decide +kernel
theorem dX8_left_31 : decode cX8_left 31 = .ok (.iconst 0, 1) := by decide +kernel
theorem dX8_left_32 : decode cX8_left 32 = .ok (.istore 5, 2) := by decide +kernel
theorem dX8_left_34 : decode cX8_left 34 = .ok (.iload_n 3, 1) := by decide +kernel
theorem dX8_left_35 : decode cX8_left 35 = .ok (.invokestatic 219, 3) := by decide +kernel
theorem dX8_left_38 : decode cX8_left 38 = .ok (.iconst 1, 1) := by decide +kernel
theorem dX8_left_39 : decode cX8_left 39 = .ok (.if_icmp .le 7, 3) := by decide +kernel
theorem dX8_left_42 : decode cX8_left 42 = .ok (.iconst 1, 1) := by decide +kernel
theorem dX8_left_43 : decode cX8_left 43 = .ok (.goto 4, 3) := by decide +kernel
theorem dX8_left_46 : decode cX8_left 46 = .ok (.iconst 0, 1) := by decide +kernel
theorem dX8_left_47 : decode cX8_left 47 = .ok (.istore 6, 2) := by decide +kernel
theorem dX8_left_49 : decode cX8_left 49 = .ok (.iload 6, 2) := by decide +kernel
theorem dX8_left_51 : decode cX8_left 51 = .ok (.ifCond .eq 62, 3) := by decide +kernel
theorem dX8_left_54 : decode cX8_left 54 = .ok (.aload_n 0, 1) := by decide +kernel
theorem dX8_left_55 : decode cX8_left 55 = .ok (.iload_n 1, 1) := by decide +kernel
theorem dX8_left_56 : decode cX8_left 56 = .ok (.invokevirtual 226, 3) := by decide +kernel
theorem dX8_left_59 : decode cX8_left 59 = .ok (.aload_n 0, 1) := by decide +kernel
theorem dX8_left_60 : decode cX8_left 60 = .ok (.iload 4, 2) := by decide +kernel
theorem dX8_left_62 : decode cX8_left 62 = .ok (.iload_n 3, 1) := by decide +kernel
theorem dX8_left_63 : decode cX8_left 63 = .ok (.invokevirtual 216, 3) := by decide +kernel
theorem dX8_left_66 : decode cX8_left 66 = .ok (.istore 7, 2) := by decide +kernel
theorem dX8_left_68 : decode cX8_left 68 = .ok (.iinc 5 1, 3) := by decide +kernel
theorem dX8_left_71 : decode cX8_left 71 = .ok (.iload_n 3, 1) := by decide +kernel
theorem dX8_left_72 : decode cX8_left 72 = .ok (.iload 7, 2) := by decide +kernel
theorem dX8_left_74 : decode cX8_left 74 = .ok (.iconst (-1), 1) := by decide +kernel
theorem dX8_left_75 : decode cX8_left 75 = .ok (.ixor, 1) := by decide +kernel
theorem dX8_left_76 : decode cX8_left 76 = .ok (.iand, 1) := by decide +kernel
theorem dX8_left_77 : decode cX8_left 77 = .ok (.istore_n 3, 1) := by decide +kernel
theorem dX8_left_78 : decode cX8_left 78 = .ok (.iload 4, 2) := by decide +kernel
theorem dX8_left_80 : decode cX8_left 80 = .ok (.iload 4, 2) := by decide +kernel
theorem dX8_left_82 : decode cX8_left 82 = .ok (.invokestatic 259, 3) := by decide +kernel
end
section
theorem dX8_left_85 : decode cX8_left 85 = .ok (.iconst (-1), 1) := by decide +kernel
theorem dX8_left_86 : decode cX8_left 86 = .ok (.ixor, 1) := by decide +kernel
theorem dX8_left_87 : decode cX8_left 87 = .ok (.iand, 1) := by decide +kernel
theorem dX8_left_88 : decode cX8_left 88 = .ok (.istore 4, 2) := by decide +kernel
theorem dX8_left_90 : decode cX8_left 90 = .ok (.iload 7, 2) := by decide +kernel
theorem dX8_left_92 : decode cX8_left 92 = .ok (.ifCond .eq 15, 3) := by decide +kernel
theorem dX8_left_95 : decode cX8_left 95 = .ok (.iload_n 3, 1) := by decide +kernel
theorem dX8_left_96 : decode cX8_left 96 = .ok (.invokestatic 219, 3) := by decide +kernel
theorem dX8_left_99 : decode cX8_left 99 = .ok (.iconst 1, 1) := by decide +kernel
theorem dX8_left_100 : decode cX8_left 100 = .ok (.if_icmp .le 7, 3) := by decide +kernel
theorem dX8_left_103 : decode cX8_left 103 = .ok (.iconst 1, 1) := by decide +kernel
theorem dX8_left_104 : decode cX8_left 104 = .ok (.goto 4, 3) := by decide +kernel
theorem dX8_left_107 : decode cX8_left 107 = .ok (.iconst 0, 1) := by decide +kernel
theorem dX8_left_108 : decode cX8_left 108 = .ok (.istore 6, 2) := by decide +kernel
theorem dX8_left_110 : decode cX8_left 110 = .ok (.goto (-61), 3) := by decide +kernel
theorem dX8_left_113 : decode cX8_left 113 = .ok (.iload_n 2, 1) := by decide +kernel
theorem dX8_left_114 : decode cX8_left 114 = .ok (.ifCond .ne 7, 3) := by decide +kernel
theorem dX8_left_117 : decode cX8_left 117 = .ok (.iload_n 3, 1) := by decide +kernel
theorem dX8_left_118 : decode cX8_left 118 = .ok (.goto 5, 3) := by decide +kernel
theorem dX8_left_121 : decode cX8_left 121 = .ok (.iload 5, 2) := by decide +kernel
theorem dX8_left_123 : decode cX8_left 123 = .ok (.ireturn, 1) := by decide +kernel
theorem dX8_seen_0 : decode cX8_seen 0 = .ok (.aload_n 0, 1) := by decide +kernel
theorem dX8_seen_1 : decode cX8_seen 1 = .ok (.iload_n 1, 1) := by decide +kernel
theorem dX8_seen_2 : decode cX8_seen 2 = .ok (.invokevirtual 173, 3) := by decide +kernel
theorem dX8_seen_5 : decode cX8_seen 5 = .ok (.ifCond .ne 6, 3) := by decide +kernel
theorem dX8_seen_8 : decode cX8_seen 8 = .ok (.bipush (-2), 2) := by decide +kernel
theorem dX8_seen_10 : decode cX8_seen 10 = .ok (.ireturn, 1) := by decide +kernel
theorem dX8_seen_11 : decode cX8_seen 11 = .ok (.iload_n 2, 1) := by decide +kernel
theorem dX8_seen_12 : decode cX8_seen 12 = .ok (.i2l, 1) := by decide +kernel
theorem dX8_seen_13 : decode cX8_seen 13 = .ok (.lconst 0, 1) := by decide +kernel
theorem dX8_seen_14 : decode cX8_seen 14 = .ok (.lconst 1, 1) := by decide +kernel
theorem dX8_seen_15 : decode cX8_seen 15 = .ok (.invokestatic 70, 3) := by decide +kernel
theorem dX8_seen_18 : decode cX8_seen 18 = .ok (.ifCond .ne 6, 3) := by decide +kernel
theorem dX8_seen_21 : decode cX8_seen 21 = .ok (.bipush (-3), 2) := by decide +kernel
theorem dX8_seen_23 : decode cX8_seen 23 = .ok (.ireturn, 1) := by decide +kernel
theorem dX8_seen_24 : decode cX8_seen 24 = .ok (.aload_n 0, 1) := by decide +kernel
theorem dX8_seen_25 : decode cX8_seen 25 = .ok (.getfield 167, 3) := by decide +kernel
theorem dX8_seen_28 : decode cX8_seen 28 = .ok (.bipush 6, 2) := by decide +kernel
theorem dX8_seen_30 : decode cX8_seen 30 = .ok (.if_icmp .ne 6, 3) := by decide +kernel
theorem dX8_seen_33 : decode cX8_seen 33 = .ok (.bipush (-5), 2) := by decide +kernel
theorem dX8_seen_35 : decode cX8_seen 35 = .ok (.ireturn, 1) := by decide +kernel
theorem dX8_seen_36 : decode cX8_seen 36 = .ok (.aload_n 0, 1) := by decide +kernel
theorem dX8_seen_37 : decode cX8_seen 37 = .ok (.getfield 60, 3) := by decide +kernel
theorem dX8_seen_40 : decode cX8_seen 40 = .ok (.iconst 2, 1) := by decide +kernel
theorem dX8_seen_41 : decode cX8_seen 41 = .ok (.aload_n 0, 1) := by decide +kernel
theorem dX8_seen_42 : decode cX8_seen 42 = .ok (.getfield 167, 3) := by decide +kernel
theorem dX8_seen_45 : decode cX8_seen 45 = .ok (.imul, 1) := by decide +kernel
theorem dX8_seen_46 : decode cX8_seen 46 = .ok (.iload_n 1, 1) := by decide +kernel
theorem dX8_seen_47 : decode cX8_seen 47 = .ok (.iastore, 1) := by decide +kernel
theorem dX8_seen_48 : decode cX8_seen 48 = .ok (.aload_n 0, 1) := by decide +kernel
theorem dX8_seen_49 : decode cX8_seen 49 = .ok (.getfield 60, 3) := by decide +kernel
theorem dX8_seen_52 : decode cX8_seen 52 = .ok (.iconst 2, 1) := by decide +kernel
theorem dX8_seen_53 : decode cX8_seen 53 = .ok (.aload_n 0, 1) := by decide +kernel
theorem dX8_seen_54 : decode cX8_seen 54 = .ok (.getfield 167, 3) := by decide +kernel
theorem dX8_seen_57 : decode cX8_seen 57 = .ok (.imul, 1) := by decide +kernel
theorem dX8_seen_58 : decode cX8_seen 58 = .ok (.iconst 1, 1) := by decide +kernel
theorem dX8_seen_59 : decode cX8_seen 59 = .ok (.iadd, 1) := by decide +kernel
theorem dX8_seen_60 : decode cX8_seen 60 = .ok (.iload_n 2, 1) := by decide +kernel
theorem dX8_seen_61 : decode cX8_seen 61 = .ok (.iastore, 1) := by decide +kernel
theorem dX8_seen_62 : decode cX8_seen 62 = .ok (.aload_n 0, 1) := by decide +kernel
theorem dX8_seen_63 : decode cX8_seen 63 = .ok (.dup, 1) := by decide +kernel
theorem dX8_seen_64 : decode cX8_seen 64 = .ok (.getfield 167, 3) := by decide +kernel
theorem dX8_seen_67 : decode cX8_seen 67 = .ok (.iconst 1, 1) := by decide +kernel
theorem dX8_seen_68 : decode cX8_seen 68 = .ok (.iadd, 1) := by decide +kernel
theorem dX8_seen_69 : decode cX8_seen 69 = .ok (.putfield 167, 3) := by decide +kernel
theorem dX8_seen_72 : decode cX8_seen 72 = .ok (.aload_n 0, 1) := by decide +kernel
theorem dX8_seen_73 : decode cX8_seen 73 = .ok (.getfield 167, 3) := by decide +kernel
theorem dX8_seen_76 : decode cX8_seen 76 = .ok (.ireturn, 1) := by decide +kernel
theorem dX8_forget_0 : decode cX8_forget 0 = .ok (.aload_n 0, 1) := by decide +kernel
theorem dX8_forget_1 : decode cX8_forget 1 = .ok (.getfield 167, 3) := by decide +kernel
theorem dX8_forget_4 : decode cX8_forget 4 = .ok (.istore_n 1, 1) := by decide +kernel
theorem dX8_forget_5 : decode cX8_forget 5 = .ok (.aload_n 0, 1) := by decide +kernel
theorem dX8_forget_6 : decode cX8_forget 6 = .ok (.iconst 0, 1) := by decide +kernel
theorem dX8_forget_7 : decode cX8_forget 7 = .ok (.putfield 167, 3) := by decide +kernel
theorem dX8_forget_10 : decode cX8_forget 10 = .ok (.iload_n 1, 1) := by decide +kernel
theorem dX8_forget_11 : decode cX8_forget 11 = .ok (.ireturn, 1) := by decide +kernel
theorem dX8_fits_0 : decode cX8_fits 0 = .ok (.iload_n 1, 1) := by decide +kernel
theorem dX8_fits_1 : decode cX8_fits 1 = .ok (.i2l, 1) := by decide +kernel
theorem dX8_fits_2 : decode cX8_fits 2 = .ok (.lconst 0, 1) := by decide +kernel
theorem dX8_fits_3 : decode cX8_fits 3 = .ok (.lconst 1, 1) := by decide +kernel
theorem dX8_fits_4 : decode cX8_fits 4 = .ok (.invokestatic 70, 3) := by decide +kernel
theorem dX8_fits_7 : decode cX8_fits 7 = .ok (.ifCond .ne 6, 3) := by decide +kernel
theorem dX8_fits_10 : decode cX8_fits 10 = .ok (.bipush (-3), 2) := by decide +kernel
theorem dX8_fits_12 : decode cX8_fits 12 = .ok (.ireturn, 1) := by decide +kernel
theorem dX8_fits_13 : decode cX8_fits 13 = .ok (.iconst 0, 1) := by decide +kernel
theorem dX8_fits_14 : decode cX8_fits 14 = .ok (.istore_n 2, 1) := by decide +kernel
theorem dX8_fits_15 : decode cX8_fits 15 = .ok (.iconst (-1), 1) := by decide +kernel
theorem dX8_fits_16 : decode cX8_fits 16 = .ok (.istore_n 3, 1) := by decide +kernel
theorem dX8_fits_17 : decode cX8_fits 17 = .ok (.iconst 0, 1) := by decide +kernel
theorem dX8_fits_18 : decode cX8_fits 18 = .ok (.istore 4, 2) := by decide +kernel
theorem dX8_fits_20 : decode cX8_fits 20 = .ok (.iload 4, 2) := by decide +kernel
theorem dX8_fits_22 : decode cX8_fits 22 = .ok (.bipush 100, 2) := by decide +kernel
theorem dX8_fits_24 : decode cX8_fits 24 = .ok (.if_icmp .ge 107, 3) := by decide +kernel
theorem dX8_fits_27 : decode cX8_fits 27 = .ok (.aload_n 0, 1) := by decide +kernel
theorem dX8_fits_28 : decode cX8_fits 28 = .ok (.iload 4, 2) := by decide +kernel
theorem dX8_fits_30 : decode cX8_fits 30 = .ok (.invokevirtual 232, 3) := by decide +kernel
theorem dX8_fits_33 : decode cX8_fits 33 = .ok (.istore 5, 2) := by decide +kernel
theorem dX8_fits_35 : decode cX8_fits 35 = .ok (.iconst 1, 1) := by decide +kernel
theorem dX8_fits_36 : decode cX8_fits 36 = .ok (.istore 6, 2) := by decide +kernel
theorem dX8_fits_38 : decode cX8_fits 38 = .ok (.iconst 0, 1) := by decide +kernel
theorem dX8_fits_39 : decode cX8_fits 39 = .ok (.istore 7, 2) := by decide +kernel
theorem dX8_fits_41 : decode cX8_fits 41 = .ok (.iload 7, 2) := by decide +kernel
theorem dX8_fits_43 : decode cX8_fits 43 = .ok (.aload_n 0, 1) := by decide +kernel
theorem dX8_fits_44 : decode cX8_fits 44 = .ok (.getfield 167, 3) := by decide +kernel
theorem dX8_fits_47 : decode cX8_fits 47 = .ok (.if_icmp .ge 49, 3) := by decide +kernel
theorem dX8_fits_50 : decode cX8_fits 50 = .ok (.iload 6, 2) := by decide +kernel
theorem dX8_fits_52 : decode cX8_fits 52 = .ok (.ifCond .eq 35, 3) := by decide +kernel
theorem dX8_fits_55 : decode cX8_fits 55 = .ok (.iload 5, 2) := by decide +kernel
theorem dX8_fits_57 : decode cX8_fits 57 = .ok (.aload_n 0, 1) := by decide +kernel
theorem dX8_fits_58 : decode cX8_fits 58 = .ok (.getfield 60, 3) := by decide +kernel
theorem dX8_fits_61 : decode cX8_fits 61 = .ok (.iconst 2, 1) := by decide +kernel
theorem dX8_fits_62 : decode cX8_fits 62 = .ok (.iload 7, 2) := by decide +kernel
theorem dX8_fits_64 : decode cX8_fits 64 = .ok (.imul, 1) := by decide +kernel
theorem dX8_fits_65 : decode cX8_fits 65 = .ok (.iaload, 1) := by decide +kernel
theorem dX8_fits_66 : decode cX8_fits 66 = .ok (.ishr, 1) := by decide +kernel
theorem dX8_fits_67 : decode cX8_fits 67 = .ok (.iconst 1, 1) := by decide +kernel
theorem dX8_fits_68 : decode cX8_fits 68 = .ok (.iand, 1) := by decide +kernel
theorem dX8_fits_69 : decode cX8_fits 69 = .ok (.aload_n 0, 1) := by decide +kernel
theorem dX8_fits_70 : decode cX8_fits 70 = .ok (.getfield 60, 3) := by decide +kernel
theorem dX8_fits_73 : decode cX8_fits 73 = .ok (.iconst 2, 1) := by decide +kernel
theorem dX8_fits_74 : decode cX8_fits 74 = .ok (.iload 7, 2) := by decide +kernel
theorem dX8_fits_76 : decode cX8_fits 76 = .ok (.imul, 1) := by decide +kernel
theorem dX8_fits_77 : decode cX8_fits 77 = .ok (.iconst 1, 1) := by decide +kernel
theorem dX8_fits_78 : decode cX8_fits 78 = .ok (.iadd, 1) := by decide +kernel
theorem dX8_fits_79 : decode cX8_fits 79 = .ok (.iaload, 1) := by decide +kernel
theorem dX8_fits_80 : decode cX8_fits 80 = .ok (.if_icmp .ne 7, 3) := by decide +kernel
theorem dX8_fits_83 : decode cX8_fits 83 = .ok (.iconst 1, 1) := by decide +kernel
theorem dX8_fits_84 : decode cX8_fits 84 = .ok (.goto 4, 3) := by decide +kernel
theorem dX8_fits_87 : decode cX8_fits 87 = .ok (.iconst 0, 1) := by decide +kernel
theorem dX8_fits_88 : decode cX8_fits 88 = .ok (.istore 6, 2) := by decide +kernel
theorem dX8_fits_90 : decode cX8_fits 90 = .ok (.iinc 7 1, 3) := by decide +kernel
theorem dX8_fits_93 : decode cX8_fits 93 = .ok (.goto (-52), 3) := by decide +kernel
theorem dX8_fits_96 : decode cX8_fits 96 = .ok (.iload 6, 2) := by decide +kernel
theorem dX8_fits_98 : decode cX8_fits 98 = .ok (.ifCond .eq 12, 3) := by decide +kernel
theorem dX8_fits_101 : decode cX8_fits 101 = .ok (.iload_n 2, 1) := by decide +kernel
theorem dX8_fits_102 : decode cX8_fits 102 = .ok (.ifCond .ne 8, 3) := by decide +kernel
theorem dX8_fits_105 : decode cX8_fits 105 = .ok (.iload 4, 2) := by decide +kernel
theorem dX8_fits_107 : decode cX8_fits 107 = .ok (.goto 4, 3) := by decide +kernel
theorem dX8_fits_110 : decode cX8_fits 110 = .ok (.iload_n 3, 1) := by decide +kernel
theorem dX8_fits_111 : decode cX8_fits 111 = .ok (.istore_n 3, 1) := by decide +kernel
theorem dX8_fits_112 : decode cX8_fits 112 = .ok (.iload_n 2, 1) := by decide +kernel
theorem dX8_fits_113 : decode cX8_fits 113 = .ok (.iload 6, 2) := by decide +kernel
theorem dX8_fits_115 : decode cX8_fits 115 = .ok (.ifCond .eq 7, 3) := by decide +kernel
theorem dX8_fits_118 : decode cX8_fits 118 = .ok (.iconst 1, 1) := by decide +kernel
theorem dX8_fits_119 : decode cX8_fits 119 = .ok (.goto 4, 3) := by decide +kernel
theorem dX8_fits_122 : decode cX8_fits 122 = .ok (.iconst 0, 1) := by decide +kernel
theorem dX8_fits_123 : decode cX8_fits 123 = .ok (.iadd, 1) := by decide +kernel
theorem dX8_fits_124 : decode cX8_fits 124 = .ok (.istore_n 2, 1) := by decide +kernel
theorem dX8_fits_125 : decode cX8_fits 125 = .ok (.iinc 4 1, 3) := by decide +kernel
theorem dX8_fits_128 : decode cX8_fits 128 = .ok (.goto (-108), 3) := by decide +kernel
theorem dX8_fits_131 : decode cX8_fits 131 = .ok (.iload_n 1, 1) := by decide +kernel
theorem dX8_fits_132 : decode cX8_fits 132 = .ok (.ifCond .ne 7, 3) := by decide +kernel
theorem dX8_fits_135 : decode cX8_fits 135 = .ok (.iload_n 2, 1) := by decide +kernel
theorem dX8_fits_136 : decode cX8_fits 136 = .ok (.goto 4, 3) := by decide +kernel
theorem dX8_fits_139 : decode cX8_fits 139 = .ok (.iload_n 3, 1) := by decide +kernel
theorem dX8_fits_140 : decode cX8_fits 140 = .ok (.ireturn, 1) := by decide +kernel
theorem dX8_count_0 : decode cX8_count 0 = .ok (.iload_n 1, 1) := by decide +kernel
theorem dX8_count_1 : decode cX8_count 1 = .ok (.tableswitch 95 0 7 #[47, 52, 57, 62, 69, 78, 85, 90], 47) := by decide +kernel
theorem dX8_count_48 : decode cX8_count 48 = .ok (.aload_n 0, 1) := by decide +kernel
theorem dX8_count_49 : decode cX8_count 49 = .ok (.getfield 23, 3) := by decide +kernel
theorem dX8_count_52 : decode cX8_count 52 = .ok (.ireturn, 1) := by decide +kernel
theorem dX8_count_53 : decode cX8_count 53 = .ok (.aload_n 0, 1) := by decide +kernel
theorem dX8_count_54 : decode cX8_count 54 = .ok (.getfield 74, 3) := by decide +kernel
theorem dX8_count_57 : decode cX8_count 57 = .ok (.ireturn, 1) := by decide +kernel
theorem dX8_count_58 : decode cX8_count 58 = .ok (.aload_n 0, 1) := by decide +kernel
theorem dX8_count_59 : decode cX8_count 59 = .ok (.getfield 154, 3) := by decide +kernel
theorem dX8_count_62 : decode cX8_count 62 = .ok (.ireturn, 1) := by decide +kernel
theorem dX8_count_63 : decode cX8_count 63 = .ok (.aload_n 0, 1) := by decide +kernel
theorem dX8_count_64 : decode cX8_count 64 = .ok (.getfield 7, 3) := by decide +kernel
theorem dX8_count_67 : decode cX8_count 67 = .ok (.iconst 0, 1) := by decide +kernel
theorem dX8_count_68 : decode cX8_count 68 = .ok (.iaload, 1) := by decide +kernel
theorem dX8_count_69 : decode cX8_count 69 = .ok (.ireturn, 1) := by decide +kernel
theorem dX8_count_70 : decode cX8_count 70 = .ok (.iconst 1, 1) := by decide +kernel
theorem dX8_count_71 : decode cX8_count 71 = .ok (.aload_n 0, 1) := by decide +kernel
theorem dX8_count_72 : decode cX8_count 72 = .ok (.getfield 7, 3) := by decide +kernel
theorem dX8_count_75 : decode cX8_count 75 = .ok (.iconst 1, 1) := by decide +kernel
theorem dX8_count_76 : decode cX8_count 76 = .ok (.iaload, 1) := by decide +kernel
theorem dX8_count_77 : decode cX8_count 77 = .ok (.isub, 1) := by decide +kernel
theorem dX8_count_78 : decode cX8_count 78 = .ok (.ireturn, 1) := by decide +kernel
theorem dX8_count_79 : decode cX8_count 79 = .ok (.aload_n 0, 1) := by decide +kernel
theorem dX8_count_80 : decode cX8_count 80 = .ok (.getfield 7, 3) := by decide +kernel
theorem dX8_count_83 : decode cX8_count 83 = .ok (.iconst 2, 1) := by decide +kernel
theorem dX8_count_84 : decode cX8_count 84 = .ok (.iaload, 1) := by decide +kernel
theorem dX8_count_85 : decode cX8_count 85 = .ok (.ireturn, 1) := by decide +kernel
theorem dX8_count_86 : decode cX8_count 86 = .ok (.aload_n 0, 1) := by decide +kernel
theorem dX8_count_87 : decode cX8_count 87 = .ok (.getfield 167, 3) := by decide +kernel
theorem dX8_count_90 : decode cX8_count 90 = .ok (.ireturn, 1) := by decide +kernel
theorem dX8_count_91 : decode cX8_count 91 = .ok (.aload_n 0, 1) := by decide +kernel
theorem dX8_count_92 : decode cX8_count 92 = .ok (.getfield 79, 3) := by decide +kernel
theorem dX8_count_95 : decode cX8_count 95 = .ok (.ireturn, 1) := by decide +kernel
theorem dX8_count_96 : decode cX8_count 96 = .ok (.bipush (-3), 2) := by decide +kernel
theorem dX8_count_98 : decode cX8_count 98 = .ok (.ireturn, 1) := by decide +kernel
theorem dJ6_bitCount_0f7a4_0 : decode cJ6_bitCount_0f7a4 0 = .ok (.iload_n 0, 1) := by decide +kernel
theorem dJ6_bitCount_0f7a4_1 : decode cJ6_bitCount_0f7a4 1 = .ok (.iload_n 0, 1) := by decide +kernel
theorem dJ6_bitCount_0f7a4_2 : decode cJ6_bitCount_0f7a4 2 = .ok (.iconst 1, 1) := by decide +kernel
theorem dJ6_bitCount_0f7a4_3 : decode cJ6_bitCount_0f7a4 3 = .ok (.iushr, 1) := by decide +kernel
theorem dJ6_bitCount_0f7a4_4 : decode cJ6_bitCount_0f7a4 4 = .ok (.ldc_w 265, 3) := by decide +kernel
theorem dJ6_bitCount_0f7a4_7 : decode cJ6_bitCount_0f7a4 7 = .ok (.iand, 1) := by decide +kernel
theorem dJ6_bitCount_0f7a4_8 : decode cJ6_bitCount_0f7a4 8 = .ok (.isub, 1) := by decide +kernel
theorem dJ6_bitCount_0f7a4_9 : decode cJ6_bitCount_0f7a4 9 = .ok (.istore_n 0, 1) := by decide +kernel
theorem dJ6_bitCount_0f7a4_10 : decode cJ6_bitCount_0f7a4 10 = .ok (.iload_n 0, 1) := by decide +kernel
theorem dJ6_bitCount_0f7a4_11 : decode cJ6_bitCount_0f7a4 11 = .ok (.ldc_w 266, 3) := by decide +kernel
theorem dJ6_bitCount_0f7a4_14 : decode cJ6_bitCount_0f7a4 14 = .ok (.iand, 1) := by decide +kernel
theorem dJ6_bitCount_0f7a4_15 : decode cJ6_bitCount_0f7a4 15 = .ok (.iload_n 0, 1) := by decide +kernel
theorem dJ6_bitCount_0f7a4_16 : decode cJ6_bitCount_0f7a4 16 = .ok (.iconst 2, 1) := by decide +kernel
theorem dJ6_bitCount_0f7a4_17 : decode cJ6_bitCount_0f7a4 17 = .ok (.iushr, 1) := by decide +kernel
theorem dJ6_bitCount_0f7a4_18 : decode cJ6_bitCount_0f7a4 18 = .ok (.ldc_w 266, 3) := by decide +kernel
theorem dJ6_bitCount_0f7a4_21 : decode cJ6_bitCount_0f7a4 21 = .ok (.iand, 1) := by decide +kernel
theorem dJ6_bitCount_0f7a4_22 : decode cJ6_bitCount_0f7a4 22 = .ok (.iadd, 1) := by decide +kernel
theorem dJ6_bitCount_0f7a4_23 : decode cJ6_bitCount_0f7a4 23 = .ok (.istore_n 0, 1) := by decide +kernel
theorem dJ6_bitCount_0f7a4_24 : decode cJ6_bitCount_0f7a4 24 = .ok (.iload_n 0, 1) := by decide +kernel
theorem dJ6_bitCount_0f7a4_25 : decode cJ6_bitCount_0f7a4 25 = .ok (.iload_n 0, 1) := by decide +kernel
theorem dJ6_bitCount_0f7a4_26 : decode cJ6_bitCount_0f7a4 26 = .ok (.iconst 4, 1) := by decide +kernel
theorem dJ6_bitCount_0f7a4_27 : decode cJ6_bitCount_0f7a4 27 = .ok (.iushr, 1) := by decide +kernel
theorem dJ6_bitCount_0f7a4_28 : decode cJ6_bitCount_0f7a4 28 = .ok (.iadd, 1) := by decide +kernel
theorem dJ6_bitCount_0f7a4_29 : decode cJ6_bitCount_0f7a4 29 = .ok (.ldc_w 267, 3) := by decide +kernel
theorem dJ6_bitCount_0f7a4_32 : decode cJ6_bitCount_0f7a4 32 = .ok (.iand, 1) := by decide +kernel
theorem dJ6_bitCount_0f7a4_33 : decode cJ6_bitCount_0f7a4 33 = .ok (.istore_n 0, 1) := by decide +kernel
theorem dJ6_bitCount_0f7a4_34 : decode cJ6_bitCount_0f7a4 34 = .ok (.iload_n 0, 1) := by decide +kernel
theorem dJ6_bitCount_0f7a4_35 : decode cJ6_bitCount_0f7a4 35 = .ok (.iload_n 0, 1) := by decide +kernel
theorem dJ6_bitCount_0f7a4_36 : decode cJ6_bitCount_0f7a4 36 = .ok (.bipush 8, 2) := by decide +kernel
theorem dJ6_bitCount_0f7a4_38 : decode cJ6_bitCount_0f7a4 38 = .ok (.iushr, 1) := by decide +kernel
theorem dJ6_bitCount_0f7a4_39 : decode cJ6_bitCount_0f7a4 39 = .ok (.iadd, 1) := by decide +kernel
theorem dJ6_bitCount_0f7a4_40 : decode cJ6_bitCount_0f7a4 40 = .ok (.istore_n 0, 1) := by decide +kernel
theorem dJ6_bitCount_0f7a4_41 : decode cJ6_bitCount_0f7a4 41 = .ok (.iload_n 0, 1) := by decide +kernel
theorem dJ6_bitCount_0f7a4_42 : decode cJ6_bitCount_0f7a4 42 = .ok (.iload_n 0, 1) := by decide +kernel
theorem dJ6_bitCount_0f7a4_43 : decode cJ6_bitCount_0f7a4 43 = .ok (.bipush 16, 2) := by decide +kernel
theorem dJ6_bitCount_0f7a4_45 : decode cJ6_bitCount_0f7a4 45 = .ok (.iushr, 1) := by decide +kernel
theorem dJ6_bitCount_0f7a4_46 : decode cJ6_bitCount_0f7a4 46 = .ok (.iadd, 1) := by decide +kernel
theorem dJ6_bitCount_0f7a4_47 : decode cJ6_bitCount_0f7a4 47 = .ok (.istore_n 0, 1) := by decide +kernel
theorem dJ6_bitCount_0f7a4_48 : decode cJ6_bitCount_0f7a4 48 = .ok (.iload_n 0, 1) := by decide +kernel
theorem dJ6_bitCount_0f7a4_49 : decode cJ6_bitCount_0f7a4 49 = .ok (.bipush 63, 2) := by decide +kernel
theorem dJ6_bitCount_0f7a4_51 : decode cJ6_bitCount_0f7a4 51 = .ok (.iand, 1) := by decide +kernel
theorem dJ6_bitCount_0f7a4_52 : decode cJ6_bitCount_0f7a4 52 = .ok (.ireturn, 1) := by decide +kernel
theorem dJ9_floorMod_7cf53_0 : decode cJ9_floorMod_7cf53 0 = .ok (.iload_n 0, 1) := by decide +kernel
theorem dJ9_floorMod_7cf53_1 : decode cJ9_floorMod_7cf53 1 = .ok (.iload_n 1, 1) := by decide +kernel
theorem dJ9_floorMod_7cf53_2 : decode cJ9_floorMod_7cf53 2 = .ok (.irem, 1) := by decide +kernel
theorem dJ9_floorMod_7cf53_3 : decode cJ9_floorMod_7cf53 3 = .ok (.istore_n 2, 1) := by decide +kernel
theorem dJ9_floorMod_7cf53_4 : decode cJ9_floorMod_7cf53 4 = .ok (.iload_n 0, 1) := by decide +kernel
theorem dJ9_floorMod_7cf53_5 : decode cJ9_floorMod_7cf53 5 = .ok (.iload_n 1, 1) := by decide +kernel
theorem dJ9_floorMod_7cf53_6 : decode cJ9_floorMod_7cf53 6 = .ok (.ixor, 1) := by decide +kernel
theorem dJ9_floorMod_7cf53_7 : decode cJ9_floorMod_7cf53 7 = .ok (.ifCond .ge 11, 3) := by decide +kernel
theorem dJ9_floorMod_7cf53_10 : decode cJ9_floorMod_7cf53 10 = .ok (.iload_n 2, 1) := by decide +kernel
theorem dJ9_floorMod_7cf53_11 : decode cJ9_floorMod_7cf53 11 = .ok (.ifCond .eq 7, 3) := by decide +kernel
theorem dJ9_floorMod_7cf53_14 : decode cJ9_floorMod_7cf53 14 = .ok (.iload_n 2, 1) := by decide +kernel
theorem dJ9_floorMod_7cf53_15 : decode cJ9_floorMod_7cf53 15 = .ok (.iload_n 1, 1) := by decide +kernel
theorem dJ9_floorMod_7cf53_16 : decode cJ9_floorMod_7cf53 16 = .ok (.iadd, 1) := by decide +kernel
theorem dJ9_floorMod_7cf53_17 : decode cJ9_floorMod_7cf53 17 = .ok (.ireturn, 1) := by decide +kernel
theorem dJ9_floorMod_7cf53_18 : decode cJ9_floorMod_7cf53 18 = .ok (.iload_n 2, 1) := by decide +kernel
theorem dJ9_floorMod_7cf53_19 : decode cJ9_floorMod_7cf53 19 = .ok (.ireturn, 1) := by decide +kernel
theorem dJ9_max_7cf53_0 : decode cJ9_max_7cf53 0 = .ok (.iload_n 0, 1) := by decide +kernel
theorem dJ9_max_7cf53_1 : decode cJ9_max_7cf53 1 = .ok (.iload_n 1, 1) := by decide +kernel
theorem dJ9_max_7cf53_2 : decode cJ9_max_7cf53 2 = .ok (.if_icmp .lt 7, 3) := by decide +kernel
theorem dJ9_max_7cf53_5 : decode cJ9_max_7cf53 5 = .ok (.iload_n 0, 1) := by decide +kernel
theorem dJ9_max_7cf53_6 : decode cJ9_max_7cf53 6 = .ok (.goto 4, 3) := by decide +kernel
theorem dJ9_max_7cf53_9 : decode cJ9_max_7cf53 9 = .ok (.iload_n 1, 1) := by decide +kernel
theorem dJ9_max_7cf53_10 : decode cJ9_max_7cf53 10 = .ok (.ireturn, 1) := by decide +kernel
theorem dJ9_min_7cf53_0 : decode cJ9_min_7cf53 0 = .ok (.iload_n 0, 1) := by decide +kernel
theorem dJ9_min_7cf53_1 : decode cJ9_min_7cf53 1 = .ok (.iload_n 1, 1) := by decide +kernel
theorem dJ9_min_7cf53_2 : decode cJ9_min_7cf53 2 = .ok (.if_icmp .gt 7, 3) := by decide +kernel
theorem dJ9_min_7cf53_5 : decode cJ9_min_7cf53 5 = .ok (.iload_n 0, 1) := by decide +kernel
theorem dJ9_min_7cf53_6 : decode cJ9_min_7cf53 6 = .ok (.goto 4, 3) := by decide +kernel
theorem dJ9_min_7cf53_9 : decode cJ9_min_7cf53 9 = .ok (.iload_n 1, 1) := by decide +kernel
theorem dJ9_min_7cf53_10 : decode cJ9_min_7cf53 10 = .ok (.ireturn, 1) := by decide +kernel
theorem dJ0_length_8abf5_0 : decode cJ0_length_8abf5 0 = .ok (.aload_n 0, 1) := by decide +kernel
theorem dJ0_length_8abf5_1 : decode cJ0_length_8abf5 1 = .ok (.getfield 9, 3) := by decide +kernel
theorem dJ0_length_8abf5_4 : decode cJ0_length_8abf5 4 = .ok (.arraylength, 1) := by decide +kernel
theorem dJ0_length_8abf5_5 : decode cJ0_length_8abf5 5 = .ok (.aload_n 0, 1) := by decide +kernel
theorem dJ0_length_8abf5_6 : decode cJ0_length_8abf5 6 = .ok (.invokevirtual 335, 3) := by decide +kernel
theorem dJ0_length_8abf5_9 : decode cJ0_length_8abf5 9 = .ok (.ishr, 1) := by decide +kernel
theorem dJ0_length_8abf5_10 : decode cJ0_length_8abf5 10 = .ok (.ireturn, 1) := by decide +kernel
theorem dJ0_charAt_5068e_0 : decode cJ0_charAt_5068e 0 = .ok (.aload_n 0, 1) := by decide +kernel
theorem dJ0_charAt_5068e_1 : decode cJ0_charAt_5068e 1 = .ok (.invokevirtual 492, 3) := by decide +kernel
theorem dJ0_charAt_5068e_4 : decode cJ0_charAt_5068e 4 = .ok (.ifCond .eq 12, 3) := by decide +kernel
theorem dJ0_charAt_5068e_7 : decode cJ0_charAt_5068e 7 = .ok (.aload_n 0, 1) := by decide +kernel
theorem dJ0_charAt_5068e_8 : decode cJ0_charAt_5068e 8 = .ok (.getfield 9, 3) := by decide +kernel
theorem dJ0_charAt_5068e_11 : decode cJ0_charAt_5068e 11 = .ok (.iload_n 1, 1) := by decide +kernel
theorem dJ0_charAt_5068e_12 : decode cJ0_charAt_5068e 12 = .ok (.invokestatic 495, 3) := by decide +kernel
theorem dJ0_charAt_5068e_15 : decode cJ0_charAt_5068e 15 = .ok (.ireturn, 1) := by decide +kernel
theorem dJ0_charAt_5068e_16 : decode cJ0_charAt_5068e 16 = .ok (.aload_n 0, 1) := by decide +kernel
theorem dJ0_charAt_5068e_17 : decode cJ0_charAt_5068e 17 = .ok (.getfield 9, 3) := by decide +kernel
theorem dJ0_charAt_5068e_20 : decode cJ0_charAt_5068e 20 = .ok (.iload_n 1, 1) := by decide +kernel
theorem dJ0_charAt_5068e_21 : decode cJ0_charAt_5068e 21 = .ok (.invokestatic 498, 3) := by decide +kernel
theorem dJ0_charAt_5068e_24 : decode cJ0_charAt_5068e 24 = .ok (.ireturn, 1) := by decide +kernel
theorem dJ0_coder_7d493_0 : decode cJ0_coder_7d493 0 = .ok (.getstatic 38, 3) := by decide +kernel
theorem dJ0_coder_7d493_3 : decode cJ0_coder_7d493 3 = .ok (.ifCond .eq 10, 3) := by decide +kernel
theorem dJ0_coder_7d493_6 : decode cJ0_coder_7d493 6 = .ok (.aload_n 0, 1) := by decide +kernel
theorem dJ0_coder_7d493_7 : decode cJ0_coder_7d493 7 = .ok (.getfield 15, 3) := by decide +kernel
theorem dJ0_coder_7d493_10 : decode cJ0_coder_7d493 10 = .ok (.goto 4, 3) := by decide +kernel
theorem dJ0_coder_7d493_13 : decode cJ0_coder_7d493 13 = .ok (.iconst 1, 1) := by decide +kernel
theorem dJ0_coder_7d493_14 : decode cJ0_coder_7d493 14 = .ok (.ireturn, 1) := by decide +kernel
theorem dJ0_isLatin1_aae02_0 : decode cJ0_isLatin1_aae02 0 = .ok (.getstatic 38, 3) := by decide +kernel
theorem dJ0_isLatin1_aae02_3 : decode cJ0_isLatin1_aae02 3 = .ok (.ifCond .eq 14, 3) := by decide +kernel
theorem dJ0_isLatin1_aae02_6 : decode cJ0_isLatin1_aae02 6 = .ok (.aload_n 0, 1) := by decide +kernel
theorem dJ0_isLatin1_aae02_7 : decode cJ0_isLatin1_aae02 7 = .ok (.getfield 15, 3) := by decide +kernel
theorem dJ0_isLatin1_aae02_10 : decode cJ0_isLatin1_aae02 10 = .ok (.ifCond .ne 7, 3) := by decide +kernel
theorem dJ0_isLatin1_aae02_13 : decode cJ0_isLatin1_aae02 13 = .ok (.iconst 1, 1) := by decide +kernel
theorem dJ0_isLatin1_aae02_14 : decode cJ0_isLatin1_aae02 14 = .ok (.goto 4, 3) := by decide +kernel
theorem dJ0_isLatin1_aae02_17 : decode cJ0_isLatin1_aae02 17 = .ok (.iconst 0, 1) := by decide +kernel
theorem dJ0_isLatin1_aae02_18 : decode cJ0_isLatin1_aae02 18 = .ok (.ireturn, 1) := by decide +kernel
theorem dJ0_checkIndex_df160_0 : decode cJ0_checkIndex_df160 0 = .ok (.iload_n 0, 1) := by decide +kernel
theorem dJ0_checkIndex_df160_1 : decode cJ0_checkIndex_df160 1 = .ok (.iload_n 1, 1) := by decide +kernel
theorem dJ0_checkIndex_df160_2 : decode cJ0_checkIndex_df160 2 = .ok (.getstatic 1053, 3) := by decide +kernel
theorem dJ0_checkIndex_df160_5 : decode cJ0_checkIndex_df160 5 = .ok (.invokestatic 1059, 3) := by decide +kernel
theorem dJ0_checkIndex_df160_8 : decode cJ0_checkIndex_df160 8 = .ok (.pop, 1) := by decide +kernel
theorem dJ0_checkIndex_df160_9 : decode cJ0_checkIndex_df160 9 = .ok (.return_, 1) := by decide +kernel
theorem dJ1_charAt_3b067_0 : decode cJ1_charAt_3b067 0 = .ok (.iload_n 1, 1) := by decide +kernel
theorem dJ1_charAt_3b067_1 : decode cJ1_charAt_3b067 1 = .ok (.aload_n 0, 1) := by decide +kernel
theorem dJ1_charAt_3b067_2 : decode cJ1_charAt_3b067 2 = .ok (.arraylength, 1) := by decide +kernel
theorem dJ1_charAt_3b067_3 : decode cJ1_charAt_3b067 3 = .ok (.invokestatic 9, 3) := by decide +kernel
theorem dJ1_charAt_3b067_6 : decode cJ1_charAt_3b067 6 = .ok (.aload_n 0, 1) := by decide +kernel
theorem dJ1_charAt_3b067_7 : decode cJ1_charAt_3b067 7 = .ok (.iload_n 1, 1) := by decide +kernel
theorem dJ1_charAt_3b067_8 : decode cJ1_charAt_3b067 8 = .ok (.baload, 1) := by decide +kernel
theorem dJ1_charAt_3b067_9 : decode cJ1_charAt_3b067 9 = .ok (.sipush 255, 3) := by decide +kernel
theorem dJ1_charAt_3b067_12 : decode cJ1_charAt_3b067 12 = .ok (.iand, 1) := by decide +kernel
theorem dJ1_charAt_3b067_13 : decode cJ1_charAt_3b067 13 = .ok (.i2c, 1) := by decide +kernel
theorem dJ1_charAt_3b067_14 : decode cJ1_charAt_3b067 14 = .ok (.ireturn, 1) := by decide +kernel
theorem dJ7_fill_53178_0 : decode cJ7_fill_53178 0 = .ok (.iconst 0, 1) := by decide +kernel
theorem dJ7_fill_53178_1 : decode cJ7_fill_53178 1 = .ok (.istore_n 2, 1) := by decide +kernel
theorem dJ7_fill_53178_2 : decode cJ7_fill_53178 2 = .ok (.aload_n 0, 1) := by decide +kernel
theorem dJ7_fill_53178_3 : decode cJ7_fill_53178 3 = .ok (.arraylength, 1) := by decide +kernel
theorem dJ7_fill_53178_4 : decode cJ7_fill_53178 4 = .ok (.istore_n 3, 1) := by decide +kernel
theorem dJ7_fill_53178_5 : decode cJ7_fill_53178 5 = .ok (.iload_n 2, 1) := by decide +kernel
theorem dJ7_fill_53178_6 : decode cJ7_fill_53178 6 = .ok (.iload_n 3, 1) := by decide +kernel
theorem dJ7_fill_53178_7 : decode cJ7_fill_53178 7 = .ok (.if_icmp .ge 13, 3) := by decide +kernel
theorem dJ7_fill_53178_10 : decode cJ7_fill_53178 10 = .ok (.aload_n 0, 1) := by decide +kernel
theorem dJ7_fill_53178_11 : decode cJ7_fill_53178 11 = .ok (.iload_n 2, 1) := by decide +kernel
theorem dJ7_fill_53178_12 : decode cJ7_fill_53178 12 = .ok (.iload_n 1, 1) := by decide +kernel
theorem dJ7_fill_53178_13 : decode cJ7_fill_53178 13 = .ok (.iastore, 1) := by decide +kernel
theorem dJ7_fill_53178_14 : decode cJ7_fill_53178 14 = .ok (.iinc 2 1, 3) := by decide +kernel
theorem dJ7_fill_53178_17 : decode cJ7_fill_53178 17 = .ok (.goto (-12), 3) := by decide +kernel
theorem dJ7_fill_53178_20 : decode cJ7_fill_53178 20 = .ok (.return_, 1) := by decide +kernel
theorem dJ3_checkIndex_8e157_0 : decode cJ3_checkIndex_8e157 0 = .ok (.iload_n 0, 1) := by decide +kernel
theorem dJ3_checkIndex_8e157_1 : decode cJ3_checkIndex_8e157 1 = .ok (.ifCond .lt 8, 3) := by decide +kernel
theorem dJ3_checkIndex_8e157_4 : decode cJ3_checkIndex_8e157 4 = .ok (.iload_n 0, 1) := by decide +kernel
theorem dJ3_checkIndex_8e157_5 : decode cJ3_checkIndex_8e157 5 = .ok (.iload_n 1, 1) := by decide +kernel
theorem dJ3_checkIndex_8e157_6 : decode cJ3_checkIndex_8e157 6 = .ok (.if_icmp .lt 10, 3) := by decide +kernel
theorem dJ3_checkIndex_8e157_9 : decode cJ3_checkIndex_8e157 9 = .ok (.aload_n 2, 1) := by decide +kernel
theorem dJ3_checkIndex_8e157_10 : decode cJ3_checkIndex_8e157 10 = .ok (.iload_n 0, 1) := by decide +kernel
theorem dJ3_checkIndex_8e157_11 : decode cJ3_checkIndex_8e157 11 = .ok (.iload_n 1, 1) := by decide +kernel
theorem dJ3_checkIndex_8e157_12 : decode cJ3_checkIndex_8e157 12 = .ok (.invokestatic 95, 3) := by decide +kernel
theorem dJ3_checkIndex_8e157_15 : decode cJ3_checkIndex_8e157 15 = .ok (.athrow, 1) := by decide +kernel
theorem dJ3_checkIndex_8e157_16 : decode cJ3_checkIndex_8e157 16 = .ok (.iload_n 0, 1) := by decide +kernel
theorem dJ3_checkIndex_8e157_17 : decode cJ3_checkIndex_8e157 17 = .ok (.ireturn, 1) := by decide +kernel
theorem dL_law_0 : decode cL_law 0 = .ok (.new 7, 3) := by decide +kernel
theorem dL_law_3 : decode cL_law 3 = .ok (.dup, 1) := by decide +kernel
theorem dL_law_4 : decode cL_law 4 = .ok (.invokespecial 9, 3) := by decide +kernel
theorem dL_law_7 : decode cL_law 7 = .ok (.astore_n 1, 1) := by decide +kernel
theorem dL_law_8 : decode cL_law 8 = .ok (.new 10, 3) := by decide +kernel
theorem dL_law_11 : decode cL_law 11 = .ok (.dup, 1) := by decide +kernel
theorem dL_law_12 : decode cL_law 12 = .ok (.invokespecial 12, 3) := by decide +kernel
theorem dL_law_15 : decode cL_law 15 = .ok (.astore_n 2, 1) := by decide +kernel
theorem dL_law_16 : decode cL_law 16 = .ok (.iconst 0, 1) := by decide +kernel
theorem dL_law_17 : decode cL_law 17 = .ok (.istore_n 3, 1) := by decide +kernel
theorem dL_law_18 : decode cL_law 18 = .ok (.iload_n 3, 1) := by decide +kernel
theorem dL_law_19 : decode cL_law 19 = .ok (.aload_n 0, 1) := by decide +kernel
theorem dL_law_20 : decode cL_law 20 = .ok (.arraylength, 1) := by decide +kernel
theorem dL_law_21 : decode cL_law 21 = .ok (.iconst 5, 1) := by decide +kernel
theorem dL_law_22 : decode cL_law 22 = .ok (.isub, 1) := by decide +kernel
theorem dL_law_23 : decode cL_law 23 = .ok (.if_icmp .gt 849, 3) := by decide +kernel
theorem dL_law_26 : decode cL_law 26 = .ok (.aload_n 0, 1) := by decide +kernel
theorem dL_law_27 : decode cL_law 27 = .ok (.iload_n 3, 1) := by decide +kernel
theorem dL_law_28 : decode cL_law 28 = .ok (.iaload, 1) := by decide +kernel
theorem dL_law_29 : decode cL_law 29 = .ok (.bipush 31, 2) := by decide +kernel
theorem dL_law_31 : decode cL_law 31 = .ok (.iand, 1) := by decide +kernel
theorem dL_law_32 : decode cL_law 32 = .ok (.tableswitch 834 0 23 #[112, 175, 188, 201, 214, 247, 280, 313, 336, 349, 362, 385, 408, 431, 484, 537, 580, 633, 656, 709, 742, 775, 788, 811], 112) := by decide +kernel
theorem dL_law_144 : decode cL_law 144 = .ok (.aload_n 1, 1) := by decide +kernel
theorem dL_law_145 : decode cL_law 145 = .ok (.aload_n 0, 1) := by decide +kernel
theorem dL_law_146 : decode cL_law 146 = .ok (.iload_n 3, 1) := by decide +kernel
theorem dL_law_147 : decode cL_law 147 = .ok (.iconst 1, 1) := by decide +kernel
theorem dL_law_148 : decode cL_law 148 = .ok (.iadd, 1) := by decide +kernel
theorem dL_law_149 : decode cL_law 149 = .ok (.iaload, 1) := by decide +kernel
theorem dL_law_150 : decode cL_law 150 = .ok (.i2l, 1) := by decide +kernel
theorem dL_law_151 : decode cL_law 151 = .ok (.bipush 32, 2) := by decide +kernel
theorem dL_law_153 : decode cL_law 153 = .ok (.lshl, 1) := by decide +kernel
theorem dL_law_154 : decode cL_law 154 = .ok (.aload_n 0, 1) := by decide +kernel
theorem dL_law_155 : decode cL_law 155 = .ok (.iload_n 3, 1) := by decide +kernel
theorem dL_law_156 : decode cL_law 156 = .ok (.iconst 2, 1) := by decide +kernel
theorem dL_law_157 : decode cL_law 157 = .ok (.iadd, 1) := by decide +kernel
theorem dL_law_158 : decode cL_law 158 = .ok (.iaload, 1) := by decide +kernel
theorem dL_law_159 : decode cL_law 159 = .ok (.i2l, 1) := by decide +kernel
theorem dL_law_160 : decode cL_law 160 = .ok (.ldc2_w 13, 3) := by decide +kernel
theorem dL_law_163 : decode cL_law 163 = .ok (.land, 1) := by decide +kernel
theorem dL_law_164 : decode cL_law 164 = .ok (.lor, 1) := by decide +kernel
theorem dL_law_165 : decode cL_law 165 = .ok (.aload_n 0, 1) := by decide +kernel
theorem dL_law_166 : decode cL_law 166 = .ok (.iload_n 3, 1) := by decide +kernel
theorem dL_law_167 : decode cL_law 167 = .ok (.iconst 3, 1) := by decide +kernel
theorem dL_law_168 : decode cL_law 168 = .ok (.iadd, 1) := by decide +kernel
theorem dL_law_169 : decode cL_law 169 = .ok (.iaload, 1) := by decide +kernel
theorem dL_law_170 : decode cL_law 170 = .ok (.invokevirtual 15, 3) := by decide +kernel
theorem dL_law_173 : decode cL_law 173 = .ok (.aload_n 2, 1) := by decide +kernel
theorem dL_law_174 : decode cL_law 174 = .ok (.aload_n 0, 1) := by decide +kernel
theorem dL_law_175 : decode cL_law 175 = .ok (.iload_n 3, 1) := by decide +kernel
theorem dL_law_176 : decode cL_law 176 = .ok (.iconst 1, 1) := by decide +kernel
theorem dL_law_177 : decode cL_law 177 = .ok (.iadd, 1) := by decide +kernel
theorem dL_law_178 : decode cL_law 178 = .ok (.iaload, 1) := by decide +kernel
theorem dL_law_179 : decode cL_law 179 = .ok (.i2l, 1) := by decide +kernel
theorem dL_law_180 : decode cL_law 180 = .ok (.bipush 32, 2) := by decide +kernel
theorem dL_law_182 : decode cL_law 182 = .ok (.lshl, 1) := by decide +kernel
theorem dL_law_183 : decode cL_law 183 = .ok (.aload_n 0, 1) := by decide +kernel
theorem dL_law_184 : decode cL_law 184 = .ok (.iload_n 3, 1) := by decide +kernel
theorem dL_law_185 : decode cL_law 185 = .ok (.iconst 2, 1) := by decide +kernel
theorem dL_law_186 : decode cL_law 186 = .ok (.iadd, 1) := by decide +kernel
theorem dL_law_187 : decode cL_law 187 = .ok (.iaload, 1) := by decide +kernel
theorem dL_law_188 : decode cL_law 188 = .ok (.i2l, 1) := by decide +kernel
theorem dL_law_189 : decode cL_law 189 = .ok (.ldc2_w 13, 3) := by decide +kernel
theorem dL_law_192 : decode cL_law 192 = .ok (.land, 1) := by decide +kernel
theorem dL_law_193 : decode cL_law 193 = .ok (.lor, 1) := by decide +kernel
theorem dL_law_194 : decode cL_law 194 = .ok (.aload_n 0, 1) := by decide +kernel
theorem dL_law_195 : decode cL_law 195 = .ok (.iload_n 3, 1) := by decide +kernel
theorem dL_law_196 : decode cL_law 196 = .ok (.iconst 3, 1) := by decide +kernel
theorem dL_law_197 : decode cL_law 197 = .ok (.iadd, 1) := by decide +kernel
theorem dL_law_198 : decode cL_law 198 = .ok (.iaload, 1) := by decide +kernel
theorem dL_law_199 : decode cL_law 199 = .ok (.invokevirtual 19, 3) := by decide +kernel
theorem dL_law_202 : decode cL_law 202 = .ok (.if_icmp .eq 664, 3) := by decide +kernel
theorem dL_law_205 : decode cL_law 205 = .ok (.iconst 0, 1) := by decide +kernel
theorem dL_law_206 : decode cL_law 206 = .ok (.ireturn, 1) := by decide +kernel
theorem dL_law_207 : decode cL_law 207 = .ok (.aload_n 1, 1) := by decide +kernel
theorem dL_law_208 : decode cL_law 208 = .ok (.invokevirtual 20, 3) := by decide +kernel
theorem dL_law_211 : decode cL_law 211 = .ok (.aload_n 2, 1) := by decide +kernel
theorem dL_law_212 : decode cL_law 212 = .ok (.invokevirtual 24, 3) := by decide +kernel
theorem dL_law_215 : decode cL_law 215 = .ok (.if_icmp .eq 651, 3) := by decide +kernel
theorem dL_law_218 : decode cL_law 218 = .ok (.iconst 0, 1) := by decide +kernel
theorem dL_law_219 : decode cL_law 219 = .ok (.ireturn, 1) := by decide +kernel
theorem dL_law_220 : decode cL_law 220 = .ok (.aload_n 1, 1) := by decide +kernel
theorem dL_law_221 : decode cL_law 221 = .ok (.invokevirtual 25, 3) := by decide +kernel
theorem dL_law_224 : decode cL_law 224 = .ok (.aload_n 2, 1) := by decide +kernel
theorem dL_law_225 : decode cL_law 225 = .ok (.invokevirtual 28, 3) := by decide +kernel
theorem dL_law_228 : decode cL_law 228 = .ok (.if_icmp .eq 638, 3) := by decide +kernel
theorem dL_law_231 : decode cL_law 231 = .ok (.iconst 0, 1) := by decide +kernel
theorem dL_law_232 : decode cL_law 232 = .ok (.ireturn, 1) := by decide +kernel
theorem dL_law_233 : decode cL_law 233 = .ok (.aload_n 1, 1) := by decide +kernel
theorem dL_law_234 : decode cL_law 234 = .ok (.invokevirtual 29, 3) := by decide +kernel
theorem dL_law_237 : decode cL_law 237 = .ok (.aload_n 2, 1) := by decide +kernel
theorem dL_law_238 : decode cL_law 238 = .ok (.invokevirtual 32, 3) := by decide +kernel
theorem dL_law_241 : decode cL_law 241 = .ok (.if_icmp .eq 625, 3) := by decide +kernel
theorem dL_law_244 : decode cL_law 244 = .ok (.iconst 0, 1) := by decide +kernel
theorem dL_law_245 : decode cL_law 245 = .ok (.ireturn, 1) := by decide +kernel
theorem dL_law_246 : decode cL_law 246 = .ok (.aload_n 1, 1) := by decide +kernel
theorem dL_law_247 : decode cL_law 247 = .ok (.aload_n 0, 1) := by decide +kernel
theorem dL_law_248 : decode cL_law 248 = .ok (.iload_n 3, 1) := by decide +kernel
theorem dL_law_249 : decode cL_law 249 = .ok (.iconst 1, 1) := by decide +kernel
theorem dL_law_250 : decode cL_law 250 = .ok (.iadd, 1) := by decide +kernel
theorem dL_law_251 : decode cL_law 251 = .ok (.iaload, 1) := by decide +kernel
theorem dL_law_252 : decode cL_law 252 = .ok (.aload_n 0, 1) := by decide +kernel
theorem dL_law_253 : decode cL_law 253 = .ok (.iload_n 3, 1) := by decide +kernel
theorem dL_law_254 : decode cL_law 254 = .ok (.iconst 2, 1) := by decide +kernel
theorem dL_law_255 : decode cL_law 255 = .ok (.iadd, 1) := by decide +kernel
theorem dL_law_256 : decode cL_law 256 = .ok (.iaload, 1) := by decide +kernel
theorem dL_law_257 : decode cL_law 257 = .ok (.invokevirtual 33, 3) := by decide +kernel
theorem dL_law_260 : decode cL_law 260 = .ok (.aload_n 2, 1) := by decide +kernel
theorem dL_law_261 : decode cL_law 261 = .ok (.aload_n 0, 1) := by decide +kernel
theorem dL_law_262 : decode cL_law 262 = .ok (.iload_n 3, 1) := by decide +kernel
theorem dL_law_263 : decode cL_law 263 = .ok (.iconst 1, 1) := by decide +kernel
theorem dL_law_264 : decode cL_law 264 = .ok (.iadd, 1) := by decide +kernel
theorem dL_law_265 : decode cL_law 265 = .ok (.iaload, 1) := by decide +kernel
theorem dL_law_266 : decode cL_law 266 = .ok (.aload_n 0, 1) := by decide +kernel
theorem dL_law_267 : decode cL_law 267 = .ok (.iload_n 3, 1) := by decide +kernel
theorem dL_law_268 : decode cL_law 268 = .ok (.iconst 2, 1) := by decide +kernel
theorem dL_law_269 : decode cL_law 269 = .ok (.iadd, 1) := by decide +kernel
theorem dL_law_270 : decode cL_law 270 = .ok (.iaload, 1) := by decide +kernel
theorem dL_law_271 : decode cL_law 271 = .ok (.invokevirtual 37, 3) := by decide +kernel
theorem dL_law_274 : decode cL_law 274 = .ok (.if_icmp .eq 592, 3) := by decide +kernel
theorem dL_law_277 : decode cL_law 277 = .ok (.iconst 0, 1) := by decide +kernel
theorem dL_law_278 : decode cL_law 278 = .ok (.ireturn, 1) := by decide +kernel
theorem dL_law_279 : decode cL_law 279 = .ok (.aload_n 1, 1) := by decide +kernel
theorem dL_law_280 : decode cL_law 280 = .ok (.aload_n 0, 1) := by decide +kernel
theorem dL_law_281 : decode cL_law 281 = .ok (.iload_n 3, 1) := by decide +kernel
theorem dL_law_282 : decode cL_law 282 = .ok (.iconst 1, 1) := by decide +kernel
theorem dL_law_283 : decode cL_law 283 = .ok (.iadd, 1) := by decide +kernel
theorem dL_law_284 : decode cL_law 284 = .ok (.iaload, 1) := by decide +kernel
theorem dL_law_285 : decode cL_law 285 = .ok (.aload_n 0, 1) := by decide +kernel
theorem dL_law_286 : decode cL_law 286 = .ok (.iload_n 3, 1) := by decide +kernel
theorem dL_law_287 : decode cL_law 287 = .ok (.iconst 2, 1) := by decide +kernel
theorem dL_law_288 : decode cL_law 288 = .ok (.iadd, 1) := by decide +kernel
theorem dL_law_289 : decode cL_law 289 = .ok (.iaload, 1) := by decide +kernel
theorem dL_law_290 : decode cL_law 290 = .ok (.invokevirtual 38, 3) := by decide +kernel
theorem dL_law_293 : decode cL_law 293 = .ok (.aload_n 2, 1) := by decide +kernel
theorem dL_law_294 : decode cL_law 294 = .ok (.aload_n 0, 1) := by decide +kernel
theorem dL_law_295 : decode cL_law 295 = .ok (.iload_n 3, 1) := by decide +kernel
theorem dL_law_296 : decode cL_law 296 = .ok (.iconst 1, 1) := by decide +kernel
theorem dL_law_297 : decode cL_law 297 = .ok (.iadd, 1) := by decide +kernel
theorem dL_law_298 : decode cL_law 298 = .ok (.iaload, 1) := by decide +kernel
theorem dL_law_299 : decode cL_law 299 = .ok (.aload_n 0, 1) := by decide +kernel
theorem dL_law_300 : decode cL_law 300 = .ok (.iload_n 3, 1) := by decide +kernel
theorem dL_law_301 : decode cL_law 301 = .ok (.iconst 2, 1) := by decide +kernel
theorem dL_law_302 : decode cL_law 302 = .ok (.iadd, 1) := by decide +kernel
theorem dL_law_303 : decode cL_law 303 = .ok (.iaload, 1) := by decide +kernel
theorem dL_law_304 : decode cL_law 304 = .ok (.invokevirtual 41, 3) := by decide +kernel
theorem dL_law_307 : decode cL_law 307 = .ok (.if_icmp .eq 559, 3) := by decide +kernel
theorem dL_law_310 : decode cL_law 310 = .ok (.iconst 0, 1) := by decide +kernel
theorem dL_law_311 : decode cL_law 311 = .ok (.ireturn, 1) := by decide +kernel
theorem dL_law_312 : decode cL_law 312 = .ok (.aload_n 1, 1) := by decide +kernel
theorem dL_law_313 : decode cL_law 313 = .ok (.aload_n 0, 1) := by decide +kernel
theorem dL_law_314 : decode cL_law 314 = .ok (.iload_n 3, 1) := by decide +kernel
theorem dL_law_315 : decode cL_law 315 = .ok (.iconst 1, 1) := by decide +kernel
theorem dL_law_316 : decode cL_law 316 = .ok (.iadd, 1) := by decide +kernel
theorem dL_law_317 : decode cL_law 317 = .ok (.iaload, 1) := by decide +kernel
theorem dL_law_318 : decode cL_law 318 = .ok (.aload_n 0, 1) := by decide +kernel
theorem dL_law_319 : decode cL_law 319 = .ok (.iload_n 3, 1) := by decide +kernel
theorem dL_law_320 : decode cL_law 320 = .ok (.iconst 2, 1) := by decide +kernel
theorem dL_law_321 : decode cL_law 321 = .ok (.iadd, 1) := by decide +kernel
theorem dL_law_322 : decode cL_law 322 = .ok (.iaload, 1) := by decide +kernel
theorem dL_law_323 : decode cL_law 323 = .ok (.invokevirtual 42, 3) := by decide +kernel
theorem dL_law_326 : decode cL_law 326 = .ok (.aload_n 2, 1) := by decide +kernel
theorem dL_law_327 : decode cL_law 327 = .ok (.aload_n 0, 1) := by decide +kernel
theorem dL_law_328 : decode cL_law 328 = .ok (.iload_n 3, 1) := by decide +kernel
theorem dL_law_329 : decode cL_law 329 = .ok (.iconst 1, 1) := by decide +kernel
theorem dL_law_330 : decode cL_law 330 = .ok (.iadd, 1) := by decide +kernel
theorem dL_law_331 : decode cL_law 331 = .ok (.iaload, 1) := by decide +kernel
theorem dL_law_332 : decode cL_law 332 = .ok (.aload_n 0, 1) := by decide +kernel
theorem dL_law_333 : decode cL_law 333 = .ok (.iload_n 3, 1) := by decide +kernel
theorem dL_law_334 : decode cL_law 334 = .ok (.iconst 2, 1) := by decide +kernel
theorem dL_law_335 : decode cL_law 335 = .ok (.iadd, 1) := by decide +kernel
theorem dL_law_336 : decode cL_law 336 = .ok (.iaload, 1) := by decide +kernel
theorem dL_law_337 : decode cL_law 337 = .ok (.invokevirtual 45, 3) := by decide +kernel
theorem dL_law_340 : decode cL_law 340 = .ok (.if_icmp .eq 526, 3) := by decide +kernel
theorem dL_law_343 : decode cL_law 343 = .ok (.iconst 0, 1) := by decide +kernel
theorem dL_law_344 : decode cL_law 344 = .ok (.ireturn, 1) := by decide +kernel
theorem dL_law_345 : decode cL_law 345 = .ok (.aload_n 1, 1) := by decide +kernel
theorem dL_law_346 : decode cL_law 346 = .ok (.aload_n 0, 1) := by decide +kernel
theorem dL_law_347 : decode cL_law 347 = .ok (.iload_n 3, 1) := by decide +kernel
theorem dL_law_348 : decode cL_law 348 = .ok (.iconst 1, 1) := by decide +kernel
theorem dL_law_349 : decode cL_law 349 = .ok (.iadd, 1) := by decide +kernel
theorem dL_law_350 : decode cL_law 350 = .ok (.iaload, 1) := by decide +kernel
theorem dL_law_351 : decode cL_law 351 = .ok (.invokevirtual 46, 3) := by decide +kernel
theorem dL_law_354 : decode cL_law 354 = .ok (.aload_n 2, 1) := by decide +kernel
theorem dL_law_355 : decode cL_law 355 = .ok (.aload_n 0, 1) := by decide +kernel
theorem dL_law_356 : decode cL_law 356 = .ok (.iload_n 3, 1) := by decide +kernel
theorem dL_law_357 : decode cL_law 357 = .ok (.iconst 1, 1) := by decide +kernel
theorem dL_law_358 : decode cL_law 358 = .ok (.iadd, 1) := by decide +kernel
theorem dL_law_359 : decode cL_law 359 = .ok (.iaload, 1) := by decide +kernel
theorem dL_law_360 : decode cL_law 360 = .ok (.invokevirtual 50, 3) := by decide +kernel
theorem dL_law_363 : decode cL_law 363 = .ok (.if_icmp .eq 503, 3) := by decide +kernel
theorem dL_law_366 : decode cL_law 366 = .ok (.iconst 0, 1) := by decide +kernel
theorem dL_law_367 : decode cL_law 367 = .ok (.ireturn, 1) := by decide +kernel
theorem dL_law_368 : decode cL_law 368 = .ok (.aload_n 1, 1) := by decide +kernel
theorem dL_law_369 : decode cL_law 369 = .ok (.invokevirtual 51, 3) := by decide +kernel
theorem dL_law_372 : decode cL_law 372 = .ok (.aload_n 2, 1) := by decide +kernel
theorem dL_law_373 : decode cL_law 373 = .ok (.invokevirtual 54, 3) := by decide +kernel
theorem dL_law_376 : decode cL_law 376 = .ok (.if_icmp .eq 490, 3) := by decide +kernel
theorem dL_law_379 : decode cL_law 379 = .ok (.iconst 0, 1) := by decide +kernel
theorem dL_law_380 : decode cL_law 380 = .ok (.ireturn, 1) := by decide +kernel
theorem dL_law_381 : decode cL_law 381 = .ok (.aload_n 1, 1) := by decide +kernel
theorem dL_law_382 : decode cL_law 382 = .ok (.invokevirtual 55, 3) := by decide +kernel
theorem dL_law_385 : decode cL_law 385 = .ok (.aload_n 2, 1) := by decide +kernel
theorem dL_law_386 : decode cL_law 386 = .ok (.invokevirtual 58, 3) := by decide +kernel
theorem dL_law_389 : decode cL_law 389 = .ok (.if_icmp .eq 477, 3) := by decide +kernel
theorem dL_law_392 : decode cL_law 392 = .ok (.iconst 0, 1) := by decide +kernel
theorem dL_law_393 : decode cL_law 393 = .ok (.ireturn, 1) := by decide +kernel
theorem dL_law_394 : decode cL_law 394 = .ok (.aload_n 1, 1) := by decide +kernel
theorem dL_law_395 : decode cL_law 395 = .ok (.aload_n 0, 1) := by decide +kernel
theorem dL_law_396 : decode cL_law 396 = .ok (.iload_n 3, 1) := by decide +kernel
theorem dL_law_397 : decode cL_law 397 = .ok (.iconst 1, 1) := by decide +kernel
theorem dL_law_398 : decode cL_law 398 = .ok (.iadd, 1) := by decide +kernel
theorem dL_law_399 : decode cL_law 399 = .ok (.iaload, 1) := by decide +kernel
theorem dL_law_400 : decode cL_law 400 = .ok (.invokevirtual 59, 3) := by decide +kernel
theorem dL_law_403 : decode cL_law 403 = .ok (.aload_n 2, 1) := by decide +kernel
theorem dL_law_404 : decode cL_law 404 = .ok (.aload_n 0, 1) := by decide +kernel
theorem dL_law_405 : decode cL_law 405 = .ok (.iload_n 3, 1) := by decide +kernel
theorem dL_law_406 : decode cL_law 406 = .ok (.iconst 1, 1) := by decide +kernel
theorem dL_law_407 : decode cL_law 407 = .ok (.iadd, 1) := by decide +kernel
theorem dL_law_408 : decode cL_law 408 = .ok (.iaload, 1) := by decide +kernel
theorem dL_law_409 : decode cL_law 409 = .ok (.invokevirtual 62, 3) := by decide +kernel
theorem dL_law_412 : decode cL_law 412 = .ok (.if_icmp .eq 454, 3) := by decide +kernel
theorem dL_law_415 : decode cL_law 415 = .ok (.iconst 0, 1) := by decide +kernel
theorem dL_law_416 : decode cL_law 416 = .ok (.ireturn, 1) := by decide +kernel
theorem dL_law_417 : decode cL_law 417 = .ok (.aload_n 1, 1) := by decide +kernel
theorem dL_law_418 : decode cL_law 418 = .ok (.aload_n 0, 1) := by decide +kernel
theorem dL_law_419 : decode cL_law 419 = .ok (.iload_n 3, 1) := by decide +kernel
theorem dL_law_420 : decode cL_law 420 = .ok (.iconst 1, 1) := by decide +kernel
theorem dL_law_421 : decode cL_law 421 = .ok (.iadd, 1) := by decide +kernel
theorem dL_law_422 : decode cL_law 422 = .ok (.iaload, 1) := by decide +kernel
theorem dL_law_423 : decode cL_law 423 = .ok (.invokevirtual 63, 3) := by decide +kernel
theorem dL_law_426 : decode cL_law 426 = .ok (.aload_n 2, 1) := by decide +kernel
theorem dL_law_427 : decode cL_law 427 = .ok (.aload_n 0, 1) := by decide +kernel
theorem dL_law_428 : decode cL_law 428 = .ok (.iload_n 3, 1) := by decide +kernel
theorem dL_law_429 : decode cL_law 429 = .ok (.iconst 1, 1) := by decide +kernel
theorem dL_law_430 : decode cL_law 430 = .ok (.iadd, 1) := by decide +kernel
theorem dL_law_431 : decode cL_law 431 = .ok (.iaload, 1) := by decide +kernel
theorem dL_law_432 : decode cL_law 432 = .ok (.invokevirtual 66, 3) := by decide +kernel
theorem dL_law_435 : decode cL_law 435 = .ok (.if_icmp .eq 431, 3) := by decide +kernel
theorem dL_law_438 : decode cL_law 438 = .ok (.iconst 0, 1) := by decide +kernel
theorem dL_law_439 : decode cL_law 439 = .ok (.ireturn, 1) := by decide +kernel
theorem dL_law_440 : decode cL_law 440 = .ok (.aload_n 1, 1) := by decide +kernel
theorem dL_law_441 : decode cL_law 441 = .ok (.aload_n 0, 1) := by decide +kernel
theorem dL_law_442 : decode cL_law 442 = .ok (.iload_n 3, 1) := by decide +kernel
theorem dL_law_443 : decode cL_law 443 = .ok (.iconst 1, 1) := by decide +kernel
theorem dL_law_444 : decode cL_law 444 = .ok (.iadd, 1) := by decide +kernel
theorem dL_law_445 : decode cL_law 445 = .ok (.iaload, 1) := by decide +kernel
theorem dL_law_446 : decode cL_law 446 = .ok (.invokevirtual 67, 3) := by decide +kernel
theorem dL_law_449 : decode cL_law 449 = .ok (.aload_n 2, 1) := by decide +kernel
theorem dL_law_450 : decode cL_law 450 = .ok (.aload_n 0, 1) := by decide +kernel
theorem dL_law_451 : decode cL_law 451 = .ok (.iload_n 3, 1) := by decide +kernel
theorem dL_law_452 : decode cL_law 452 = .ok (.iconst 1, 1) := by decide +kernel
theorem dL_law_453 : decode cL_law 453 = .ok (.iadd, 1) := by decide +kernel
theorem dL_law_454 : decode cL_law 454 = .ok (.iaload, 1) := by decide +kernel
theorem dL_law_455 : decode cL_law 455 = .ok (.invokevirtual 70, 3) := by decide +kernel
theorem dL_law_458 : decode cL_law 458 = .ok (.if_icmp .eq 408, 3) := by decide +kernel
theorem dL_law_461 : decode cL_law 461 = .ok (.iconst 0, 1) := by decide +kernel
theorem dL_law_462 : decode cL_law 462 = .ok (.ireturn, 1) := by decide +kernel
theorem dL_law_463 : decode cL_law 463 = .ok (.aload_n 1, 1) := by decide +kernel
theorem dL_law_464 : decode cL_law 464 = .ok (.aload_n 0, 1) := by decide +kernel
theorem dL_law_465 : decode cL_law 465 = .ok (.iload_n 3, 1) := by decide +kernel
theorem dL_law_466 : decode cL_law 466 = .ok (.iconst 1, 1) := by decide +kernel
theorem dL_law_467 : decode cL_law 467 = .ok (.iadd, 1) := by decide +kernel
theorem dL_law_468 : decode cL_law 468 = .ok (.iaload, 1) := by decide +kernel
theorem dL_law_469 : decode cL_law 469 = .ok (.aload_n 0, 1) := by decide +kernel
theorem dL_law_470 : decode cL_law 470 = .ok (.iload_n 3, 1) := by decide +kernel
theorem dL_law_471 : decode cL_law 471 = .ok (.iconst 2, 1) := by decide +kernel
theorem dL_law_472 : decode cL_law 472 = .ok (.iadd, 1) := by decide +kernel
theorem dL_law_473 : decode cL_law 473 = .ok (.iaload, 1) := by decide +kernel
theorem dL_law_474 : decode cL_law 474 = .ok (.aload_n 0, 1) := by decide +kernel
theorem dL_law_475 : decode cL_law 475 = .ok (.iload_n 3, 1) := by decide +kernel
theorem dL_law_476 : decode cL_law 476 = .ok (.iconst 3, 1) := by decide +kernel
theorem dL_law_477 : decode cL_law 477 = .ok (.iadd, 1) := by decide +kernel
theorem dL_law_478 : decode cL_law 478 = .ok (.iaload, 1) := by decide +kernel
theorem dL_law_479 : decode cL_law 479 = .ok (.aload_n 0, 1) := by decide +kernel
theorem dL_law_480 : decode cL_law 480 = .ok (.iload_n 3, 1) := by decide +kernel
theorem dL_law_481 : decode cL_law 481 = .ok (.iconst 4, 1) := by decide +kernel
theorem dL_law_482 : decode cL_law 482 = .ok (.iadd, 1) := by decide +kernel
theorem dL_law_483 : decode cL_law 483 = .ok (.iaload, 1) := by decide +kernel
theorem dL_law_484 : decode cL_law 484 = .ok (.invokevirtual 71, 3) := by decide +kernel
theorem dL_law_487 : decode cL_law 487 = .ok (.aload_n 2, 1) := by decide +kernel
theorem dL_law_488 : decode cL_law 488 = .ok (.aload_n 0, 1) := by decide +kernel
theorem dL_law_489 : decode cL_law 489 = .ok (.iload_n 3, 1) := by decide +kernel
theorem dL_law_490 : decode cL_law 490 = .ok (.iconst 1, 1) := by decide +kernel
theorem dL_law_491 : decode cL_law 491 = .ok (.iadd, 1) := by decide +kernel
theorem dL_law_492 : decode cL_law 492 = .ok (.iaload, 1) := by decide +kernel
theorem dL_law_493 : decode cL_law 493 = .ok (.aload_n 0, 1) := by decide +kernel
theorem dL_law_494 : decode cL_law 494 = .ok (.iload_n 3, 1) := by decide +kernel
theorem dL_law_495 : decode cL_law 495 = .ok (.iconst 2, 1) := by decide +kernel
theorem dL_law_496 : decode cL_law 496 = .ok (.iadd, 1) := by decide +kernel
theorem dL_law_497 : decode cL_law 497 = .ok (.iaload, 1) := by decide +kernel
theorem dL_law_498 : decode cL_law 498 = .ok (.aload_n 0, 1) := by decide +kernel
theorem dL_law_499 : decode cL_law 499 = .ok (.iload_n 3, 1) := by decide +kernel
theorem dL_law_500 : decode cL_law 500 = .ok (.iconst 3, 1) := by decide +kernel
theorem dL_law_501 : decode cL_law 501 = .ok (.iadd, 1) := by decide +kernel
theorem dL_law_502 : decode cL_law 502 = .ok (.iaload, 1) := by decide +kernel
theorem dL_law_503 : decode cL_law 503 = .ok (.aload_n 0, 1) := by decide +kernel
theorem dL_law_504 : decode cL_law 504 = .ok (.iload_n 3, 1) := by decide +kernel
theorem dL_law_505 : decode cL_law 505 = .ok (.iconst 4, 1) := by decide +kernel
theorem dL_law_506 : decode cL_law 506 = .ok (.iadd, 1) := by decide +kernel
theorem dL_law_507 : decode cL_law 507 = .ok (.iaload, 1) := by decide +kernel
theorem dL_law_508 : decode cL_law 508 = .ok (.invokevirtual 75, 3) := by decide +kernel
theorem dL_law_511 : decode cL_law 511 = .ok (.if_icmp .eq 355, 3) := by decide +kernel
theorem dL_law_514 : decode cL_law 514 = .ok (.iconst 0, 1) := by decide +kernel
theorem dL_law_515 : decode cL_law 515 = .ok (.ireturn, 1) := by decide +kernel
theorem dL_law_516 : decode cL_law 516 = .ok (.aload_n 1, 1) := by decide +kernel
theorem dL_law_517 : decode cL_law 517 = .ok (.aload_n 0, 1) := by decide +kernel
theorem dL_law_518 : decode cL_law 518 = .ok (.iload_n 3, 1) := by decide +kernel
theorem dL_law_519 : decode cL_law 519 = .ok (.iconst 1, 1) := by decide +kernel
theorem dL_law_520 : decode cL_law 520 = .ok (.iadd, 1) := by decide +kernel
theorem dL_law_521 : decode cL_law 521 = .ok (.iaload, 1) := by decide +kernel
theorem dL_law_522 : decode cL_law 522 = .ok (.aload_n 0, 1) := by decide +kernel
theorem dL_law_523 : decode cL_law 523 = .ok (.iload_n 3, 1) := by decide +kernel
theorem dL_law_524 : decode cL_law 524 = .ok (.iconst 2, 1) := by decide +kernel
theorem dL_law_525 : decode cL_law 525 = .ok (.iadd, 1) := by decide +kernel
theorem dL_law_526 : decode cL_law 526 = .ok (.iaload, 1) := by decide +kernel
theorem dL_law_527 : decode cL_law 527 = .ok (.aload_n 0, 1) := by decide +kernel
theorem dL_law_528 : decode cL_law 528 = .ok (.iload_n 3, 1) := by decide +kernel
theorem dL_law_529 : decode cL_law 529 = .ok (.iconst 3, 1) := by decide +kernel
theorem dL_law_530 : decode cL_law 530 = .ok (.iadd, 1) := by decide +kernel
theorem dL_law_531 : decode cL_law 531 = .ok (.iaload, 1) := by decide +kernel
theorem dL_law_532 : decode cL_law 532 = .ok (.aload_n 0, 1) := by decide +kernel
theorem dL_law_533 : decode cL_law 533 = .ok (.iload_n 3, 1) := by decide +kernel
theorem dL_law_534 : decode cL_law 534 = .ok (.iconst 4, 1) := by decide +kernel
theorem dL_law_535 : decode cL_law 535 = .ok (.iadd, 1) := by decide +kernel
theorem dL_law_536 : decode cL_law 536 = .ok (.iaload, 1) := by decide +kernel
theorem dL_law_537 : decode cL_law 537 = .ok (.invokevirtual 76, 3) := by decide +kernel
theorem dL_law_540 : decode cL_law 540 = .ok (.aload_n 2, 1) := by decide +kernel
theorem dL_law_541 : decode cL_law 541 = .ok (.aload_n 0, 1) := by decide +kernel
theorem dL_law_542 : decode cL_law 542 = .ok (.iload_n 3, 1) := by decide +kernel
theorem dL_law_543 : decode cL_law 543 = .ok (.iconst 1, 1) := by decide +kernel
theorem dL_law_544 : decode cL_law 544 = .ok (.iadd, 1) := by decide +kernel
theorem dL_law_545 : decode cL_law 545 = .ok (.iaload, 1) := by decide +kernel
theorem dL_law_546 : decode cL_law 546 = .ok (.aload_n 0, 1) := by decide +kernel
theorem dL_law_547 : decode cL_law 547 = .ok (.iload_n 3, 1) := by decide +kernel
theorem dL_law_548 : decode cL_law 548 = .ok (.iconst 2, 1) := by decide +kernel
theorem dL_law_549 : decode cL_law 549 = .ok (.iadd, 1) := by decide +kernel
theorem dL_law_550 : decode cL_law 550 = .ok (.iaload, 1) := by decide +kernel
theorem dL_law_551 : decode cL_law 551 = .ok (.aload_n 0, 1) := by decide +kernel
theorem dL_law_552 : decode cL_law 552 = .ok (.iload_n 3, 1) := by decide +kernel
theorem dL_law_553 : decode cL_law 553 = .ok (.iconst 3, 1) := by decide +kernel
theorem dL_law_554 : decode cL_law 554 = .ok (.iadd, 1) := by decide +kernel
theorem dL_law_555 : decode cL_law 555 = .ok (.iaload, 1) := by decide +kernel
theorem dL_law_556 : decode cL_law 556 = .ok (.aload_n 0, 1) := by decide +kernel
theorem dL_law_557 : decode cL_law 557 = .ok (.iload_n 3, 1) := by decide +kernel
theorem dL_law_558 : decode cL_law 558 = .ok (.iconst 4, 1) := by decide +kernel
theorem dL_law_559 : decode cL_law 559 = .ok (.iadd, 1) := by decide +kernel
theorem dL_law_560 : decode cL_law 560 = .ok (.iaload, 1) := by decide +kernel
theorem dL_law_561 : decode cL_law 561 = .ok (.invokevirtual 79, 3) := by decide +kernel
theorem dL_law_564 : decode cL_law 564 = .ok (.if_icmp .eq 302, 3) := by decide +kernel
theorem dL_law_567 : decode cL_law 567 = .ok (.iconst 0, 1) := by decide +kernel
theorem dL_law_568 : decode cL_law 568 = .ok (.ireturn, 1) := by decide +kernel
theorem dL_law_569 : decode cL_law 569 = .ok (.aload_n 1, 1) := by decide +kernel
theorem dL_law_570 : decode cL_law 570 = .ok (.aload_n 0, 1) := by decide +kernel
theorem dL_law_571 : decode cL_law 571 = .ok (.iload_n 3, 1) := by decide +kernel
theorem dL_law_572 : decode cL_law 572 = .ok (.iconst 1, 1) := by decide +kernel
theorem dL_law_573 : decode cL_law 573 = .ok (.iadd, 1) := by decide +kernel
theorem dL_law_574 : decode cL_law 574 = .ok (.iaload, 1) := by decide +kernel
theorem dL_law_575 : decode cL_law 575 = .ok (.aload_n 0, 1) := by decide +kernel
theorem dL_law_576 : decode cL_law 576 = .ok (.iload_n 3, 1) := by decide +kernel
theorem dL_law_577 : decode cL_law 577 = .ok (.iconst 2, 1) := by decide +kernel
theorem dL_law_578 : decode cL_law 578 = .ok (.iadd, 1) := by decide +kernel
theorem dL_law_579 : decode cL_law 579 = .ok (.iaload, 1) := by decide +kernel
theorem dL_law_580 : decode cL_law 580 = .ok (.aload_n 0, 1) := by decide +kernel
theorem dL_law_581 : decode cL_law 581 = .ok (.iload_n 3, 1) := by decide +kernel
theorem dL_law_582 : decode cL_law 582 = .ok (.iconst 3, 1) := by decide +kernel
theorem dL_law_583 : decode cL_law 583 = .ok (.iadd, 1) := by decide +kernel
theorem dL_law_584 : decode cL_law 584 = .ok (.iaload, 1) := by decide +kernel
theorem dL_law_585 : decode cL_law 585 = .ok (.invokevirtual 80, 3) := by decide +kernel
theorem dL_law_588 : decode cL_law 588 = .ok (.aload_n 2, 1) := by decide +kernel
theorem dL_law_589 : decode cL_law 589 = .ok (.aload_n 0, 1) := by decide +kernel
theorem dL_law_590 : decode cL_law 590 = .ok (.iload_n 3, 1) := by decide +kernel
theorem dL_law_591 : decode cL_law 591 = .ok (.iconst 1, 1) := by decide +kernel
theorem dL_law_592 : decode cL_law 592 = .ok (.iadd, 1) := by decide +kernel
theorem dL_law_593 : decode cL_law 593 = .ok (.iaload, 1) := by decide +kernel
theorem dL_law_594 : decode cL_law 594 = .ok (.aload_n 0, 1) := by decide +kernel
theorem dL_law_595 : decode cL_law 595 = .ok (.iload_n 3, 1) := by decide +kernel
theorem dL_law_596 : decode cL_law 596 = .ok (.iconst 2, 1) := by decide +kernel
theorem dL_law_597 : decode cL_law 597 = .ok (.iadd, 1) := by decide +kernel
theorem dL_law_598 : decode cL_law 598 = .ok (.iaload, 1) := by decide +kernel
theorem dL_law_599 : decode cL_law 599 = .ok (.aload_n 0, 1) := by decide +kernel
theorem dL_law_600 : decode cL_law 600 = .ok (.iload_n 3, 1) := by decide +kernel
theorem dL_law_601 : decode cL_law 601 = .ok (.iconst 3, 1) := by decide +kernel
theorem dL_law_602 : decode cL_law 602 = .ok (.iadd, 1) := by decide +kernel
theorem dL_law_603 : decode cL_law 603 = .ok (.iaload, 1) := by decide +kernel
theorem dL_law_604 : decode cL_law 604 = .ok (.invokevirtual 84, 3) := by decide +kernel
theorem dL_law_607 : decode cL_law 607 = .ok (.if_icmp .eq 259, 3) := by decide +kernel
theorem dL_law_610 : decode cL_law 610 = .ok (.iconst 0, 1) := by decide +kernel
theorem dL_law_611 : decode cL_law 611 = .ok (.ireturn, 1) := by decide +kernel
theorem dL_law_612 : decode cL_law 612 = .ok (.aload_n 1, 1) := by decide +kernel
theorem dL_law_613 : decode cL_law 613 = .ok (.aload_n 0, 1) := by decide +kernel
theorem dL_law_614 : decode cL_law 614 = .ok (.iload_n 3, 1) := by decide +kernel
theorem dL_law_615 : decode cL_law 615 = .ok (.iconst 1, 1) := by decide +kernel
theorem dL_law_616 : decode cL_law 616 = .ok (.iadd, 1) := by decide +kernel
theorem dL_law_617 : decode cL_law 617 = .ok (.iaload, 1) := by decide +kernel
theorem dL_law_618 : decode cL_law 618 = .ok (.aload_n 0, 1) := by decide +kernel
theorem dL_law_619 : decode cL_law 619 = .ok (.iload_n 3, 1) := by decide +kernel
theorem dL_law_620 : decode cL_law 620 = .ok (.iconst 2, 1) := by decide +kernel
theorem dL_law_621 : decode cL_law 621 = .ok (.iadd, 1) := by decide +kernel
theorem dL_law_622 : decode cL_law 622 = .ok (.iaload, 1) := by decide +kernel
theorem dL_law_623 : decode cL_law 623 = .ok (.aload_n 0, 1) := by decide +kernel
theorem dL_law_624 : decode cL_law 624 = .ok (.iload_n 3, 1) := by decide +kernel
theorem dL_law_625 : decode cL_law 625 = .ok (.iconst 3, 1) := by decide +kernel
theorem dL_law_626 : decode cL_law 626 = .ok (.iadd, 1) := by decide +kernel
theorem dL_law_627 : decode cL_law 627 = .ok (.iaload, 1) := by decide +kernel
theorem dL_law_628 : decode cL_law 628 = .ok (.aload_n 0, 1) := by decide +kernel
theorem dL_law_629 : decode cL_law 629 = .ok (.iload_n 3, 1) := by decide +kernel
theorem dL_law_630 : decode cL_law 630 = .ok (.iconst 4, 1) := by decide +kernel
theorem dL_law_631 : decode cL_law 631 = .ok (.iadd, 1) := by decide +kernel
theorem dL_law_632 : decode cL_law 632 = .ok (.iaload, 1) := by decide +kernel
theorem dL_law_633 : decode cL_law 633 = .ok (.invokevirtual 85, 3) := by decide +kernel
theorem dL_law_636 : decode cL_law 636 = .ok (.aload_n 2, 1) := by decide +kernel
theorem dL_law_637 : decode cL_law 637 = .ok (.aload_n 0, 1) := by decide +kernel
theorem dL_law_638 : decode cL_law 638 = .ok (.iload_n 3, 1) := by decide +kernel
theorem dL_law_639 : decode cL_law 639 = .ok (.iconst 1, 1) := by decide +kernel
theorem dL_law_640 : decode cL_law 640 = .ok (.iadd, 1) := by decide +kernel
theorem dL_law_641 : decode cL_law 641 = .ok (.iaload, 1) := by decide +kernel
theorem dL_law_642 : decode cL_law 642 = .ok (.aload_n 0, 1) := by decide +kernel
theorem dL_law_643 : decode cL_law 643 = .ok (.iload_n 3, 1) := by decide +kernel
theorem dL_law_644 : decode cL_law 644 = .ok (.iconst 2, 1) := by decide +kernel
theorem dL_law_645 : decode cL_law 645 = .ok (.iadd, 1) := by decide +kernel
theorem dL_law_646 : decode cL_law 646 = .ok (.iaload, 1) := by decide +kernel
theorem dL_law_647 : decode cL_law 647 = .ok (.aload_n 0, 1) := by decide +kernel
theorem dL_law_648 : decode cL_law 648 = .ok (.iload_n 3, 1) := by decide +kernel
theorem dL_law_649 : decode cL_law 649 = .ok (.iconst 3, 1) := by decide +kernel
theorem dL_law_650 : decode cL_law 650 = .ok (.iadd, 1) := by decide +kernel
theorem dL_law_651 : decode cL_law 651 = .ok (.iaload, 1) := by decide +kernel
theorem dL_law_652 : decode cL_law 652 = .ok (.aload_n 0, 1) := by decide +kernel
theorem dL_law_653 : decode cL_law 653 = .ok (.iload_n 3, 1) := by decide +kernel
theorem dL_law_654 : decode cL_law 654 = .ok (.iconst 4, 1) := by decide +kernel
theorem dL_law_655 : decode cL_law 655 = .ok (.iadd, 1) := by decide +kernel
theorem dL_law_656 : decode cL_law 656 = .ok (.iaload, 1) := by decide +kernel
theorem dL_law_657 : decode cL_law 657 = .ok (.invokevirtual 88, 3) := by decide +kernel
theorem dL_law_660 : decode cL_law 660 = .ok (.if_icmp .eq 206, 3) := by decide +kernel
theorem dL_law_663 : decode cL_law 663 = .ok (.iconst 0, 1) := by decide +kernel
theorem dL_law_664 : decode cL_law 664 = .ok (.ireturn, 1) := by decide +kernel
theorem dL_law_665 : decode cL_law 665 = .ok (.aload_n 1, 1) := by decide +kernel
theorem dL_law_666 : decode cL_law 666 = .ok (.aload_n 0, 1) := by decide +kernel
theorem dL_law_667 : decode cL_law 667 = .ok (.iload_n 3, 1) := by decide +kernel
theorem dL_law_668 : decode cL_law 668 = .ok (.iconst 1, 1) := by decide +kernel
theorem dL_law_669 : decode cL_law 669 = .ok (.iadd, 1) := by decide +kernel
theorem dL_law_670 : decode cL_law 670 = .ok (.iaload, 1) := by decide +kernel
theorem dL_law_671 : decode cL_law 671 = .ok (.invokevirtual 89, 3) := by decide +kernel
theorem dL_law_674 : decode cL_law 674 = .ok (.aload_n 2, 1) := by decide +kernel
theorem dL_law_675 : decode cL_law 675 = .ok (.aload_n 0, 1) := by decide +kernel
theorem dL_law_676 : decode cL_law 676 = .ok (.iload_n 3, 1) := by decide +kernel
theorem dL_law_677 : decode cL_law 677 = .ok (.iconst 1, 1) := by decide +kernel
theorem dL_law_678 : decode cL_law 678 = .ok (.iadd, 1) := by decide +kernel
theorem dL_law_679 : decode cL_law 679 = .ok (.iaload, 1) := by decide +kernel
theorem dL_law_680 : decode cL_law 680 = .ok (.invokevirtual 92, 3) := by decide +kernel
theorem dL_law_683 : decode cL_law 683 = .ok (.if_icmp .eq 183, 3) := by decide +kernel
theorem dL_law_686 : decode cL_law 686 = .ok (.iconst 0, 1) := by decide +kernel
theorem dL_law_687 : decode cL_law 687 = .ok (.ireturn, 1) := by decide +kernel
theorem dL_law_688 : decode cL_law 688 = .ok (.aload_n 1, 1) := by decide +kernel
theorem dL_law_689 : decode cL_law 689 = .ok (.aload_n 0, 1) := by decide +kernel
theorem dL_law_690 : decode cL_law 690 = .ok (.iload_n 3, 1) := by decide +kernel
theorem dL_law_691 : decode cL_law 691 = .ok (.iconst 1, 1) := by decide +kernel
theorem dL_law_692 : decode cL_law 692 = .ok (.iadd, 1) := by decide +kernel
theorem dL_law_693 : decode cL_law 693 = .ok (.iaload, 1) := by decide +kernel
theorem dL_law_694 : decode cL_law 694 = .ok (.aload_n 0, 1) := by decide +kernel
theorem dL_law_695 : decode cL_law 695 = .ok (.iload_n 3, 1) := by decide +kernel
theorem dL_law_696 : decode cL_law 696 = .ok (.iconst 2, 1) := by decide +kernel
theorem dL_law_697 : decode cL_law 697 = .ok (.iadd, 1) := by decide +kernel
theorem dL_law_698 : decode cL_law 698 = .ok (.iaload, 1) := by decide +kernel
theorem dL_law_699 : decode cL_law 699 = .ok (.aload_n 0, 1) := by decide +kernel
theorem dL_law_700 : decode cL_law 700 = .ok (.iload_n 3, 1) := by decide +kernel
theorem dL_law_701 : decode cL_law 701 = .ok (.iconst 3, 1) := by decide +kernel
theorem dL_law_702 : decode cL_law 702 = .ok (.iadd, 1) := by decide +kernel
theorem dL_law_703 : decode cL_law 703 = .ok (.iaload, 1) := by decide +kernel
theorem dL_law_704 : decode cL_law 704 = .ok (.aload_n 0, 1) := by decide +kernel
theorem dL_law_705 : decode cL_law 705 = .ok (.iload_n 3, 1) := by decide +kernel
theorem dL_law_706 : decode cL_law 706 = .ok (.iconst 4, 1) := by decide +kernel
theorem dL_law_707 : decode cL_law 707 = .ok (.iadd, 1) := by decide +kernel
theorem dL_law_708 : decode cL_law 708 = .ok (.iaload, 1) := by decide +kernel
theorem dL_law_709 : decode cL_law 709 = .ok (.invokevirtual 93, 3) := by decide +kernel
theorem dL_law_712 : decode cL_law 712 = .ok (.aload_n 2, 1) := by decide +kernel
theorem dL_law_713 : decode cL_law 713 = .ok (.aload_n 0, 1) := by decide +kernel
theorem dL_law_714 : decode cL_law 714 = .ok (.iload_n 3, 1) := by decide +kernel
theorem dL_law_715 : decode cL_law 715 = .ok (.iconst 1, 1) := by decide +kernel
theorem dL_law_716 : decode cL_law 716 = .ok (.iadd, 1) := by decide +kernel
theorem dL_law_717 : decode cL_law 717 = .ok (.iaload, 1) := by decide +kernel
theorem dL_law_718 : decode cL_law 718 = .ok (.aload_n 0, 1) := by decide +kernel
theorem dL_law_719 : decode cL_law 719 = .ok (.iload_n 3, 1) := by decide +kernel
theorem dL_law_720 : decode cL_law 720 = .ok (.iconst 2, 1) := by decide +kernel
theorem dL_law_721 : decode cL_law 721 = .ok (.iadd, 1) := by decide +kernel
theorem dL_law_722 : decode cL_law 722 = .ok (.iaload, 1) := by decide +kernel
theorem dL_law_723 : decode cL_law 723 = .ok (.aload_n 0, 1) := by decide +kernel
theorem dL_law_724 : decode cL_law 724 = .ok (.iload_n 3, 1) := by decide +kernel
theorem dL_law_725 : decode cL_law 725 = .ok (.iconst 3, 1) := by decide +kernel
theorem dL_law_726 : decode cL_law 726 = .ok (.iadd, 1) := by decide +kernel
theorem dL_law_727 : decode cL_law 727 = .ok (.iaload, 1) := by decide +kernel
theorem dL_law_728 : decode cL_law 728 = .ok (.aload_n 0, 1) := by decide +kernel
theorem dL_law_729 : decode cL_law 729 = .ok (.iload_n 3, 1) := by decide +kernel
theorem dL_law_730 : decode cL_law 730 = .ok (.iconst 4, 1) := by decide +kernel
theorem dL_law_731 : decode cL_law 731 = .ok (.iadd, 1) := by decide +kernel
theorem dL_law_732 : decode cL_law 732 = .ok (.iaload, 1) := by decide +kernel
theorem dL_law_733 : decode cL_law 733 = .ok (.invokevirtual 96, 3) := by decide +kernel
theorem dL_law_736 : decode cL_law 736 = .ok (.if_icmp .eq 130, 3) := by decide +kernel
theorem dL_law_739 : decode cL_law 739 = .ok (.iconst 0, 1) := by decide +kernel
theorem dL_law_740 : decode cL_law 740 = .ok (.ireturn, 1) := by decide +kernel
theorem dL_law_741 : decode cL_law 741 = .ok (.aload_n 1, 1) := by decide +kernel
theorem dL_law_742 : decode cL_law 742 = .ok (.aload_n 0, 1) := by decide +kernel
theorem dL_law_743 : decode cL_law 743 = .ok (.iload_n 3, 1) := by decide +kernel
theorem dL_law_744 : decode cL_law 744 = .ok (.iconst 1, 1) := by decide +kernel
theorem dL_law_745 : decode cL_law 745 = .ok (.iadd, 1) := by decide +kernel
theorem dL_law_746 : decode cL_law 746 = .ok (.iaload, 1) := by decide +kernel
theorem dL_law_747 : decode cL_law 747 = .ok (.aload_n 0, 1) := by decide +kernel
theorem dL_law_748 : decode cL_law 748 = .ok (.iload_n 3, 1) := by decide +kernel
theorem dL_law_749 : decode cL_law 749 = .ok (.iconst 2, 1) := by decide +kernel
theorem dL_law_750 : decode cL_law 750 = .ok (.iadd, 1) := by decide +kernel
theorem dL_law_751 : decode cL_law 751 = .ok (.iaload, 1) := by decide +kernel
theorem dL_law_752 : decode cL_law 752 = .ok (.invokevirtual 97, 3) := by decide +kernel
theorem dL_law_755 : decode cL_law 755 = .ok (.aload_n 2, 1) := by decide +kernel
theorem dL_law_756 : decode cL_law 756 = .ok (.aload_n 0, 1) := by decide +kernel
theorem dL_law_757 : decode cL_law 757 = .ok (.iload_n 3, 1) := by decide +kernel
theorem dL_law_758 : decode cL_law 758 = .ok (.iconst 1, 1) := by decide +kernel
theorem dL_law_759 : decode cL_law 759 = .ok (.iadd, 1) := by decide +kernel
theorem dL_law_760 : decode cL_law 760 = .ok (.iaload, 1) := by decide +kernel
theorem dL_law_761 : decode cL_law 761 = .ok (.aload_n 0, 1) := by decide +kernel
theorem dL_law_762 : decode cL_law 762 = .ok (.iload_n 3, 1) := by decide +kernel
theorem dL_law_763 : decode cL_law 763 = .ok (.iconst 2, 1) := by decide +kernel
theorem dL_law_764 : decode cL_law 764 = .ok (.iadd, 1) := by decide +kernel
theorem dL_law_765 : decode cL_law 765 = .ok (.iaload, 1) := by decide +kernel
theorem dL_law_766 : decode cL_law 766 = .ok (.invokevirtual 100, 3) := by decide +kernel
theorem dL_law_769 : decode cL_law 769 = .ok (.if_icmp .eq 97, 3) := by decide +kernel
theorem dL_law_772 : decode cL_law 772 = .ok (.iconst 0, 1) := by decide +kernel
theorem dL_law_773 : decode cL_law 773 = .ok (.ireturn, 1) := by decide +kernel
theorem dL_law_774 : decode cL_law 774 = .ok (.aload_n 1, 1) := by decide +kernel
theorem dL_law_775 : decode cL_law 775 = .ok (.aload_n 0, 1) := by decide +kernel
theorem dL_law_776 : decode cL_law 776 = .ok (.iload_n 3, 1) := by decide +kernel
theorem dL_law_777 : decode cL_law 777 = .ok (.iconst 1, 1) := by decide +kernel
theorem dL_law_778 : decode cL_law 778 = .ok (.iadd, 1) := by decide +kernel
theorem dL_law_779 : decode cL_law 779 = .ok (.iaload, 1) := by decide +kernel
theorem dL_law_780 : decode cL_law 780 = .ok (.aload_n 0, 1) := by decide +kernel
theorem dL_law_781 : decode cL_law 781 = .ok (.iload_n 3, 1) := by decide +kernel
theorem dL_law_782 : decode cL_law 782 = .ok (.iconst 2, 1) := by decide +kernel
theorem dL_law_783 : decode cL_law 783 = .ok (.iadd, 1) := by decide +kernel
theorem dL_law_784 : decode cL_law 784 = .ok (.iaload, 1) := by decide +kernel
theorem dL_law_785 : decode cL_law 785 = .ok (.invokevirtual 101, 3) := by decide +kernel
theorem dL_law_788 : decode cL_law 788 = .ok (.aload_n 2, 1) := by decide +kernel
theorem dL_law_789 : decode cL_law 789 = .ok (.aload_n 0, 1) := by decide +kernel
theorem dL_law_790 : decode cL_law 790 = .ok (.iload_n 3, 1) := by decide +kernel
theorem dL_law_791 : decode cL_law 791 = .ok (.iconst 1, 1) := by decide +kernel
theorem dL_law_792 : decode cL_law 792 = .ok (.iadd, 1) := by decide +kernel
theorem dL_law_793 : decode cL_law 793 = .ok (.iaload, 1) := by decide +kernel
theorem dL_law_794 : decode cL_law 794 = .ok (.aload_n 0, 1) := by decide +kernel
theorem dL_law_795 : decode cL_law 795 = .ok (.iload_n 3, 1) := by decide +kernel
theorem dL_law_796 : decode cL_law 796 = .ok (.iconst 2, 1) := by decide +kernel
theorem dL_law_797 : decode cL_law 797 = .ok (.iadd, 1) := by decide +kernel
theorem dL_law_798 : decode cL_law 798 = .ok (.iaload, 1) := by decide +kernel
theorem dL_law_799 : decode cL_law 799 = .ok (.invokevirtual 104, 3) := by decide +kernel
theorem dL_law_802 : decode cL_law 802 = .ok (.if_icmp .eq 64, 3) := by decide +kernel
theorem dL_law_805 : decode cL_law 805 = .ok (.iconst 0, 1) := by decide +kernel
theorem dL_law_806 : decode cL_law 806 = .ok (.ireturn, 1) := by decide +kernel
theorem dL_law_807 : decode cL_law 807 = .ok (.aload_n 1, 1) := by decide +kernel
theorem dL_law_808 : decode cL_law 808 = .ok (.invokevirtual 105, 3) := by decide +kernel
theorem dL_law_811 : decode cL_law 811 = .ok (.aload_n 2, 1) := by decide +kernel
end
section
theorem dL_law_812 : decode cL_law 812 = .ok (.invokevirtual 108, 3) := by decide +kernel
theorem dL_law_815 : decode cL_law 815 = .ok (.if_icmp .eq 51, 3) := by decide +kernel
theorem dL_law_818 : decode cL_law 818 = .ok (.iconst 0, 1) := by decide +kernel
theorem dL_law_819 : decode cL_law 819 = .ok (.ireturn, 1) := by decide +kernel
theorem dL_law_820 : decode cL_law 820 = .ok (.aload_n 1, 1) := by decide +kernel
theorem dL_law_821 : decode cL_law 821 = .ok (.aload_n 0, 1) := by decide +kernel
theorem dL_law_822 : decode cL_law 822 = .ok (.iload_n 3, 1) := by decide +kernel
theorem dL_law_823 : decode cL_law 823 = .ok (.iconst 1, 1) := by decide +kernel
theorem dL_law_824 : decode cL_law 824 = .ok (.iadd, 1) := by decide +kernel
theorem dL_law_825 : decode cL_law 825 = .ok (.iaload, 1) := by decide +kernel
theorem dL_law_826 : decode cL_law 826 = .ok (.invokevirtual 109, 3) := by decide +kernel
theorem dL_law_829 : decode cL_law 829 = .ok (.aload_n 2, 1) := by decide +kernel
theorem dL_law_830 : decode cL_law 830 = .ok (.aload_n 0, 1) := by decide +kernel
theorem dL_law_831 : decode cL_law 831 = .ok (.iload_n 3, 1) := by decide +kernel
theorem dL_law_832 : decode cL_law 832 = .ok (.iconst 1, 1) := by decide +kernel
theorem dL_law_833 : decode cL_law 833 = .ok (.iadd, 1) := by decide +kernel
theorem dL_law_834 : decode cL_law 834 = .ok (.iaload, 1) := by decide +kernel
theorem dL_law_835 : decode cL_law 835 = .ok (.invokevirtual 112, 3) := by decide +kernel
theorem dL_law_838 : decode cL_law 838 = .ok (.if_icmp .eq 28, 3) := by decide +kernel
theorem dL_law_841 : decode cL_law 841 = .ok (.iconst 0, 1) := by decide +kernel
theorem dL_law_842 : decode cL_law 842 = .ok (.ireturn, 1) := by decide +kernel
theorem dL_law_843 : decode cL_law 843 = .ok (.aload_n 1, 1) := by decide +kernel
theorem dL_law_844 : decode cL_law 844 = .ok (.aload_n 0, 1) := by decide +kernel
theorem dL_law_845 : decode cL_law 845 = .ok (.iload_n 3, 1) := by decide +kernel
theorem dL_law_846 : decode cL_law 846 = .ok (.iconst 1, 1) := by decide +kernel
theorem dL_law_847 : decode cL_law 847 = .ok (.iadd, 1) := by decide +kernel
theorem dL_law_848 : decode cL_law 848 = .ok (.iaload, 1) := by decide +kernel
theorem dL_law_849 : decode cL_law 849 = .ok (.invokevirtual 113, 3) := by decide +kernel
theorem dL_law_852 : decode cL_law 852 = .ok (.aload_n 2, 1) := by decide +kernel
theorem dL_law_853 : decode cL_law 853 = .ok (.aload_n 0, 1) := by decide +kernel
theorem dL_law_854 : decode cL_law 854 = .ok (.iload_n 3, 1) := by decide +kernel
theorem dL_law_855 : decode cL_law 855 = .ok (.iconst 1, 1) := by decide +kernel
theorem dL_law_856 : decode cL_law 856 = .ok (.iadd, 1) := by decide +kernel
theorem dL_law_857 : decode cL_law 857 = .ok (.iaload, 1) := by decide +kernel
theorem dL_law_858 : decode cL_law 858 = .ok (.invokevirtual 116, 3) := by decide +kernel
theorem dL_law_861 : decode cL_law 861 = .ok (.if_icmp .eq 5, 3) := by decide +kernel
theorem dL_law_864 : decode cL_law 864 = .ok (.iconst 0, 1) := by decide +kernel
theorem dL_law_865 : decode cL_law 865 = .ok (.ireturn, 1) := by decide +kernel
theorem dL_law_866 : decode cL_law 866 = .ok (.iinc 3 5, 3) := by decide +kernel
theorem dL_law_869 : decode cL_law 869 = .ok (.goto (-851), 3) := by decide +kernel
theorem dL_law_872 : decode cL_law 872 = .ok (.iconst 1, 1) := by decide +kernel
theorem dL_law_873 : decode cL_law 873 = .ok (.ireturn, 1) := by decide +kernel
end
section
/-! a call on a String constant; the words of arraycopy and of Object.<init> -/
theorem q_vStr {g : QG} {md : MD} {p : Program} {s : State} {m : MethodId} {args : Array Value} {meth : Method} {c : Code} (h1 : QOK g) (h2 : QCx g md p s m args meth c) : vk_S 8 q_strL q_strB (fun i => q_o g (2000 + i)) (fun i => q_o g (3000 + i)) (q_A g) s s.heap :=
  (h1.2.2.2.2.2.1.moved h2.2.2.2.2.2.2.2.2.1.alike).kept (fun a _ hA => h2.2.2.2.2.2.2.2.2.2.1 a (Nat.not_le.mp hA))
theorem q_tvo (g : QG) {k : Nat} (h : 1000 ≤ k) : q_tv g (.ref k) = .ref (q_o g k) := by
  show Value.ref (if k < 1000 then q_b g + k else q_o g k) = _
  rw [if_neg (by omega)]
theorem FW.callTi {g : QG} {md md2 : MD} {pc : Nat} {l : List (Option Value)} {stk : List Value} {h : Hp} {KK : Option Int32 → QH → Prop} {idx n i : Nat} (hi : i < 8) (av rest : List Value) (hstk : stk = av.reverse ++ .ref (2000 + i) :: rest) (hd : decode (q_c md) pc = .ok (.invokevirtual idx, 3)) (hl : q_V (q_y md).cls idx md2 n) (hn : av.length = n) (hroom : q_room md md2) (h0 : q_none md2) (hst : (rest.map fun v => v.category).sum ≤ 8)
    (kk : FI g md2 (.ref (2000 + i) :: av) h (fun x h2 => FW g md (pc + 3) l (.int x :: rest) h2 KK)) (hy : (q_y md2).cls = "java/lang/String" := by rfl) : FW g md pc l stk h KK := by
  intro p e s m args below meth c H locs ls Q h1 h2 h3 h4 h5
  subst hstk
  have hM := QC.mono (q_ci h0) kk h1
  obtain ⟨hw1, ⟨hw2, hw3⟩, ⟨hw4, hw5⟩, hD⟩ := hl
  have hts := h2.2.2.2.2.2.1
  have hrc := vk_recv (q_vStr h1 h2) hi (q_vS h2 h3)
  rw [← hy] at hrc
  rw [List.map_cons, q_tvo g (by omega)] at hM
  refine q_back h1 h2 h3 h4 h5 (a := (Value.ref (q_o g (2000 + i)) :: av.map (q_tv g)).toArray) (va_runV (C := (q_y md2).cls) (b := q_o g (2000 + i)) (As := av.map (q_tv g)) (n := n) ⟨h2.1, h2.2.1, h2.2.2.2.1, h2.2.2.2.2.1, hts⟩ hM ⟨callB_of n hts (q_good hw5) rfl rfl rfl (hts _ hw4) (hts _ hw1) hD hroom, hts _ hw2, hts _ hw3⟩ ⟨q_blind _, hrc, q_pre h2 h3 _⟩ rfl (by rw [List.length_map]; exact hn) h4.1 ?_ (lv_room (q_rest hst)) hd (q_fit0 h0))
  show ((av.reverse ++ .ref (2000 + i) :: rest).map (q_tv g)) = _
  rw [List.map_append, List.map_reverse, List.map_cons, q_tvo g (by omega)]
theorem ly_rest : Cond.native arraycopyName ∈ TB ∧ Cond.static arraycopyName ∈ TB ∧ Cond.initialized "java/lang/System" ∈ TB := ⟨TB_at 375 (by decide +kernel) (by decide), TB_at 374 (by decide +kernel) (by decide), TB_at 59 (by decide +kernel) (by decide)⟩
set_option maxRecDepth 20000 in
theorem lo_rest : Cond.instanceMethod objectInit ∈ TB ∧ Cond.code objectInit ⟨#[0xb1]⟩ 1 none ∈ TB := ⟨TB_at 72 (by decide +kernel) (by decide), TB_at 73 (by rfl) (by decide)⟩
theorem loX7_1 : Cond.methodLink RX7 1 objectInit ∈ TB ∧ Cond.instanceMethod objectInit ∈ TB ∧ Cond.code objectInit ⟨#[0xb1]⟩ 1 none ∈ TB := ⟨TB_at 71 (by decide +kernel) (by decide), lo_rest⟩
theorem loX6_3 : Cond.methodLink RX6 3 objectInit ∈ TB ∧ Cond.instanceMethod objectInit ∈ TB ∧ Cond.code objectInit ⟨#[0xb1]⟩ 1 none ∈ TB := ⟨TB_at 79 (by decide +kernel) (by decide), lo_rest⟩
theorem loX5_3 : Cond.methodLink RX5 3 objectInit ∈ TB ∧ Cond.instanceMethod objectInit ∈ TB ∧ Cond.code objectInit ⟨#[0xb1]⟩ 1 none ∈ TB := ⟨TB_at 135 (by decide +kernel) (by decide), lo_rest⟩
theorem loX3_3 : Cond.methodLink RX3 3 objectInit ∈ TB ∧ Cond.instanceMethod objectInit ∈ TB ∧ Cond.code objectInit ⟨#[0xb1]⟩ 1 none ∈ TB := ⟨TB_at 171 (by decide +kernel) (by decide), lo_rest⟩
theorem loX2_3 : Cond.methodLink RX2 3 objectInit ∈ TB ∧ Cond.instanceMethod objectInit ∈ TB ∧ Cond.code objectInit ⟨#[0xb1]⟩ 1 none ∈ TB := ⟨TB_at 201 (by decide +kernel) (by decide), lo_rest⟩
theorem loX1_3 : Cond.methodLink RX1 3 objectInit ∈ TB ∧ Cond.instanceMethod objectInit ∈ TB ∧ Cond.code objectInit ⟨#[0xb1]⟩ 1 none ∈ TB := ⟨TB_at 235 (by decide +kernel) (by decide), lo_rest⟩
theorem loX0_3 : Cond.methodLink RX0 3 objectInit ∈ TB ∧ Cond.instanceMethod objectInit ∈ TB ∧ Cond.code objectInit ⟨#[0xb1]⟩ 1 none ∈ TB := ⟨TB_at 267 (by decide +kernel) (by decide), lo_rest⟩
theorem loX4_3 : Cond.methodLink RX4 3 objectInit ∈ TB ∧ Cond.instanceMethod objectInit ∈ TB ∧ Cond.code objectInit ⟨#[0xb1]⟩ 1 none ∈ TB := ⟨TB_at 308 (by decide +kernel) (by decide), lo_rest⟩
theorem lyX6_37 : Cond.methodLink RX6 37 arraycopyName ∈ TB ∧ Cond.native arraycopyName ∈ TB ∧ Cond.static arraycopyName ∈ TB ∧ Cond.initialized "java/lang/System" ∈ TB := ⟨TB_at 373 (by decide +kernel) (by decide), ly_rest⟩
theorem lyX0_43 : Cond.methodLink RX0 43 arraycopyName ∈ TB ∧ Cond.native arraycopyName ∈ TB ∧ Cond.static arraycopyName ∈ TB ∧ Cond.initialized "java/lang/System" ∈ TB := ⟨TB_at 503 (by decide +kernel) (by decide), ly_rest⟩
theorem lyX7_167 : Cond.methodLink RX7 167 arraycopyName ∈ TB ∧ Cond.native arraycopyName ∈ TB ∧ Cond.static arraycopyName ∈ TB ∧ Cond.initialized "java/lang/System" ∈ TB := ⟨TB_at 569 (by decide +kernel) (by decide), ly_rest⟩
theorem lyX2_32 : Cond.methodLink RX2 32 arraycopyName ∈ TB ∧ Cond.native arraycopyName ∈ TB ∧ Cond.static arraycopyName ∈ TB ∧ Cond.initialized "java/lang/System" ∈ TB := ⟨TB_at 649 (by decide +kernel) (by decide), ly_rest⟩
theorem lyX1_60 : Cond.methodLink RX1 60 arraycopyName ∈ TB ∧ Cond.native arraycopyName ∈ TB ∧ Cond.static arraycopyName ∈ TB ∧ Cond.initialized "java/lang/System" ∈ TB := ⟨TB_at 708 (by decide +kernel) (by decide), ly_rest⟩
theorem loX8_1 : Cond.methodLink RX8 1 objectInit ∈ TB ∧ Cond.instanceMethod objectInit ∈ TB ∧ Cond.code objectInit ⟨#[0xb1]⟩ 1 none ∈ TB := ⟨TB_at 806 (by decide +kernel) (by decide), lo_rest⟩
theorem la_int : Cond.arrayClass .int ∈ TB := TB_at 129 (by decide +kernel) (by decide)
theorem la_boolean : Cond.arrayClass .boolean ∈ TB := TB_at 910 (by decide +kernel) (by decide)
end
