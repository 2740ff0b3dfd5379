section
-- ===== PART A: goes FIRST, ahead of the names: the tables' words, and 'selects' of the private methods out of them =====
/-- a private method of a class that the tables say can be made, by its rows of tables_1 -/
def lw_okq (q : MethodName × Nat) : Prop := (q.1.cls ≠ "java/lang/invoke/MethodHandle" ∧ q.1.cls ≠ "java/lang/invoke/VarHandle") ∧ Cond.instantiable q.1.cls q.2 ∈ tables_1 ∧ Cond.privateMethod q.1 ∈ tables_1 ∧ Cond.instanceMethod q.1 ∈ tables_1
theorem lw_p0 : lw_okq (⟨"NamesThatShrink$CrowdText", "readLine", "()Z"⟩, 5) := ⟨⟨by decide +kernel, by decide +kernel⟩, List.mem_of_getElem? (i := 141) (by decide +kernel), List.mem_of_getElem? (i := 494) (by decide +kernel), List.mem_of_getElem? (i := 495) (by decide +kernel)⟩
theorem lw_p1 : lw_okq (⟨"NamesThatShrink$Crowd", "log", "(II)V"⟩, 11) := ⟨⟨by decide +kernel, by decide +kernel⟩, List.mem_of_getElem? (i := 79) (by decide +kernel), List.mem_of_getElem? (i := 566) (by decide +kernel), List.mem_of_getElem? (i := 567) (by decide +kernel)⟩
theorem lw_p2 : lw_okq (⟨"NamesThatShrink$Order", "readSteps", "(I)Z"⟩, 12) := ⟨⟨by decide +kernel, by decide +kernel⟩, List.mem_of_getElem? (i := 163) (by decide +kernel), List.mem_of_getElem? (i := 610) (by decide +kernel), List.mem_of_getElem? (i := 611) (by decide +kernel)⟩
theorem lw_p3 : lw_okq (⟨"NamesThatShrink$Order", "readStep", "(I)Z"⟩, 12) := ⟨⟨by decide +kernel, by decide +kernel⟩, List.mem_of_getElem? (i := 163) (by decide +kernel), List.mem_of_getElem? (i := 614) (by decide +kernel), List.mem_of_getElem? (i := 615) (by decide +kernel)⟩
theorem lw_p4 : lw_okq (⟨"NamesThatShrink$Order", "readBlock", "(III)Z"⟩, 12) := ⟨⟨by decide +kernel, by decide +kernel⟩, List.mem_of_getElem? (i := 163) (by decide +kernel), List.mem_of_getElem? (i := 619) (by decide +kernel), List.mem_of_getElem? (i := 620) (by decide +kernel)⟩
theorem lw_p5 : lw_okq (⟨"NamesThatShrink$Order", "put", "(II)Z"⟩, 12) := ⟨⟨by decide +kernel, by decide +kernel⟩, List.mem_of_getElem? (i := 163) (by decide +kernel), List.mem_of_getElem? (i := 624) (by decide +kernel), List.mem_of_getElem? (i := 625) (by decide +kernel)⟩
theorem lw_p6 : lw_okq (⟨"NamesThatShrink$Order", "doSteps", "(III)V"⟩, 12) := ⟨⟨by decide +kernel, by decide +kernel⟩, List.mem_of_getElem? (i := 163) (by decide +kernel), List.mem_of_getElem? (i := 634) (by decide +kernel), List.mem_of_getElem? (i := 635) (by decide +kernel)⟩
theorem lw_p7 : lw_okq (⟨"NamesThatShrink$Order", "doStep", "(II)V"⟩, 12) := ⟨⟨by decide +kernel, by decide +kernel⟩, List.mem_of_getElem? (i := 163) (by decide +kernel), List.mem_of_getElem? (i := 639) (by decide +kernel), List.mem_of_getElem? (i := 640) (by decide +kernel)⟩
theorem lw_p8 : lw_okq (⟨"NamesThatShrink$Order", "callOne", "(I)V"⟩, 12) := ⟨⟨by decide +kernel, by decide +kernel⟩, List.mem_of_getElem? (i := 163) (by decide +kernel), List.mem_of_getElem? (i := 643) (by decide +kernel), List.mem_of_getElem? (i := 644) (by decide +kernel)⟩
theorem lw_p9 : lw_okq (⟨"NamesThatShrink$Order", "callAll", "(I)V"⟩, 12) := ⟨⟨by decide +kernel, by decide +kernel⟩, List.mem_of_getElem? (i := 163) (by decide +kernel), List.mem_of_getElem? (i := 649) (by decide +kernel), List.mem_of_getElem? (i := 650) (by decide +kernel)⟩
theorem lw_p10 : lw_okq (⟨"NamesThatShrink$Order", "list", "(I)I"⟩, 12) := ⟨⟨by decide +kernel, by decide +kernel⟩, List.mem_of_getElem? (i := 163) (by decide +kernel), List.mem_of_getElem? (i := 653) (by decide +kernel), List.mem_of_getElem? (i := 654) (by decide +kernel)⟩
theorem lw_p11 : lw_okq (⟨"NamesThatShrink$Order", "insert", "(II)I"⟩, 12) := ⟨⟨by decide +kernel, by decide +kernel⟩, List.mem_of_getElem? (i := 163) (by decide +kernel), List.mem_of_getElem? (i := 658) (by decide +kernel), List.mem_of_getElem? (i := 659) (by decide +kernel)⟩
theorem lw_p12 : lw_okq (⟨"NamesThatShrink$Order", "repeat", "(II)V"⟩, 12) := ⟨⟨by decide +kernel, by decide +kernel⟩, List.mem_of_getElem? (i := 163) (by decide +kernel), List.mem_of_getElem? (i := 662) (by decide +kernel), List.mem_of_getElem? (i := 663) (by decide +kernel)⟩
theorem lw_p13 : lw_okq (⟨"NamesThatShrink$Order", "until", "(II)V"⟩, 12) := ⟨⟨by decide +kernel, by decide +kernel⟩, List.mem_of_getElem? (i := 163) (by decide +kernel), List.mem_of_getElem? (i := 666) (by decide +kernel), List.mem_of_getElem? (i := 667) (by decide +kernel)⟩
theorem lw_p14 : lw_okq (⟨"NamesThatShrink", "areTwo", "(II)Z"⟩, 9) := ⟨⟨by decide +kernel, by decide +kernel⟩, List.mem_of_getElem? (i := 25) (by decide +kernel), List.mem_of_getElem? (i := 683) (by decide +kernel), List.mem_of_getElem? (i := 684) (by decide +kernel)⟩
theorem lw_p15 : lw_okq (⟨"NamesThatShrink$Search", "lineUp", "(LNamesThatShrink$Crowd;)V"⟩, 20) := ⟨⟨by decide +kernel, by decide +kernel⟩, List.mem_of_getElem? (i := 210) (by decide +kernel), List.mem_of_getElem? (i := 753) (by decide +kernel), List.mem_of_getElem? (i := 754) (by decide +kernel)⟩
def lw_privs_1 : List (MethodName × Nat) := [(⟨"NamesThatShrink$CrowdText", "readLine", "()Z"⟩, 5), (⟨"NamesThatShrink$Crowd", "log", "(II)V"⟩, 11), (⟨"NamesThatShrink$Order", "readSteps", "(I)Z"⟩, 12), (⟨"NamesThatShrink$Order", "readStep", "(I)Z"⟩, 12), (⟨"NamesThatShrink$Order", "readBlock", "(III)Z"⟩, 12), (⟨"NamesThatShrink$Order", "put", "(II)Z"⟩, 12), (⟨"NamesThatShrink$Order", "doSteps", "(III)V"⟩, 12), (⟨"NamesThatShrink$Order", "doStep", "(II)V"⟩, 12), (⟨"NamesThatShrink$Order", "callOne", "(I)V"⟩, 12), (⟨"NamesThatShrink$Order", "callAll", "(I)V"⟩, 12), (⟨"NamesThatShrink$Order", "list", "(I)I"⟩, 12), (⟨"NamesThatShrink$Order", "insert", "(II)I"⟩, 12), (⟨"NamesThatShrink$Order", "repeat", "(II)V"⟩, 12), (⟨"NamesThatShrink$Order", "until", "(II)V"⟩, 12), (⟨"NamesThatShrink", "areTwo", "(II)Z"⟩, 9), (⟨"NamesThatShrink$Search", "lineUp", "(LNamesThatShrink$Crowd;)V"⟩, 20)]
theorem lw_r1 : ∀ q ∈ lw_privs_1, lw_okq q := List.forall_mem_cons.mpr ⟨lw_p0, List.forall_mem_cons.mpr ⟨lw_p1, List.forall_mem_cons.mpr ⟨lw_p2, List.forall_mem_cons.mpr ⟨lw_p3, List.forall_mem_cons.mpr ⟨lw_p4, List.forall_mem_cons.mpr ⟨lw_p5, List.forall_mem_cons.mpr ⟨lw_p6, List.forall_mem_cons.mpr ⟨lw_p7, List.forall_mem_cons.mpr ⟨lw_p8, List.forall_mem_cons.mpr ⟨lw_p9, List.forall_mem_cons.mpr ⟨lw_p10, List.forall_mem_cons.mpr ⟨lw_p11, List.forall_mem_cons.mpr ⟨lw_p12, List.forall_mem_cons.mpr ⟨lw_p13, List.forall_mem_cons.mpr ⟨lw_p14, List.forall_mem_cons.mpr ⟨lw_p15, fun _ h => absurd h List.not_mem_nil⟩⟩⟩⟩⟩⟩⟩⟩⟩⟩⟩⟩⟩⟩⟩⟩
theorem lw_p16 : lw_okq (⟨"NamesThatShrink$Search", "isKnown", "(LNamesThatShrink$Crowd;)Z"⟩, 20) := ⟨⟨by decide +kernel, by decide +kernel⟩, List.mem_of_getElem? (i := 210) (by decide +kernel), List.mem_of_getElem? (i := 757) (by decide +kernel), List.mem_of_getElem? (i := 758) (by decide +kernel)⟩
theorem lw_p17 : lw_okq (⟨"NamesThatShrink$Lineup", "insert", "(II)V"⟩, 10) := ⟨⟨by decide +kernel, by decide +kernel⟩, List.mem_of_getElem? (i := 216) (by decide +kernel), List.mem_of_getElem? (i := 768) (by decide +kernel), List.mem_of_getElem? (i := 769) (by decide +kernel)⟩
theorem lw_p18 : lw_okq (⟨"NamesThatShrink$Lineup", "spell", "(I)V"⟩, 10) := ⟨⟨by decide +kernel, by decide +kernel⟩, List.mem_of_getElem? (i := 216) (by decide +kernel), List.mem_of_getElem? (i := 776) (by decide +kernel), List.mem_of_getElem? (i := 777) (by decide +kernel)⟩
theorem lw_p19 : lw_okq (⟨"NamesThatShrink$Lineup", "findSharing", "(I)V"⟩, 10) := ⟨⟨by decide +kernel, by decide +kernel⟩, List.mem_of_getElem? (i := 216) (by decide +kernel), List.mem_of_getElem? (i := 784) (by decide +kernel), List.mem_of_getElem? (i := 785) (by decide +kernel)⟩
theorem lw_p20 : lw_okq (⟨"NamesThatShrink$Lineup", "findGroups", "()V"⟩, 10) := ⟨⟨by decide +kernel, by decide +kernel⟩, List.mem_of_getElem? (i := 216) (by decide +kernel), List.mem_of_getElem? (i := 788) (by decide +kernel), List.mem_of_getElem? (i := 789) (by decide +kernel)⟩
theorem lw_p21 : lw_okq (⟨"NamesThatShrink$Lineup", "namesakes", "(I)I"⟩, 10) := ⟨⟨by decide +kernel, by decide +kernel⟩, List.mem_of_getElem? (i := 216) (by decide +kernel), List.mem_of_getElem? (i := 796) (by decide +kernel), List.mem_of_getElem? (i := 797) (by decide +kernel)⟩
theorem lw_p22 : lw_okq (⟨"NamesThatShrink$Lineup", "sumFromAbove", "(I)V"⟩, 10) := ⟨⟨by decide +kernel, by decide +kernel⟩, List.mem_of_getElem? (i := 216) (by decide +kernel), List.mem_of_getElem? (i := 800) (by decide +kernel), List.mem_of_getElem? (i := 801) (by decide +kernel)⟩
theorem lw_p23 : lw_okq (⟨"NamesThatShrink$Lineup", "placeAhead", "(I)I"⟩, 10) := ⟨⟨by decide +kernel, by decide +kernel⟩, List.mem_of_getElem? (i := 216) (by decide +kernel), List.mem_of_getElem? (i := 808) (by decide +kernel), List.mem_of_getElem? (i := 809) (by decide +kernel)⟩
theorem lw_p24 : lw_okq (⟨"NamesThatShrink", "tellsOfNobody", "(J)Z"⟩, 9) := ⟨⟨by decide +kernel, by decide +kernel⟩, List.mem_of_getElem? (i := 25) (by decide +kernel), List.mem_of_getElem? (i := 819) (by decide +kernel), List.mem_of_getElem? (i := 820) (by decide +kernel)⟩
theorem lw_p25 : lw_okq (⟨"NamesThatShrink$Search", "spreadAll", "(I)I"⟩, 20) := ⟨⟨by decide +kernel, by decide +kernel⟩, List.mem_of_getElem? (i := 210) (by decide +kernel), List.mem_of_getElem? (i := 827) (by decide +kernel), List.mem_of_getElem? (i := 828) (by decide +kernel)⟩
theorem lw_p26 : lw_okq (⟨"NamesThatShrink$Search", "makeRoom", "(I)V"⟩, 20) := ⟨⟨by decide +kernel, by decide +kernel⟩, List.mem_of_getElem? (i := 210) (by decide +kernel), List.mem_of_getElem? (i := 831) (by decide +kernel), List.mem_of_getElem? (i := 832) (by decide +kernel)⟩
theorem lw_p27 : lw_okq (⟨"NamesThatShrink$Search", "spread", "(I)V"⟩, 20) := ⟨⟨by decide +kernel, by decide +kernel⟩, List.mem_of_getElem? (i := 210) (by decide +kernel), List.mem_of_getElem? (i := 837) (by decide +kernel), List.mem_of_getElem? (i := 838) (by decide +kernel)⟩
theorem lw_p28 : lw_okq (⟨"NamesThatShrink$Search", "startOf", "(I)J"⟩, 20) := ⟨⟨by decide +kernel, by decide +kernel⟩, List.mem_of_getElem? (i := 210) (by decide +kernel), List.mem_of_getElem? (i := 841) (by decide +kernel), List.mem_of_getElem? (i := 842) (by decide +kernel)⟩
theorem lw_p29 : lw_okq (⟨"NamesThatShrink$Search", "add", "(JII)V"⟩, 20) := ⟨⟨by decide +kernel, by decide +kernel⟩, List.mem_of_getElem? (i := 210) (by decide +kernel), List.mem_of_getElem? (i := 848) (by decide +kernel), List.mem_of_getElem? (i := 849) (by decide +kernel)⟩
theorem lw_p30 : lw_okq (⟨"NamesThatShrink$Search", "slotOf", "(J)I"⟩, 20) := ⟨⟨by decide +kernel, by decide +kernel⟩, List.mem_of_getElem? (i := 210) (by decide +kernel), List.mem_of_getElem? (i := 852) (by decide +kernel), List.mem_of_getElem? (i := 853) (by decide +kernel)⟩
theorem lw_p31 : lw_okq (⟨"NamesThatShrink$Search", "isTaken", "(I)Z"⟩, 20) := ⟨⟨by decide +kernel, by decide +kernel⟩, List.mem_of_getElem? (i := 210) (by decide +kernel), List.mem_of_getElem? (i := 857) (by decide +kernel), List.mem_of_getElem? (i := 858) (by decide +kernel)⟩
def lw_privs_2 : List (MethodName × Nat) := [(⟨"NamesThatShrink$Search", "isKnown", "(LNamesThatShrink$Crowd;)Z"⟩, 20), (⟨"NamesThatShrink$Lineup", "insert", "(II)V"⟩, 10), (⟨"NamesThatShrink$Lineup", "spell", "(I)V"⟩, 10), (⟨"NamesThatShrink$Lineup", "findSharing", "(I)V"⟩, 10), (⟨"NamesThatShrink$Lineup", "findGroups", "()V"⟩, 10), (⟨"NamesThatShrink$Lineup", "namesakes", "(I)I"⟩, 10), (⟨"NamesThatShrink$Lineup", "sumFromAbove", "(I)V"⟩, 10), (⟨"NamesThatShrink$Lineup", "placeAhead", "(I)I"⟩, 10), (⟨"NamesThatShrink", "tellsOfNobody", "(J)Z"⟩, 9), (⟨"NamesThatShrink$Search", "spreadAll", "(I)I"⟩, 20), (⟨"NamesThatShrink$Search", "makeRoom", "(I)V"⟩, 20), (⟨"NamesThatShrink$Search", "spread", "(I)V"⟩, 20), (⟨"NamesThatShrink$Search", "startOf", "(I)J"⟩, 20), (⟨"NamesThatShrink$Search", "add", "(JII)V"⟩, 20), (⟨"NamesThatShrink$Search", "slotOf", "(J)I"⟩, 20), (⟨"NamesThatShrink$Search", "isTaken", "(I)Z"⟩, 20)]
theorem lw_r2 : ∀ q ∈ lw_privs_2, lw_okq q := List.forall_mem_cons.mpr ⟨lw_p16, List.forall_mem_cons.mpr ⟨lw_p17, List.forall_mem_cons.mpr ⟨lw_p18, List.forall_mem_cons.mpr ⟨lw_p19, List.forall_mem_cons.mpr ⟨lw_p20, List.forall_mem_cons.mpr ⟨lw_p21, List.forall_mem_cons.mpr ⟨lw_p22, List.forall_mem_cons.mpr ⟨lw_p23, List.forall_mem_cons.mpr ⟨lw_p24, List.forall_mem_cons.mpr ⟨lw_p25, List.forall_mem_cons.mpr ⟨lw_p26, List.forall_mem_cons.mpr ⟨lw_p27, List.forall_mem_cons.mpr ⟨lw_p28, List.forall_mem_cons.mpr ⟨lw_p29, List.forall_mem_cons.mpr ⟨lw_p30, List.forall_mem_cons.mpr ⟨lw_p31, fun _ h => absurd h List.not_mem_nil⟩⟩⟩⟩⟩⟩⟩⟩⟩⟩⟩⟩⟩⟩⟩⟩
theorem lw_p32 : lw_okq (⟨"NamesThatShrink$Search", "expand", "(I)V"⟩, 20) := ⟨⟨by decide +kernel, by decide +kernel⟩, List.mem_of_getElem? (i := 210) (by decide +kernel), List.mem_of_getElem? (i := 861) (by decide +kernel), List.mem_of_getElem? (i := 862) (by decide +kernel)⟩
theorem lw_p33 : lw_okq (⟨"NamesThatShrink$Search", "bestOf", "(IZ)I"⟩, 20) := ⟨⟨by decide +kernel, by decide +kernel⟩, List.mem_of_getElem? (i := 210) (by decide +kernel), List.mem_of_getElem? (i := 898) (by decide +kernel), List.mem_of_getElem? (i := 899) (by decide +kernel)⟩
theorem lw_p34 : lw_okq (⟨"NamesThatShrink$Search", "isWanted", "(JJ)Z"⟩, 20) := ⟨⟨by decide +kernel, by decide +kernel⟩, List.mem_of_getElem? (i := 210) (by decide +kernel), List.mem_of_getElem? (i := 902) (by decide +kernel), List.mem_of_getElem? (i := 903) (by decide +kernel)⟩
theorem lw_p35 : lw_okq (⟨"NamesThatShrink$Search", "trace", "(II)V"⟩, 20) := ⟨⟨by decide +kernel, by decide +kernel⟩, List.mem_of_getElem? (i := 210) (by decide +kernel), List.mem_of_getElem? (i := 906) (by decide +kernel), List.mem_of_getElem? (i := 907) (by decide +kernel)⟩
theorem lw_p36 : lw_okq (⟨"NamesThatShrink$Search", "nextCall", "()I"⟩, 20) := ⟨⟨by decide +kernel, by decide +kernel⟩, List.mem_of_getElem? (i := 210) (by decide +kernel), List.mem_of_getElem? (i := 914) (by decide +kernel), List.mem_of_getElem? (i := 915) (by decide +kernel)⟩
theorem lw_p37 : lw_okq (⟨"NamesThatShrink$NewNames", "choose", "(I[I)V"⟩, 10) := ⟨⟨by decide +kernel, by decide +kernel⟩, List.mem_of_getElem? (i := 330) (by decide +kernel), List.mem_of_getElem? (i := 981) (by decide +kernel), List.mem_of_getElem? (i := 982) (by decide +kernel)⟩
theorem lw_p38 : lw_okq (⟨"NamesThatShrink$NewNames", "limitAt", "(I)I"⟩, 10) := ⟨⟨by decide +kernel, by decide +kernel⟩, List.mem_of_getElem? (i := 330) (by decide +kernel), List.mem_of_getElem? (i := 994) (by decide +kernel), List.mem_of_getElem? (i := 995) (by decide +kernel)⟩
theorem lw_p39 : lw_okq (⟨"NamesThatShrink$NewNames", "addLetter", "(LNamesThatShrink$Picks;LNamesThatShrink$Picks;II)V"⟩, 10) := ⟨⟨by decide +kernel, by decide +kernel⟩, List.mem_of_getElem? (i := 330) (by decide +kernel), List.mem_of_getElem? (i := 998) (by decide +kernel), List.mem_of_getElem? (i := 999) (by decide +kernel)⟩
theorem lw_p40 : lw_okq (⟨"NamesThatShrink$NewNames", "pick", "(II)V"⟩, 10) := ⟨⟨by decide +kernel, by decide +kernel⟩, List.mem_of_getElem? (i := 330) (by decide +kernel), List.mem_of_getElem? (i := 1009) (by decide +kernel), List.mem_of_getElem? (i := 1010) (by decide +kernel)⟩
theorem lw_p41 : lw_okq (⟨"NamesThatShrink$NewNames", "isBarred", "(I)Z"⟩, 10) := ⟨⟨by decide +kernel, by decide +kernel⟩, List.mem_of_getElem? (i := 330) (by decide +kernel), List.mem_of_getElem? (i := 1013) (by decide +kernel), List.mem_of_getElem? (i := 1014) (by decide +kernel)⟩
theorem lw_p42 : lw_okq (⟨"NamesThatShrink$NewNames", "leadsToBarred", "(I)Z"⟩, 10) := ⟨⟨by decide +kernel, by decide +kernel⟩, List.mem_of_getElem? (i := 330) (by decide +kernel), List.mem_of_getElem? (i := 1017) (by decide +kernel), List.mem_of_getElem? (i := 1018) (by decide +kernel)⟩
theorem lw_p43 : lw_okq (⟨"NamesThatShrink$NewNames", "countSafe", "(II)I"⟩, 10) := ⟨⟨by decide +kernel, by decide +kernel⟩, List.mem_of_getElem? (i := 330) (by decide +kernel), List.mem_of_getElem? (i := 1041) (by decide +kernel), List.mem_of_getElem? (i := 1042) (by decide +kernel)⟩
theorem lw_p44 : lw_okq (⟨"NamesThatShrink$Listener", "firstAnswered", "()I"⟩, 4) := ⟨⟨by decide +kernel, by decide +kernel⟩, List.mem_of_getElem? (i := 389) (by decide +kernel), List.mem_of_getElem? (i := 1069) (by decide +kernel), List.mem_of_getElem? (i := 1070) (by decide +kernel)⟩
theorem lw_p45 : lw_okq (⟨"NamesThatShrink$Listener", "isWithin", "(I)Z"⟩, 4) := ⟨⟨by decide +kernel, by decide +kernel⟩, List.mem_of_getElem? (i := 389) (by decide +kernel), List.mem_of_getElem? (i := 1073) (by decide +kernel), List.mem_of_getElem? (i := 1074) (by decide +kernel)⟩
theorem lw_p46 : lw_okq (⟨"NamesThatShrink$Listener", "firstHeard", "(I)I"⟩, 4) := ⟨⟨by decide +kernel, by decide +kernel⟩, List.mem_of_getElem? (i := 389) (by decide +kernel), List.mem_of_getElem? (i := 1082) (by decide +kernel), List.mem_of_getElem? (i := 1083) (by decide +kernel)⟩
theorem lw_p47 : lw_okq (⟨"NamesThatShrink$Listener", "following", "(I)I"⟩, 4) := ⟨⟨by decide +kernel, by decide +kernel⟩, List.mem_of_getElem? (i := 389) (by decide +kernel), List.mem_of_getElem? (i := 1090) (by decide +kernel), List.mem_of_getElem? (i := 1091) (by decide +kernel)⟩
def lw_privs_3 : List (MethodName × Nat) := [(⟨"NamesThatShrink$Search", "expand", "(I)V"⟩, 20), (⟨"NamesThatShrink$Search", "bestOf", "(IZ)I"⟩, 20), (⟨"NamesThatShrink$Search", "isWanted", "(JJ)Z"⟩, 20), (⟨"NamesThatShrink$Search", "trace", "(II)V"⟩, 20), (⟨"NamesThatShrink$Search", "nextCall", "()I"⟩, 20), (⟨"NamesThatShrink$NewNames", "choose", "(I[I)V"⟩, 10), (⟨"NamesThatShrink$NewNames", "limitAt", "(I)I"⟩, 10), (⟨"NamesThatShrink$NewNames", "addLetter", "(LNamesThatShrink$Picks;LNamesThatShrink$Picks;II)V"⟩, 10), (⟨"NamesThatShrink$NewNames", "pick", "(II)V"⟩, 10), (⟨"NamesThatShrink$NewNames", "isBarred", "(I)Z"⟩, 10), (⟨"NamesThatShrink$NewNames", "leadsToBarred", "(I)Z"⟩, 10), (⟨"NamesThatShrink$NewNames", "countSafe", "(II)I"⟩, 10), (⟨"NamesThatShrink$Listener", "firstAnswered", "()I"⟩, 4), (⟨"NamesThatShrink$Listener", "isWithin", "(I)Z"⟩, 4), (⟨"NamesThatShrink$Listener", "firstHeard", "(I)I"⟩, 4), (⟨"NamesThatShrink$Listener", "following", "(I)I"⟩, 4)]
theorem lw_r3 : ∀ q ∈ lw_privs_3, lw_okq q := List.forall_mem_cons.mpr ⟨lw_p32, List.forall_mem_cons.mpr ⟨lw_p33, List.forall_mem_cons.mpr ⟨lw_p34, List.forall_mem_cons.mpr ⟨lw_p35, List.forall_mem_cons.mpr ⟨lw_p36, List.forall_mem_cons.mpr ⟨lw_p37, List.forall_mem_cons.mpr ⟨lw_p38, List.forall_mem_cons.mpr ⟨lw_p39, List.forall_mem_cons.mpr ⟨lw_p40, List.forall_mem_cons.mpr ⟨lw_p41, List.forall_mem_cons.mpr ⟨lw_p42, List.forall_mem_cons.mpr ⟨lw_p43, List.forall_mem_cons.mpr ⟨lw_p44, List.forall_mem_cons.mpr ⟨lw_p45, List.forall_mem_cons.mpr ⟨lw_p46, List.forall_mem_cons.mpr ⟨lw_p47, fun _ h => absurd h List.not_mem_nil⟩⟩⟩⟩⟩⟩⟩⟩⟩⟩⟩⟩⟩⟩⟩⟩
theorem lw_p48 : lw_okq (⟨"java/lang/Throwable", "fillInStackTrace", "(I)Ljava/lang/Throwable;"⟩, 6) := ⟨⟨by decide +kernel, by decide +kernel⟩, List.mem_of_getElem? (i := 1182) (by decide +kernel), List.mem_of_getElem? (i := 1180) (by decide +kernel), List.mem_of_getElem? (i := 1181) (by decide +kernel)⟩
theorem lw_p49 : lw_okq (⟨"NamesThatShrinkModel", "begins", "(I)I"⟩, 49) := ⟨⟨by decide +kernel, by decide +kernel⟩, List.mem_of_getElem? (i := 1235) (by decide +kernel), List.mem_of_getElem? (i := 1233) (by decide +kernel), List.mem_of_getElem? (i := 1234) (by decide +kernel)⟩
theorem lw_p50 : lw_okq (⟨"NamesThatShrinkModel", "readsLine", "()Z"⟩, 49) := ⟨⟨by decide +kernel, by decide +kernel⟩, List.mem_of_getElem? (i := 1235) (by decide +kernel), List.mem_of_getElem? (i := 1239) (by decide +kernel), List.mem_of_getElem? (i := 1240) (by decide +kernel)⟩
theorem lw_p51 : lw_okq (⟨"NamesThatShrinkModel", "letters", "()I"⟩, 49) := ⟨⟨by decide +kernel, by decide +kernel⟩, List.mem_of_getElem? (i := 1235) (by decide +kernel), List.mem_of_getElem? (i := 1243) (by decide +kernel), List.mem_of_getElem? (i := 1244) (by decide +kernel)⟩
theorem lw_p52 : lw_okq (⟨"NamesThatShrinkModel", "isLetter", "()Z"⟩, 49) := ⟨⟨by decide +kernel, by decide +kernel⟩, List.mem_of_getElem? (i := 1235) (by decide +kernel), List.mem_of_getElem? (i := 1247) (by decide +kernel), List.mem_of_getElem? (i := 1248) (by decide +kernel)⟩
theorem lw_p53 : lw_okq (⟨"NamesThatShrinkModel", "takes", "(I)Z"⟩, 49) := ⟨⟨by decide +kernel, by decide +kernel⟩, List.mem_of_getElem? (i := 1235) (by decide +kernel), List.mem_of_getElem? (i := 1253) (by decide +kernel), List.mem_of_getElem? (i := 1254) (by decide +kernel)⟩
theorem lw_p54 : lw_okq (⟨"NamesThatShrinkModel", "isDigit", "()Z"⟩, 49) := ⟨⟨by decide +kernel, by decide +kernel⟩, List.mem_of_getElem? (i := 1235) (by decide +kernel), List.mem_of_getElem? (i := 1260) (by decide +kernel), List.mem_of_getElem? (i := 1261) (by decide +kernel)⟩
theorem lw_p55 : lw_okq (⟨"NamesThatShrinkModel", "faultOf", "(IIZ)I"⟩, 49) := ⟨⟨by decide +kernel, by decide +kernel⟩, List.mem_of_getElem? (i := 1235) (by decide +kernel), List.mem_of_getElem? (i := 1266) (by decide +kernel), List.mem_of_getElem? (i := 1267) (by decide +kernel)⟩
theorem lw_p56 : lw_okq (⟨"NamesThatShrinkModel", "isPerson", "(I)Z"⟩, 49) := ⟨⟨by decide +kernel, by decide +kernel⟩, List.mem_of_getElem? (i := 1235) (by decide +kernel), List.mem_of_getElem? (i := 1285) (by decide +kernel), List.mem_of_getElem? (i := 1286) (by decide +kernel)⟩
theorem lw_p57 : lw_okq (⟨"NamesThatShrinkModel", "refuse", "()I"⟩, 49) := ⟨⟨by decide +kernel, by decide +kernel⟩, List.mem_of_getElem? (i := 1235) (by decide +kernel), List.mem_of_getElem? (i := 1289) (by decide +kernel), List.mem_of_getElem? (i := 1290) (by decide +kernel)⟩
theorem lw_p58 : lw_okq (⟨"NamesThatShrinkModel", "calls", "(I)I"⟩, 49) := ⟨⟨by decide +kernel, by decide +kernel⟩, List.mem_of_getElem? (i := 1235) (by decide +kernel), List.mem_of_getElem? (i := 1307) (by decide +kernel), List.mem_of_getElem? (i := 1308) (by decide +kernel)⟩
theorem lw_p59 : lw_okq (⟨"NamesThatShrinkModel", "whoHave", "(I)I"⟩, 49) := ⟨⟨by decide +kernel, by decide +kernel⟩, List.mem_of_getElem? (i := 1235) (by decide +kernel), List.mem_of_getElem? (i := 1311) (by decide +kernel), List.mem_of_getElem? (i := 1312) (by decide +kernel)⟩
theorem lw_p60 : lw_okq (⟨"NamesThatShrinkModel", "turns", "(II)V"⟩, 49) := ⟨⟨by decide +kernel, by decide +kernel⟩, List.mem_of_getElem? (i := 1235) (by decide +kernel), List.mem_of_getElem? (i := 1316) (by decide +kernel), List.mem_of_getElem? (i := 1317) (by decide +kernel)⟩
theorem lw_p61 : lw_okq (⟨"NamesThatShrinkModel", "steps", "()Z"⟩, 49) := ⟨⟨by decide +kernel, by decide +kernel⟩, List.mem_of_getElem? (i := 1235) (by decide +kernel), List.mem_of_getElem? (i := 1345) (by decide +kernel), List.mem_of_getElem? (i := 1346) (by decide +kernel)⟩
theorem lw_p62 : lw_okq (⟨"NamesThatShrinkModel", "step", "()Z"⟩, 49) := ⟨⟨by decide +kernel, by decide +kernel⟩, List.mem_of_getElem? (i := 1235) (by decide +kernel), List.mem_of_getElem? (i := 1349) (by decide +kernel), List.mem_of_getElem? (i := 1350) (by decide +kernel)⟩
theorem lw_p63 : lw_okq (⟨"NamesThatShrinkModel", "group", "()Z"⟩, 49) := ⟨⟨by decide +kernel, by decide +kernel⟩, List.mem_of_getElem? (i := 1235) (by decide +kernel), List.mem_of_getElem? (i := 1353) (by decide +kernel), List.mem_of_getElem? (i := 1354) (by decide +kernel)⟩
def lw_privs_4 : List (MethodName × Nat) := [(⟨"java/lang/Throwable", "fillInStackTrace", "(I)Ljava/lang/Throwable;"⟩, 6), (⟨"NamesThatShrinkModel", "begins", "(I)I"⟩, 49), (⟨"NamesThatShrinkModel", "readsLine", "()Z"⟩, 49), (⟨"NamesThatShrinkModel", "letters", "()I"⟩, 49), (⟨"NamesThatShrinkModel", "isLetter", "()Z"⟩, 49), (⟨"NamesThatShrinkModel", "takes", "(I)Z"⟩, 49), (⟨"NamesThatShrinkModel", "isDigit", "()Z"⟩, 49), (⟨"NamesThatShrinkModel", "faultOf", "(IIZ)I"⟩, 49), (⟨"NamesThatShrinkModel", "isPerson", "(I)Z"⟩, 49), (⟨"NamesThatShrinkModel", "refuse", "()I"⟩, 49), (⟨"NamesThatShrinkModel", "calls", "(I)I"⟩, 49), (⟨"NamesThatShrinkModel", "whoHave", "(I)I"⟩, 49), (⟨"NamesThatShrinkModel", "turns", "(II)V"⟩, 49), (⟨"NamesThatShrinkModel", "steps", "()Z"⟩, 49), (⟨"NamesThatShrinkModel", "step", "()Z"⟩, 49), (⟨"NamesThatShrinkModel", "group", "()Z"⟩, 49)]
theorem lw_r4 : ∀ q ∈ lw_privs_4, lw_okq q := List.forall_mem_cons.mpr ⟨lw_p48, List.forall_mem_cons.mpr ⟨lw_p49, List.forall_mem_cons.mpr ⟨lw_p50, List.forall_mem_cons.mpr ⟨lw_p51, List.forall_mem_cons.mpr ⟨lw_p52, List.forall_mem_cons.mpr ⟨lw_p53, List.forall_mem_cons.mpr ⟨lw_p54, List.forall_mem_cons.mpr ⟨lw_p55, List.forall_mem_cons.mpr ⟨lw_p56, List.forall_mem_cons.mpr ⟨lw_p57, List.forall_mem_cons.mpr ⟨lw_p58, List.forall_mem_cons.mpr ⟨lw_p59, List.forall_mem_cons.mpr ⟨lw_p60, List.forall_mem_cons.mpr ⟨lw_p61, List.forall_mem_cons.mpr ⟨lw_p62, List.forall_mem_cons.mpr ⟨lw_p63, fun _ h => absurd h List.not_mem_nil⟩⟩⟩⟩⟩⟩⟩⟩⟩⟩⟩⟩⟩⟩⟩⟩
theorem lw_p64 : lw_okq (⟨"NamesThatShrinkModel", "doesAll", "()V"⟩, 49) := ⟨⟨by decide +kernel, by decide +kernel⟩, List.mem_of_getElem? (i := 1235) (by decide +kernel), List.mem_of_getElem? (i := 1357) (by decide +kernel), List.mem_of_getElem? (i := 1358) (by decide +kernel)⟩
theorem lw_p65 : lw_okq (⟨"NamesThatShrinkModel", "does", "()V"⟩, 49) := ⟨⟨by decide +kernel, by decide +kernel⟩, List.mem_of_getElem? (i := 1235) (by decide +kernel), List.mem_of_getElem? (i := 1361) (by decide +kernel), List.mem_of_getElem? (i := 1362) (by decide +kernel)⟩
theorem lw_p66 : lw_okq (⟨"NamesThatShrinkModel", "passes", "()V"⟩, 49) := ⟨⟨by decide +kernel, by decide +kernel⟩, List.mem_of_getElem? (i := 1235) (by decide +kernel), List.mem_of_getElem? (i := 1365) (by decide +kernel), List.mem_of_getElem? (i := 1366) (by decide +kernel)⟩
theorem lw_p67 : lw_okq (⟨"NamesThatShrinkModel", "madeAll", "(I)V"⟩, 49) := ⟨⟨by decide +kernel, by decide +kernel⟩, List.mem_of_getElem? (i := 1235) (by decide +kernel), List.mem_of_getElem? (i := 1369) (by decide +kernel), List.mem_of_getElem? (i := 1370) (by decide +kernel)⟩
theorem lw_p68 : lw_okq (⟨"NamesThatShrinkModel", "made", "(I)V"⟩, 49) := ⟨⟨by decide +kernel, by decide +kernel⟩, List.mem_of_getElem? (i := 1235) (by decide +kernel), List.mem_of_getElem? (i := 1374) (by decide +kernel), List.mem_of_getElem? (i := 1375) (by decide +kernel)⟩
theorem lw_p69 : lw_okq (⟨"NamesThatShrinkModel", "enters", "(I)V"⟩, 49) := ⟨⟨by decide +kernel, by decide +kernel⟩, List.mem_of_getElem? (i := 1235) (by decide +kernel), List.mem_of_getElem? (i := 1378) (by decide +kernel), List.mem_of_getElem? (i := 1379) (by decide +kernel)⟩
theorem lw_p70 : lw_okq (⟨"NamesThatShrinkModel", "priceOf", "(I)I"⟩, 49) := ⟨⟨by decide +kernel, by decide +kernel⟩, List.mem_of_getElem? (i := 1235) (by decide +kernel), List.mem_of_getElem? (i := 1390) (by decide +kernel), List.mem_of_getElem? (i := 1391) (by decide +kernel)⟩
theorem lw_p71 : lw_okq (⟨"NamesThatShrinkModel", "named", "()I"⟩, 49) := ⟨⟨by decide +kernel, by decide +kernel⟩, List.mem_of_getElem? (i := 1235) (by decide +kernel), List.mem_of_getElem? (i := 1399) (by decide +kernel), List.mem_of_getElem? (i := 1400) (by decide +kernel)⟩
theorem lw_p72 : lw_okq (⟨"NamesThatShrinkModel", "draws", "(I)I"⟩, 49) := ⟨⟨by decide +kernel, by decide +kernel⟩, List.mem_of_getElem? (i := 1235) (by decide +kernel), List.mem_of_getElem? (i := 1403) (by decide +kernel), List.mem_of_getElem? (i := 1404) (by decide +kernel)⟩
theorem lw_p73 : lw_okq (⟨"NamesThatShrinkModel", "areTwo", "(II)Z"⟩, 49) := ⟨⟨by decide +kernel, by decide +kernel⟩, List.mem_of_getElem? (i := 1235) (by decide +kernel), List.mem_of_getElem? (i := 1413) (by decide +kernel), List.mem_of_getElem? (i := 1414) (by decide +kernel)⟩
theorem lw_p74 : lw_okq (⟨"NamesThatShrinkModel", "explores", "(I)Z"⟩, 49) := ⟨⟨by decide +kernel, by decide +kernel⟩, List.mem_of_getElem? (i := 1235) (by decide +kernel), List.mem_of_getElem? (i := 1440) (by decide +kernel), List.mem_of_getElem? (i := 1441) (by decide +kernel)⟩
theorem lw_p75 : lw_okq (⟨"NamesThatShrinkModel", "stateNow", "()J"⟩, 49) := ⟨⟨by decide +kernel, by decide +kernel⟩, List.mem_of_getElem? (i := 1235) (by decide +kernel), List.mem_of_getElem? (i := 1445) (by decide +kernel), List.mem_of_getElem? (i := 1446) (by decide +kernel)⟩
theorem lw_p76 : lw_okq (⟨"NamesThatShrinkModel", "slotOf", "(J)I"⟩, 49) := ⟨⟨by decide +kernel, by decide +kernel⟩, List.mem_of_getElem? (i := 1235) (by decide +kernel), List.mem_of_getElem? (i := 1449) (by decide +kernel), List.mem_of_getElem? (i := 1450) (by decide +kernel)⟩
theorem lw_p77 : lw_okq (⟨"NamesThatShrinkModel", "answerTo", "(JI)I"⟩, 49) := ⟨⟨by decide +kernel, by decide +kernel⟩, List.mem_of_getElem? (i := 1235) (by decide +kernel), List.mem_of_getElem? (i := 1454) (by decide +kernel), List.mem_of_getElem? (i := 1455) (by decide +kernel)⟩
theorem lw_p78 : lw_okq (⟨"NamesThatShrinkModel", "nameIn", "(JI)I"⟩, 49) := ⟨⟨by decide +kernel, by decide +kernel⟩, List.mem_of_getElem? (i := 1235) (by decide +kernel), List.mem_of_getElem? (i := 1458) (by decide +kernel), List.mem_of_getElem? (i := 1459) (by decide +kernel)⟩
theorem lw_p79 : lw_okq (⟨"NamesThatShrinkModel", "canCall", "(JII)Z"⟩, 49) := ⟨⟨by decide +kernel, by decide +kernel⟩, List.mem_of_getElem? (i := 1235) (by decide +kernel), List.mem_of_getElem? (i := 1465) (by decide +kernel), List.mem_of_getElem? (i := 1466) (by decide +kernel)⟩
def lw_privs_5 : List (MethodName × Nat) := [(⟨"NamesThatShrinkModel", "doesAll", "()V"⟩, 49), (⟨"NamesThatShrinkModel", "does", "()V"⟩, 49), (⟨"NamesThatShrinkModel", "passes", "()V"⟩, 49), (⟨"NamesThatShrinkModel", "madeAll", "(I)V"⟩, 49), (⟨"NamesThatShrinkModel", "made", "(I)V"⟩, 49), (⟨"NamesThatShrinkModel", "enters", "(I)V"⟩, 49), (⟨"NamesThatShrinkModel", "priceOf", "(I)I"⟩, 49), (⟨"NamesThatShrinkModel", "named", "()I"⟩, 49), (⟨"NamesThatShrinkModel", "draws", "(I)I"⟩, 49), (⟨"NamesThatShrinkModel", "areTwo", "(II)Z"⟩, 49), (⟨"NamesThatShrinkModel", "explores", "(I)Z"⟩, 49), (⟨"NamesThatShrinkModel", "stateNow", "()J"⟩, 49), (⟨"NamesThatShrinkModel", "slotOf", "(J)I"⟩, 49), (⟨"NamesThatShrinkModel", "answerTo", "(JI)I"⟩, 49), (⟨"NamesThatShrinkModel", "nameIn", "(JI)I"⟩, 49), (⟨"NamesThatShrinkModel", "canCall", "(JII)Z"⟩, 49)]
theorem lw_r5 : ∀ q ∈ lw_privs_5, lw_okq q := List.forall_mem_cons.mpr ⟨lw_p64, List.forall_mem_cons.mpr ⟨lw_p65, List.forall_mem_cons.mpr ⟨lw_p66, List.forall_mem_cons.mpr ⟨lw_p67, List.forall_mem_cons.mpr ⟨lw_p68, List.forall_mem_cons.mpr ⟨lw_p69, List.forall_mem_cons.mpr ⟨lw_p70, List.forall_mem_cons.mpr ⟨lw_p71, List.forall_mem_cons.mpr ⟨lw_p72, List.forall_mem_cons.mpr ⟨lw_p73, List.forall_mem_cons.mpr ⟨lw_p74, List.forall_mem_cons.mpr ⟨lw_p75, List.forall_mem_cons.mpr ⟨lw_p76, List.forall_mem_cons.mpr ⟨lw_p77, List.forall_mem_cons.mpr ⟨lw_p78, List.forall_mem_cons.mpr ⟨lw_p79, fun _ h => absurd h List.not_mem_nil⟩⟩⟩⟩⟩⟩⟩⟩⟩⟩⟩⟩⟩⟩⟩⟩
theorem lw_p80 : lw_okq (⟨"NamesThatShrinkModel", "behind", "(JI)J"⟩, 49) := ⟨⟨by decide +kernel, by decide +kernel⟩, List.mem_of_getElem? (i := 1235) (by decide +kernel), List.mem_of_getElem? (i := 1469) (by decide +kernel), List.mem_of_getElem? (i := 1470) (by decide +kernel)⟩
theorem lw_p81 : lw_okq (⟨"NamesThatShrinkModel", "areDues", "(J)Z"⟩, 49) := ⟨⟨by decide +kernel, by decide +kernel⟩, List.mem_of_getElem? (i := 1235) (by decide +kernel), List.mem_of_getElem? (i := 1477) (by decide +kernel), List.mem_of_getElem? (i := 1478) (by decide +kernel)⟩
theorem lw_p82 : lw_okq (⟨"NamesThatShrinkModel", "marksDues", "(J)V"⟩, 49) := ⟨⟨by decide +kernel, by decide +kernel⟩, List.mem_of_getElem? (i := 1235) (by decide +kernel), List.mem_of_getElem? (i := 1481) (by decide +kernel), List.mem_of_getElem? (i := 1482) (by decide +kernel)⟩
theorem lw_p83 : lw_okq (⟨"NamesThatShrinkModel", "lostBy", "(II)I"⟩, 49) := ⟨⟨by decide +kernel, by decide +kernel⟩, List.mem_of_getElem? (i := 1235) (by decide +kernel), List.mem_of_getElem? (i := 1485) (by decide +kernel), List.mem_of_getElem? (i := 1486) (by decide +kernel)⟩
theorem lw_p84 : lw_okq (⟨"NamesThatShrinkModel", "bestGood", "()I"⟩, 49) := ⟨⟨by decide +kernel, by decide +kernel⟩, List.mem_of_getElem? (i := 1235) (by decide +kernel), List.mem_of_getElem? (i := 1492) (by decide +kernel), List.mem_of_getElem? (i := 1493) (by decide +kernel)⟩
theorem lw_p85 : lw_okq (⟨"NamesThatShrinkModel", "tellsWay", "(I)I"⟩, 49) := ⟨⟨by decide +kernel, by decide +kernel⟩, List.mem_of_getElem? (i := 1235) (by decide +kernel), List.mem_of_getElem? (i := 1496) (by decide +kernel), List.mem_of_getElem? (i := 1497) (by decide +kernel)⟩
theorem lw_p86 : lw_okq (⟨"NamesThatShrinkModel", "isNextGood", "(II)Z"⟩, 49) := ⟨⟨by decide +kernel, by decide +kernel⟩, List.mem_of_getElem? (i := 1235) (by decide +kernel), List.mem_of_getElem? (i := 1500) (by decide +kernel), List.mem_of_getElem? (i := 1501) (by decide +kernel)⟩
theorem lw_p87 : lw_okq (⟨"NamesThatShrinkModel", "areUnlike", "(J)Z"⟩, 49) := ⟨⟨by decide +kernel, by decide +kernel⟩, List.mem_of_getElem? (i := 1235) (by decide +kernel), List.mem_of_getElem? (i := 1520) (by decide +kernel), List.mem_of_getElem? (i := 1521) (by decide +kernel)⟩
theorem lw_p88 : lw_okq (⟨"NamesThatShrinkModel", "isSafe", "(II)Z"⟩, 49) := ⟨⟨by decide +kernel, by decide +kernel⟩, List.mem_of_getElem? (i := 1235) (by decide +kernel), List.mem_of_getElem? (i := 1539) (by decide +kernel), List.mem_of_getElem? (i := 1540) (by decide +kernel)⟩
theorem lw_p89 : lw_okq (⟨"NamesThatShrinkModel", "isNew", "(III)Z"⟩, 49) := ⟨⟨by decide +kernel, by decide +kernel⟩, List.mem_of_getElem? (i := 1235) (by decide +kernel), List.mem_of_getElem? (i := 1543) (by decide +kernel), List.mem_of_getElem? (i := 1544) (by decide +kernel)⟩
theorem lw_p90 : lw_okq (⟨"NamesThatShrinkModel", "listens", "()V"⟩, 49) := ⟨⟨by decide +kernel, by decide +kernel⟩, List.mem_of_getElem? (i := 1235) (by decide +kernel), List.mem_of_getElem? (i := 1555) (by decide +kernel), List.mem_of_getElem? (i := 1556) (by decide +kernel)⟩
theorem lw_p91 : lw_okq (⟨"NamesThatShrinkModel", "heardBy", "(I)I"⟩, 49) := ⟨⟨by decide +kernel, by decide +kernel⟩, List.mem_of_getElem? (i := 1235) (by decide +kernel), List.mem_of_getElem? (i := 1559) (by decide +kernel), List.mem_of_getElem? (i := 1560) (by decide +kernel)⟩
theorem lw_p92 : lw_okq (⟨"NamesThatShrinkModel", "runs", "()I"⟩, 49) := ⟨⟨by decide +kernel, by decide +kernel⟩, List.mem_of_getElem? (i := 1235) (by decide +kernel), List.mem_of_getElem? (i := 1571) (by decide +kernel), List.mem_of_getElem? (i := 1572) (by decide +kernel)⟩
theorem lw_p93 : lw_okq (⟨"NamesThatShrinkModel", "sorts", "(II)V"⟩, 49) := ⟨⟨by decide +kernel, by decide +kernel⟩, List.mem_of_getElem? (i := 1235) (by decide +kernel), List.mem_of_getElem? (i := 1575) (by decide +kernel), List.mem_of_getElem? (i := 1576) (by decide +kernel)⟩
theorem lw_p94 : lw_okq (⟨"NamesThatShrinkModel", "sides", "()I"⟩, 49) := ⟨⟨by decide +kernel, by decide +kernel⟩, List.mem_of_getElem? (i := 1235) (by decide +kernel), List.mem_of_getElem? (i := 1605) (by decide +kernel), List.mem_of_getElem? (i := 1606) (by decide +kernel)⟩
theorem lw_p95 : lw_okq (⟨"NamesThatShrinkModel", "answersOfAll", "()I"⟩, 49) := ⟨⟨by decide +kernel, by decide +kernel⟩, List.mem_of_getElem? (i := 1235) (by decide +kernel), List.mem_of_getElem? (i := 1609) (by decide +kernel), List.mem_of_getElem? (i := 1610) (by decide +kernel)⟩
def lw_privs_6 : List (MethodName × Nat) := [(⟨"NamesThatShrinkModel", "behind", "(JI)J"⟩, 49), (⟨"NamesThatShrinkModel", "areDues", "(J)Z"⟩, 49), (⟨"NamesThatShrinkModel", "marksDues", "(J)V"⟩, 49), (⟨"NamesThatShrinkModel", "lostBy", "(II)I"⟩, 49), (⟨"NamesThatShrinkModel", "bestGood", "()I"⟩, 49), (⟨"NamesThatShrinkModel", "tellsWay", "(I)I"⟩, 49), (⟨"NamesThatShrinkModel", "isNextGood", "(II)Z"⟩, 49), (⟨"NamesThatShrinkModel", "areUnlike", "(J)Z"⟩, 49), (⟨"NamesThatShrinkModel", "isSafe", "(II)Z"⟩, 49), (⟨"NamesThatShrinkModel", "isNew", "(III)Z"⟩, 49), (⟨"NamesThatShrinkModel", "listens", "()V"⟩, 49), (⟨"NamesThatShrinkModel", "heardBy", "(I)I"⟩, 49), (⟨"NamesThatShrinkModel", "runs", "()I"⟩, 49), (⟨"NamesThatShrinkModel", "sorts", "(II)V"⟩, 49), (⟨"NamesThatShrinkModel", "sides", "()I"⟩, 49), (⟨"NamesThatShrinkModel", "answersOfAll", "()I"⟩, 49)]
theorem lw_r6 : ∀ q ∈ lw_privs_6, lw_okq q := List.forall_mem_cons.mpr ⟨lw_p80, List.forall_mem_cons.mpr ⟨lw_p81, List.forall_mem_cons.mpr ⟨lw_p82, List.forall_mem_cons.mpr ⟨lw_p83, List.forall_mem_cons.mpr ⟨lw_p84, List.forall_mem_cons.mpr ⟨lw_p85, List.forall_mem_cons.mpr ⟨lw_p86, List.forall_mem_cons.mpr ⟨lw_p87, List.forall_mem_cons.mpr ⟨lw_p88, List.forall_mem_cons.mpr ⟨lw_p89, List.forall_mem_cons.mpr ⟨lw_p90, List.forall_mem_cons.mpr ⟨lw_p91, List.forall_mem_cons.mpr ⟨lw_p92, List.forall_mem_cons.mpr ⟨lw_p93, List.forall_mem_cons.mpr ⟨lw_p94, List.forall_mem_cons.mpr ⟨lw_p95, fun _ h => absurd h List.not_mem_nil⟩⟩⟩⟩⟩⟩⟩⟩⟩⟩⟩⟩⟩⟩⟩⟩
def lw_privs : List (MethodName × Nat) := lw_privs_1 ++ (lw_privs_2 ++ (lw_privs_3 ++ (lw_privs_4 ++ (lw_privs_5 ++ (lw_privs_6)))))
def lw_tbl : List Cond := k2_sels lw_privs ++ tables_1
theorem lw_privs_ok : ∀ q ∈ lw_privs, lw_okq q := by
  show ∀ q ∈ lw_privs_1 ++ (lw_privs_2 ++ (lw_privs_3 ++ (lw_privs_4 ++ (lw_privs_5 ++ (lw_privs_6))))), lw_okq q
  exact List.forall_mem_append.mpr ⟨lw_r1, List.forall_mem_append.mpr ⟨lw_r2, List.forall_mem_append.mpr ⟨lw_r3, List.forall_mem_append.mpr ⟨lw_r4, List.forall_mem_append.mpr ⟨lw_r5, lw_r6⟩⟩⟩⟩⟩
-- ===== end of PART A; then your names; then what follows =====
end
section
/-! ===== names: classes, fields, methods (printed by wip/gen/tables.py) ===== -/
def zx_cn : List String := ["NamesThatShrink$Crowd", "NamesThatShrink$CrowdText", "NamesThatShrink$Keeps", "NamesThatShrink$Lineup", "NamesThatShrink$Listener", "NamesThatShrink$NewNames", "NamesThatShrink$Order", "NamesThatShrink$Picks", "NamesThatShrink$Row", "NamesThatShrink$Search", "NamesThatShrink$Text", "NamesThatShrink", "NamesThatShrinkModel"]
def zx_fl : List (List (String × String × String × Bool)) := [
  [("NamesThatShrink$Crowd", "name", "[I", true), ("NamesThatShrink$Crowd", "often", "[I", true), ("NamesThatShrink$Crowd", "price", "[I", true), ("NamesThatShrink$Crowd", "loggedWho", "[I", true), ("NamesThatShrink$Crowd", "loggedLetter", "[I", true), ("NamesThatShrink$Crowd", "logged", "I", false), ("NamesThatShrink$Crowd", "nextLogged", "I", false), ("NamesThatShrink$Crowd", "people", "I", false), ("NamesThatShrink$Crowd", "sides", "I", false), ("NamesThatShrink$Crowd", "boat", "I", false), ("NamesThatShrink$Crowd", "random", "I", false)],
  [("NamesThatShrink$CrowdText", "text", "LNamesThatShrink$Text;", true), ("NamesThatShrink$CrowdText", "code", "[I", true), ("NamesThatShrink$CrowdText", "price", "[I", true), ("NamesThatShrink$CrowdText", "lines", "I", false), ("NamesThatShrink$CrowdText", "room", "I", false)],
  [("NamesThatShrink$Keeps", "name", "[[I", true), ("NamesThatShrink$Keeps", "often", "[[I", true), ("NamesThatShrink$Keeps", "sides", "[I", true), ("NamesThatShrink$Keeps", "random", "[I", true), ("NamesThatShrink$Keeps", "isKept", "[Z", true)],
  [("NamesThatShrink$Lineup", "person", "[I", true), ("NamesThatShrink$Lineup", "code", "[I", true), ("NamesThatShrink$Lineup", "letters", "[I", true), ("NamesThatShrink$Lineup", "beginning", "[[I", true), ("NamesThatShrink$Lineup", "sharing", "[[J", true), ("NamesThatShrink$Lineup", "ways", "[[I", true), ("NamesThatShrink$Lineup", "groupFrom", "[I", true), ("NamesThatShrink$Lineup", "size", "I", false), ("NamesThatShrink$Lineup", "groups", "I", false), ("NamesThatShrink$Lineup", "longest", "I", false)],
  [("NamesThatShrink$Listener", "code", "[I", true), ("NamesThatShrink$Listener", "answered", "[Z", true), ("NamesThatShrink$Listener", "size", "I", false), ("NamesThatShrink$Listener", "wide", "I", false)],
  [("NamesThatShrink$NewNames", "crowd", "LNamesThatShrink$Crowd;", true), ("NamesThatShrink$NewNames", "barred", "[I", true), ("NamesThatShrink$NewNames", "nothing", "[I", true), ("NamesThatShrink$NewNames", "anywhere", "[LNamesThatShrink$Picks;", true), ("NamesThatShrink$NewNames", "here", "[LNamesThatShrink$Picks;", true), ("NamesThatShrink$NewNames", "price", "[I", false), ("NamesThatShrink$NewNames", "bars", "I", false), ("NamesThatShrink$NewNames", "length", "I", false), ("NamesThatShrink$NewNames", "apart", "I", false), ("NamesThatShrink$NewNames", "wanted", "I", false)],
  [("NamesThatShrink$Order", "text", "LNamesThatShrink$Text;", true), ("NamesThatShrink$Order", "crowd", "LNamesThatShrink$Crowd;", true), ("NamesThatShrink$Order", "kind", "[I", true), ("NamesThatShrink$Order", "what", "[I", true), ("NamesThatShrink$Order", "behind", "[I", true), ("NamesThatShrink$Order", "listed", "[I", true), ("NamesThatShrink$Order", "size", "I", false), ("NamesThatShrink$Order", "calls", "I", false), ("NamesThatShrink$Order", "answered", "I", false), ("NamesThatShrink$Order", "answers", "I", false), ("NamesThatShrink$Order", "begun", "I", false), ("NamesThatShrink$Order", "ended", "Z", false)],
  [("NamesThatShrink$Picks", "cost", "[I", true), ("NamesThatShrink$Picks", "code", "[I", true), ("NamesThatShrink$Picks", "size", "I", false), ("NamesThatShrink$Picks", "limit", "I", false)],
  [("NamesThatShrink$Row", "number", "[I", true), ("NamesThatShrink$Row", "size", "I", false)],
  [("NamesThatShrink$Search", "lineup", "LNamesThatShrink$Lineup;", true), ("NamesThatShrink$Search", "knownName", "[I", true), ("NamesThatShrink$Search", "groupAt", "[I", true), ("NamesThatShrink$Search", "way", "[[I", true), ("NamesThatShrink$Search", "taken", "[I", true), ("NamesThatShrink$Search", "state", "[J", false), ("NamesThatShrink$Search", "parent", "[I", false), ("NamesThatShrink$Search", "calls", "[B", false), ("NamesThatShrink$Search", "lost", "[B", false), ("NamesThatShrink$Search", "slots", "[I", false), ("NamesThatShrink$Search", "slotBits", "I", false), ("NamesThatShrink$Search", "slotMark", "I", false), ("NamesThatShrink$Search", "found", "I", false), ("NamesThatShrink$Search", "boat", "I", false), ("NamesThatShrink$Search", "total", "I", false), ("NamesThatShrink$Search", "unlike", "I", false), ("NamesThatShrink$Search", "nameless", "I", false), ("NamesThatShrink$Search", "allowed", "J", false), ("NamesThatShrink$Search", "odd", "J", false), ("NamesThatShrink$Search", "oddMatters", "J", false)],
  [("NamesThatShrink$Text", "signs", "[I", true), ("NamesThatShrink$Text", "length", "I", false), ("NamesThatShrink$Text", "limit", "I", false), ("NamesThatShrink$Text", "at", "I", false), ("NamesThatShrink$Text", "code", "I", false), ("NamesThatShrink$Text", "letters", "I", false)],
  [("NamesThatShrink", "text", "LNamesThatShrink$Text;", true), ("NamesThatShrink", "told", "LNamesThatShrink$Row;", true), ("NamesThatShrink", "crowd", "LNamesThatShrink$Crowd;", true), ("NamesThatShrink", "crowdText", "LNamesThatShrink$CrowdText;", true), ("NamesThatShrink", "plan", "LNamesThatShrink$Order;", true), ("NamesThatShrink", "search", "LNamesThatShrink$Search;", true), ("NamesThatShrink", "fresh", "LNamesThatShrink$NewNames;", true), ("NamesThatShrink", "listener", "LNamesThatShrink$Listener;", true), ("NamesThatShrink", "keeps", "LNamesThatShrink$Keeps;", true)],
  [("NamesThatShrinkModel", "thrown", "I", false), ("NamesThatShrinkModel", "rows", "I", false), ("NamesThatShrinkModel", "row", "[I", true), ("NamesThatShrinkModel", "people", "I", false), ("NamesThatShrinkModel", "name", "[I", true), ("NamesThatShrinkModel", "often", "[I", true), ("NamesThatShrinkModel", "side", "[I", true), ("NamesThatShrinkModel", "price", "[I", true), ("NamesThatShrinkModel", "boat", "I", false), ("NamesThatShrinkModel", "random", "I", false), ("NamesThatShrinkModel", "undos", "I", false), ("NamesThatShrinkModel", "undoName", "[I", true), ("NamesThatShrinkModel", "undoWho", "[I", true), ("NamesThatShrinkModel", "tape", "[I", true), ("NamesThatShrinkModel", "taped", "I", false), ("NamesThatShrinkModel", "at", "I", false), ("NamesThatShrinkModel", "to", "I", false), ("NamesThatShrinkModel", "nest", "I", false), ("NamesThatShrinkModel", "readName", "[I", true), ("NamesThatShrinkModel", "readPrice", "[I", true), ("NamesThatShrinkModel", "readMany", "I", false), ("NamesThatShrinkModel", "callsMade", "I", false), ("NamesThatShrinkModel", "callsAnswered", "I", false), ("NamesThatShrinkModel", "answersAll", "I", false), ("NamesThatShrinkModel", "untils", "I", false), ("NamesThatShrinkModel", "isEnded", "Z", false), ("NamesThatShrinkModel", "listed", "[I", true), ("NamesThatShrinkModel", "nodes", "[I", true), ("NamesThatShrinkModel", "found", "[J", true), ("NamesThatShrinkModel", "depth", "[I", true), ("NamesThatShrinkModel", "lost", "[I", true), ("NamesThatShrinkModel", "slots", "[I", true), ("NamesThatShrinkModel", "good", "[Z", true), ("NamesThatShrinkModel", "foundMany", "I", false), ("NamesThatShrinkModel", "bears", "I", false), ("NamesThatShrinkModel", "taken", "[I", true), ("NamesThatShrinkModel", "wideNow", "I", false), ("NamesThatShrinkModel", "heards", "I", false), ("NamesThatShrinkModel", "heardName", "[I", true), ("NamesThatShrinkModel", "heardIs", "[Z", true), ("NamesThatShrinkModel", "fits", "[I", true), ("NamesThatShrinkModel", "cameTo", "[I", true), ("NamesThatShrinkModel", "sorted", "[I", true), ("NamesThatShrinkModel", "merged", "[I", true), ("NamesThatShrinkModel", "fitMany", "I", false), ("NamesThatShrinkModel", "runBest", "I", false), ("NamesThatShrinkModel", "runMany", "I", false), ("NamesThatShrinkModel", "isKept", "[Z", true), ("NamesThatShrinkModel", "kept", "[I", true)]]
def zx_tl : List (List FieldType) := [
  [.array .int, .array .int, .array .int, .array .int, .array .int, .int, .int, .int, .int, .int, .int],
  [.object "NamesThatShrink$Text", .array .int, .array .int, .int, .int],
  [.array (.array .int), .array (.array .int), .array .int, .array .int, .array .boolean],
  [.array .int, .array .int, .array .int, .array (.array .int), .array (.array .long), .array (.array .int), .array .int, .int, .int, .int],
  [.array .int, .array .boolean, .int, .int],
  [.object "NamesThatShrink$Crowd", .array .int, .array .int, .array (.object "NamesThatShrink$Picks"), .array (.object "NamesThatShrink$Picks"), .array .int, .int, .int, .int, .int],
  [.object "NamesThatShrink$Text", .object "NamesThatShrink$Crowd", .array .int, .array .int, .array .int, .array .int, .int, .int, .int, .int, .int, .boolean],
  [.array .int, .array .int, .int, .int],
  [.array .int, .int],
  [.object "NamesThatShrink$Lineup", .array .int, .array .int, .array (.array .int), .array .int, .array .long, .array .int, .array .byte, .array .byte, .array .int, .int, .int, .int, .int, .int, .int, .int, .long, .long, .long],
  [.array .int, .int, .int, .int, .int, .int],
  [.object "NamesThatShrink$Text", .object "NamesThatShrink$Row", .object "NamesThatShrink$Crowd", .object "NamesThatShrink$CrowdText", .object "NamesThatShrink$Order", .object "NamesThatShrink$Search", .object "NamesThatShrink$NewNames", .object "NamesThatShrink$Listener", .object "NamesThatShrink$Keeps"],
  [.int, .int, .array .int, .int, .array .int, .array .int, .array .int, .array .int, .int, .int, .int, .array .int, .array .int, .array .int, .int, .int, .int, .int, .array .int, .array .int, .int, .int, .int, .int, .int, .boolean, .array .int, .array .int, .array .long, .array .int, .array .int, .array .int, .array .boolean, .int, .int, .array .int, .int, .int, .array .int, .array .boolean, .array .int, .array .int, .array .int, .array .int, .int, .int, .int, .array .boolean, .array .int]]
def zx_C (c : Nat) : String := zx_cn.getD c ""
def zx_T (c : Nat) : u_T := fun k => (zx_fl.getD c []).getD k ("", "", "", false)
def zx_N (c : Nat) : Nat := (zx_fl.getD c []).length
def zx_ty (c k : Nat) : FieldType := (zx_tl.getD c []).getD k .int
def zx_cl : List vw_C := [(zx_C 0, zx_T 0, zx_N 0), (zx_C 1, zx_T 1, zx_N 1), (zx_C 2, zx_T 2, zx_N 2), (zx_C 3, zx_T 3, zx_N 3), (zx_C 4, zx_T 4, zx_N 4), (zx_C 5, zx_T 5, zx_N 5), (zx_C 6, zx_T 6, zx_N 6), (zx_C 7, zx_T 7, zx_N 7), (zx_C 8, zx_T 8, zx_N 8), (zx_C 9, zx_T 9, zx_N 9), (zx_C 10, zx_T 10, zx_N 10), (zx_C 11, zx_T 11, zx_N 11), (zx_C 12, zx_T 12, zx_N 12)]
/-- the kinds of arrays: 20 int, 21 long, 22 byte, 23 boolean, 24 int[], 25 long[], 26 Picks -/
def zx_at (k : Nat) : FieldType := match k with
  | 20 => .int
  | 21 => .long
  | 22 => .byte
  | 23 => .boolean
  | 24 => .array .int
  | 25 => .array .long
  | _ => .object "NamesThatShrink$Picks"
abbrev zx_Mt : Type := MethodName × ByteArray × Nat × Option FieldType × Bool × Nat × Nat × Nat × Nat × Nat
def zx_ms0 : List zx_Mt := [
  (⟨"NamesThatShrink$Crowd", "<init>", "()V"⟩, prog_2_method_1_code, 1, none, false, 0, 178, 177, 0, 100),
  (⟨"NamesThatShrink$Crowd", "has", "(I)Z"⟩, prog_2_method_2_code, 2, (some .boolean), false, 1, 675, 673, 674, 100),
  (⟨"NamesThatShrink$Crowd", "join", "(I)V"⟩, prog_2_method_3_code, 2, none, false, 1, 617, 615, 616, 100),
  (⟨"NamesThatShrink$Crowd", "everybody", "()I"⟩, prog_2_method_4_code, 1, (some .int), false, 0, 810, 808, 809, 100),
  (⟨"NamesThatShrink$Crowd", "named", "()I"⟩, prog_2_method_5_code, 3, (some .int), false, 0, 637, 635, 636, 100),
  (⟨"NamesThatShrink$Crowd", "whoHas", "(I)I"⟩, prog_2_method_6_code, 4, (some .int), false, 1, 659, 657, 658, 100),
  (⟨"NamesThatShrink$Crowd", "beginners", "(I)I"⟩, prog_2_method_7_code, 4, (some .int), false, 1, 683, 681, 682, 100),
  (⟨"NamesThatShrink$Crowd", "answers", "()I"⟩, prog_2_method_8_code, 3, (some .int), false, 0, 1232, 1230, 1231, 100),
  (⟨"NamesThatShrink$Crowd", "priceOf", "(I)I"⟩, prog_2_method_9_code, 6, (some .int), false, 1, 792, 790, 791, 100),
  (⟨"NamesThatShrink$Crowd", "callOut", "(I)I"⟩, prog_2_method_10_code, 4, (some .int), false, 1, 655, 653, 654, 100),
  (⟨"NamesThatShrink$Crowd", "log", "(II)V"⟩, prog_2_method_11_code, 3, none, false, 2, 664, 663, 1, 100),
  (⟨"NamesThatShrink$Crowd", "forgetCalls", "()V"⟩, prog_2_method_12_code, 1, none, false, 0, 621, 619, 620, 100),
  (⟨"NamesThatShrink$Crowd", "takeBack", "()Z"⟩, prog_2_method_13_code, 4, (some .boolean), false, 0, 694, 692, 693, 100),
  (⟨"NamesThatShrink$Crowd", "draw", "(I)I"⟩, prog_2_method_14_code, 2, (some .int), false, 1, 805, 803, 804, 100),
  (⟨"NamesThatShrink$Crowd", "drawName", "()I"⟩, prog_2_method_15_code, 3, (some .int), false, 0, 800, 798, 799, 100),
  (⟨"NamesThatShrink$CrowdText", "<init>", "(LNamesThatShrink$Text;)V"⟩, prog_3_method_1_code, 2, none, false, 1, 240, 239, 0, 101),
  (⟨"NamesThatShrink$CrowdText", "read", "(I)I"⟩, prog_3_method_2_code, 3, (some .int), false, 1, 580, 578, 579, 101),
  (⟨"NamesThatShrink$CrowdText", "readLine", "()Z"⟩, prog_3_method_3_code, 2, (some .boolean), false, 0, 592, 591, 0, 101),
  (⟨"NamesThatShrink$CrowdText", "tell", "(LNamesThatShrink$Crowd;)V"⟩, prog_3_method_4_code, 3, none, false, 1, 613, 611, 612, 101),
  (⟨"NamesThatShrink$Keeps", "<init>", "()V"⟩, prog_4_method_1_code, 1, none, false, 0, 510, 509, 0, 108),
  (⟨"NamesThatShrink$Keeps", "store", "(ILNamesThatShrink$Crowd;)Z"⟩, prog_4_method_2_code, 3, (some .boolean), false, 2, 1214, 1212, 1213, 108),
  (⟨"NamesThatShrink$Keeps", "restore", "(ILNamesThatShrink$Crowd;)Z"⟩, prog_4_method_3_code, 3, (some .boolean), false, 2, 1223, 1221, 1222, 108),
  (⟨"NamesThatShrink$Lineup", "<init>", "()V"⟩, prog_5_method_1_code, 1, none, false, 0, 315, 314, 0, 104),
  (⟨"NamesThatShrink$Lineup", "take", "(LNamesThatShrink$Crowd;)V"⟩, prog_5_method_2_code, 3, none, false, 1, 862, 860, 861, 104),
  (⟨"NamesThatShrink$Lineup", "insert", "(II)V"⟩, prog_5_method_3_code, 5, none, false, 2, 866, 865, 17, 104),
  (⟨"NamesThatShrink$Lineup", "dictionaryKey", "(I)I"⟩, prog_5_method_4_code, 3, (some .int), true, 1, 869, 868, 0, 104),
  (⟨"NamesThatShrink$Lineup", "spell", "(I)V"⟩, prog_5_method_5_code, 4, none, false, 1, 874, 873, 18, 104),
  (⟨"NamesThatShrink$Lineup", "findSharing", "(I)V"⟩, prog_5_method_6_code, 6, none, false, 1, 882, 881, 19, 104),
  (⟨"NamesThatShrink$Lineup", "findGroups", "()V"⟩, prog_5_method_7_code, 3, none, false, 0, 886, 885, 20, 104),
  (⟨"NamesThatShrink$Lineup", "placeOf", "(I)I"⟩, prog_5_method_8_code, 3, (some .int), false, 1, 988, 986, 987, 104),
  (⟨"NamesThatShrink$Lineup", "groupOf", "(I)I"⟩, prog_5_method_9_code, 3, (some .int), false, 1, 1041, 1039, 1040, 104),
  (⟨"NamesThatShrink$Lineup", "statesWith", "(I)I"⟩, prog_5_method_10_code, 6, (some .int), false, 1, 890, 888, 889, 104),
  (⟨"NamesThatShrink$Lineup", "namesakes", "(I)I"⟩, prog_5_method_11_code, 4, (some .int), false, 1, 894, 893, 21, 104),
  (⟨"NamesThatShrink$Lineup", "sumFromAbove", "(I)V"⟩, prog_5_method_12_code, 3, none, false, 1, 898, 897, 22, 104),
  (⟨"NamesThatShrink$Lineup", "atMostOneAbove", "(I)I"⟩, prog_5_method_13_code, 1, (some .int), true, 1, 901, 900, 0, 104),
  (⟨"NamesThatShrink$Lineup", "placeAhead", "(I)I"⟩, prog_5_method_14_code, 3, (some .int), false, 1, 906, 905, 23, 104),
  (⟨"NamesThatShrink$Listener", "<init>", "()V"⟩, prog_6_method_1_code, 1, none, false, 0, 488, 487, 0, 107),
  (⟨"NamesThatShrink$Listener", "all", "()I"⟩, prog_6_method_2_code, 3, (some .int), false, 0, 1151, 1149, 1150, 107),
  (⟨"NamesThatShrink$Listener", "note", "(IZ)Z"⟩, prog_6_method_3_code, 3, (some .boolean), false, 2, 1159, 1157, 1158, 107),
  (⟨"NamesThatShrink$Listener", "fitting", "()I"⟩, prog_6_method_4_code, 4, (some .int), false, 0, 1163, 1161, 1162, 107)]
def zx_ms1 : List zx_Mt := [
  (⟨"NamesThatShrink$Listener", "first", "()I"⟩, prog_6_method_5_code, 4, (some .int), false, 0, 1184, 1182, 1183, 107),
  (⟨"NamesThatShrink$Listener", "left", "(I)I"⟩, prog_6_method_6_code, 5, (some .int), false, 1, 1175, 1173, 1174, 107),
  (⟨"NamesThatShrink$Listener", "firstAnswered", "()I"⟩, prog_6_method_7_code, 2, (some .int), false, 0, 1167, 1166, 44, 107),
  (⟨"NamesThatShrink$Listener", "firstHeard", "(I)I"⟩, prog_6_method_8_code, 3, (some .int), false, 1, 1180, 1179, 46, 107),
  (⟨"NamesThatShrink$Listener", "isWithin", "(I)Z"⟩, prog_6_method_9_code, 4, (some .boolean), false, 1, 1171, 1170, 45, 107),
  (⟨"NamesThatShrink$Listener", "following", "(I)I"⟩, prog_6_method_10_code, 6, (some .int), false, 1, 1188, 1187, 47, 107),
  (⟨"NamesThatShrink$NewNames", "<init>", "(LNamesThatShrink$Crowd;)V"⟩, prog_7_method_1_code, 3, none, false, 1, 429, 428, 0, 105),
  (⟨"NamesThatShrink$NewNames", "areAsked", "(II)Z"⟩, prog_7_method_2_code, 2, (some .boolean), true, 2, 1062, 1061, 0, 105),
  (⟨"NamesThatShrink$NewNames", "ask", "(II)V"⟩, prog_7_method_3_code, 6, none, false, 2, 1066, 1064, 1065, 105),
  (⟨"NamesThatShrink$NewNames", "firstLetters", "(II)I"⟩, prog_7_method_4_code, 4, (some .int), true, 2, 1071, 1070, 0, 105),
  (⟨"NamesThatShrink$NewNames", "tellCheapest", "(ILNamesThatShrink$Row;)I"⟩, prog_7_method_5_code, 3, (some .int), false, 2, 1075, 1073, 1074, 105),
  (⟨"NamesThatShrink$NewNames", "tellSafe", "(LNamesThatShrink$Row;)I"⟩, prog_7_method_6_code, 3, (some .int), false, 1, 1135, 1133, 1134, 105),
  (⟨"NamesThatShrink$NewNames", "choose", "(I[I)V"⟩, prog_7_method_7_code, 5, none, false, 2, 1079, 1078, 37, 105),
  (⟨"NamesThatShrink$NewNames", "limitAt", "(I)I"⟩, prog_7_method_8_code, 2, (some .int), false, 1, 1092, 1091, 38, 105),
  (⟨"NamesThatShrink$NewNames", "addLetter", "(LNamesThatShrink$Picks;LNamesThatShrink$Picks;II)V"⟩, prog_7_method_9_code, 5, none, false, 4, 1096, 1095, 39, 105),
  (⟨"NamesThatShrink$NewNames", "pick", "(II)V"⟩, prog_7_method_10_code, 5, none, false, 2, 1107, 1106, 40, 105),
  (⟨"NamesThatShrink$NewNames", "countSafe", "(II)I"⟩, prog_7_method_11_code, 5, (some .int), false, 2, 1139, 1138, 43, 105),
  (⟨"NamesThatShrink$NewNames", "isBarred", "(I)Z"⟩, prog_7_method_12_code, 3, (some .boolean), false, 1, 1111, 1110, 41, 105),
  (⟨"NamesThatShrink$NewNames", "leadsToBarred", "(I)Z"⟩, prog_7_method_13_code, 3, (some .boolean), false, 1, 1115, 1114, 42, 105),
  (⟨"NamesThatShrink$Order", "<init>", "(LNamesThatShrink$Text;LNamesThatShrink$Crowd;)V"⟩, prog_8_method_1_code, 3, none, false, 2, 262, 261, 0, 102),
  (⟨"NamesThatShrink$Order", "read", "()I"⟩, prog_8_method_2_code, 2, (some .int), false, 0, 702, 700, 701, 102),
  (⟨"NamesThatShrink$Order", "readSteps", "(I)Z"⟩, prog_8_method_3_code, 3, (some .boolean), false, 1, 708, 707, 2, 102),
  (⟨"NamesThatShrink$Order", "readStep", "(I)Z"⟩, prog_8_method_4_code, 3, (some .boolean), false, 1, 712, 711, 3, 102),
  (⟨"NamesThatShrink$Order", "readBlock", "(III)Z"⟩, prog_8_method_5_code, 5, (some .boolean), false, 3, 717, 716, 4, 102),
  (⟨"NamesThatShrink$Order", "put", "(II)Z"⟩, prog_8_method_6_code, 3, (some .boolean), false, 2, 722, 721, 5, 102),
  (⟨"NamesThatShrink$Order", "carryOut", "()V"⟩, prog_8_method_7_code, 1, none, false, 0, 728, 726, 727, 102),
  (⟨"NamesThatShrink$Order", "doSteps", "(III)V"⟩, prog_8_method_8_code, 7, none, false, 3, 732, 731, 6, 102),
  (⟨"NamesThatShrink$Order", "doStep", "(II)V"⟩, prog_8_method_9_code, 3, none, false, 2, 737, 736, 7, 102),
  (⟨"NamesThatShrink$Order", "callOne", "(I)V"⟩, prog_8_method_10_code, 3, none, false, 1, 741, 740, 8, 102),
  (⟨"NamesThatShrink$Order", "callAll", "(I)V"⟩, prog_8_method_11_code, 4, none, false, 1, 747, 746, 9, 102),
  (⟨"NamesThatShrink$Order", "list", "(I)I"⟩, prog_8_method_12_code, 5, (some .int), false, 1, 751, 750, 10, 102),
  (⟨"NamesThatShrink$Order", "insert", "(II)I"⟩, prog_8_method_13_code, 5, (some .int), false, 2, 756, 755, 11, 102),
  (⟨"NamesThatShrink$Order", "repeat", "(II)V"⟩, prog_8_method_14_code, 5, none, false, 2, 760, 759, 12, 102),
  (⟨"NamesThatShrink$Order", "until", "(II)V"⟩, prog_8_method_15_code, 4, none, false, 2, 764, 763, 13, 102),
  (⟨"NamesThatShrink$Picks", "<init>", "()V"⟩, prog_9_method_1_code, 1, none, false, 0, 436, 435, 0, 106),
  (⟨"NamesThatShrink$Picks", "start", "(I)V"⟩, prog_9_method_2_code, 2, none, false, 1, 1083, 1081, 1082, 106),
  (⟨"NamesThatShrink$Picks", "add", "(II)V"⟩, prog_9_method_3_code, 5, none, false, 2, 1088, 1086, 1087, 106),
  (⟨"NamesThatShrink$Picks", "addAll", "(LNamesThatShrink$Picks;II)V"⟩, prog_9_method_4_code, 5, none, false, 3, 1102, 1100, 1101, 106),
  (⟨"NamesThatShrink$Picks", "costOfAll", "()I"⟩, prog_9_method_5_code, 3, (some .int), false, 0, 1127, 1125, 1126, 106),
  (⟨"NamesThatShrink$Picks", "tellRising", "(LNamesThatShrink$Row;)V"⟩, prog_9_method_6_code, 6, none, false, 1, 1120, 1118, 1119, 106)]
def zx_ms2 : List zx_Mt := [
  (⟨"NamesThatShrink$Row", "<init>", "()V"⟩, prog_10_method_1_code, 1, none, false, 0, 163, 162, 0, 99),
  (⟨"NamesThatShrink$Row", "clear", "()V"⟩, prog_10_method_2_code, 1, none, false, 0, 769, 767, 768, 99),
  (⟨"NamesThatShrink$Row", "add", "(I)V"⟩, prog_10_method_3_code, 2, none, false, 1, 773, 771, 772, 99),
  (⟨"NamesThatShrink$Search", "<init>", "()V"⟩, prog_11_method_1_code, 1, none, false, 0, 309, 308, 0, 103),
  (⟨"NamesThatShrink$Search", "freeStates", "(LNamesThatShrink$Crowd;)I"⟩, prog_11_method_2_code, 2, (some .int), false, 1, 847, 845, 846, 103),
  (⟨"NamesThatShrink$Search", "look", "(LNamesThatShrink$Crowd;)I"⟩, prog_11_method_3_code, 3, (some .int), false, 1, 921, 919, 920, 103),
  (⟨"NamesThatShrink$Search", "lineUp", "(LNamesThatShrink$Crowd;)V"⟩, prog_11_method_4_code, 2, none, false, 1, 851, 850, 15, 103),
  (⟨"NamesThatShrink$Search", "isKnown", "(LNamesThatShrink$Crowd;)Z"⟩, prog_11_method_5_code, 3, (some .boolean), false, 1, 855, 854, 16, 103),
  (⟨"NamesThatShrink$Search", "spreadAll", "(I)I"⟩, prog_11_method_6_code, 6, (some .int), false, 1, 925, 924, 25, 103),
  (⟨"NamesThatShrink$Search", "makeRoom", "(I)V"⟩, prog_11_method_7_code, 3, none, false, 1, 929, 928, 26, 103),
  (⟨"NamesThatShrink$Search", "spread", "(I)V"⟩, prog_11_method_8_code, 4, none, false, 1, 935, 934, 27, 103),
  (⟨"NamesThatShrink$Search", "startOf", "(I)J"⟩, prog_11_method_9_code, 6, (some .long), false, 1, 939, 938, 28, 103),
  (⟨"NamesThatShrink$Search", "groupMark", "(I)J"⟩, prog_11_method_10_code, 1, (some .long), true, 1, 942, 941, 0, 103),
  (⟨"NamesThatShrink$Search", "expand", "(I)V"⟩, prog_11_method_11_code, 13, none, false, 1, 959, 958, 32, 103),
  (⟨"NamesThatShrink$Search", "placesWith", "(JI)J"⟩, prog_11_method_12_code, 5, (some .long), true, 2, 962, 961, 0, 103),
  (⟨"NamesThatShrink$Search", "add", "(JII)V"⟩, prog_11_method_13_code, 7, none, false, 3, 946, 945, 29, 103),
  (⟨"NamesThatShrink$Search", "isTaken", "(I)Z"⟩, prog_11_method_14_code, 2, (some .boolean), false, 1, 955, 954, 31, 103),
  (⟨"NamesThatShrink$Search", "slotOf", "(J)I"⟩, prog_11_method_15_code, 6, (some .int), false, 1, 950, 949, 30, 103),
  (⟨"NamesThatShrink$Search", "wantDues", "(LNamesThatShrink$Crowd;J)Z"⟩, prog_11_method_16_code, 7, (some .boolean), false, 2, 980, 978, 979, 103),
  (⟨"NamesThatShrink$Search", "wantSides", "(LNamesThatShrink$Crowd;)Z"⟩, prog_11_method_17_code, 6, (some .boolean), false, 1, 1029, 1027, 1028, 103),
  (⟨"NamesThatShrink$Search", "isWanted", "(JJ)Z"⟩, prog_11_method_18_code, 8, (some .boolean), false, 2, 1000, 999, 34, 103),
  (⟨"NamesThatShrink$Search", "bestOf", "(IZ)I"⟩, prog_11_method_19_code, 7, (some .int), false, 2, 996, 995, 33, 103),
  (⟨"NamesThatShrink$Search", "tellCalls", "(LNamesThatShrink$Row;)I"⟩, prog_11_method_20_code, 5, (some .int), false, 1, 992, 990, 991, 103),
  (⟨"NamesThatShrink$Search", "trace", "(II)V"⟩, prog_11_method_21_code, 9, none, false, 2, 1004, 1003, 35, 103),
  (⟨"NamesThatShrink$Search", "nextCall", "()I"⟩, prog_11_method_22_code, 5, (some .int), false, 0, 1012, 1011, 36, 103),
  (⟨"NamesThatShrink$Search", "tellLosses", "(LNamesThatShrink$Row;)I"⟩, prog_11_method_23_code, 6, (some .int), false, 1, 1021, 1019, 1020, 103),
  (⟨"NamesThatShrink$Search", "tellAlone", "(IILNamesThatShrink$Row;)I"⟩, prog_11_method_24_code, 10, (some .int), false, 3, 1037, 1035, 1036, 103),
  (⟨"NamesThatShrink$Search", "callsTo", "(J)I"⟩, prog_11_method_25_code, 8, (some .int), false, 1, 1055, 1053, 1054, 103),
  (⟨"NamesThatShrink$Text", "<init>", "()V"⟩, prog_12_method_1_code, 1, none, false, 0, 132, 131, 0, 98),
  (⟨"NamesThatShrink$Text", "append", "(I)Z"⟩, prog_12_method_2_code, 3, (some .boolean), false, 1, 564, 562, 563, 98),
  (⟨"NamesThatShrink$Text", "cut", "(I)Z"⟩, prog_12_method_3_code, 2, (some .boolean), false, 1, 572, 570, 571, 98),
  (⟨"NamesThatShrink$Text", "startReading", "(I)V"⟩, prog_12_method_4_code, 2, none, false, 1, 584, 582, 583, 98),
  (⟨"NamesThatShrink$Text", "look", "()I"⟩, prog_12_method_5_code, 1, (some .int), false, 0, 588, 586, 587, 98),
  (⟨"NamesThatShrink$Text", "fault", "()I"⟩, prog_12_method_6_code, 1, (some .int), false, 0, 609, 607, 608, 98),
  (⟨"NamesThatShrink$Text", "take", "(I)Z"⟩, prog_12_method_7_code, 2, (some .boolean), false, 1, 601, 599, 600, 98),
  (⟨"NamesThatShrink$Text", "takeDigit", "()I"⟩, prog_12_method_8_code, 2, (some .int), false, 0, 605, 603, 604, 98),
  (⟨"NamesThatShrink$Text", "takeName", "()V"⟩, prog_12_method_9_code, 3, none, false, 0, 596, 594, 595, 98),
  (⟨"NamesThatShrink", "<init>", "()V"⟩, prog_1_method_1_code, 1, none, false, 0, 124, 123, 0, 97),
  (⟨"NamesThatShrink", "sign", "(I)I"⟩, prog_1_method_2_code, 2, (some .int), false, 1, 560, 558, 559, 97),
  (⟨"NamesThatShrink", "end", "(I)Z"⟩, prog_1_method_3_code, 2, (some .boolean), false, 1, 568, 566, 567, 97)]
def zx_ms3 : List zx_Mt := [
  (⟨"NamesThatShrink", "crowd", "()I"⟩, prog_1_method_4_code, 2, (some .int), false, 0, 576, 574, 575, 97),
  (⟨"NamesThatShrink", "sheet", "(IIII)I"⟩, prog_1_method_5_code, 7, (some .int), false, 4, 625, 623, 624, 97),
  (⟨"NamesThatShrink", "of", "(II)I"⟩, prog_1_method_6_code, 3, (some .int), false, 2, 1240, 1238, 1239, 97),
  (⟨"NamesThatShrink", "set", "(III)I"⟩, prog_1_method_7_code, 5, (some .int), false, 3, 647, 645, 646, 97),
  (⟨"NamesThatShrink", "call", "(I)I"⟩, prog_1_method_8_code, 2, (some .int), false, 1, 651, 649, 650, 97),
  (⟨"NamesThatShrink", "hey", "(I)I"⟩, prog_1_method_9_code, 3, (some .int), false, 1, 671, 669, 670, 97),
  (⟨"NamesThatShrink", "begin", "(I)I"⟩, prog_1_method_10_code, 2, (some .int), false, 1, 679, 677, 678, 97),
  (⟨"NamesThatShrink", "undo", "()I"⟩, prog_1_method_11_code, 1, (some .int), false, 0, 690, 688, 689, 97),
  (⟨"NamesThatShrink", "order", "()I"⟩, prog_1_method_12_code, 2, (some .int), false, 0, 698, 696, 697, 97),
  (⟨"NamesThatShrink", "pass", "(II)I"⟩, prog_1_method_13_code, 5, (some .int), false, 2, 777, 775, 776, 97),
  (⟨"NamesThatShrink", "rename", "(II)I"⟩, prog_1_method_14_code, 3, (some .int), false, 2, 788, 786, 787, 97),
  (⟨"NamesThatShrink", "season", "(I)I"⟩, prog_1_method_15_code, 5, (some .int), false, 1, 796, 794, 795, 97),
  (⟨"NamesThatShrink", "common", "(II)I"⟩, prog_1_method_16_code, 3, (some .int), false, 2, 814, 812, 813, 97),
  (⟨"NamesThatShrink", "meet", "(II)I"⟩, prog_1_method_17_code, 5, (some .int), false, 2, 821, 819, 820, 97),
  (⟨"NamesThatShrink", "pairs", "(I)I"⟩, prog_1_method_18_code, 5, (some .int), false, 1, 825, 823, 824, 97),
  (⟨"NamesThatShrink", "tree", "()I"⟩, prog_1_method_19_code, 9, (some .int), false, 0, 832, 830, 831, 97),
  (⟨"NamesThatShrink", "most", "()I"⟩, prog_1_method_20_code, 4, (some .int), false, 0, 843, 841, 842, 97),
  (⟨"NamesThatShrink", "fewest", "(J)I"⟩, prog_1_method_21_code, 3, (some .int), false, 1, 913, 911, 912, 97),
  (⟨"NamesThatShrink", "losses", "(J)I"⟩, prog_1_method_22_code, 3, (some .int), false, 1, 1017, 1015, 1016, 97),
  (⟨"NamesThatShrink", "river", "()I"⟩, prog_1_method_23_code, 1, (some .int), false, 0, 1025, 1023, 1024, 97),
  (⟨"NamesThatShrink", "alone", "(II)I"⟩, prog_1_method_24_code, 3, (some .int), false, 2, 1033, 1031, 1032, 97),
  (⟨"NamesThatShrink", "states", "()I"⟩, prog_1_method_25_code, 2, (some .int), false, 0, 1046, 1044, 1045, 97),
  (⟨"NamesThatShrink", "comes", "(J)I"⟩, prog_1_method_26_code, 4, (some .int), false, 1, 1050, 1048, 1049, 97),
  (⟨"NamesThatShrink", "names", "(III)I"⟩, prog_1_method_27_code, 4, (some .int), false, 3, 1059, 1057, 1058, 97),
  (⟨"NamesThatShrink", "safe", "(II)I"⟩, prog_1_method_28_code, 3, (some .int), false, 2, 1131, 1129, 1130, 97),
  (⟨"NamesThatShrink", "listen", "(I)I"⟩, prog_1_method_29_code, 2, (some .int), false, 1, 1147, 1145, 1146, 97),
  (⟨"NamesThatShrink", "hears", "(IZ)I"⟩, prog_1_method_30_code, 4, (some .int), false, 2, 1155, 1153, 1154, 97),
  (⟨"NamesThatShrink", "knows", "()I"⟩, prog_1_method_31_code, 2, (some .int), false, 0, 1192, 1190, 1191, 97),
  (⟨"NamesThatShrink", "asks", "()I"⟩, prog_1_method_32_code, 2, (some .int), false, 0, 1197, 1195, 1196, 97),
  (⟨"NamesThatShrink", "forget", "()I"⟩, prog_1_method_33_code, 1, (some .int), false, 0, 1202, 1200, 1201, 97),
  (⟨"NamesThatShrink", "seed", "(I)I"⟩, prog_1_method_34_code, 3, (some .int), false, 1, 1206, 1204, 1205, 97),
  (⟨"NamesThatShrink", "keep", "(I)Z"⟩, prog_1_method_35_code, 2, (some .boolean), false, 1, 1210, 1208, 1209, 97),
  (⟨"NamesThatShrink", "again", "(I)Z"⟩, prog_1_method_36_code, 2, (some .boolean), false, 1, 1219, 1217, 1218, 97),
  (⟨"NamesThatShrink", "count", "(I)I"⟩, prog_1_method_37_code, 2, (some .int), false, 1, 1228, 1226, 1227, 97),
  (⟨"NamesThatShrink", "row", "(I)I"⟩, prog_1_method_38_code, 2, (some .int), false, 1, 1308, 1306, 1307, 97),
  (⟨"NamesThatShrink", "areTwo", "(II)Z"⟩, prog_1_method_39_code, 3, (some .boolean), false, 2, 781, 780, 14, 97),
  (⟨"NamesThatShrink", "tellsOfNobody", "(J)Z"⟩, prog_1_method_40_code, 3, (some .boolean), false, 1, 917, 916, 24, 97),
  (⟨"NamesThatShrink", "fourBits", "(JI)I"⟩, prog_1_method_41_code, 3, (some .int), true, 2, 984, 983, 0, 97),
  (⟨"NamesThatShrink", "asKind", "(II)I"⟩, prog_1_method_42_code, 2, (some .int), true, 2, 628, 627, 0, 97),
  (⟨"NamesThatShrink", "isBeforeInTree", "(II)Z"⟩, prog_1_method_43_code, 3, (some .boolean), true, 2, 839, 838, 0, 97)]
def zx_ms4 : List zx_Mt := [
  (⟨"NamesThatShrink", "isCode", "(I)Z"⟩, prog_1_method_44_code, 3, (some .boolean), true, 1, 631, 630, 0, 97),
  (⟨"NamesThatShrink", "lettersOf", "(I)I"⟩, prog_1_method_45_code, 4, (some .int), true, 1, 784, 783, 0, 97),
  (⟨"NamesThatShrink", "startsWith", "(II)Z"⟩, prog_1_method_46_code, 4, (some .boolean), true, 2, 686, 685, 0, 97),
  (⟨"NamesThatShrink", "shared", "(II)I"⟩, prog_1_method_47_code, 5, (some .int), true, 2, 817, 816, 0, 97),
  (⟨"NamesThatShrink", "canMeet", "(III)Z"⟩, prog_1_method_48_code, 4, (some .boolean), true, 3, 828, 827, 0, 97),
  (⟨"NamesThatShrinkModel", "thrown", "()I"⟩, prog_14_method_1_code, 1, (some .int), false, 0, 1312, 1310, 1311, 109),
  (⟨"NamesThatShrinkModel", "refuse", "()I"⟩, prog_14_method_2_code, 1, (some .int), false, 0, 1387, 1386, 57, 109),
  (⟨"NamesThatShrinkModel", "in", "(JJJ)Z"⟩, prog_14_method_3_code, 6, (some .boolean), true, 3, 1323, 1322, 0, 109),
  (⟨"NamesThatShrinkModel", "has", "(II)Z"⟩, prog_14_method_4_code, 2, (some .boolean), true, 2, 1417, 1416, 0, 109),
  (⟨"NamesThatShrinkModel", "flag", "(Z)I"⟩, prog_14_method_5_code, 1, (some .int), true, 1, 1354, 1353, 0, 109),
  (⟨"NamesThatShrinkModel", "enters", "(I)V"⟩, prog_14_method_6_code, 2, none, false, 1, 1476, 1475, 69, 109),
  (⟨"NamesThatShrinkModel", "lengthOf", "(I)I"⟩, prog_14_method_7_code, 3, (some .int), true, 1, 1375, 1374, 0, 109),
  (⟨"NamesThatShrinkModel", "isCode", "(I)Z"⟩, prog_14_method_8_code, 3, (some .boolean), true, 1, 1372, 1371, 0, 109),
  (⟨"NamesThatShrinkModel", "firstOf", "(II)I"⟩, prog_14_method_9_code, 4, (some .int), true, 2, 1431, 1430, 0, 109),
  (⟨"NamesThatShrinkModel", "alike", "(II)I"⟩, prog_14_method_10_code, 3, (some .int), true, 2, 1514, 1513, 0, 109),
  (⟨"NamesThatShrinkModel", "isPerson", "(I)Z"⟩, prog_14_method_11_code, 2, (some .boolean), false, 1, 1383, 1382, 56, 109),
  (⟨"NamesThatShrinkModel", "sign", "(I)I"⟩, prog_14_method_12_code, 3, (some .int), false, 1, 1316, 1314, 1315, 109),
  (⟨"NamesThatShrinkModel", "end", "(I)Z"⟩, prog_14_method_13_code, 2, (some .boolean), false, 1, 1320, 1318, 1319, 109),
  (⟨"NamesThatShrinkModel", "begins", "(I)I"⟩, prog_14_method_14_code, 3, (some .int), false, 1, 1332, 1330, 49, 109),
  (⟨"NamesThatShrinkModel", "takes", "(I)Z"⟩, prog_14_method_15_code, 3, (some .boolean), false, 1, 1351, 1350, 53, 109),
  (⟨"NamesThatShrinkModel", "isLetter", "()Z"⟩, prog_14_method_16_code, 1, (some .boolean), false, 0, 1345, 1344, 52, 109),
  (⟨"NamesThatShrinkModel", "letters", "()I"⟩, prog_14_method_17_code, 3, (some .int), false, 0, 1341, 1340, 51, 109),
  (⟨"NamesThatShrinkModel", "isDigit", "()Z"⟩, prog_14_method_18_code, 1, (some .boolean), false, 0, 1358, 1357, 54, 109),
  (⟨"NamesThatShrinkModel", "faultOf", "(IIZ)I"⟩, prog_14_method_19_code, 5, (some .int), false, 3, 1364, 1363, 55, 109),
  (⟨"NamesThatShrinkModel", "readsLine", "()Z"⟩, prog_14_method_20_code, 3, (some .boolean), false, 0, 1337, 1336, 50, 109),
  (⟨"NamesThatShrinkModel", "crowd", "()I"⟩, prog_14_method_21_code, 7, (some .int), false, 0, 1327, 1325, 1326, 109),
  (⟨"NamesThatShrinkModel", "sheet", "(IIII)I"⟩, prog_14_method_22_code, 9, (some .int), false, 4, 1368, 1366, 1367, 109),
  (⟨"NamesThatShrinkModel", "of", "(II)I"⟩, prog_14_method_23_code, 3, (some .int), false, 2, 1379, 1377, 1378, 109),
  (⟨"NamesThatShrinkModel", "set", "(III)I"⟩, prog_14_method_24_code, 5, (some .int), false, 3, 1391, 1389, 1390, 109),
  (⟨"NamesThatShrinkModel", "whoHave", "(I)I"⟩, prog_14_method_25_code, 4, (some .int), false, 1, 1409, 1408, 59, 109),
  (⟨"NamesThatShrinkModel", "turns", "(II)V"⟩, prog_14_method_26_code, 4, none, false, 2, 1414, 1413, 60, 109),
  (⟨"NamesThatShrinkModel", "calls", "(I)I"⟩, prog_14_method_27_code, 4, (some .int), false, 1, 1405, 1404, 58, 109),
  (⟨"NamesThatShrinkModel", "isName", "(I)Z"⟩, prog_14_method_28_code, 1, (some .boolean), true, 1, 1401, 1400, 0, 109),
  (⟨"NamesThatShrinkModel", "call", "(I)I"⟩, prog_14_method_29_code, 2, (some .int), false, 1, 1398, 1396, 1397, 109),
  (⟨"NamesThatShrinkModel", "hey", "(I)I"⟩, prog_14_method_30_code, 2, (some .int), false, 1, 1421, 1419, 1420, 109),
  (⟨"NamesThatShrinkModel", "beginsWith", "(II)Z"⟩, prog_14_method_31_code, 2, (some .boolean), true, 2, 1428, 1427, 0, 109),
  (⟨"NamesThatShrinkModel", "begin", "(I)I"⟩, prog_14_method_32_code, 4, (some .int), false, 1, 1425, 1423, 1424, 109),
  (⟨"NamesThatShrinkModel", "undo", "()I"⟩, prog_14_method_33_code, 2, (some .int), false, 0, 1435, 1433, 1434, 109),
  (⟨"NamesThatShrinkModel", "group", "()Z"⟩, prog_14_method_34_code, 1, (some .boolean), false, 0, 1451, 1450, 63, 109),
  (⟨"NamesThatShrinkModel", "step", "()Z"⟩, prog_14_method_35_code, 1, (some .boolean), false, 0, 1447, 1446, 62, 109)]
def zx_ms5 : List zx_Mt := [
  (⟨"NamesThatShrinkModel", "steps", "()Z"⟩, prog_14_method_36_code, 2, (some .boolean), false, 0, 1443, 1442, 61, 109),
  (⟨"NamesThatShrinkModel", "made", "(I)V"⟩, prog_14_method_37_code, 3, none, false, 1, 1472, 1471, 68, 109),
  (⟨"NamesThatShrinkModel", "madeAll", "(I)V"⟩, prog_14_method_38_code, 8, none, false, 1, 1467, 1466, 67, 109),
  (⟨"NamesThatShrinkModel", "passes", "()V"⟩, prog_14_method_39_code, 3, none, false, 0, 1463, 1462, 66, 109),
  (⟨"NamesThatShrinkModel", "does", "()V"⟩, prog_14_method_40_code, 4, none, false, 0, 1459, 1458, 65, 109),
  (⟨"NamesThatShrinkModel", "doesAll", "()V"⟩, prog_14_method_41_code, 1, none, false, 0, 1455, 1454, 64, 109),
  (⟨"NamesThatShrinkModel", "order", "()I"⟩, prog_14_method_42_code, 4, (some .int), false, 0, 1439, 1437, 1438, 109),
  (⟨"NamesThatShrinkModel", "pass", "(II)I"⟩, prog_14_method_43_code, 3, (some .int), false, 2, 1480, 1478, 1479, 109),
  (⟨"NamesThatShrinkModel", "priceOf", "(I)I"⟩, prog_14_method_44_code, 4, (some .int), false, 1, 1488, 1487, 70, 109),
  (⟨"NamesThatShrinkModel", "rename", "(II)I"⟩, prog_14_method_45_code, 3, (some .int), false, 2, 1484, 1482, 1483, 109),
  (⟨"NamesThatShrinkModel", "draws", "(I)I"⟩, prog_14_method_46_code, 2, (some .int), false, 1, 1501, 1500, 72, 109),
  (⟨"NamesThatShrinkModel", "named", "()I"⟩, prog_14_method_47_code, 1, (some .int), false, 0, 1497, 1496, 71, 109),
  (⟨"NamesThatShrinkModel", "season", "(I)I"⟩, prog_14_method_48_code, 6, (some .int), false, 1, 1492, 1490, 1491, 109),
  (⟨"NamesThatShrinkModel", "areTwo", "(II)Z"⟩, prog_14_method_49_code, 3, (some .boolean), false, 2, 1511, 1510, 73, 109),
  (⟨"NamesThatShrinkModel", "common", "(II)I"⟩, prog_14_method_50_code, 3, (some .int), false, 2, 1507, 1505, 1506, 109),
  (⟨"NamesThatShrinkModel", "meet", "(II)I"⟩, prog_14_method_51_code, 4, (some .int), false, 2, 1518, 1516, 1517, 109),
  (⟨"NamesThatShrinkModel", "canMeet", "(III)Z"⟩, prog_14_method_52_code, 4, (some .boolean), true, 3, 1526, 1525, 0, 109),
  (⟨"NamesThatShrinkModel", "pairs", "(I)I"⟩, prog_14_method_53_code, 5, (some .int), false, 1, 1522, 1520, 1521, 109),
  (⟨"NamesThatShrinkModel", "tree", "()I"⟩, prog_14_method_54_code, 11, (some .int), false, 0, 1530, 1528, 1529, 109),
  (⟨"NamesThatShrinkModel", "leftOf", "(JI)I"⟩, prog_14_method_55_code, 3, (some .int), true, 2, 1559, 1558, 0, 109),
  (⟨"NamesThatShrinkModel", "nameIn", "(JI)I"⟩, prog_14_method_56_code, 4, (some .int), false, 2, 1556, 1555, 78, 109),
  (⟨"NamesThatShrinkModel", "slotOf", "(J)I"⟩, prog_14_method_57_code, 4, (some .int), false, 1, 1547, 1546, 76, 109),
  (⟨"NamesThatShrinkModel", "answerTo", "(JI)I"⟩, prog_14_method_58_code, 7, (some .int), false, 2, 1552, 1551, 77, 109),
  (⟨"NamesThatShrinkModel", "behind", "(JI)J"⟩, prog_14_method_59_code, 7, (some .long), false, 2, 1567, 1566, 80, 109),
  (⟨"NamesThatShrinkModel", "canCall", "(JII)Z"⟩, prog_14_method_60_code, 5, (some .boolean), false, 3, 1563, 1562, 79, 109),
  (⟨"NamesThatShrinkModel", "stateNow", "()J"⟩, prog_14_method_61_code, 4, (some .long), false, 0, 1543, 1542, 75, 109),
  (⟨"NamesThatShrinkModel", "explores", "(I)Z"⟩, prog_14_method_62_code, 8, (some .boolean), false, 1, 1538, 1537, 74, 109),
  (⟨"NamesThatShrinkModel", "bestGood", "()I"⟩, prog_14_method_63_code, 4, (some .int), false, 0, 1590, 1589, 84, 109),
  (⟨"NamesThatShrinkModel", "tellsWay", "(I)I"⟩, prog_14_method_64_code, 9, (some .int), false, 1, 1594, 1593, 85, 109),
  (⟨"NamesThatShrinkModel", "isNextGood", "(II)Z"⟩, prog_14_method_65_code, 4, (some .boolean), false, 2, 1598, 1597, 86, 109),
  (⟨"NamesThatShrinkModel", "most", "()I"⟩, prog_14_method_66_code, 4, (some .int), false, 0, 1534, 1532, 1533, 109),
  (⟨"NamesThatShrinkModel", "dueOf", "(JI)I"⟩, prog_14_method_67_code, 3, (some .int), true, 2, 1586, 1585, 0, 109),
  (⟨"NamesThatShrinkModel", "areDues", "(J)Z"⟩, prog_14_method_68_code, 3, (some .boolean), false, 1, 1575, 1574, 81, 109),
  (⟨"NamesThatShrinkModel", "lostBy", "(II)I"⟩, prog_14_method_69_code, 3, (some .int), false, 2, 1583, 1582, 83, 109),
  (⟨"NamesThatShrinkModel", "marksDues", "(J)V"⟩, prog_14_method_70_code, 5, none, false, 1, 1579, 1578, 82, 109),
  (⟨"NamesThatShrinkModel", "fewest", "(J)I"⟩, prog_14_method_71_code, 4, (some .int), false, 1, 1571, 1569, 1570, 109),
  (⟨"NamesThatShrinkModel", "losses", "(J)I"⟩, prog_14_method_72_code, 5, (some .int), false, 1, 1602, 1600, 1601, 109),
  (⟨"NamesThatShrinkModel", "river", "()I"⟩, prog_14_method_73_code, 3, (some .int), false, 0, 1606, 1604, 1605, 109),
  (⟨"NamesThatShrinkModel", "alone", "(II)I"⟩, prog_14_method_74_code, 6, (some .int), false, 2, 1610, 1608, 1609, 109),
  (⟨"NamesThatShrinkModel", "areUnlike", "(J)Z"⟩, prog_14_method_75_code, 4, (some .boolean), false, 1, 1618, 1617, 87, 109)]
def zx_ms6 : List zx_Mt := [
  (⟨"NamesThatShrinkModel", "states", "()I"⟩, prog_14_method_76_code, 4, (some .int), false, 0, 1614, 1612, 1613, 109),
  (⟨"NamesThatShrinkModel", "comes", "(J)I"⟩, prog_14_method_77_code, 4, (some .int), false, 1, 1622, 1620, 1621, 109),
  (⟨"NamesThatShrinkModel", "countOf", "(I)I"⟩, prog_14_method_78_code, 3, (some .int), true, 1, 1630, 1629, 0, 109),
  (⟨"NamesThatShrinkModel", "nameAt", "(III)I"⟩, prog_14_method_79_code, 7, (some .int), true, 3, 1633, 1632, 0, 109),
  (⟨"NamesThatShrinkModel", "isSafe", "(II)Z"⟩, prog_14_method_80_code, 5, (some .boolean), false, 2, 1637, 1636, 88, 109),
  (⟨"NamesThatShrinkModel", "isNew", "(III)Z"⟩, prog_14_method_81_code, 6, (some .boolean), false, 3, 1641, 1640, 89, 109),
  (⟨"NamesThatShrinkModel", "names", "(III)I"⟩, prog_14_method_82_code, 9, (some .int), false, 3, 1626, 1624, 1625, 109),
  (⟨"NamesThatShrinkModel", "safe", "(II)I"⟩, prog_14_method_83_code, 8, (some .int), false, 2, 1645, 1643, 1644, 109),
  (⟨"NamesThatShrinkModel", "heardBy", "(I)I"⟩, prog_14_method_84_code, 5, (some .int), false, 1, 1657, 1656, 91, 109),
  (⟨"NamesThatShrinkModel", "listens", "()V"⟩, prog_14_method_85_code, 6, none, false, 0, 1653, 1652, 90, 109),
  (⟨"NamesThatShrinkModel", "sorts", "(II)V"⟩, prog_14_method_86_code, 8, none, false, 2, 1673, 1672, 93, 109),
  (⟨"NamesThatShrinkModel", "listen", "(I)I"⟩, prog_14_method_87_code, 2, (some .int), false, 1, 1649, 1647, 1648, 109),
  (⟨"NamesThatShrinkModel", "hears", "(IZ)I"⟩, prog_14_method_88_code, 3, (some .int), false, 2, 1661, 1659, 1660, 109),
  (⟨"NamesThatShrinkModel", "runs", "()I"⟩, prog_14_method_89_code, 5, (some .int), false, 0, 1669, 1668, 92, 109),
  (⟨"NamesThatShrinkModel", "knows", "()I"⟩, prog_14_method_90_code, 2, (some .int), false, 0, 1665, 1663, 1664, 109),
  (⟨"NamesThatShrinkModel", "asks", "()I"⟩, prog_14_method_91_code, 6, (some .int), false, 0, 1678, 1676, 1677, 109),
  (⟨"NamesThatShrinkModel", "forget", "()I"⟩, prog_14_method_92_code, 1, (some .int), false, 0, 1682, 1680, 1681, 109),
  (⟨"NamesThatShrinkModel", "seed", "(I)I"⟩, prog_14_method_93_code, 3, (some .int), false, 1, 1686, 1684, 1685, 109),
  (⟨"NamesThatShrinkModel", "keep", "(I)Z"⟩, prog_14_method_94_code, 4, (some .boolean), false, 1, 1690, 1688, 1689, 109),
  (⟨"NamesThatShrinkModel", "again", "(I)Z"⟩, prog_14_method_95_code, 4, (some .boolean), false, 1, 1695, 1693, 1694, 109),
  (⟨"NamesThatShrinkModel", "sides", "()I"⟩, prog_14_method_96_code, 3, (some .int), false, 0, 1703, 1702, 94, 109),
  (⟨"NamesThatShrinkModel", "answersOfAll", "()I"⟩, prog_14_method_97_code, 3, (some .int), false, 0, 1707, 1706, 95, 109),
  (⟨"NamesThatShrinkModel", "count", "(I)I"⟩, prog_14_method_98_code, 2, (some .int), false, 1, 1699, 1697, 1698, 109),
  (⟨"NamesThatShrinkModel", "<init>", "()V"⟩, prog_14_method_99_code, 1, none, false, 0, 1711, 1710, 0, 109),
  (⟨"NamesThatShrinkModel", "row", "(I)I"⟩, prog_14_method_100_code, 2, (some .int), false, 1, 1864, 1862, 1863, 109),
  (⟨"java/lang/Integer", "numberOfTrailingZeros", "(I)I"⟩, prog_17_method_48_code, 2, (some .int), true, 1, 835, 834, 0, 112),
  (⟨"java/lang/Integer", "bitCount", "(I)I"⟩, prog_17_method_49_code, 1, (some .int), true, 1, 640, 639, 0, 112),
  (⟨"java/lang/Long", "numberOfTrailingZeros", "(J)I"⟩, prog_18_method_49_code, 3, (some .int), true, 1, 969, 968, 0, 118),
  (⟨"java/lang/Long", "bitCount", "(J)I"⟩, prog_18_method_50_code, 2, (some .int), true, 1, 973, 972, 0, 118),
  (⟨"java/lang/Math", "max", "(II)I"⟩, prog_19_method_65_code, 2, (some .int), true, 2, 878, 877, 0, 110),
  (⟨"java/lang/Math", "min", "(II)I"⟩, prog_19_method_69_code, 2, (some .int), true, 2, 667, 666, 0, 110),
  (⟨"java/util/Arrays", "fill", "([II)V"⟩, prog_24_method_103_code, 4, none, true, 2, 1007, 1006, 0, 119),
  (⟨"NamesThatShrinkLaw", "law", "([I)Z"⟩, code, 7, (some .boolean), true, 1, 0, 0, 0, 96)]
def zx_ms : List zx_Mt := zx_ms0 ++ (zx_ms1 ++ (zx_ms2 ++ (zx_ms3 ++ (zx_ms4 ++ (zx_ms5 ++ (zx_ms6))))))
def zx_mcl : List Nat := [0, 0, 0, 0, 0, 0, 0, 0, 0, 0, 0, 0, 0, 0, 0, 1, 1, 1, 1, 2, 2, 2, 3, 3, 3, 3, 3, 3, 3, 3, 3, 3, 3, 3, 3, 3, 4, 4, 4, 4, 4, 4, 4, 4, 4, 4, 5, 5, 5, 5, 5, 5, 5, 5, 5, 5, 5, 5, 5, 6, 6, 6, 6, 6, 6, 6, 6, 6, 6, 6, 6, 6, 6, 6, 7, 7, 7, 7, 7, 7, 8, 8, 8, 9, 9, 9, 9, 9, 9, 9, 9, 9, 9, 9, 9, 9, 9, 9, 9, 9, 9, 9, 9, 9, 9, 9, 9, 9, 10, 10, 10, 10, 10, 10, 10, 10, 10, 11, 11, 11, 11, 11, 11, 11, 11, 11, 11, 11, 11, 11, 11, 11, 11, 11, 11, 11, 11, 11, 11, 11, 11, 11, 11, 11, 11, 11, 11, 11, 11, 11, 11, 11, 11, 11, 11, 11, 11, 11, 11, 11, 11, 11, 11, 11, 11, 12, 12, 12, 12, 12, 12, 12, 12, 12, 12, 12, 12, 12, 12, 12, 12, 12, 12, 12, 12, 12, 12, 12, 12, 12, 12, 12, 12, 12, 12, 12, 12, 12, 12, 12, 12, 12, 12, 12, 12, 12, 12, 12, 12, 12, 12, 12, 12, 12, 12, 12, 12, 12, 12, 12, 12, 12, 12, 12, 12, 12, 12, 12, 12, 12, 12, 12, 12, 12, 12, 12, 12, 12, 12, 12, 12, 12, 12, 12, 12, 12, 12, 12, 12, 12, 12, 12, 12, 12, 12, 12, 12, 12, 12, 12, 12, 12, 12, 12, 12, 99, 99, 99, 99, 99, 99, 99, 99]
def zx_mc (k : Nat) : Nat := zx_mcl.getD k 99
def zx_m (k : Nat) : zx_Mt := zx_ms.getD k (⟨"", "", ""⟩, code, 0, none, false, 0, 0, 0, 0, 0)
def zx_y (k : Nat) : MethodName := (zx_m k).1
def zx_b (k : Nat) : ByteArray := (zx_m k).2.1
def zx_mL (k : Nat) : Nat := (zx_m k).2.2.1
def zx_rt (k : Nat) : Option FieldType := (zx_m k).2.2.2.1
def zx_st (k : Nat) : Bool := (zx_m k).2.2.2.2.1
def zx_np (k : Nat) : Nat := (zx_m k).2.2.2.2.2.1
def zx_own (k : Nat) : String := (zx_y k).cls
def zx_good : List Jvm.Cond := lw_tbl.filter goodWord
def zx_w (p : Nat) (w : Jvm.Cond) : Bool := decide (lw_tbl[p]? = some w) && goodWord w
def zx_wn (p : Nat) (w : Jvm.Cond) : Bool := decide (lw_tbl[p]? = some w)
theorem zx_w_mem {p : Nat} {w : Jvm.Cond} (h : zx_w p w = true) : w ∈ zx_good := by
  simp only [zx_w, Bool.and_eq_true, decide_eq_true_eq] at h
  exact List.mem_filter.mpr ⟨List.mem_of_getElem? h.1, h.2⟩
theorem zx_wn_mem {p : Nat} {w : Jvm.Cond} (h : zx_wn p w = true) : w ∈ lw_tbl := by
  simp only [zx_wn, decide_eq_true_eq] at h
  exact List.mem_of_getElem? h
/-- a method's own words -/
def zx_mok (k : Nat) : Bool :=
  zx_w (zx_m k).2.2.2.2.2.2.1 (.code (zx_y k) (zx_b k) (zx_mL k) (zx_rt k)) &&
  (if zx_st k then zx_w (zx_m k).2.2.2.2.2.2.2.1 (.static (zx_y k)) else
    zx_w (zx_m k).2.2.2.2.2.2.2.1 (.instanceMethod (zx_y k)) && (decide ((zx_y k).name = "<init>") || zx_w (zx_m k).2.2.2.2.2.2.2.2.1 (.selects (zx_y k).cls (zx_y k) (zx_y k)))) &&
  zx_w (zx_m k).2.2.2.2.2.2.2.2.2 (.initialized (zx_y k).cls) &&
  decide ((zx_y k).cls ≠ "java/lang/invoke/MethodHandle" ∧ (zx_y k).cls ≠ "java/lang/invoke/VarHandle" ∧ (parseMethodDescriptor (zx_y k).desc).map (fun d => d.parameters.length) = some (zx_np k)) && decide (zx_mL k ≤ 45) && plainName (zx_y k).cls && (zx_st k || decide (zx_mc k < 13 ∧ zx_C (zx_mc k) = (zx_y k).cls))
abbrev zx_En : Type := Nat × Nat × Instr × Int32 × Int64 × Nat × Nat × Nat
/-- the lengths of the instructions -/
def zx_len (i : Instr) : Nat := match i with
  | .aload _ | .iload _ | .lload _ | .astore _ | .istore _ | .lstore _ | .bipush _ | .ldc _ | .newarray _ => 2
  | .sipush _ | .ldc_w _ | .ldc2_w _ | .iinc _ _ | .ifCond _ _ | .if_icmp _ _ | .goto _ | .getfield _ | .putfield _ | .getstatic _ | .new _ | .anewarray _ | .invokevirtual _ | .invokespecial _ | .invokestatic _ => 3
  | .multianewarray _ _ => 4
  | .tableswitch _ _ _ _ => 0
  | _ => 1
/-- an instruction's row: it is what the bytes decode to; what its pool entry links stands among the tables' words -/
def zx_opr (k pc : Nat) (ins : Instr) (v : Int32) (w : Int64) (p a b : Nat) : Bool := match ins with
  | .iconst n => decide (Int32.ofInt n = v)
  | .bipush n => decide ((Int8.ofInt n).toInt32 = v)
  | .sipush n => decide ((Int16.ofInt n).toInt32 = v)
  | .lconst n => decide (Int64.ofNat (n : Nat) = w)
  | .iinc i n => decide (Int32.ofInt n = v) && decide (i < zx_mL k)
  | .istore i => decide (i < zx_mL k)
  | .istore_n i => decide ((i : Nat) < zx_mL k)
  | .astore i => decide (i < zx_mL k)
  | .astore_n i => decide ((i : Nat) < zx_mL k)
  | .lstore i => decide (i + 1 < zx_mL k)
  | .lstore_n i => decide ((i : Nat) + 1 < zx_mL k)
  | .ldc i => zx_w p (.constant (zx_own k) i v)
  | .ldc_w i => zx_w p (.constant (zx_own k) i v)
  | .ldc2_w i => zx_w p (.constantLong (zx_own k) i w)
  | .getfield i => decide (a < 13 ∧ b < zx_N a) && zx_w p (.fieldLink (zx_own k) i (zx_T a b).1 (zx_T a b).2.1 (zx_T a b).2.2.1)
  | .putfield i => decide (a < 13 ∧ b < zx_N a) && zx_w p (.fieldLink (zx_own k) i (zx_T a b).1 (zx_T a b).2.1 (zx_T a b).2.2.1) && (!(zx_T a b).2.2.2 || decide ((zx_y k).name = "<init>" ∧ (zx_T a b).1 = zx_own k))
  | .getstatic i => zx_w p (.fieldLink (zx_own k) i "NamesThatShrink$NewNames" (if a = 1 then "SEVENS" else "SIXES") "[I") && decide (a = 1 ∨ a = 2)
  | .ifCond _ off => decide ((pc : Int) + off = (a : Int))
  | .if_icmp _ off => decide ((pc : Int) + off = (a : Int))
  | .goto off => decide ((pc : Int) + off = (a : Int))
  | .tableswitch d _ _ os => decide (0 ≤ (pc : Int) + d) && os.all (fun x => decide (0 ≤ (pc : Int) + x))
  | .newarray t => decide (newarray.typeOf t = zx_at a ∧ 20 ≤ a ∧ a ≤ 23) && zx_w p (.arrayClass (zx_at a))
  | .anewarray i => decide (a = 26) && zx_w p (.classLink (zx_own k) i "NamesThatShrink$Picks")
  | .multianewarray i n => decide (n = 2 ∧ (a = 24 ∨ a = 25)) && zx_w p (.classLink (zx_own k) i (if a = 24 then "[[I" else "[[J"))
  | .new i => decide (a = 99) || (decide (a < 13) && zx_w p (.classLink (zx_own k) i (zx_C a)))
  | .invokevirtual i => decide (a = 0) && !zx_st b && zx_mok b && zx_w p (.methodLink (zx_own k) i (zx_y b)) && decide ((zx_y b).name ≠ "<init>")
  | .invokespecial i => (decide (a = 1) && !zx_st b && zx_mok b && zx_w p (.methodLink (zx_own k) i (zx_y b)) && decide ((zx_y b).name = "<init>" ∧ zx_rt b = none)) ||
      (decide (a = 3) && !zx_st b && zx_mok b && zx_wn p (.methodLinkNest (zx_own k) i (zx_y b) "NamesThatShrink") && decide ((zx_y b).name = "<init>" ∧ zx_rt b = none)) ||
      (decide (a = 5) && zx_w p (.methodLink (zx_own k) i Lib.objectInit)) || decide (a = 9)
  | .invokestatic i => (decide (a = 2) && zx_st b && zx_mok b && zx_w p (.methodLink (zx_own k) i (zx_y b))) ||
      (decide (a = 4) && zx_st b && zx_mok b && zx_wn p (.methodLinkNest (zx_own k) i (zx_y b) "NamesThatShrink")) ||
      (decide (a = 6) && zx_w p (.methodLink (zx_own k) i arraycopyName)) || (decide (a = 7) && zx_w p (.methodLink (zx_own k) i Lib.Math.max.name)) || (decide (a = 8) && zx_w p (.methodLink (zx_own k) i Lib.Math.min.name)) || decide (a = 9)
  | _ => true
def zx_chk (k : Nat) (e : zx_En) : Bool := match e with
  | (pc, len, ins, v, w, p, a, b) => (match decode (zx_b k) pc with
    | .ok q => decide (q = (ins, len))
    | .error _ => false) && decide (zx_len ins = 0 ∨ len = zx_len ins) && zx_opr k pc ins v w p a b
end
section
/-- NamesThatShrink$Crowd.<init>()V -/
def zt_0 : List zx_En := [
  (0, 1, .aload_n 0, 0, 0, 0, 0, 0),
  (1, 3, .invokespecial 3, 0, 0, 179, 5, 0),
  (4, 1, .aload_n 0, 0, 0, 0, 0, 0),
  (5, 2, .bipush 10, 10, 0, 0, 0, 0),
  (7, 2, .newarray .int, 0, 0, 158, 20, 0),
  (9, 3, .putfield 9, 0, 0, 180, 0, 0),
  (12, 1, .aload_n 0, 0, 0, 0, 0, 0),
  (13, 2, .bipush 10, 10, 0, 0, 0, 0),
  (15, 2, .newarray .int, 0, 0, 158, 20, 0),
  (17, 3, .putfield 15, 0, 0, 187, 0, 1),
  (20, 1, .aload_n 0, 0, 0, 0, 0, 0),
  (21, 2, .bipush 6, 6, 0, 0, 0, 0),
  (23, 2, .newarray .int, 0, 0, 158, 20, 0),
  (25, 1, .dup, 0, 0, 0, 0, 0),
  (26, 1, .iconst 0, 0, 0, 0, 0, 0),
  (27, 1, .iconst 1, 1, 0, 0, 0, 0),
  (28, 1, .iastore, 0, 0, 0, 0, 0),
  (29, 1, .dup, 0, 0, 0, 0, 0),
  (30, 1, .iconst 1, 1, 0, 0, 0, 0),
  (31, 1, .iconst 1, 1, 0, 0, 0, 0),
  (32, 1, .iastore, 0, 0, 0, 0, 0),
  (33, 1, .dup, 0, 0, 0, 0, 0),
  (34, 1, .iconst 2, 2, 0, 0, 0, 0),
  (35, 1, .iconst 1, 1, 0, 0, 0, 0),
  (36, 1, .iastore, 0, 0, 0, 0, 0),
  (37, 1, .dup, 0, 0, 0, 0, 0),
  (38, 1, .iconst 3, 3, 0, 0, 0, 0),
  (39, 1, .iconst 1, 1, 0, 0, 0, 0),
  (40, 1, .iastore, 0, 0, 0, 0, 0),
  (41, 1, .dup, 0, 0, 0, 0, 0),
  (42, 1, .iconst 4, 4, 0, 0, 0, 0),
  (43, 1, .iconst 1, 1, 0, 0, 0, 0),
  (44, 1, .iastore, 0, 0, 0, 0, 0),
  (45, 1, .dup, 0, 0, 0, 0, 0),
  (46, 1, .iconst 5, 5, 0, 0, 0, 0),
  (47, 1, .iconst 1, 1, 0, 0, 0, 0),
  (48, 1, .iastore, 0, 0, 0, 0, 0),
  (49, 3, .putfield 18, 0, 0, 190, 0, 2),
  (52, 1, .aload_n 0, 0, 0, 0, 0, 0),
  (53, 2, .bipush 60, 60, 0, 0, 0, 0),
  (55, 2, .newarray .int, 0, 0, 158, 20, 0),
  (57, 3, .putfield 21, 0, 0, 194, 0, 3),
  (60, 1, .aload_n 0, 0, 0, 0, 0, 0),
  (61, 2, .bipush 60, 60, 0, 0, 0, 0),
  (63, 2, .newarray .int, 0, 0, 158, 20, 0),
  (65, 3, .putfield 24, 0, 0, 195, 0, 4),
  (68, 1, .aload_n 0, 0, 0, 0, 0, 0),
  (69, 2, .bipush 10, 10, 0, 0, 0, 0),
  (71, 3, .putfield 27, 0, 0, 207, 0, 9),
  (74, 1, .aload_n 0, 0, 0, 0, 0, 0),
  (75, 1, .iconst 1, 1, 0, 0, 0, 0),
  (76, 3, .putfield 31, 0, 0, 210, 0, 10),
  (79, 1, .return_, 0, 0, 0, 0, 0)]
set_option maxRecDepth 100000 in
theorem zk_0 : zt_0.all (zx_chk 0) = true := by decide +kernel
/-- NamesThatShrink$Crowd.has(I)Z -/
def zt_1 : List zx_En := [
  (0, 1, .iload_n 1, 0, 0, 0, 0, 0),
  (1, 3, .ifCond .lt 21, 0, 0, 0, 22, 0),
  (4, 1, .iload_n 1, 0, 0, 0, 0, 0),
  (5, 1, .aload_n 0, 0, 0, 0, 0, 0),
  (6, 3, .getfield 34, 0, 0, 199, 0, 7),
  (9, 3, .if_icmp .ge 13, 0, 0, 0, 22, 0),
  (12, 1, .iload_n 1, 0, 0, 0, 0, 0),
  (13, 2, .bipush 10, 10, 0, 0, 0, 0),
  (15, 3, .if_icmp .ge 7, 0, 0, 0, 22, 0),
  (18, 1, .iconst 1, 1, 0, 0, 0, 0),
  (19, 3, .goto 4, 0, 0, 0, 23, 0),
  (22, 1, .iconst 0, 0, 0, 0, 0, 0),
  (23, 1, .ireturn, 0, 0, 0, 0, 0)]
set_option maxRecDepth 100000 in
theorem zk_1 : zt_1.all (zx_chk 1) = true := by decide +kernel
/-- NamesThatShrink$Crowd.join(I)V -/
def zt_2 : List zx_En := [
  (0, 1, .aload_n 0, 0, 0, 0, 0, 0),
  (1, 3, .getfield 34, 0, 0, 199, 0, 7),
  (4, 2, .bipush 10, 10, 0, 0, 0, 0),
  (6, 3, .if_icmp .ge 23, 0, 0, 0, 29, 0),
  (9, 1, .aload_n 0, 0, 0, 0, 0, 0),
  (10, 3, .getfield 9, 0, 0, 180, 0, 0),
  (13, 1, .aload_n 0, 0, 0, 0, 0, 0),
  (14, 3, .getfield 34, 0, 0, 199, 0, 7),
  (17, 1, .iload_n 1, 0, 0, 0, 0, 0),
  (18, 1, .iastore, 0, 0, 0, 0, 0),
  (19, 1, .aload_n 0, 0, 0, 0, 0, 0),
  (20, 1, .dup, 0, 0, 0, 0, 0),
  (21, 3, .getfield 34, 0, 0, 199, 0, 7),
  (24, 1, .iconst 1, 1, 0, 0, 0, 0),
  (25, 1, .iadd, 0, 0, 0, 0, 0),
  (26, 3, .putfield 34, 0, 0, 199, 0, 7),
  (29, 1, .return_, 0, 0, 0, 0, 0)]
set_option maxRecDepth 100000 in
theorem zk_2 : zt_2.all (zx_chk 2) = true := by decide +kernel
/-- NamesThatShrink$Crowd.everybody()I -/
def zt_3 : List zx_En := [
  (0, 1, .iconst 1, 1, 0, 0, 0, 0),
  (1, 1, .aload_n 0, 0, 0, 0, 0, 0),
  (2, 3, .getfield 34, 0, 0, 199, 0, 7),
  (5, 1, .ishl, 0, 0, 0, 0, 0),
  (6, 1, .iconst 1, 1, 0, 0, 0, 0),
  (7, 1, .isub, 0, 0, 0, 0, 0),
  (8, 1, .ireturn, 0, 0, 0, 0, 0)]
set_option maxRecDepth 100000 in
theorem zk_3 : zt_3.all (zx_chk 3) = true := by decide +kernel
/-- NamesThatShrink$Crowd.named()I -/
def zt_4 : List zx_En := [
  (0, 1, .iconst 0, 0, 0, 0, 0, 0),
  (1, 1, .istore_n 1, 0, 0, 0, 0, 0),
  (2, 1, .iconst 0, 0, 0, 0, 0, 0),
  (3, 1, .istore_n 2, 0, 0, 0, 0, 0),
  (4, 1, .iload_n 2, 0, 0, 0, 0, 0),
  (5, 2, .bipush 10, 10, 0, 0, 0, 0),
  (7, 3, .if_icmp .ge 24, 0, 0, 0, 31, 0),
  (10, 1, .aload_n 0, 0, 0, 0, 0, 0),
  (11, 3, .getfield 9, 0, 0, 180, 0, 0),
  (14, 1, .iload_n 2, 0, 0, 0, 0, 0),
  (15, 1, .iaload, 0, 0, 0, 0, 0),
  (16, 3, .ifCond .eq 9, 0, 0, 0, 25, 0),
  (19, 1, .iload_n 1, 0, 0, 0, 0, 0),
  (20, 1, .iconst 1, 1, 0, 0, 0, 0),
  (21, 1, .iload_n 2, 0, 0, 0, 0, 0),
  (22, 1, .ishl, 0, 0, 0, 0, 0),
  (23, 1, .ior, 0, 0, 0, 0, 0),
  (24, 1, .istore_n 1, 0, 0, 0, 0, 0),
  (25, 3, .iinc 2 1, 1, 0, 0, 0, 0),
  (28, 3, .goto (-24), 0, 0, 0, 4, 0),
  (31, 1, .iload_n 1, 0, 0, 0, 0, 0),
  (32, 1, .ireturn, 0, 0, 0, 0, 0)]
set_option maxRecDepth 100000 in
theorem zk_4 : zt_4.all (zx_chk 4) = true := by decide +kernel
/-- NamesThatShrink$Crowd.whoHas(I)I -/
def zt_5 : List zx_En := [
  (0, 1, .iconst 0, 0, 0, 0, 0, 0),
  (1, 1, .istore_n 2, 0, 0, 0, 0, 0),
  (2, 1, .iconst 0, 0, 0, 0, 0, 0),
  (3, 1, .istore_n 3, 0, 0, 0, 0, 0),
  (4, 1, .iload_n 3, 0, 0, 0, 0, 0),
  (5, 2, .bipush 10, 10, 0, 0, 0, 0),
  (7, 3, .if_icmp .ge 25, 0, 0, 0, 32, 0),
  (10, 1, .aload_n 0, 0, 0, 0, 0, 0),
  (11, 3, .getfield 9, 0, 0, 180, 0, 0),
  (14, 1, .iload_n 3, 0, 0, 0, 0, 0),
  (15, 1, .iaload, 0, 0, 0, 0, 0),
  (16, 1, .iload_n 1, 0, 0, 0, 0, 0),
  (17, 3, .if_icmp .ne 9, 0, 0, 0, 26, 0),
  (20, 1, .iload_n 2, 0, 0, 0, 0, 0),
  (21, 1, .iconst 1, 1, 0, 0, 0, 0),
  (22, 1, .iload_n 3, 0, 0, 0, 0, 0),
  (23, 1, .ishl, 0, 0, 0, 0, 0),
  (24, 1, .ior, 0, 0, 0, 0, 0),
  (25, 1, .istore_n 2, 0, 0, 0, 0, 0),
  (26, 3, .iinc 3 1, 1, 0, 0, 0, 0),
  (29, 3, .goto (-25), 0, 0, 0, 4, 0),
  (32, 1, .iload_n 2, 0, 0, 0, 0, 0),
  (33, 1, .ireturn, 0, 0, 0, 0, 0)]
set_option maxRecDepth 100000 in
theorem zk_5 : zt_5.all (zx_chk 5) = true := by decide +kernel
/-- NamesThatShrink$Crowd.beginners(I)I -/
def zt_6 : List zx_En := [
  (0, 1, .iconst 0, 0, 0, 0, 0, 0),
  (1, 1, .istore_n 2, 0, 0, 0, 0, 0),
  (2, 1, .iconst 0, 0, 0, 0, 0, 0),
  (3, 1, .istore_n 3, 0, 0, 0, 0, 0),
  (4, 1, .iload_n 3, 0, 0, 0, 0, 0),
  (5, 2, .bipush 10, 10, 0, 0, 0, 0),
  (7, 3, .if_icmp .ge 37, 0, 0, 0, 44, 0),
  (10, 1, .aload_n 0, 0, 0, 0, 0, 0),
  (11, 3, .getfield 9, 0, 0, 180, 0, 0),
  (14, 1, .iload_n 3, 0, 0, 0, 0, 0),
  (15, 1, .iaload, 0, 0, 0, 0, 0),
  (16, 3, .ifCond .eq 22, 0, 0, 0, 38, 0),
  (19, 1, .aload_n 0, 0, 0, 0, 0, 0),
  (20, 3, .getfield 9, 0, 0, 180, 0, 0),
  (23, 1, .iload_n 3, 0, 0, 0, 0, 0),
  (24, 1, .iaload, 0, 0, 0, 0, 0),
  (25, 1, .iload_n 1, 0, 0, 0, 0, 0),
  (26, 3, .invokestatic 37, 0, 0, 684, 4, 162),
  (29, 3, .ifCond .eq 9, 0, 0, 0, 38, 0),
  (32, 1, .iload_n 2, 0, 0, 0, 0, 0),
  (33, 1, .iconst 1, 1, 0, 0, 0, 0),
  (34, 1, .iload_n 3, 0, 0, 0, 0, 0),
  (35, 1, .ishl, 0, 0, 0, 0, 0),
  (36, 1, .ior, 0, 0, 0, 0, 0),
  (37, 1, .istore_n 2, 0, 0, 0, 0, 0),
  (38, 3, .iinc 3 1, 1, 0, 0, 0, 0),
  (41, 3, .goto (-37), 0, 0, 0, 4, 0),
  (44, 1, .iload_n 2, 0, 0, 0, 0, 0),
  (45, 1, .ireturn, 0, 0, 0, 0, 0)]
set_option maxRecDepth 100000 in
theorem zk_6 : zt_6.all (zx_chk 6) = true := by decide +kernel
/-- NamesThatShrink$Crowd.answers()I -/
def zt_7 : List zx_En := [
  (0, 1, .iconst 0, 0, 0, 0, 0, 0),
  (1, 1, .istore_n 1, 0, 0, 0, 0, 0),
  (2, 1, .iconst 0, 0, 0, 0, 0, 0),
  (3, 1, .istore_n 2, 0, 0, 0, 0, 0),
  (4, 1, .iload_n 2, 0, 0, 0, 0, 0),
  (5, 2, .bipush 10, 10, 0, 0, 0, 0),
  (7, 3, .if_icmp .ge 18, 0, 0, 0, 25, 0),
  (10, 1, .iload_n 1, 0, 0, 0, 0, 0),
  (11, 1, .aload_n 0, 0, 0, 0, 0, 0),
  (12, 3, .getfield 15, 0, 0, 187, 0, 1),
  (15, 1, .iload_n 2, 0, 0, 0, 0, 0),
  (16, 1, .iaload, 0, 0, 0, 0, 0),
  (17, 1, .iadd, 0, 0, 0, 0, 0),
  (18, 1, .istore_n 1, 0, 0, 0, 0, 0),
  (19, 3, .iinc 2 1, 1, 0, 0, 0, 0),
  (22, 3, .goto (-18), 0, 0, 0, 4, 0),
  (25, 1, .iload_n 1, 0, 0, 0, 0, 0),
  (26, 1, .ireturn, 0, 0, 0, 0, 0)]
set_option maxRecDepth 100000 in
theorem zk_7 : zt_7.all (zx_chk 7) = true := by decide +kernel
/-- NamesThatShrink$Crowd.priceOf(I)I -/
def zt_8 : List zx_En := [
  (0, 1, .iconst 0, 0, 0, 0, 0, 0),
  (1, 1, .istore_n 2, 0, 0, 0, 0, 0),
  (2, 1, .iload_n 1, 0, 0, 0, 0, 0),
  (3, 1, .istore_n 3, 0, 0, 0, 0, 0),
  (4, 1, .iconst 0, 0, 0, 0, 0, 0),
  (5, 2, .istore 4, 0, 0, 0, 0, 0),
  (7, 2, .iload 4, 0, 0, 0, 0, 0),
  (9, 2, .bipush 8, 8, 0, 0, 0, 0),
  (11, 3, .if_icmp .ge 41, 0, 0, 0, 52, 0),
  (14, 1, .iload_n 3, 0, 0, 0, 0, 0),
  (15, 3, .ifCond .le 37, 0, 0, 0, 52, 0),
  (18, 1, .iload_n 3, 0, 0, 0, 0, 0),
  (19, 2, .bipush 7, 7, 0, 0, 0, 0),
  (21, 1, .irem, 0, 0, 0, 0, 0),
  (22, 2, .istore 5, 0, 0, 0, 0, 0),
  (24, 2, .iload 5, 0, 0, 0, 0, 0),
  (26, 3, .ifCond .le 15, 0, 0, 0, 41, 0),
  (29, 1, .iload_n 2, 0, 0, 0, 0, 0),
  (30, 1, .aload_n 0, 0, 0, 0, 0, 0),
  (31, 3, .getfield 18, 0, 0, 190, 0, 2),
  (34, 2, .iload 5, 0, 0, 0, 0, 0),
  (36, 1, .iconst 1, 1, 0, 0, 0, 0),
  (37, 1, .isub, 0, 0, 0, 0, 0),
  (38, 1, .iaload, 0, 0, 0, 0, 0),
  (39, 1, .iadd, 0, 0, 0, 0, 0),
  (40, 1, .istore_n 2, 0, 0, 0, 0, 0),
  (41, 1, .iload_n 3, 0, 0, 0, 0, 0),
  (42, 2, .bipush 7, 7, 0, 0, 0, 0),
  (44, 1, .idiv, 0, 0, 0, 0, 0),
  (45, 1, .istore_n 3, 0, 0, 0, 0, 0),
  (46, 3, .iinc 4 1, 1, 0, 0, 0, 0),
  (49, 3, .goto (-42), 0, 0, 0, 7, 0),
  (52, 1, .iload_n 2, 0, 0, 0, 0, 0),
  (53, 1, .ireturn, 0, 0, 0, 0, 0)]
set_option maxRecDepth 100000 in
theorem zk_8 : zt_8.all (zx_chk 8) = true := by decide +kernel
/-- NamesThatShrink$Crowd.callOut(I)I -/
def zt_9 : List zx_En := [
  (0, 1, .aload_n 0, 0, 0, 0, 0, 0),
  (1, 1, .iload_n 1, 0, 0, 0, 0, 0),
  (2, 3, .invokevirtual 41, 0, 0, 656, 0, 5),
  (5, 1, .istore_n 2, 0, 0, 0, 0, 0),
  (6, 1, .iload_n 2, 0, 0, 0, 0, 0),
  (7, 3, .invokestatic 45, 0, 0, 660, 2, 266),
  (10, 1, .aload_n 0, 0, 0, 0, 0, 0),
  (11, 3, .getfield 27, 0, 0, 207, 0, 9),
  (14, 3, .if_icmp .le 6, 0, 0, 0, 20, 0),
  (17, 2, .bipush (-2), (-2), 0, 0, 0, 0),
  (19, 1, .ireturn, 0, 0, 0, 0, 0),
  (20, 1, .iload_n 2, 0, 0, 0, 0, 0),
  (21, 3, .ifCond .eq 65, 0, 0, 0, 86, 0),
  (24, 1, .iconst 0, 0, 0, 0, 0, 0),
  (25, 1, .istore_n 3, 0, 0, 0, 0, 0),
  (26, 1, .iload_n 3, 0, 0, 0, 0, 0),
  (27, 2, .bipush 10, 10, 0, 0, 0, 0),
  (29, 3, .if_icmp .ge 38, 0, 0, 0, 67, 0),
  (32, 1, .iload_n 2, 0, 0, 0, 0, 0),
  (33, 1, .iload_n 3, 0, 0, 0, 0, 0),
  (34, 1, .ishr, 0, 0, 0, 0, 0),
  (35, 1, .iconst 1, 1, 0, 0, 0, 0),
  (36, 1, .iand, 0, 0, 0, 0, 0),
  (37, 3, .ifCond .eq 24, 0, 0, 0, 61, 0),
  (40, 1, .aload_n 0, 0, 0, 0, 0, 0),
  (41, 3, .getfield 9, 0, 0, 180, 0, 0),
  (44, 1, .iload_n 3, 0, 0, 0, 0, 0),
  (45, 1, .dup2, 0, 0, 0, 0, 0),
  (46, 1, .iaload, 0, 0, 0, 0, 0),
  (47, 2, .bipush 7, 7, 0, 0, 0, 0),
  (49, 1, .idiv, 0, 0, 0, 0, 0),
  (50, 1, .iastore, 0, 0, 0, 0, 0),
  (51, 1, .aload_n 0, 0, 0, 0, 0, 0),
  (52, 3, .getfield 15, 0, 0, 187, 0, 1),
  (55, 1, .iload_n 3, 0, 0, 0, 0, 0),
  (56, 1, .dup2, 0, 0, 0, 0, 0),
  (57, 1, .iaload, 0, 0, 0, 0, 0),
  (58, 1, .iconst 1, 1, 0, 0, 0, 0),
  (59, 1, .iadd, 0, 0, 0, 0, 0),
  (60, 1, .iastore, 0, 0, 0, 0, 0),
  (61, 3, .iinc 3 1, 1, 0, 0, 0, 0),
  (64, 3, .goto (-38), 0, 0, 0, 26, 0),
  (67, 1, .aload_n 0, 0, 0, 0, 0, 0),
  (68, 1, .dup, 0, 0, 0, 0, 0),
  (69, 3, .getfield 50, 0, 0, 205, 0, 8),
  (72, 1, .iload_n 2, 0, 0, 0, 0, 0),
  (73, 1, .ixor, 0, 0, 0, 0, 0),
  (74, 3, .putfield 50, 0, 0, 205, 0, 8),
  (77, 1, .aload_n 0, 0, 0, 0, 0, 0),
  (78, 1, .iload_n 2, 0, 0, 0, 0, 0),
  (79, 1, .iload_n 1, 0, 0, 0, 0, 0),
  (80, 2, .bipush 7, 7, 0, 0, 0, 0),
  (82, 1, .irem, 0, 0, 0, 0, 0),
  (83, 3, .invokevirtual 53, 0, 0, 661, 0, 10),
  (86, 1, .iload_n 2, 0, 0, 0, 0, 0),
  (87, 1, .ireturn, 0, 0, 0, 0, 0)]
set_option maxRecDepth 100000 in
theorem zk_9 : zt_9.all (zx_chk 9) = true := by decide +kernel
/-- NamesThatShrink$Crowd.log(II)V -/
def zt_10 : List zx_En := [
  (0, 1, .aload_n 0, 0, 0, 0, 0, 0),
  (1, 3, .getfield 57, 0, 0, 198, 0, 6),
  (4, 3, .ifCond .lt 12, 0, 0, 0, 16, 0),
  (7, 1, .aload_n 0, 0, 0, 0, 0, 0),
  (8, 3, .getfield 57, 0, 0, 198, 0, 6),
  (11, 2, .bipush 60, 60, 0, 0, 0, 0),
  (13, 3, .if_icmp .lt 8, 0, 0, 0, 21, 0),
  (16, 1, .aload_n 0, 0, 0, 0, 0, 0),
  (17, 1, .iconst 0, 0, 0, 0, 0, 0),
  (18, 3, .putfield 57, 0, 0, 198, 0, 6),
  (21, 1, .aload_n 0, 0, 0, 0, 0, 0),
  (22, 3, .getfield 21, 0, 0, 194, 0, 3),
  (25, 1, .aload_n 0, 0, 0, 0, 0, 0),
  (26, 3, .getfield 57, 0, 0, 198, 0, 6),
  (29, 1, .iload_n 1, 0, 0, 0, 0, 0),
  (30, 1, .iastore, 0, 0, 0, 0, 0),
  (31, 1, .aload_n 0, 0, 0, 0, 0, 0),
  (32, 3, .getfield 24, 0, 0, 195, 0, 4),
  (35, 1, .aload_n 0, 0, 0, 0, 0, 0),
  (36, 3, .getfield 57, 0, 0, 198, 0, 6),
  (39, 1, .iload_n 2, 0, 0, 0, 0, 0),
  (40, 1, .iastore, 0, 0, 0, 0, 0),
  (41, 1, .aload_n 0, 0, 0, 0, 0, 0),
  (42, 1, .dup, 0, 0, 0, 0, 0),
  (43, 3, .getfield 57, 0, 0, 198, 0, 6),
  (46, 1, .iconst 1, 1, 0, 0, 0, 0),
  (47, 1, .iadd, 0, 0, 0, 0, 0),
  (48, 3, .putfield 57, 0, 0, 198, 0, 6),
  (51, 1, .aload_n 0, 0, 0, 0, 0, 0),
  (52, 1, .aload_n 0, 0, 0, 0, 0, 0),
  (53, 3, .getfield 60, 0, 0, 197, 0, 5),
  (56, 1, .iconst 1, 1, 0, 0, 0, 0),
  (57, 1, .iadd, 0, 0, 0, 0, 0),
  (58, 2, .bipush 60, 60, 0, 0, 0, 0),
  (60, 3, .invokestatic 63, 0, 0, 665, 8, 0),
  (63, 3, .putfield 60, 0, 0, 197, 0, 5),
  (66, 1, .return_, 0, 0, 0, 0, 0)]
set_option maxRecDepth 100000 in
theorem zk_10 : zt_10.all (zx_chk 10) = true := by decide +kernel
/-- NamesThatShrink$Crowd.forgetCalls()V -/
def zt_11 : List zx_En := [
  (0, 1, .aload_n 0, 0, 0, 0, 0, 0),
  (1, 1, .iconst 0, 0, 0, 0, 0, 0),
  (2, 3, .putfield 60, 0, 0, 197, 0, 5),
  (5, 1, .return_, 0, 0, 0, 0, 0)]
set_option maxRecDepth 100000 in
theorem zk_11 : zt_11.all (zx_chk 11) = true := by decide +kernel
/-- NamesThatShrink$Crowd.takeBack()Z -/
def zt_12 : List zx_En := [
  (0, 1, .aload_n 0, 0, 0, 0, 0, 0),
  (1, 3, .getfield 60, 0, 0, 197, 0, 5),
  (4, 3, .ifCond .ne 5, 0, 0, 0, 9, 0),
  (7, 1, .iconst 0, 0, 0, 0, 0, 0),
  (8, 1, .ireturn, 0, 0, 0, 0, 0),
  (9, 1, .aload_n 0, 0, 0, 0, 0, 0),
  (10, 1, .dup, 0, 0, 0, 0, 0),
  (11, 3, .getfield 60, 0, 0, 197, 0, 5),
  (14, 1, .iconst 1, 1, 0, 0, 0, 0),
  (15, 1, .isub, 0, 0, 0, 0, 0),
  (16, 3, .putfield 60, 0, 0, 197, 0, 5),
  (19, 1, .aload_n 0, 0, 0, 0, 0, 0),
  (20, 3, .getfield 57, 0, 0, 198, 0, 6),
  (23, 3, .ifCond .le 16, 0, 0, 0, 39, 0),
  (26, 1, .aload_n 0, 0, 0, 0, 0, 0),
  (27, 3, .getfield 57, 0, 0, 198, 0, 6),
  (30, 2, .bipush 60, 60, 0, 0, 0, 0),
  (32, 3, .if_icmp .gt 7, 0, 0, 0, 39, 0),
  (35, 1, .iconst 1, 1, 0, 0, 0, 0),
  (36, 3, .goto 4, 0, 0, 0, 40, 0),
  (39, 1, .iconst 0, 0, 0, 0, 0, 0),
  (40, 1, .istore_n 1, 0, 0, 0, 0, 0),
  (41, 1, .aload_n 0, 0, 0, 0, 0, 0),
  (42, 1, .iload_n 1, 0, 0, 0, 0, 0),
  (43, 3, .ifCond .eq 12, 0, 0, 0, 55, 0),
  (46, 1, .aload_n 0, 0, 0, 0, 0, 0),
  (47, 3, .getfield 57, 0, 0, 198, 0, 6),
  (50, 1, .iconst 1, 1, 0, 0, 0, 0),
  (51, 1, .isub, 0, 0, 0, 0, 0),
  (52, 3, .goto 5, 0, 0, 0, 57, 0),
  (55, 2, .bipush 59, 59, 0, 0, 0, 0),
  (57, 3, .putfield 57, 0, 0, 198, 0, 6),
  (60, 1, .aload_n 0, 0, 0, 0, 0, 0),
  (61, 3, .getfield 21, 0, 0, 194, 0, 3),
  (64, 1, .aload_n 0, 0, 0, 0, 0, 0),
  (65, 3, .getfield 57, 0, 0, 198, 0, 6),
  (68, 1, .iaload, 0, 0, 0, 0, 0),
  (69, 1, .istore_n 2, 0, 0, 0, 0, 0),
  (70, 1, .iconst 0, 0, 0, 0, 0, 0),
  (71, 1, .istore_n 3, 0, 0, 0, 0, 0),
  (72, 1, .iload_n 3, 0, 0, 0, 0, 0),
  (73, 2, .bipush 10, 10, 0, 0, 0, 0),
  (75, 3, .if_icmp .ge 52, 0, 0, 0, 127, 0),
  (78, 1, .iload_n 2, 0, 0, 0, 0, 0),
  (79, 1, .iload_n 3, 0, 0, 0, 0, 0),
  (80, 1, .ishr, 0, 0, 0, 0, 0),
  (81, 1, .iconst 1, 1, 0, 0, 0, 0),
  (82, 1, .iand, 0, 0, 0, 0, 0),
  (83, 3, .ifCond .eq 38, 0, 0, 0, 121, 0),
  (86, 1, .aload_n 0, 0, 0, 0, 0, 0),
  (87, 3, .getfield 9, 0, 0, 180, 0, 0),
  (90, 1, .iload_n 3, 0, 0, 0, 0, 0),
  (91, 1, .aload_n 0, 0, 0, 0, 0, 0),
  (92, 3, .getfield 9, 0, 0, 180, 0, 0),
  (95, 1, .iload_n 3, 0, 0, 0, 0, 0),
  (96, 1, .iaload, 0, 0, 0, 0, 0),
  (97, 2, .bipush 7, 7, 0, 0, 0, 0),
  (99, 1, .imul, 0, 0, 0, 0, 0),
  (100, 1, .aload_n 0, 0, 0, 0, 0, 0),
  (101, 3, .getfield 24, 0, 0, 195, 0, 4),
  (104, 1, .aload_n 0, 0, 0, 0, 0, 0),
  (105, 3, .getfield 57, 0, 0, 198, 0, 6),
  (108, 1, .iaload, 0, 0, 0, 0, 0),
  (109, 1, .iadd, 0, 0, 0, 0, 0),
  (110, 1, .iastore, 0, 0, 0, 0, 0),
  (111, 1, .aload_n 0, 0, 0, 0, 0, 0),
  (112, 3, .getfield 15, 0, 0, 187, 0, 1),
  (115, 1, .iload_n 3, 0, 0, 0, 0, 0),
  (116, 1, .dup2, 0, 0, 0, 0, 0),
  (117, 1, .iaload, 0, 0, 0, 0, 0),
  (118, 1, .iconst 1, 1, 0, 0, 0, 0),
  (119, 1, .isub, 0, 0, 0, 0, 0),
  (120, 1, .iastore, 0, 0, 0, 0, 0),
  (121, 3, .iinc 3 1, 1, 0, 0, 0, 0),
  (124, 3, .goto (-52), 0, 0, 0, 72, 0),
  (127, 1, .aload_n 0, 0, 0, 0, 0, 0),
  (128, 1, .dup, 0, 0, 0, 0, 0),
  (129, 3, .getfield 50, 0, 0, 205, 0, 8),
  (132, 1, .iload_n 2, 0, 0, 0, 0, 0),
  (133, 1, .ixor, 0, 0, 0, 0, 0),
  (134, 3, .putfield 50, 0, 0, 205, 0, 8),
  (137, 1, .iconst 1, 1, 0, 0, 0, 0),
  (138, 1, .ireturn, 0, 0, 0, 0, 0)]
set_option maxRecDepth 100000 in
theorem zk_12 : zt_12.all (zx_chk 12) = true := by decide +kernel
/-- NamesThatShrink$Crowd.draw(I)I -/
def zt_13 : List zx_En := [
  (0, 1, .aload_n 0, 0, 0, 0, 0, 0),
  (1, 1, .aload_n 0, 0, 0, 0, 0, 0),
  (2, 3, .getfield 31, 0, 0, 210, 0, 10),
  (5, 2, .ldc 69, 1103515245, 0, 806, 0, 0),
  (7, 1, .imul, 0, 0, 0, 0, 0),
  (8, 3, .sipush 12345, 12345, 0, 0, 0, 0),
  (11, 1, .iadd, 0, 0, 0, 0, 0),
  (12, 3, .putfield 31, 0, 0, 210, 0, 10),
  (15, 1, .iload_n 1, 0, 0, 0, 0, 0),
  (16, 3, .ifCond .le 15, 0, 0, 0, 31, 0),
  (19, 1, .aload_n 0, 0, 0, 0, 0, 0),
  (20, 3, .getfield 31, 0, 0, 210, 0, 10),
  (23, 2, .bipush 16, 16, 0, 0, 0, 0),
  (25, 1, .iushr, 0, 0, 0, 0, 0),
  (26, 1, .iload_n 1, 0, 0, 0, 0, 0),
  (27, 1, .irem, 0, 0, 0, 0, 0),
  (28, 3, .goto 4, 0, 0, 0, 32, 0),
  (31, 1, .iconst 0, 0, 0, 0, 0, 0),
  (32, 1, .ireturn, 0, 0, 0, 0, 0)]
set_option maxRecDepth 100000 in
theorem zk_13 : zt_13.all (zx_chk 13) = true := by decide +kernel
/-- NamesThatShrink$Crowd.drawName()I -/
def zt_14 : List zx_En := [
  (0, 1, .aload_n 0, 0, 0, 0, 0, 0),
  (1, 1, .aload_n 0, 0, 0, 0, 0, 0),
  (2, 3, .invokevirtual 70, 0, 0, 801, 0, 4),
  (5, 3, .invokestatic 45, 0, 0, 660, 2, 266),
  (8, 3, .invokevirtual 74, 0, 0, 802, 0, 13),
  (11, 1, .istore_n 1, 0, 0, 0, 0, 0),
  (12, 1, .iconst 0, 0, 0, 0, 0, 0),
  (13, 1, .istore_n 2, 0, 0, 0, 0, 0),
  (14, 1, .iload_n 2, 0, 0, 0, 0, 0),
  (15, 2, .bipush 10, 10, 0, 0, 0, 0),
  (17, 3, .if_icmp .ge 32, 0, 0, 0, 49, 0),
  (20, 1, .aload_n 0, 0, 0, 0, 0, 0),
  (21, 3, .getfield 9, 0, 0, 180, 0, 0),
  (24, 1, .iload_n 2, 0, 0, 0, 0, 0),
  (25, 1, .iaload, 0, 0, 0, 0, 0),
  (26, 3, .ifCond .eq 17, 0, 0, 0, 43, 0),
  (29, 1, .iload_n 1, 0, 0, 0, 0, 0),
  (30, 3, .ifCond .ne 10, 0, 0, 0, 40, 0),
  (33, 1, .aload_n 0, 0, 0, 0, 0, 0),
  (34, 3, .getfield 9, 0, 0, 180, 0, 0),
  (37, 1, .iload_n 2, 0, 0, 0, 0, 0),
  (38, 1, .iaload, 0, 0, 0, 0, 0),
  (39, 1, .ireturn, 0, 0, 0, 0, 0),
  (40, 3, .iinc 1 (-1), (-1), 0, 0, 0, 0),
  (43, 3, .iinc 2 1, 1, 0, 0, 0, 0),
  (46, 3, .goto (-32), 0, 0, 0, 14, 0),
  (49, 1, .iconst 0, 0, 0, 0, 0, 0),
  (50, 1, .ireturn, 0, 0, 0, 0, 0)]
set_option maxRecDepth 100000 in
theorem zk_14 : zt_14.all (zx_chk 14) = true := by decide +kernel
/-- NamesThatShrink$CrowdText.<init>(LNamesThatShrink$Text;)V -/
def zt_15 : List zx_En := [
  (0, 1, .aload_n 0, 0, 0, 0, 0, 0),
  (1, 3, .invokespecial 3, 0, 0, 241, 5, 0),
  (4, 1, .aload_n 0, 0, 0, 0, 0, 0),
  (5, 2, .bipush 76, 76, 0, 0, 0, 0),
  (7, 2, .newarray .int, 0, 0, 158, 20, 0),
  (9, 3, .putfield 11, 0, 0, 243, 1, 1),
  (12, 1, .aload_n 0, 0, 0, 0, 0, 0),
  (13, 2, .bipush 76, 76, 0, 0, 0, 0),
  (15, 2, .newarray .int, 0, 0, 158, 20, 0),
  (17, 3, .putfield 15, 0, 0, 244, 1, 2),
  (20, 1, .aload_n 0, 0, 0, 0, 0, 0),
  (21, 1, .aload_n 1, 0, 0, 0, 0, 0),
  (22, 3, .putfield 18, 0, 0, 242, 1, 0),
  (25, 1, .return_, 0, 0, 0, 0, 0)]
set_option maxRecDepth 100000 in
theorem zk_15 : zt_15.all (zx_chk 15) = true := by decide +kernel
/-- NamesThatShrink$CrowdText.read(I)I -/
def zt_16 : List zx_En := [
  (0, 1, .aload_n 0, 0, 0, 0, 0, 0),
  (1, 3, .getfield 18, 0, 0, 242, 1, 0),
  (4, 2, .bipush 76, 76, 0, 0, 0, 0),
  (6, 3, .invokevirtual 22, 0, 0, 581, 0, 111),
  (9, 1, .aload_n 0, 0, 0, 0, 0, 0),
  (10, 1, .iconst 0, 0, 0, 0, 0, 0),
  (11, 3, .putfield 28, 0, 0, 245, 1, 3),
  (14, 1, .aload_n 0, 0, 0, 0, 0, 0),
  (15, 1, .iload_n 1, 0, 0, 0, 0, 0),
  (16, 3, .putfield 32, 0, 0, 246, 1, 4),
  (19, 1, .aload_n 0, 0, 0, 0, 0, 0),
  (20, 3, .getfield 18, 0, 0, 242, 1, 0),
  (23, 3, .invokevirtual 35, 0, 0, 585, 0, 112),
  (26, 1, .iconst (-1), (-1), 0, 0, 0, 0),
  (27, 3, .if_icmp .ne 5, 0, 0, 0, 32, 0),
  (30, 1, .iconst 0, 0, 0, 0, 0, 0),
  (31, 1, .ireturn, 0, 0, 0, 0, 0),
  (32, 1, .iconst 0, 0, 0, 0, 0, 0),
  (33, 1, .istore_n 2, 0, 0, 0, 0, 0),
  (34, 1, .iload_n 2, 0, 0, 0, 0, 0),
  (35, 2, .bipush 76, 76, 0, 0, 0, 0),
  (37, 3, .if_icmp .ge 60, 0, 0, 0, 97, 0),
  (40, 1, .aload_n 0, 0, 0, 0, 0, 0),
  (41, 3, .invokevirtual 39, 0, 0, 589, 0, 17),
  (44, 3, .ifCond .ne 11, 0, 0, 0, 55, 0),
  (47, 1, .aload_n 0, 0, 0, 0, 0, 0),
  (48, 3, .getfield 18, 0, 0, 242, 1, 0),
  (51, 3, .invokevirtual 43, 0, 0, 606, 0, 113),
  (54, 1, .ireturn, 0, 0, 0, 0, 0),
  (55, 1, .aload_n 0, 0, 0, 0, 0, 0),
  (56, 3, .getfield 18, 0, 0, 242, 1, 0),
  (59, 3, .invokevirtual 35, 0, 0, 585, 0, 112),
  (62, 1, .iconst (-1), (-1), 0, 0, 0, 0),
  (63, 3, .if_icmp .ne 8, 0, 0, 0, 71, 0),
  (66, 1, .aload_n 0, 0, 0, 0, 0, 0),
  (67, 3, .getfield 28, 0, 0, 245, 1, 3),
  (70, 1, .ireturn, 0, 0, 0, 0, 0),
  (71, 1, .aload_n 0, 0, 0, 0, 0, 0),
  (72, 3, .getfield 18, 0, 0, 242, 1, 0),
  (75, 2, .bipush 59, 59, 0, 0, 0, 0),
  (77, 3, .invokevirtual 46, 0, 0, 598, 0, 114),
  (80, 3, .ifCond .ne 11, 0, 0, 0, 91, 0),
  (83, 1, .aload_n 0, 0, 0, 0, 0, 0),
  (84, 3, .getfield 18, 0, 0, 242, 1, 0),
  (87, 3, .invokevirtual 43, 0, 0, 606, 0, 113),
  (90, 1, .ireturn, 0, 0, 0, 0, 0),
  (91, 3, .iinc 2 1, 1, 0, 0, 0, 0),
  (94, 3, .goto (-60), 0, 0, 0, 34, 0),
  (97, 1, .aload_n 0, 0, 0, 0, 0, 0),
  (98, 3, .getfield 18, 0, 0, 242, 1, 0),
  (101, 3, .invokevirtual 43, 0, 0, 606, 0, 113),
  (104, 1, .ireturn, 0, 0, 0, 0, 0)]
set_option maxRecDepth 100000 in
theorem zk_16 : zt_16.all (zx_chk 16) = true := by decide +kernel
/-- NamesThatShrink$CrowdText.readLine()Z -/
def zt_17 : List zx_En := [
  (0, 1, .aload_n 0, 0, 0, 0, 0, 0),
  (1, 3, .getfield 18, 0, 0, 242, 1, 0),
  (4, 3, .invokevirtual 50, 0, 0, 593, 0, 116),
  (7, 1, .aload_n 0, 0, 0, 0, 0, 0),
  (8, 3, .getfield 18, 0, 0, 242, 1, 0),
  (11, 3, .getfield 53, 0, 0, 142, 10, 5),
  (14, 3, .ifCond .eq 12, 0, 0, 0, 26, 0),
  (17, 1, .aload_n 0, 0, 0, 0, 0, 0),
  (18, 3, .getfield 28, 0, 0, 245, 1, 3),
  (21, 2, .bipush 76, 76, 0, 0, 0, 0),
  (23, 3, .if_icmp .lt 5, 0, 0, 0, 28, 0),
  (26, 1, .iconst 0, 0, 0, 0, 0, 0),
  (27, 1, .ireturn, 0, 0, 0, 0, 0),
  (28, 1, .iconst 0, 0, 0, 0, 0, 0),
  (29, 1, .istore_n 1, 0, 0, 0, 0, 0),
  (30, 1, .aload_n 0, 0, 0, 0, 0, 0),
  (31, 3, .getfield 18, 0, 0, 242, 1, 0),
  (34, 3, .getfield 53, 0, 0, 142, 10, 5),
  (37, 1, .iconst 1, 1, 0, 0, 0, 0),
  (38, 3, .if_icmp .ne 29, 0, 0, 0, 67, 0),
  (41, 1, .aload_n 0, 0, 0, 0, 0, 0),
  (42, 3, .getfield 18, 0, 0, 242, 1, 0),
  (45, 2, .bipush 61, 61, 0, 0, 0, 0),
  (47, 3, .invokevirtual 46, 0, 0, 598, 0, 114),
  (50, 3, .ifCond .eq 17, 0, 0, 0, 67, 0),
  (53, 1, .aload_n 0, 0, 0, 0, 0, 0),
  (54, 3, .getfield 18, 0, 0, 242, 1, 0),
  (57, 3, .invokevirtual 56, 0, 0, 602, 0, 115),
  (60, 1, .istore_n 1, 0, 0, 0, 0, 0),
  (61, 1, .iload_n 1, 0, 0, 0, 0, 0),
  (62, 3, .ifCond .ne 24, 0, 0, 0, 86, 0),
  (65, 1, .iconst 0, 0, 0, 0, 0, 0),
  (66, 1, .ireturn, 0, 0, 0, 0, 0),
  (67, 1, .aload_n 0, 0, 0, 0, 0, 0),
  (68, 3, .getfield 32, 0, 0, 246, 1, 4),
  (71, 3, .ifCond .ne 5, 0, 0, 0, 76, 0),
  (74, 1, .iconst 0, 0, 0, 0, 0, 0),
  (75, 1, .ireturn, 0, 0, 0, 0, 0),
  (76, 1, .aload_n 0, 0, 0, 0, 0, 0),
  (77, 1, .dup, 0, 0, 0, 0, 0),
  (78, 3, .getfield 32, 0, 0, 246, 1, 4),
  (81, 1, .iconst 1, 1, 0, 0, 0, 0),
  (82, 1, .isub, 0, 0, 0, 0, 0),
  (83, 3, .putfield 32, 0, 0, 246, 1, 4),
  (86, 1, .aload_n 0, 0, 0, 0, 0, 0),
  (87, 3, .getfield 11, 0, 0, 243, 1, 1),
  (90, 1, .aload_n 0, 0, 0, 0, 0, 0),
  (91, 3, .getfield 28, 0, 0, 245, 1, 3),
  (94, 1, .aload_n 0, 0, 0, 0, 0, 0),
  (95, 3, .getfield 18, 0, 0, 242, 1, 0),
  (98, 3, .getfield 59, 0, 0, 139, 10, 4),
  (101, 1, .iastore, 0, 0, 0, 0, 0),
  (102, 1, .aload_n 0, 0, 0, 0, 0, 0),
  (103, 3, .getfield 15, 0, 0, 244, 1, 2),
  (106, 1, .aload_n 0, 0, 0, 0, 0, 0),
  (107, 3, .getfield 28, 0, 0, 245, 1, 3),
  (110, 1, .iload_n 1, 0, 0, 0, 0, 0),
  (111, 1, .iastore, 0, 0, 0, 0, 0),
  (112, 1, .aload_n 0, 0, 0, 0, 0, 0),
  (113, 1, .dup, 0, 0, 0, 0, 0),
  (114, 3, .getfield 28, 0, 0, 245, 1, 3),
  (117, 1, .iconst 1, 1, 0, 0, 0, 0),
  (118, 1, .iadd, 0, 0, 0, 0, 0),
  (119, 3, .putfield 28, 0, 0, 245, 1, 3),
  (122, 1, .iconst 1, 1, 0, 0, 0, 0),
  (123, 1, .ireturn, 0, 0, 0, 0, 0)]
set_option maxRecDepth 100000 in
theorem zk_17 : zt_17.all (zx_chk 17) = true := by decide +kernel
/-- NamesThatShrink$CrowdText.tell(LNamesThatShrink$Crowd;)V -/
def zt_18 : List zx_En := [
  (0, 1, .iconst 0, 0, 0, 0, 0, 0),
  (1, 1, .istore_n 2, 0, 0, 0, 0, 0),
  (2, 1, .iload_n 2, 0, 0, 0, 0, 0),
  (3, 1, .aload_n 0, 0, 0, 0, 0, 0),
  (4, 3, .getfield 28, 0, 0, 245, 1, 3),
  (7, 3, .if_icmp .ge 77, 0, 0, 0, 84, 0),
  (10, 1, .iload_n 2, 0, 0, 0, 0, 0),
  (11, 2, .bipush 76, 76, 0, 0, 0, 0),
  (13, 3, .if_icmp .ge 71, 0, 0, 0, 84, 0),
  (16, 1, .aload_n 0, 0, 0, 0, 0, 0),
  (17, 3, .getfield 15, 0, 0, 244, 1, 2),
  (20, 1, .iload_n 2, 0, 0, 0, 0, 0),
  (21, 1, .iaload, 0, 0, 0, 0, 0),
  (22, 3, .ifCond .ne 16, 0, 0, 0, 38, 0),
  (25, 1, .aload_n 1, 0, 0, 0, 0, 0),
  (26, 1, .aload_n 0, 0, 0, 0, 0, 0),
  (27, 3, .getfield 11, 0, 0, 243, 1, 1),
  (30, 1, .iload_n 2, 0, 0, 0, 0, 0),
  (31, 1, .iaload, 0, 0, 0, 0, 0),
  (32, 3, .invokevirtual 61, 0, 0, 614, 0, 2),
  (35, 3, .goto 43, 0, 0, 0, 78, 0),
  (38, 1, .aload_n 0, 0, 0, 0, 0, 0),
  (39, 3, .getfield 11, 0, 0, 243, 1, 1),
  (42, 1, .iload_n 2, 0, 0, 0, 0, 0),
  (43, 1, .iaload, 0, 0, 0, 0, 0),
  (44, 1, .iconst 1, 1, 0, 0, 0, 0),
  (45, 3, .if_icmp .lt 33, 0, 0, 0, 78, 0),
  (48, 1, .aload_n 0, 0, 0, 0, 0, 0),
  (49, 3, .getfield 11, 0, 0, 243, 1, 1),
  (52, 1, .iload_n 2, 0, 0, 0, 0, 0),
  (53, 1, .iaload, 0, 0, 0, 0, 0),
  (54, 2, .bipush 6, 6, 0, 0, 0, 0),
  (56, 3, .if_icmp .gt 22, 0, 0, 0, 78, 0),
  (59, 1, .aload_n 1, 0, 0, 0, 0, 0),
  (60, 3, .getfield 66, 0, 0, 191, 0, 2),
  (63, 1, .aload_n 0, 0, 0, 0, 0, 0),
  (64, 3, .getfield 11, 0, 0, 243, 1, 1),
  (67, 1, .iload_n 2, 0, 0, 0, 0, 0),
  (68, 1, .iaload, 0, 0, 0, 0, 0),
  (69, 1, .iconst 1, 1, 0, 0, 0, 0),
  (70, 1, .isub, 0, 0, 0, 0, 0),
  (71, 1, .aload_n 0, 0, 0, 0, 0, 0),
  (72, 3, .getfield 15, 0, 0, 244, 1, 2),
  (75, 1, .iload_n 2, 0, 0, 0, 0, 0),
  (76, 1, .iaload, 0, 0, 0, 0, 0),
  (77, 1, .iastore, 0, 0, 0, 0, 0),
  (78, 3, .iinc 2 1, 1, 0, 0, 0, 0),
  (81, 3, .goto (-79), 0, 0, 0, 2, 0),
  (84, 1, .aload_n 1, 0, 0, 0, 0, 0),
  (85, 3, .invokevirtual 67, 0, 0, 618, 0, 11),
  (88, 1, .return_, 0, 0, 0, 0, 0)]
set_option maxRecDepth 100000 in
theorem zk_18 : zt_18.all (zx_chk 18) = true := by decide +kernel
/-- NamesThatShrink$Keeps.<init>()V -/
def zt_19 : List zx_En := [
  (0, 1, .aload_n 0, 0, 0, 0, 0, 0),
  (1, 3, .invokespecial 3, 0, 0, 511, 5, 0),
  (4, 1, .aload_n 0, 0, 0, 0, 0, 0),
  (5, 1, .iconst 3, 3, 0, 0, 0, 0),
  (6, 2, .bipush 10, 10, 0, 0, 0, 0),
  (8, 4, .multianewarray 11 2, 0, 0, 512, 24, 0),
  (12, 3, .putfield 13, 0, 0, 513, 2, 0),
  (15, 1, .aload_n 0, 0, 0, 0, 0, 0),
  (16, 1, .iconst 3, 3, 0, 0, 0, 0),
  (17, 2, .bipush 10, 10, 0, 0, 0, 0),
  (19, 4, .multianewarray 11 2, 0, 0, 512, 24, 0),
  (23, 3, .putfield 16, 0, 0, 514, 2, 1),
  (26, 1, .aload_n 0, 0, 0, 0, 0, 0),
  (27, 1, .iconst 3, 3, 0, 0, 0, 0),
  (28, 2, .newarray .int, 0, 0, 158, 20, 0),
  (30, 3, .putfield 19, 0, 0, 515, 2, 2),
  (33, 1, .aload_n 0, 0, 0, 0, 0, 0),
  (34, 1, .iconst 3, 3, 0, 0, 0, 0),
  (35, 2, .newarray .int, 0, 0, 158, 20, 0),
  (37, 3, .putfield 23, 0, 0, 516, 2, 3),
  (40, 1, .aload_n 0, 0, 0, 0, 0, 0),
  (41, 1, .iconst 3, 3, 0, 0, 0, 0),
  (42, 2, .newarray .boolean, 0, 0, 505, 23, 0),
  (44, 3, .putfield 26, 0, 0, 517, 2, 4),
  (47, 1, .return_, 0, 0, 0, 0, 0)]
set_option maxRecDepth 100000 in
theorem zk_19 : zt_19.all (zx_chk 19) = true := by decide +kernel
/-- NamesThatShrink$Keeps.store(ILNamesThatShrink$Crowd;)Z -/
def zt_20 : List zx_En := [
  (0, 1, .iload_n 1, 0, 0, 0, 0, 0),
  (1, 3, .ifCond .lt 8, 0, 0, 0, 9, 0),
  (4, 1, .iload_n 1, 0, 0, 0, 0, 0),
  (5, 1, .iconst 3, 3, 0, 0, 0, 0),
  (6, 3, .if_icmp .lt 5, 0, 0, 0, 11, 0),
  (9, 1, .iconst 0, 0, 0, 0, 0, 0),
  (10, 1, .ireturn, 0, 0, 0, 0, 0),
  (11, 1, .aload_n 2, 0, 0, 0, 0, 0),
  (12, 3, .getfield 30, 0, 0, 181, 0, 0),
  (15, 1, .iconst 0, 0, 0, 0, 0, 0),
  (16, 1, .aload_n 0, 0, 0, 0, 0, 0),
  (17, 3, .getfield 13, 0, 0, 513, 2, 0),
  (20, 1, .iload_n 1, 0, 0, 0, 0, 0),
  (21, 1, .aaload, 0, 0, 0, 0, 0),
  (22, 1, .iconst 0, 0, 0, 0, 0, 0),
  (23, 2, .bipush 10, 10, 0, 0, 0, 0),
  (25, 3, .invokestatic 34, 0, 0, 1215, 6, 0),
  (28, 1, .aload_n 2, 0, 0, 0, 0, 0),
  (29, 3, .getfield 40, 0, 0, 188, 0, 1),
  (32, 1, .iconst 0, 0, 0, 0, 0, 0),
  (33, 1, .aload_n 0, 0, 0, 0, 0, 0),
  (34, 3, .getfield 16, 0, 0, 514, 2, 1),
  (37, 1, .iload_n 1, 0, 0, 0, 0, 0),
  (38, 1, .aaload, 0, 0, 0, 0, 0),
  (39, 1, .iconst 0, 0, 0, 0, 0, 0),
  (40, 2, .bipush 10, 10, 0, 0, 0, 0),
  (42, 3, .invokestatic 34, 0, 0, 1215, 6, 0),
  (45, 1, .aload_n 0, 0, 0, 0, 0, 0),
  (46, 3, .getfield 19, 0, 0, 515, 2, 2),
  (49, 1, .iload_n 1, 0, 0, 0, 0, 0),
  (50, 1, .aload_n 2, 0, 0, 0, 0, 0),
  (51, 3, .getfield 42, 0, 0, 203, 0, 8),
  (54, 1, .iastore, 0, 0, 0, 0, 0),
  (55, 1, .aload_n 0, 0, 0, 0, 0, 0),
  (56, 3, .getfield 23, 0, 0, 516, 2, 3),
  (59, 1, .iload_n 1, 0, 0, 0, 0, 0),
  (60, 1, .aload_n 2, 0, 0, 0, 0, 0),
  (61, 3, .getfield 45, 0, 0, 211, 0, 10),
  (64, 1, .iastore, 0, 0, 0, 0, 0),
  (65, 1, .aload_n 0, 0, 0, 0, 0, 0),
  (66, 3, .getfield 26, 0, 0, 517, 2, 4),
  (69, 1, .iload_n 1, 0, 0, 0, 0, 0),
  (70, 1, .iconst 1, 1, 0, 0, 0, 0),
  (71, 1, .bastore, 0, 0, 0, 23, 0),
  (72, 1, .iconst 1, 1, 0, 0, 0, 0),
  (73, 1, .ireturn, 0, 0, 0, 0, 0)]
set_option maxRecDepth 100000 in
theorem zk_20 : zt_20.all (zx_chk 20) = true := by decide +kernel
/-- NamesThatShrink$Keeps.restore(ILNamesThatShrink$Crowd;)Z -/
def zt_21 : List zx_En := [
  (0, 1, .iload_n 1, 0, 0, 0, 0, 0),
  (1, 3, .ifCond .lt 17, 0, 0, 0, 18, 0),
  (4, 1, .iload_n 1, 0, 0, 0, 0, 0),
  (5, 1, .iconst 3, 3, 0, 0, 0, 0),
  (6, 3, .if_icmp .ge 12, 0, 0, 0, 18, 0),
  (9, 1, .aload_n 0, 0, 0, 0, 0, 0),
  (10, 3, .getfield 26, 0, 0, 517, 2, 4),
  (13, 1, .iload_n 1, 0, 0, 0, 0, 0),
  (14, 1, .baload, 0, 0, 0, 23, 0),
  (15, 3, .ifCond .ne 5, 0, 0, 0, 20, 0),
  (18, 1, .iconst 0, 0, 0, 0, 0, 0),
  (19, 1, .ireturn, 0, 0, 0, 0, 0),
  (20, 1, .aload_n 0, 0, 0, 0, 0, 0),
  (21, 3, .getfield 13, 0, 0, 513, 2, 0),
  (24, 1, .iload_n 1, 0, 0, 0, 0, 0),
  (25, 1, .aaload, 0, 0, 0, 0, 0),
  (26, 1, .iconst 0, 0, 0, 0, 0, 0),
  (27, 1, .aload_n 2, 0, 0, 0, 0, 0),
  (28, 3, .getfield 30, 0, 0, 181, 0, 0),
  (31, 1, .iconst 0, 0, 0, 0, 0, 0),
  (32, 2, .bipush 10, 10, 0, 0, 0, 0),
  (34, 3, .invokestatic 34, 0, 0, 1215, 6, 0),
  (37, 1, .aload_n 0, 0, 0, 0, 0, 0),
  (38, 3, .getfield 16, 0, 0, 514, 2, 1),
  (41, 1, .iload_n 1, 0, 0, 0, 0, 0),
  (42, 1, .aaload, 0, 0, 0, 0, 0),
  (43, 1, .iconst 0, 0, 0, 0, 0, 0),
  (44, 1, .aload_n 2, 0, 0, 0, 0, 0),
  (45, 3, .getfield 40, 0, 0, 188, 0, 1),
  (48, 1, .iconst 0, 0, 0, 0, 0, 0),
  (49, 2, .bipush 10, 10, 0, 0, 0, 0),
  (51, 3, .invokestatic 34, 0, 0, 1215, 6, 0),
  (54, 1, .aload_n 2, 0, 0, 0, 0, 0),
  (55, 1, .aload_n 0, 0, 0, 0, 0, 0),
  (56, 3, .getfield 19, 0, 0, 515, 2, 2),
  (59, 1, .iload_n 1, 0, 0, 0, 0, 0),
  (60, 1, .iaload, 0, 0, 0, 0, 0),
  (61, 3, .putfield 42, 0, 0, 203, 0, 8),
  (64, 1, .aload_n 2, 0, 0, 0, 0, 0),
  (65, 1, .aload_n 0, 0, 0, 0, 0, 0),
  (66, 3, .getfield 23, 0, 0, 516, 2, 3),
  (69, 1, .iload_n 1, 0, 0, 0, 0, 0),
  (70, 1, .iaload, 0, 0, 0, 0, 0),
  (71, 3, .putfield 45, 0, 0, 211, 0, 10),
  (74, 1, .aload_n 2, 0, 0, 0, 0, 0),
  (75, 3, .invokevirtual 47, 0, 0, 1224, 0, 11),
  (78, 1, .iconst 1, 1, 0, 0, 0, 0),
  (79, 1, .ireturn, 0, 0, 0, 0, 0)]
set_option maxRecDepth 100000 in
theorem zk_21 : zt_21.all (zx_chk 21) = true := by decide +kernel
/-- NamesThatShrink$Lineup.<init>()V -/
def zt_22 : List zx_En := [
  (0, 1, .aload_n 0, 0, 0, 0, 0, 0),
  (1, 3, .invokespecial 3, 0, 0, 316, 5, 0),
  (4, 1, .aload_n 0, 0, 0, 0, 0, 0),
  (5, 2, .bipush 10, 10, 0, 0, 0, 0),
  (7, 2, .newarray .int, 0, 0, 158, 20, 0),
  (9, 3, .putfield 9, 0, 0, 321, 3, 0),
  (12, 1, .aload_n 0, 0, 0, 0, 0, 0),
  (13, 2, .bipush 10, 10, 0, 0, 0, 0),
  (15, 2, .newarray .int, 0, 0, 158, 20, 0),
  (17, 3, .putfield 15, 0, 0, 323, 3, 1),
  (20, 1, .aload_n 0, 0, 0, 0, 0, 0),
  (21, 2, .bipush 10, 10, 0, 0, 0, 0),
  (23, 2, .newarray .int, 0, 0, 158, 20, 0),
  (25, 3, .putfield 18, 0, 0, 324, 3, 2),
  (28, 1, .aload_n 0, 0, 0, 0, 0, 0),
  (29, 2, .bipush 10, 10, 0, 0, 0, 0),
  (31, 2, .bipush 9, 9, 0, 0, 0, 0),
  (33, 4, .multianewarray 21 2, 0, 0, 317, 24, 0),
  (37, 3, .putfield 23, 0, 0, 326, 3, 3),
  (40, 1, .aload_n 0, 0, 0, 0, 0, 0),
  (41, 2, .bipush 10, 10, 0, 0, 0, 0),
  (43, 2, .bipush 9, 9, 0, 0, 0, 0),
  (45, 4, .multianewarray 26 2, 0, 0, 319, 25, 0),
  (49, 3, .putfield 28, 0, 0, 328, 3, 4),
  (52, 1, .aload_n 0, 0, 0, 0, 0, 0),
  (53, 2, .bipush 10, 10, 0, 0, 0, 0),
  (55, 2, .bipush 9, 9, 0, 0, 0, 0),
  (57, 4, .multianewarray 21 2, 0, 0, 317, 24, 0),
  (61, 3, .putfield 31, 0, 0, 330, 3, 5),
  (64, 1, .aload_n 0, 0, 0, 0, 0, 0),
  (65, 2, .bipush 7, 7, 0, 0, 0, 0),
  (67, 2, .newarray .int, 0, 0, 158, 20, 0),
  (69, 3, .putfield 34, 0, 0, 331, 3, 6),
  (72, 1, .return_, 0, 0, 0, 0, 0)]
set_option maxRecDepth 100000 in
theorem zk_22 : zt_22.all (zx_chk 22) = true := by decide +kernel
/-- NamesThatShrink$Lineup.take(LNamesThatShrink$Crowd;)V -/
def zt_23 : List zx_En := [
  (0, 1, .aload_n 0, 0, 0, 0, 0, 0),
  (1, 1, .iconst 0, 0, 0, 0, 0, 0),
  (2, 3, .putfield 37, 0, 0, 333, 3, 7),
  (5, 1, .iconst 0, 0, 0, 0, 0, 0),
  (6, 1, .istore_n 2, 0, 0, 0, 0, 0),
  (7, 1, .iload_n 2, 0, 0, 0, 0, 0),
  (8, 2, .bipush 10, 10, 0, 0, 0, 0),
  (10, 3, .if_icmp .ge 29, 0, 0, 0, 39, 0),
  (13, 1, .aload_n 1, 0, 0, 0, 0, 0),
  (14, 3, .getfield 41, 0, 0, 182, 0, 0),
  (17, 1, .iload_n 2, 0, 0, 0, 0, 0),
  (18, 1, .iaload, 0, 0, 0, 0, 0),
  (19, 3, .ifCond .eq 14, 0, 0, 0, 33, 0),
  (22, 1, .aload_n 0, 0, 0, 0, 0, 0),
  (23, 1, .iload_n 2, 0, 0, 0, 0, 0),
  (24, 1, .aload_n 1, 0, 0, 0, 0, 0),
  (25, 3, .getfield 41, 0, 0, 182, 0, 0),
  (28, 1, .iload_n 2, 0, 0, 0, 0, 0),
  (29, 1, .iaload, 0, 0, 0, 0, 0),
  (30, 3, .invokevirtual 46, 0, 0, 863, 0, 24),
  (33, 3, .iinc 2 1, 1, 0, 0, 0, 0),
  (36, 3, .goto (-29), 0, 0, 0, 7, 0),
  (39, 1, .aload_n 0, 0, 0, 0, 0, 0),
  (40, 1, .iconst 0, 0, 0, 0, 0, 0),
  (41, 3, .putfield 50, 0, 0, 336, 3, 9),
  (44, 1, .iconst 0, 0, 0, 0, 0, 0),
  (45, 1, .istore_n 2, 0, 0, 0, 0, 0),
  (46, 1, .iload_n 2, 0, 0, 0, 0, 0),
  (47, 1, .aload_n 0, 0, 0, 0, 0, 0),
  (48, 3, .getfield 37, 0, 0, 333, 3, 7),
  (51, 3, .if_icmp .ge 31, 0, 0, 0, 82, 0),
  (54, 1, .aload_n 0, 0, 0, 0, 0, 0),
  (55, 1, .iload_n 2, 0, 0, 0, 0, 0),
  (56, 3, .invokevirtual 53, 0, 0, 871, 0, 26),
  (59, 1, .aload_n 0, 0, 0, 0, 0, 0),
  (60, 1, .aload_n 0, 0, 0, 0, 0, 0),
  (61, 3, .getfield 50, 0, 0, 336, 3, 9),
  (64, 1, .aload_n 0, 0, 0, 0, 0, 0),
  (65, 3, .getfield 18, 0, 0, 324, 3, 2),
  (68, 1, .iload_n 2, 0, 0, 0, 0, 0),
  (69, 1, .iaload, 0, 0, 0, 0, 0),
  (70, 3, .invokestatic 57, 0, 0, 876, 7, 0),
  (73, 3, .putfield 50, 0, 0, 336, 3, 9),
  (76, 3, .iinc 2 1, 1, 0, 0, 0, 0),
  (79, 3, .goto (-33), 0, 0, 0, 46, 0),
  (82, 1, .iconst 0, 0, 0, 0, 0, 0),
  (83, 1, .istore_n 2, 0, 0, 0, 0, 0),
  (84, 1, .iload_n 2, 0, 0, 0, 0, 0),
  (85, 1, .aload_n 0, 0, 0, 0, 0, 0),
  (86, 3, .getfield 37, 0, 0, 333, 3, 7),
  (89, 3, .if_icmp .ge 14, 0, 0, 0, 103, 0),
  (92, 1, .aload_n 0, 0, 0, 0, 0, 0),
  (93, 1, .iload_n 2, 0, 0, 0, 0, 0),
  (94, 3, .invokevirtual 63, 0, 0, 879, 0, 27),
  (97, 3, .iinc 2 1, 1, 0, 0, 0, 0),
  (100, 3, .goto (-16), 0, 0, 0, 84, 0),
  (103, 1, .aload_n 0, 0, 0, 0, 0, 0),
  (104, 3, .invokevirtual 66, 0, 0, 883, 0, 28),
  (107, 1, .return_, 0, 0, 0, 0, 0)]
set_option maxRecDepth 100000 in
theorem zk_23 : zt_23.all (zx_chk 23) = true := by decide +kernel
/-- NamesThatShrink$Lineup.insert(II)V -/
def zt_24 : List zx_En := [
  (0, 1, .iconst 0, 0, 0, 0, 0, 0),
  (1, 1, .istore_n 3, 0, 0, 0, 0, 0),
  (2, 1, .iconst 0, 0, 0, 0, 0, 0),
  (3, 2, .istore 4, 0, 0, 0, 0, 0),
  (5, 2, .iload 4, 0, 0, 0, 0, 0),
  (7, 1, .aload_n 0, 0, 0, 0, 0, 0),
  (8, 3, .getfield 37, 0, 0, 333, 3, 7),
  (11, 3, .if_icmp .ge 38, 0, 0, 0, 49, 0),
  (14, 2, .iload 4, 0, 0, 0, 0, 0),
  (16, 2, .bipush 10, 10, 0, 0, 0, 0),
  (18, 3, .if_icmp .ge 31, 0, 0, 0, 49, 0),
  (21, 1, .aload_n 0, 0, 0, 0, 0, 0),
  (22, 3, .getfield 15, 0, 0, 323, 3, 1),
  (25, 2, .iload 4, 0, 0, 0, 0, 0),
  (27, 1, .iaload, 0, 0, 0, 0, 0),
  (28, 3, .invokestatic 69, 0, 0, 867, 2, 25),
  (31, 1, .iload_n 2, 0, 0, 0, 0, 0),
  (32, 3, .invokestatic 69, 0, 0, 867, 2, 25),
  (35, 3, .if_icmp .gt 8, 0, 0, 0, 43, 0),
  (38, 2, .iload 4, 0, 0, 0, 0, 0),
  (40, 1, .iconst 1, 1, 0, 0, 0, 0),
  (41, 1, .iadd, 0, 0, 0, 0, 0),
  (42, 1, .istore_n 3, 0, 0, 0, 0, 0),
  (43, 3, .iinc 4 1, 1, 0, 0, 0, 0),
  (46, 3, .goto (-41), 0, 0, 0, 5, 0),
  (49, 1, .aload_n 0, 0, 0, 0, 0, 0),
  (50, 3, .getfield 37, 0, 0, 333, 3, 7),
  (53, 2, .bipush 10, 10, 0, 0, 0, 0),
  (55, 3, .if_icmp .ge 9, 0, 0, 0, 64, 0),
  (58, 1, .iload_n 3, 0, 0, 0, 0, 0),
  (59, 2, .bipush 10, 10, 0, 0, 0, 0),
  (61, 3, .if_icmp .lt 4, 0, 0, 0, 65, 0),
  (64, 1, .return_, 0, 0, 0, 0, 0),
  (65, 1, .aload_n 0, 0, 0, 0, 0, 0),
  (66, 3, .getfield 37, 0, 0, 333, 3, 7),
  (69, 2, .istore 4, 0, 0, 0, 0, 0),
  (71, 2, .iload 4, 0, 0, 0, 0, 0),
  (73, 1, .iload_n 3, 0, 0, 0, 0, 0),
  (74, 3, .if_icmp .le 41, 0, 0, 0, 115, 0),
  (77, 1, .aload_n 0, 0, 0, 0, 0, 0),
  (78, 3, .getfield 9, 0, 0, 321, 3, 0),
  (81, 2, .iload 4, 0, 0, 0, 0, 0),
  (83, 1, .aload_n 0, 0, 0, 0, 0, 0),
  (84, 3, .getfield 9, 0, 0, 321, 3, 0),
  (87, 2, .iload 4, 0, 0, 0, 0, 0),
  (89, 1, .iconst 1, 1, 0, 0, 0, 0),
  (90, 1, .isub, 0, 0, 0, 0, 0),
  (91, 1, .iaload, 0, 0, 0, 0, 0),
  (92, 1, .iastore, 0, 0, 0, 0, 0),
  (93, 1, .aload_n 0, 0, 0, 0, 0, 0),
  (94, 3, .getfield 15, 0, 0, 323, 3, 1),
  (97, 2, .iload 4, 0, 0, 0, 0, 0),
  (99, 1, .aload_n 0, 0, 0, 0, 0, 0),
  (100, 3, .getfield 15, 0, 0, 323, 3, 1),
  (103, 2, .iload 4, 0, 0, 0, 0, 0),
  (105, 1, .iconst 1, 1, 0, 0, 0, 0),
  (106, 1, .isub, 0, 0, 0, 0, 0),
  (107, 1, .iaload, 0, 0, 0, 0, 0),
  (108, 1, .iastore, 0, 0, 0, 0, 0),
  (109, 3, .iinc 4 (-1), (-1), 0, 0, 0, 0),
  (112, 3, .goto (-41), 0, 0, 0, 71, 0),
  (115, 1, .aload_n 0, 0, 0, 0, 0, 0),
  (116, 3, .getfield 9, 0, 0, 321, 3, 0),
  (119, 1, .iload_n 3, 0, 0, 0, 0, 0),
  (120, 1, .iload_n 1, 0, 0, 0, 0, 0),
  (121, 1, .iastore, 0, 0, 0, 0, 0),
  (122, 1, .aload_n 0, 0, 0, 0, 0, 0),
  (123, 3, .getfield 15, 0, 0, 323, 3, 1),
  (126, 1, .iload_n 3, 0, 0, 0, 0, 0),
  (127, 1, .iload_n 2, 0, 0, 0, 0, 0),
  (128, 1, .iastore, 0, 0, 0, 0, 0),
  (129, 1, .aload_n 0, 0, 0, 0, 0, 0),
  (130, 1, .dup, 0, 0, 0, 0, 0),
  (131, 3, .getfield 37, 0, 0, 333, 3, 7),
  (134, 1, .iconst 1, 1, 0, 0, 0, 0),
  (135, 1, .iadd, 0, 0, 0, 0, 0),
  (136, 3, .putfield 37, 0, 0, 333, 3, 7),
  (139, 1, .return_, 0, 0, 0, 0, 0)]
set_option maxRecDepth 100000 in
theorem zk_24 : zt_24.all (zx_chk 24) = true := by decide +kernel
/-- NamesThatShrink$Lineup.dictionaryKey(I)I -/
def zt_25 : List zx_En := [
  (0, 1, .iload_n 0, 0, 0, 0, 0, 0),
  (1, 1, .istore_n 1, 0, 0, 0, 0, 0),
  (2, 1, .iconst 0, 0, 0, 0, 0, 0),
  (3, 1, .istore_n 2, 0, 0, 0, 0, 0),
  (4, 1, .iload_n 2, 0, 0, 0, 0, 0),
  (5, 2, .bipush 8, 8, 0, 0, 0, 0),
  (7, 3, .if_icmp .ge 20, 0, 0, 0, 27, 0),
  (10, 1, .iload_n 1, 0, 0, 0, 0, 0),
  (11, 2, .ldc 73, 823543, 0, 870, 0, 0),
  (13, 3, .if_icmp .ge 14, 0, 0, 0, 27, 0),
  (16, 1, .iload_n 1, 0, 0, 0, 0, 0),
  (17, 2, .bipush 7, 7, 0, 0, 0, 0),
  (19, 1, .imul, 0, 0, 0, 0, 0),
  (20, 1, .istore_n 1, 0, 0, 0, 0, 0),
  (21, 3, .iinc 2 1, 1, 0, 0, 0, 0),
  (24, 3, .goto (-20), 0, 0, 0, 4, 0),
  (27, 1, .iload_n 1, 0, 0, 0, 0, 0),
  (28, 1, .ireturn, 0, 0, 0, 0, 0)]
set_option maxRecDepth 100000 in
theorem zk_25 : zt_25.all (zx_chk 25) = true := by decide +kernel
/-- NamesThatShrink$Lineup.spell(I)V -/
def zt_26 : List zx_En := [
  (0, 1, .aload_n 0, 0, 0, 0, 0, 0),
  (1, 3, .getfield 18, 0, 0, 324, 3, 2),
  (4, 1, .iload_n 1, 0, 0, 0, 0, 0),
  (5, 1, .aload_n 0, 0, 0, 0, 0, 0),
  (6, 3, .getfield 15, 0, 0, 323, 3, 1),
  (9, 1, .iload_n 1, 0, 0, 0, 0, 0),
  (10, 1, .iaload, 0, 0, 0, 0, 0),
  (11, 3, .invokestatic 74, 0, 0, 875, 4, 161),
  (14, 1, .iastore, 0, 0, 0, 0, 0),
  (15, 1, .aload_n 0, 0, 0, 0, 0, 0),
  (16, 3, .getfield 15, 0, 0, 323, 3, 1),
  (19, 1, .iload_n 1, 0, 0, 0, 0, 0),
  (20, 1, .iaload, 0, 0, 0, 0, 0),
  (21, 1, .istore_n 2, 0, 0, 0, 0, 0),
  (22, 1, .aload_n 0, 0, 0, 0, 0, 0),
  (23, 3, .getfield 18, 0, 0, 324, 3, 2),
  (26, 1, .iload_n 1, 0, 0, 0, 0, 0),
  (27, 1, .iaload, 0, 0, 0, 0, 0),
  (28, 1, .istore_n 3, 0, 0, 0, 0, 0),
  (29, 1, .iload_n 3, 0, 0, 0, 0, 0),
  (30, 3, .ifCond .lt 23, 0, 0, 0, 53, 0),
  (33, 1, .aload_n 0, 0, 0, 0, 0, 0),
  (34, 3, .getfield 23, 0, 0, 326, 3, 3),
  (37, 1, .iload_n 1, 0, 0, 0, 0, 0),
  (38, 1, .aaload, 0, 0, 0, 0, 0),
  (39, 1, .iload_n 3, 0, 0, 0, 0, 0),
  (40, 1, .iload_n 2, 0, 0, 0, 0, 0),
  (41, 1, .iastore, 0, 0, 0, 0, 0),
  (42, 1, .iload_n 2, 0, 0, 0, 0, 0),
  (43, 2, .bipush 7, 7, 0, 0, 0, 0),
  (45, 1, .idiv, 0, 0, 0, 0, 0),
  (46, 1, .istore_n 2, 0, 0, 0, 0, 0),
  (47, 3, .iinc 3 (-1), (-1), 0, 0, 0, 0),
  (50, 3, .goto (-21), 0, 0, 0, 29, 0),
  (53, 1, .return_, 0, 0, 0, 0, 0)]
set_option maxRecDepth 100000 in
theorem zk_26 : zt_26.all (zx_chk 26) = true := by decide +kernel
/-- NamesThatShrink$Lineup.findSharing(I)V -/
def zt_27 : List zx_En := [
  (0, 1, .iconst 1, 1, 0, 0, 0, 0),
  (1, 1, .istore_n 2, 0, 0, 0, 0, 0),
  (2, 1, .iload_n 2, 0, 0, 0, 0, 0),
  (3, 1, .aload_n 0, 0, 0, 0, 0, 0),
  (4, 3, .getfield 18, 0, 0, 324, 3, 2),
  (7, 1, .iload_n 1, 0, 0, 0, 0, 0),
  (8, 1, .iaload, 0, 0, 0, 0, 0),
  (9, 3, .if_icmp .gt 78, 0, 0, 0, 87, 0),
  (12, 1, .lconst 0, 0, 0, 0, 0, 0),
  (13, 1, .lstore_n 3, 0, 0, 0, 0, 0),
  (14, 1, .iconst 0, 0, 0, 0, 0, 0),
  (15, 2, .istore 5, 0, 0, 0, 0, 0),
  (17, 2, .iload 5, 0, 0, 0, 0, 0),
  (19, 1, .aload_n 0, 0, 0, 0, 0, 0),
  (20, 3, .getfield 37, 0, 0, 333, 3, 7),
  (23, 3, .if_icmp .ge 49, 0, 0, 0, 72, 0),
  (26, 1, .aload_n 0, 0, 0, 0, 0, 0),
  (27, 3, .getfield 18, 0, 0, 324, 3, 2),
  (30, 2, .iload 5, 0, 0, 0, 0, 0),
  (32, 1, .iaload, 0, 0, 0, 0, 0),
  (33, 1, .iload_n 2, 0, 0, 0, 0, 0),
  (34, 3, .if_icmp .lt 32, 0, 0, 0, 66, 0),
  (37, 1, .aload_n 0, 0, 0, 0, 0, 0),
  (38, 3, .getfield 23, 0, 0, 326, 3, 3),
  (41, 2, .iload 5, 0, 0, 0, 0, 0),
  (43, 1, .aaload, 0, 0, 0, 0, 0),
  (44, 1, .iload_n 2, 0, 0, 0, 0, 0),
  (45, 1, .iaload, 0, 0, 0, 0, 0),
  (46, 1, .aload_n 0, 0, 0, 0, 0, 0),
  (47, 3, .getfield 23, 0, 0, 326, 3, 3),
  (50, 1, .iload_n 1, 0, 0, 0, 0, 0),
  (51, 1, .aaload, 0, 0, 0, 0, 0),
  (52, 1, .iload_n 2, 0, 0, 0, 0, 0),
  (53, 1, .iaload, 0, 0, 0, 0, 0),
  (54, 3, .if_icmp .ne 12, 0, 0, 0, 66, 0),
  (57, 1, .lload_n 3, 0, 0, 0, 0, 0),
  (58, 1, .lconst 1, 0, 1, 0, 0, 0),
  (59, 1, .iconst 5, 5, 0, 0, 0, 0),
  (60, 2, .iload 5, 0, 0, 0, 0, 0),
  (62, 1, .imul, 0, 0, 0, 0, 0),
  (63, 1, .lshl, 0, 0, 0, 0, 0),
  (64, 1, .lor, 0, 0, 0, 0, 0),
  (65, 1, .lstore_n 3, 0, 0, 0, 0, 0),
  (66, 3, .iinc 5 1, 1, 0, 0, 0, 0),
  (69, 3, .goto (-52), 0, 0, 0, 17, 0),
  (72, 1, .aload_n 0, 0, 0, 0, 0, 0),
  (73, 3, .getfield 28, 0, 0, 328, 3, 4),
  (76, 1, .iload_n 1, 0, 0, 0, 0, 0),
  (77, 1, .aaload, 0, 0, 0, 0, 0),
  (78, 1, .iload_n 2, 0, 0, 0, 0, 0),
  (79, 1, .lload_n 3, 0, 0, 0, 0, 0),
  (80, 1, .lastore, 0, 0, 0, 0, 0),
  (81, 3, .iinc 2 1, 1, 0, 0, 0, 0),
  (84, 3, .goto (-82), 0, 0, 0, 2, 0),
  (87, 1, .return_, 0, 0, 0, 0, 0)]
set_option maxRecDepth 100000 in
theorem zk_27 : zt_27.all (zx_chk 27) = true := by decide +kernel
/-- NamesThatShrink$Lineup.findGroups()V -/
def zt_28 : List zx_En := [
  (0, 1, .aload_n 0, 0, 0, 0, 0, 0),
  (1, 1, .iconst 0, 0, 0, 0, 0, 0),
  (2, 3, .putfield 77, 0, 0, 335, 3, 8),
  (5, 1, .iconst 0, 0, 0, 0, 0, 0),
  (6, 1, .istore_n 1, 0, 0, 0, 0, 0),
  (7, 1, .iload_n 1, 0, 0, 0, 0, 0),
  (8, 1, .aload_n 0, 0, 0, 0, 0, 0),
  (9, 3, .getfield 37, 0, 0, 333, 3, 7),
  (12, 3, .if_icmp .ge 73, 0, 0, 0, 85, 0),
  (15, 1, .iload_n 1, 0, 0, 0, 0, 0),
  (16, 3, .ifCond .eq 24, 0, 0, 0, 40, 0),
  (19, 1, .aload_n 0, 0, 0, 0, 0, 0),
  (20, 3, .getfield 23, 0, 0, 326, 3, 3),
  (23, 1, .iload_n 1, 0, 0, 0, 0, 0),
  (24, 1, .aaload, 0, 0, 0, 0, 0),
  (25, 1, .iconst 1, 1, 0, 0, 0, 0),
  (26, 1, .iaload, 0, 0, 0, 0, 0),
  (27, 1, .aload_n 0, 0, 0, 0, 0, 0),
  (28, 3, .getfield 23, 0, 0, 326, 3, 3),
  (31, 1, .iload_n 1, 0, 0, 0, 0, 0),
  (32, 1, .iconst 1, 1, 0, 0, 0, 0),
  (33, 1, .isub, 0, 0, 0, 0, 0),
  (34, 1, .aaload, 0, 0, 0, 0, 0),
  (35, 1, .iconst 1, 1, 0, 0, 0, 0),
  (36, 1, .iaload, 0, 0, 0, 0, 0),
  (37, 3, .if_icmp .eq 7, 0, 0, 0, 44, 0),
  (40, 1, .iconst 1, 1, 0, 0, 0, 0),
  (41, 3, .goto 4, 0, 0, 0, 45, 0),
  (44, 1, .iconst 0, 0, 0, 0, 0, 0),
  (45, 1, .istore_n 2, 0, 0, 0, 0, 0),
  (46, 1, .iload_n 2, 0, 0, 0, 0, 0),
  (47, 3, .ifCond .eq 32, 0, 0, 0, 79, 0),
  (50, 1, .aload_n 0, 0, 0, 0, 0, 0),
  (51, 3, .getfield 77, 0, 0, 335, 3, 8),
  (54, 2, .bipush 6, 6, 0, 0, 0, 0),
  (56, 3, .if_icmp .ge 23, 0, 0, 0, 79, 0),
  (59, 1, .aload_n 0, 0, 0, 0, 0, 0),
  (60, 3, .getfield 34, 0, 0, 331, 3, 6),
  (63, 1, .aload_n 0, 0, 0, 0, 0, 0),
  (64, 3, .getfield 77, 0, 0, 335, 3, 8),
  (67, 1, .iload_n 1, 0, 0, 0, 0, 0),
  (68, 1, .iastore, 0, 0, 0, 0, 0),
  (69, 1, .aload_n 0, 0, 0, 0, 0, 0),
  (70, 1, .dup, 0, 0, 0, 0, 0),
  (71, 3, .getfield 77, 0, 0, 335, 3, 8),
  (74, 1, .iconst 1, 1, 0, 0, 0, 0),
  (75, 1, .iadd, 0, 0, 0, 0, 0),
  (76, 3, .putfield 77, 0, 0, 335, 3, 8),
  (79, 3, .iinc 1 1, 1, 0, 0, 0, 0),
  (82, 3, .goto (-75), 0, 0, 0, 7, 0),
  (85, 1, .aload_n 0, 0, 0, 0, 0, 0),
  (86, 3, .getfield 34, 0, 0, 331, 3, 6),
  (89, 1, .aload_n 0, 0, 0, 0, 0, 0),
  (90, 3, .getfield 77, 0, 0, 335, 3, 8),
  (93, 1, .aload_n 0, 0, 0, 0, 0, 0),
  (94, 3, .getfield 37, 0, 0, 333, 3, 7),
  (97, 1, .iastore, 0, 0, 0, 0, 0),
  (98, 1, .return_, 0, 0, 0, 0, 0)]
set_option maxRecDepth 100000 in
theorem zk_28 : zt_28.all (zx_chk 28) = true := by decide +kernel
/-- NamesThatShrink$Lineup.placeOf(I)I -/
def zt_29 : List zx_En := [
  (0, 1, .iconst 0, 0, 0, 0, 0, 0),
  (1, 1, .istore_n 2, 0, 0, 0, 0, 0),
  (2, 1, .iload_n 2, 0, 0, 0, 0, 0),
  (3, 1, .aload_n 0, 0, 0, 0, 0, 0),
  (4, 3, .getfield 37, 0, 0, 333, 3, 7),
  (7, 3, .if_icmp .ge 21, 0, 0, 0, 28, 0),
  (10, 1, .aload_n 0, 0, 0, 0, 0, 0),
  (11, 3, .getfield 9, 0, 0, 321, 3, 0),
  (14, 1, .iload_n 2, 0, 0, 0, 0, 0),
  (15, 1, .iaload, 0, 0, 0, 0, 0),
  (16, 1, .iload_n 1, 0, 0, 0, 0, 0),
  (17, 3, .if_icmp .ne 5, 0, 0, 0, 22, 0),
  (20, 1, .iload_n 2, 0, 0, 0, 0, 0),
  (21, 1, .ireturn, 0, 0, 0, 0, 0),
  (22, 3, .iinc 2 1, 1, 0, 0, 0, 0),
  (25, 3, .goto (-23), 0, 0, 0, 2, 0),
  (28, 1, .iconst (-1), (-1), 0, 0, 0, 0),
  (29, 1, .ireturn, 0, 0, 0, 0, 0)]
set_option maxRecDepth 100000 in
theorem zk_29 : zt_29.all (zx_chk 29) = true := by decide +kernel
/-- NamesThatShrink$Lineup.groupOf(I)I -/
def zt_30 : List zx_En := [
  (0, 1, .aload_n 0, 0, 0, 0, 0, 0),
  (1, 3, .getfield 77, 0, 0, 335, 3, 8),
  (4, 1, .iconst 1, 1, 0, 0, 0, 0),
  (5, 1, .isub, 0, 0, 0, 0, 0),
  (6, 1, .istore_n 2, 0, 0, 0, 0, 0),
  (7, 1, .iload_n 2, 0, 0, 0, 0, 0),
  (8, 3, .ifCond .le 21, 0, 0, 0, 29, 0),
  (11, 1, .aload_n 0, 0, 0, 0, 0, 0),
  (12, 3, .getfield 34, 0, 0, 331, 3, 6),
  (15, 1, .iload_n 2, 0, 0, 0, 0, 0),
  (16, 1, .iaload, 0, 0, 0, 0, 0),
  (17, 1, .iload_n 1, 0, 0, 0, 0, 0),
  (18, 3, .if_icmp .gt 5, 0, 0, 0, 23, 0),
  (21, 1, .iload_n 2, 0, 0, 0, 0, 0),
  (22, 1, .ireturn, 0, 0, 0, 0, 0),
  (23, 3, .iinc 2 (-1), (-1), 0, 0, 0, 0),
  (26, 3, .goto (-19), 0, 0, 0, 7, 0),
  (29, 1, .iconst 0, 0, 0, 0, 0, 0),
  (30, 1, .ireturn, 0, 0, 0, 0, 0)]
set_option maxRecDepth 100000 in
theorem zk_30 : zt_30.all (zx_chk 30) = true := by decide +kernel
/-- NamesThatShrink$Lineup.statesWith(I)I -/
def zt_31 : List zx_En := [
  (0, 1, .iconst 0, 0, 0, 0, 0, 0),
  (1, 1, .istore_n 2, 0, 0, 0, 0, 0),
  (2, 1, .iload_n 2, 0, 0, 0, 0, 0),
  (3, 1, .aload_n 0, 0, 0, 0, 0, 0),
  (4, 3, .getfield 37, 0, 0, 333, 3, 7),
  (7, 3, .if_icmp .ge 73, 0, 0, 0, 80, 0),
  (10, 1, .aload_n 0, 0, 0, 0, 0, 0),
  (11, 1, .iload_n 2, 0, 0, 0, 0, 0),
  (12, 3, .invokevirtual 80, 0, 0, 891, 0, 32),
  (15, 1, .iload_n 1, 0, 0, 0, 0, 0),
  (16, 3, .if_icmp .le 7, 0, 0, 0, 23, 0),
  (19, 1, .iconst 1, 1, 0, 0, 0, 0),
  (20, 3, .goto 4, 0, 0, 0, 24, 0),
  (23, 1, .iconst 0, 0, 0, 0, 0, 0),
  (24, 1, .istore_n 3, 0, 0, 0, 0, 0),
  (25, 1, .iconst 0, 0, 0, 0, 0, 0),
  (26, 2, .istore 4, 0, 0, 0, 0, 0),
  (28, 2, .iload 4, 0, 0, 0, 0, 0),
  (30, 1, .aload_n 0, 0, 0, 0, 0, 0),
  (31, 3, .getfield 18, 0, 0, 324, 3, 2),
  (34, 1, .iload_n 2, 0, 0, 0, 0, 0),
  (35, 1, .iaload, 0, 0, 0, 0, 0),
  (36, 3, .if_icmp .gt 38, 0, 0, 0, 74, 0),
  (39, 1, .aload_n 0, 0, 0, 0, 0, 0),
  (40, 3, .getfield 31, 0, 0, 330, 3, 5),
  (43, 1, .iload_n 2, 0, 0, 0, 0, 0),
  (44, 1, .aaload, 0, 0, 0, 0, 0),
  (45, 2, .iload 4, 0, 0, 0, 0, 0),
  (47, 1, .iload_n 3, 0, 0, 0, 0, 0),
  (48, 3, .ifCond .eq 18, 0, 0, 0, 66, 0),
  (51, 2, .iload 4, 0, 0, 0, 0, 0),
  (53, 1, .aload_n 0, 0, 0, 0, 0, 0),
  (54, 3, .getfield 18, 0, 0, 324, 3, 2),
  (57, 1, .iload_n 2, 0, 0, 0, 0, 0),
  (58, 1, .iaload, 0, 0, 0, 0, 0),
  (59, 3, .if_icmp .ge 7, 0, 0, 0, 66, 0),
  (62, 1, .iconst 0, 0, 0, 0, 0, 0),
  (63, 3, .goto 4, 0, 0, 0, 67, 0),
  (66, 1, .iconst 1, 1, 0, 0, 0, 0),
  (67, 1, .iastore, 0, 0, 0, 0, 0),
  (68, 3, .iinc 4 1, 1, 0, 0, 0, 0),
  (71, 3, .goto (-43), 0, 0, 0, 28, 0),
  (74, 3, .iinc 2 1, 1, 0, 0, 0, 0),
  (77, 3, .goto (-75), 0, 0, 0, 2, 0),
  (80, 1, .iconst 1, 1, 0, 0, 0, 0),
  (81, 1, .istore_n 2, 0, 0, 0, 0, 0),
  (82, 1, .aload_n 0, 0, 0, 0, 0, 0),
  (83, 3, .getfield 37, 0, 0, 333, 3, 7),
  (86, 1, .iconst 1, 1, 0, 0, 0, 0),
  (87, 1, .isub, 0, 0, 0, 0, 0),
  (88, 1, .istore_n 3, 0, 0, 0, 0, 0),
  (89, 1, .iload_n 3, 0, 0, 0, 0, 0),
  (90, 3, .ifCond .lt 127, 0, 0, 0, 217, 0),
  (93, 1, .iload_n 3, 0, 0, 0, 0, 0),
  (94, 1, .iconst 1, 1, 0, 0, 0, 0),
  (95, 1, .iadd, 0, 0, 0, 0, 0),
  (96, 1, .aload_n 0, 0, 0, 0, 0, 0),
  (97, 3, .getfield 37, 0, 0, 333, 3, 7),
  (100, 3, .if_icmp .ge 23, 0, 0, 0, 123, 0),
  (103, 1, .aload_n 0, 0, 0, 0, 0, 0),
  (104, 3, .getfield 15, 0, 0, 323, 3, 1),
  (107, 1, .iload_n 3, 0, 0, 0, 0, 0),
  (108, 1, .iconst 1, 1, 0, 0, 0, 0),
  (109, 1, .iadd, 0, 0, 0, 0, 0),
  (110, 1, .iaload, 0, 0, 0, 0, 0),
  (111, 1, .aload_n 0, 0, 0, 0, 0, 0),
  (112, 3, .getfield 15, 0, 0, 323, 3, 1),
  (115, 1, .iload_n 3, 0, 0, 0, 0, 0),
  (116, 1, .iaload, 0, 0, 0, 0, 0),
  (117, 3, .if_icmp .ne 6, 0, 0, 0, 123, 0),
  (120, 3, .goto 91, 0, 0, 0, 211, 0),
  (123, 1, .aload_n 0, 0, 0, 0, 0, 0),
  (124, 1, .iload_n 3, 0, 0, 0, 0, 0),
  (125, 3, .invokevirtual 83, 0, 0, 895, 0, 33),
  (128, 1, .aload_n 0, 0, 0, 0, 0, 0),
  (129, 1, .iload_n 3, 0, 0, 0, 0, 0),
  (130, 3, .invokevirtual 86, 0, 0, 903, 0, 35),
  (133, 2, .istore 4, 0, 0, 0, 0, 0),
  (135, 2, .iload 4, 0, 0, 0, 0, 0),
  (137, 3, .ifCond .ge 20, 0, 0, 0, 157, 0),
  (140, 1, .iload_n 2, 0, 0, 0, 0, 0),
  (141, 1, .aload_n 0, 0, 0, 0, 0, 0),
  (142, 3, .getfield 31, 0, 0, 330, 3, 5),
  (145, 1, .iload_n 3, 0, 0, 0, 0, 0),
  (146, 1, .aaload, 0, 0, 0, 0, 0),
  (147, 1, .iconst 0, 0, 0, 0, 0, 0),
  (148, 1, .iaload, 0, 0, 0, 0, 0),
  (149, 1, .imul, 0, 0, 0, 0, 0),
  (150, 3, .invokestatic 89, 0, 0, 899, 2, 34),
  (153, 1, .istore_n 2, 0, 0, 0, 0, 0),
  (154, 3, .goto 57, 0, 0, 0, 211, 0),
  (157, 1, .iconst 0, 0, 0, 0, 0, 0),
  (158, 2, .istore 5, 0, 0, 0, 0, 0),
  (160, 2, .iload 5, 0, 0, 0, 0, 0),
  (162, 1, .aload_n 0, 0, 0, 0, 0, 0),
  (163, 3, .getfield 18, 0, 0, 324, 3, 2),
  (166, 2, .iload 4, 0, 0, 0, 0, 0),
  (168, 1, .iaload, 0, 0, 0, 0, 0),
  (169, 3, .if_icmp .gt 42, 0, 0, 0, 211, 0),
  (172, 1, .aload_n 0, 0, 0, 0, 0, 0),
  (173, 3, .getfield 31, 0, 0, 330, 3, 5),
  (176, 2, .iload 4, 0, 0, 0, 0, 0),
  (178, 1, .aaload, 0, 0, 0, 0, 0),
  (179, 2, .iload 5, 0, 0, 0, 0, 0),
  (181, 1, .aload_n 0, 0, 0, 0, 0, 0),
  (182, 3, .getfield 31, 0, 0, 330, 3, 5),
  (185, 2, .iload 4, 0, 0, 0, 0, 0),
  (187, 1, .aaload, 0, 0, 0, 0, 0),
  (188, 2, .iload 5, 0, 0, 0, 0, 0),
  (190, 1, .iaload, 0, 0, 0, 0, 0),
  (191, 1, .aload_n 0, 0, 0, 0, 0, 0),
  (192, 3, .getfield 31, 0, 0, 330, 3, 5),
  (195, 1, .iload_n 3, 0, 0, 0, 0, 0),
  (196, 1, .aaload, 0, 0, 0, 0, 0),
  (197, 2, .iload 5, 0, 0, 0, 0, 0),
  (199, 1, .iaload, 0, 0, 0, 0, 0),
  (200, 1, .imul, 0, 0, 0, 0, 0),
  (201, 3, .invokestatic 89, 0, 0, 899, 2, 34),
  (204, 1, .iastore, 0, 0, 0, 0, 0),
  (205, 3, .iinc 5 1, 1, 0, 0, 0, 0),
  (208, 3, .goto (-48), 0, 0, 0, 160, 0),
  (211, 3, .iinc 3 (-1), (-1), 0, 0, 0, 0),
  (214, 3, .goto (-125), 0, 0, 0, 89, 0),
  (217, 1, .iload_n 2, 0, 0, 0, 0, 0),
  (218, 1, .ireturn, 0, 0, 0, 0, 0)]
set_option maxRecDepth 100000 in
theorem zk_31 : zt_31.all (zx_chk 31) = true := by decide +kernel
/-- NamesThatShrink$Lineup.namesakes(I)I -/
def zt_32 : List zx_En := [
  (0, 1, .iconst 0, 0, 0, 0, 0, 0),
  (1, 1, .istore_n 2, 0, 0, 0, 0, 0),
  (2, 1, .iconst 0, 0, 0, 0, 0, 0),
  (3, 1, .istore_n 3, 0, 0, 0, 0, 0),
  (4, 1, .iload_n 3, 0, 0, 0, 0, 0),
  (5, 1, .aload_n 0, 0, 0, 0, 0, 0),
  (6, 3, .getfield 37, 0, 0, 333, 3, 7),
  (9, 3, .if_icmp .ge 27, 0, 0, 0, 36, 0),
  (12, 1, .aload_n 0, 0, 0, 0, 0, 0),
  (13, 3, .getfield 15, 0, 0, 323, 3, 1),
  (16, 1, .iload_n 3, 0, 0, 0, 0, 0),
  (17, 1, .iaload, 0, 0, 0, 0, 0),
  (18, 1, .aload_n 0, 0, 0, 0, 0, 0),
  (19, 3, .getfield 15, 0, 0, 323, 3, 1),
  (22, 1, .iload_n 1, 0, 0, 0, 0, 0),
  (23, 1, .iaload, 0, 0, 0, 0, 0),
  (24, 3, .if_icmp .ne 6, 0, 0, 0, 30, 0),
  (27, 3, .iinc 2 1, 1, 0, 0, 0, 0),
  (30, 3, .iinc 3 1, 1, 0, 0, 0, 0),
  (33, 3, .goto (-29), 0, 0, 0, 4, 0),
  (36, 1, .iload_n 2, 0, 0, 0, 0, 0),
  (37, 1, .ireturn, 0, 0, 0, 0, 0)]
set_option maxRecDepth 100000 in
theorem zk_32 : zt_32.all (zx_chk 32) = true := by decide +kernel
/-- NamesThatShrink$Lineup.sumFromAbove(I)V -/
def zt_33 : List zx_En := [
  (0, 1, .aload_n 0, 0, 0, 0, 0, 0),
  (1, 3, .getfield 18, 0, 0, 324, 3, 2),
  (4, 1, .iload_n 1, 0, 0, 0, 0, 0),
  (5, 1, .iaload, 0, 0, 0, 0, 0),
  (6, 1, .iconst 1, 1, 0, 0, 0, 0),
  (7, 1, .isub, 0, 0, 0, 0, 0),
  (8, 1, .istore_n 2, 0, 0, 0, 0, 0),
  (9, 1, .iload_n 2, 0, 0, 0, 0, 0),
  (10, 3, .ifCond .lt 39, 0, 0, 0, 49, 0),
  (13, 1, .aload_n 0, 0, 0, 0, 0, 0),
  (14, 3, .getfield 31, 0, 0, 330, 3, 5),
  (17, 1, .iload_n 1, 0, 0, 0, 0, 0),
  (18, 1, .aaload, 0, 0, 0, 0, 0),
  (19, 1, .iload_n 2, 0, 0, 0, 0, 0),
  (20, 1, .aload_n 0, 0, 0, 0, 0, 0),
  (21, 3, .getfield 31, 0, 0, 330, 3, 5),
  (24, 1, .iload_n 1, 0, 0, 0, 0, 0),
  (25, 1, .aaload, 0, 0, 0, 0, 0),
  (26, 1, .iload_n 2, 0, 0, 0, 0, 0),
  (27, 1, .iaload, 0, 0, 0, 0, 0),
  (28, 1, .aload_n 0, 0, 0, 0, 0, 0),
  (29, 3, .getfield 31, 0, 0, 330, 3, 5),
  (32, 1, .iload_n 1, 0, 0, 0, 0, 0),
  (33, 1, .aaload, 0, 0, 0, 0, 0),
  (34, 1, .iload_n 2, 0, 0, 0, 0, 0),
  (35, 1, .iconst 1, 1, 0, 0, 0, 0),
  (36, 1, .iadd, 0, 0, 0, 0, 0),
  (37, 1, .iaload, 0, 0, 0, 0, 0),
  (38, 1, .iadd, 0, 0, 0, 0, 0),
  (39, 3, .invokestatic 89, 0, 0, 899, 2, 34),
  (42, 1, .iastore, 0, 0, 0, 0, 0),
  (43, 3, .iinc 2 (-1), (-1), 0, 0, 0, 0),
  (46, 3, .goto (-37), 0, 0, 0, 9, 0),
  (49, 1, .return_, 0, 0, 0, 0, 0)]
set_option maxRecDepth 100000 in
theorem zk_33 : zt_33.all (zx_chk 33) = true := by decide +kernel
/-- NamesThatShrink$Lineup.atMostOneAbove(I)I -/
def zt_34 : List zx_En := [
  (0, 1, .iload_n 0, 0, 0, 0, 0, 0),
  (1, 3, .sipush 20001, 20001, 0, 0, 0, 0),
  (4, 3, .invokestatic 94, 0, 0, 902, 8, 0),
  (7, 1, .ireturn, 0, 0, 0, 0, 0)]
set_option maxRecDepth 100000 in
theorem zk_34 : zt_34.all (zx_chk 34) = true := by decide +kernel
/-- NamesThatShrink$Lineup.placeAhead(I)I -/
def zt_35 : List zx_En := [
  (0, 1, .iload_n 1, 0, 0, 0, 0, 0),
  (1, 1, .iconst 1, 1, 0, 0, 0, 0),
  (2, 1, .isub, 0, 0, 0, 0, 0),
  (3, 1, .istore_n 2, 0, 0, 0, 0, 0),
  (4, 1, .iload_n 2, 0, 0, 0, 0, 0),
  (5, 3, .ifCond .lt 44, 0, 0, 0, 49, 0),
  (8, 1, .aload_n 0, 0, 0, 0, 0, 0),
  (9, 3, .getfield 15, 0, 0, 323, 3, 1),
  (12, 1, .iload_n 2, 0, 0, 0, 0, 0),
  (13, 1, .iaload, 0, 0, 0, 0, 0),
  (14, 1, .aload_n 0, 0, 0, 0, 0, 0),
  (15, 3, .getfield 15, 0, 0, 323, 3, 1),
  (18, 1, .iload_n 1, 0, 0, 0, 0, 0),
  (19, 1, .iaload, 0, 0, 0, 0, 0),
  (20, 3, .if_icmp .eq 23, 0, 0, 0, 43, 0),
  (23, 1, .aload_n 0, 0, 0, 0, 0, 0),
  (24, 3, .getfield 15, 0, 0, 323, 3, 1),
  (27, 1, .iload_n 1, 0, 0, 0, 0, 0),
  (28, 1, .iaload, 0, 0, 0, 0, 0),
  (29, 1, .aload_n 0, 0, 0, 0, 0, 0),
  (30, 3, .getfield 15, 0, 0, 323, 3, 1),
  (33, 1, .iload_n 2, 0, 0, 0, 0, 0),
  (34, 1, .iaload, 0, 0, 0, 0, 0),
  (35, 3, .invokestatic 97, 0, 0, 907, 4, 162),
  (38, 3, .ifCond .eq 5, 0, 0, 0, 43, 0),
  (41, 1, .iload_n 2, 0, 0, 0, 0, 0),
  (42, 1, .ireturn, 0, 0, 0, 0, 0),
  (43, 3, .iinc 2 (-1), (-1), 0, 0, 0, 0),
  (46, 3, .goto (-42), 0, 0, 0, 4, 0),
  (49, 1, .iconst (-1), (-1), 0, 0, 0, 0),
  (50, 1, .ireturn, 0, 0, 0, 0, 0)]
set_option maxRecDepth 100000 in
theorem zk_35 : zt_35.all (zx_chk 35) = true := by decide +kernel
/-- NamesThatShrink$Listener.<init>()V -/
def zt_36 : List zx_En := [
  (0, 1, .aload_n 0, 0, 0, 0, 0, 0),
  (1, 3, .invokespecial 3, 0, 0, 489, 5, 0),
  (4, 1, .aload_n 0, 0, 0, 0, 0, 0),
  (5, 2, .bipush 40, 40, 0, 0, 0, 0),
  (7, 2, .newarray .int, 0, 0, 158, 20, 0),
  (9, 3, .putfield 11, 0, 0, 490, 4, 0),
  (12, 1, .aload_n 0, 0, 0, 0, 0, 0),
  (13, 2, .bipush 40, 40, 0, 0, 0, 0),
  (15, 2, .newarray .boolean, 0, 0, 505, 23, 0),
  (17, 3, .putfield 15, 0, 0, 491, 4, 1),
  (20, 1, .aload_n 0, 0, 0, 0, 0, 0),
  (21, 1, .iconst 3, 3, 0, 0, 0, 0),
  (22, 3, .putfield 19, 0, 0, 494, 4, 3),
  (25, 1, .return_, 0, 0, 0, 0, 0)]
set_option maxRecDepth 100000 in
theorem zk_36 : zt_36.all (zx_chk 36) = true := by decide +kernel
/-- NamesThatShrink$Listener.all()I -/
def zt_37 : List zx_En := [
  (0, 1, .iconst 0, 0, 0, 0, 0, 0),
  (1, 1, .istore_n 1, 0, 0, 0, 0, 0),
  (2, 1, .iconst 0, 0, 0, 0, 0, 0),
  (3, 1, .istore_n 2, 0, 0, 0, 0, 0),
  (4, 1, .iload_n 2, 0, 0, 0, 0, 0),
  (5, 1, .iconst 5, 5, 0, 0, 0, 0),
  (6, 3, .if_icmp .ge 18, 0, 0, 0, 24, 0),
  (9, 1, .iload_n 1, 0, 0, 0, 0, 0),
  (10, 1, .iconst 1, 1, 0, 0, 0, 0),
  (11, 1, .iadd, 0, 0, 0, 0, 0),
  (12, 1, .aload_n 0, 0, 0, 0, 0, 0),
  (13, 3, .getfield 19, 0, 0, 494, 4, 3),
  (16, 1, .imul, 0, 0, 0, 0, 0),
  (17, 1, .istore_n 1, 0, 0, 0, 0, 0),
  (18, 3, .iinc 2 1, 1, 0, 0, 0, 0),
  (21, 3, .goto (-17), 0, 0, 0, 4, 0),
  (24, 1, .iload_n 1, 0, 0, 0, 0, 0),
  (25, 1, .ireturn, 0, 0, 0, 0, 0)]
set_option maxRecDepth 100000 in
theorem zk_37 : zt_37.all (zx_chk 37) = true := by decide +kernel
/-- NamesThatShrink$Listener.note(IZ)Z -/
def zt_38 : List zx_En := [
  (0, 1, .aload_n 0, 0, 0, 0, 0, 0),
  (1, 3, .getfield 23, 0, 0, 492, 4, 2),
  (4, 2, .bipush 40, 40, 0, 0, 0, 0),
  (6, 3, .if_icmp .lt 5, 0, 0, 0, 11, 0),
  (9, 1, .iconst 0, 0, 0, 0, 0, 0),
  (10, 1, .ireturn, 0, 0, 0, 0, 0),
  (11, 1, .aload_n 0, 0, 0, 0, 0, 0),
  (12, 3, .getfield 11, 0, 0, 490, 4, 0),
  (15, 1, .aload_n 0, 0, 0, 0, 0, 0),
  (16, 3, .getfield 23, 0, 0, 492, 4, 2),
  (19, 1, .iload_n 1, 0, 0, 0, 0, 0),
  (20, 1, .iastore, 0, 0, 0, 0, 0),
  (21, 1, .aload_n 0, 0, 0, 0, 0, 0),
  (22, 3, .getfield 15, 0, 0, 491, 4, 1),
  (25, 1, .aload_n 0, 0, 0, 0, 0, 0),
  (26, 3, .getfield 23, 0, 0, 492, 4, 2),
  (29, 1, .iload_n 2, 0, 0, 0, 0, 0),
  (30, 1, .bastore, 0, 0, 0, 23, 0),
  (31, 1, .aload_n 0, 0, 0, 0, 0, 0),
  (32, 1, .dup, 0, 0, 0, 0, 0),
  (33, 3, .getfield 23, 0, 0, 492, 4, 2),
  (36, 1, .iconst 1, 1, 0, 0, 0, 0),
  (37, 1, .iadd, 0, 0, 0, 0, 0),
  (38, 3, .putfield 23, 0, 0, 492, 4, 2),
  (41, 1, .iconst 1, 1, 0, 0, 0, 0),
  (42, 1, .ireturn, 0, 0, 0, 0, 0)]
set_option maxRecDepth 100000 in
theorem zk_38 : zt_38.all (zx_chk 38) = true := by decide +kernel
/-- NamesThatShrink$Listener.fitting()I -/
def zt_39 : List zx_En := [
  (0, 1, .aload_n 0, 0, 0, 0, 0, 0),
  (1, 3, .invokevirtual 26, 0, 0, 1164, 0, 42),
  (4, 1, .istore_n 1, 0, 0, 0, 0, 0),
  (5, 1, .iload_n 1, 0, 0, 0, 0, 0),
  (6, 3, .ifCond .eq 25, 0, 0, 0, 31, 0),
  (9, 1, .aload_n 0, 0, 0, 0, 0, 0),
  (10, 1, .iload_n 1, 0, 0, 0, 0, 0),
  (11, 3, .invokevirtual 30, 0, 0, 1168, 0, 44),
  (14, 3, .ifCond .eq 15, 0, 0, 0, 29, 0),
  (17, 1, .aload_n 0, 0, 0, 0, 0, 0),
  (18, 1, .iload_n 1, 0, 0, 0, 0, 0),
  (19, 3, .invokevirtual 34, 0, 0, 1172, 0, 41),
  (22, 3, .ifCond .lt 7, 0, 0, 0, 29, 0),
  (25, 1, .iconst 1, 1, 0, 0, 0, 0),
  (26, 3, .goto 4, 0, 0, 0, 30, 0),
  (29, 1, .iconst 0, 0, 0, 0, 0, 0),
  (30, 1, .ireturn, 0, 0, 0, 0, 0),
  (31, 1, .aload_n 0, 0, 0, 0, 0, 0),
  (32, 3, .invokevirtual 38, 0, 0, 1176, 0, 37),
  (35, 1, .istore_n 2, 0, 0, 0, 0, 0),
  (36, 1, .iconst 0, 0, 0, 0, 0, 0),
  (37, 1, .istore_n 3, 0, 0, 0, 0, 0),
  (38, 1, .iload_n 3, 0, 0, 0, 0, 0),
  (39, 1, .aload_n 0, 0, 0, 0, 0, 0),
  (40, 3, .getfield 23, 0, 0, 492, 4, 2),
  (43, 3, .if_icmp .ge 39, 0, 0, 0, 82, 0),
  (46, 1, .aload_n 0, 0, 0, 0, 0, 0),
  (47, 1, .aload_n 0, 0, 0, 0, 0, 0),
  (48, 3, .getfield 11, 0, 0, 490, 4, 0),
  (51, 1, .iload_n 3, 0, 0, 0, 0, 0),
  (52, 1, .iaload, 0, 0, 0, 0, 0),
  (53, 3, .invokevirtual 30, 0, 0, 1168, 0, 44),
  (56, 3, .ifCond .eq 20, 0, 0, 0, 76, 0),
  (59, 1, .aload_n 0, 0, 0, 0, 0, 0),
  (60, 1, .aload_n 0, 0, 0, 0, 0, 0),
  (61, 3, .getfield 11, 0, 0, 490, 4, 0),
  (64, 1, .iload_n 3, 0, 0, 0, 0, 0),
  (65, 1, .iaload, 0, 0, 0, 0, 0),
  (66, 3, .invokevirtual 41, 0, 0, 1177, 0, 43),
  (69, 1, .iload_n 3, 0, 0, 0, 0, 0),
  (70, 3, .if_icmp .ne 6, 0, 0, 0, 76, 0),
  (73, 3, .iinc 2 (-1), (-1), 0, 0, 0, 0),
  (76, 3, .iinc 3 1, 1, 0, 0, 0, 0),
  (79, 3, .goto (-41), 0, 0, 0, 38, 0),
  (82, 1, .iload_n 2, 0, 0, 0, 0, 0),
  (83, 1, .ireturn, 0, 0, 0, 0, 0)]
set_option maxRecDepth 100000 in
theorem zk_39 : zt_39.all (zx_chk 39) = true := by decide +kernel
end
section
/-- NamesThatShrink$Listener.first()I -/
def zt_40 : List zx_En := [
  (0, 1, .aload_n 0, 0, 0, 0, 0, 0),
  (1, 3, .invokevirtual 26, 0, 0, 1164, 0, 42),
  (4, 1, .istore_n 1, 0, 0, 0, 0, 0),
  (5, 1, .iload_n 1, 0, 0, 0, 0, 0),
  (6, 3, .ifCond .eq 5, 0, 0, 0, 11, 0),
  (9, 1, .iload_n 1, 0, 0, 0, 0, 0),
  (10, 1, .ireturn, 0, 0, 0, 0, 0),
  (11, 1, .iconst 1, 1, 0, 0, 0, 0),
  (12, 1, .istore_n 2, 0, 0, 0, 0, 0),
  (13, 1, .iconst 0, 0, 0, 0, 0, 0),
  (14, 1, .istore_n 3, 0, 0, 0, 0, 0),
  (15, 1, .iload_n 3, 0, 0, 0, 0, 0),
  (16, 1, .aload_n 0, 0, 0, 0, 0, 0),
  (17, 3, .getfield 23, 0, 0, 492, 4, 2),
  (20, 3, .if_icmp .ge 27, 0, 0, 0, 47, 0),
  (23, 1, .aload_n 0, 0, 0, 0, 0, 0),
  (24, 1, .iload_n 2, 0, 0, 0, 0, 0),
  (25, 3, .invokevirtual 41, 0, 0, 1177, 0, 43),
  (28, 1, .aload_n 0, 0, 0, 0, 0, 0),
  (29, 3, .getfield 23, 0, 0, 492, 4, 2),
  (32, 3, .if_icmp .ge 15, 0, 0, 0, 47, 0),
  (35, 1, .aload_n 0, 0, 0, 0, 0, 0),
  (36, 1, .iload_n 2, 0, 0, 0, 0, 0),
  (37, 3, .invokevirtual 44, 0, 0, 1185, 0, 45),
  (40, 1, .istore_n 2, 0, 0, 0, 0, 0),
  (41, 3, .iinc 3 1, 1, 0, 0, 0, 0),
  (44, 3, .goto (-29), 0, 0, 0, 15, 0),
  (47, 1, .iload_n 2, 0, 0, 0, 0, 0),
  (48, 1, .ireturn, 0, 0, 0, 0, 0)]
set_option maxRecDepth 100000 in
theorem zk_40 : zt_40.all (zx_chk 40) = true := by decide +kernel
/-- NamesThatShrink$Listener.left(I)I -/
def zt_41 : List zx_En := [
  (0, 1, .iload_n 1, 0, 0, 0, 0, 0),
  (1, 1, .istore_n 2, 0, 0, 0, 0, 0),
  (2, 1, .iconst 0, 0, 0, 0, 0, 0),
  (3, 1, .istore_n 3, 0, 0, 0, 0, 0),
  (4, 1, .iload_n 3, 0, 0, 0, 0, 0),
  (5, 1, .aload_n 0, 0, 0, 0, 0, 0),
  (6, 3, .getfield 23, 0, 0, 492, 4, 2),
  (9, 3, .if_icmp .ge 49, 0, 0, 0, 58, 0),
  (12, 1, .iload_n 2, 0, 0, 0, 0, 0),
  (13, 1, .aload_n 0, 0, 0, 0, 0, 0),
  (14, 3, .getfield 11, 0, 0, 490, 4, 0),
  (17, 1, .iload_n 3, 0, 0, 0, 0, 0),
  (18, 1, .iaload, 0, 0, 0, 0, 0),
  (19, 3, .if_icmp .ne 7, 0, 0, 0, 26, 0),
  (22, 1, .iconst 1, 1, 0, 0, 0, 0),
  (23, 3, .goto 4, 0, 0, 0, 27, 0),
  (26, 1, .iconst 0, 0, 0, 0, 0, 0),
  (27, 2, .istore 4, 0, 0, 0, 0, 0),
  (29, 2, .iload 4, 0, 0, 0, 0, 0),
  (31, 1, .aload_n 0, 0, 0, 0, 0, 0),
  (32, 3, .getfield 15, 0, 0, 491, 4, 1),
  (35, 1, .iload_n 3, 0, 0, 0, 0, 0),
  (36, 1, .baload, 0, 0, 0, 23, 0),
  (37, 3, .if_icmp .eq 5, 0, 0, 0, 42, 0),
  (40, 1, .iconst (-1), (-1), 0, 0, 0, 0),
  (41, 1, .ireturn, 0, 0, 0, 0, 0),
  (42, 2, .iload 4, 0, 0, 0, 0, 0),
  (44, 3, .ifCond .eq 8, 0, 0, 0, 52, 0),
  (47, 1, .iload_n 2, 0, 0, 0, 0, 0),
  (48, 2, .bipush 7, 7, 0, 0, 0, 0),
  (50, 1, .idiv, 0, 0, 0, 0, 0),
  (51, 1, .istore_n 2, 0, 0, 0, 0, 0),
  (52, 3, .iinc 3 1, 1, 0, 0, 0, 0),
  (55, 3, .goto (-51), 0, 0, 0, 4, 0),
  (58, 1, .iload_n 2, 0, 0, 0, 0, 0),
  (59, 1, .ireturn, 0, 0, 0, 0, 0)]
set_option maxRecDepth 100000 in
theorem zk_41 : zt_41.all (zx_chk 41) = true := by decide +kernel
/-- NamesThatShrink$Listener.firstAnswered()I -/
def zt_42 : List zx_En := [
  (0, 1, .iconst 0, 0, 0, 0, 0, 0),
  (1, 1, .istore_n 1, 0, 0, 0, 0, 0),
  (2, 1, .iload_n 1, 0, 0, 0, 0, 0),
  (3, 1, .aload_n 0, 0, 0, 0, 0, 0),
  (4, 3, .getfield 23, 0, 0, 492, 4, 2),
  (7, 3, .if_icmp .ge 25, 0, 0, 0, 32, 0),
  (10, 1, .aload_n 0, 0, 0, 0, 0, 0),
  (11, 3, .getfield 15, 0, 0, 491, 4, 1),
  (14, 1, .iload_n 1, 0, 0, 0, 0, 0),
  (15, 1, .baload, 0, 0, 0, 23, 0),
  (16, 3, .ifCond .eq 10, 0, 0, 0, 26, 0),
  (19, 1, .aload_n 0, 0, 0, 0, 0, 0),
  (20, 3, .getfield 11, 0, 0, 490, 4, 0),
  (23, 1, .iload_n 1, 0, 0, 0, 0, 0),
  (24, 1, .iaload, 0, 0, 0, 0, 0),
  (25, 1, .ireturn, 0, 0, 0, 0, 0),
  (26, 3, .iinc 1 1, 1, 0, 0, 0, 0),
  (29, 3, .goto (-27), 0, 0, 0, 2, 0),
  (32, 1, .iconst 0, 0, 0, 0, 0, 0),
  (33, 1, .ireturn, 0, 0, 0, 0, 0)]
set_option maxRecDepth 100000 in
theorem zk_42 : zt_42.all (zx_chk 42) = true := by decide +kernel
/-- NamesThatShrink$Listener.firstHeard(I)I -/
def zt_43 : List zx_En := [
  (0, 1, .iconst 0, 0, 0, 0, 0, 0),
  (1, 1, .istore_n 2, 0, 0, 0, 0, 0),
  (2, 1, .iload_n 2, 0, 0, 0, 0, 0),
  (3, 1, .aload_n 0, 0, 0, 0, 0, 0),
  (4, 3, .getfield 23, 0, 0, 492, 4, 2),
  (7, 3, .if_icmp .ge 21, 0, 0, 0, 28, 0),
  (10, 1, .aload_n 0, 0, 0, 0, 0, 0),
  (11, 3, .getfield 11, 0, 0, 490, 4, 0),
  (14, 1, .iload_n 2, 0, 0, 0, 0, 0),
  (15, 1, .iaload, 0, 0, 0, 0, 0),
  (16, 1, .iload_n 1, 0, 0, 0, 0, 0),
  (17, 3, .if_icmp .ne 5, 0, 0, 0, 22, 0),
  (20, 1, .iload_n 2, 0, 0, 0, 0, 0),
  (21, 1, .ireturn, 0, 0, 0, 0, 0),
  (22, 3, .iinc 2 1, 1, 0, 0, 0, 0),
  (25, 3, .goto (-23), 0, 0, 0, 2, 0),
  (28, 1, .aload_n 0, 0, 0, 0, 0, 0),
  (29, 3, .getfield 23, 0, 0, 492, 4, 2),
  (32, 1, .ireturn, 0, 0, 0, 0, 0)]
set_option maxRecDepth 100000 in
theorem zk_43 : zt_43.all (zx_chk 43) = true := by decide +kernel
/-- NamesThatShrink$Listener.isWithin(I)Z -/
def zt_44 : List zx_En := [
  (0, 1, .iload_n 1, 0, 0, 0, 0, 0),
  (1, 1, .istore_n 2, 0, 0, 0, 0, 0),
  (2, 1, .iconst 0, 0, 0, 0, 0, 0),
  (3, 1, .istore_n 3, 0, 0, 0, 0, 0),
  (4, 1, .iload_n 3, 0, 0, 0, 0, 0),
  (5, 1, .iconst 5, 5, 0, 0, 0, 0),
  (6, 3, .if_icmp .ge 31, 0, 0, 0, 37, 0),
  (9, 1, .iload_n 2, 0, 0, 0, 0, 0),
  (10, 3, .ifCond .le 27, 0, 0, 0, 37, 0),
  (13, 1, .iload_n 2, 0, 0, 0, 0, 0),
  (14, 2, .bipush 7, 7, 0, 0, 0, 0),
  (16, 1, .irem, 0, 0, 0, 0, 0),
  (17, 1, .aload_n 0, 0, 0, 0, 0, 0),
  (18, 3, .getfield 19, 0, 0, 494, 4, 3),
  (21, 3, .if_icmp .le 5, 0, 0, 0, 26, 0),
  (24, 1, .iconst 0, 0, 0, 0, 0, 0),
  (25, 1, .ireturn, 0, 0, 0, 0, 0),
  (26, 1, .iload_n 2, 0, 0, 0, 0, 0),
  (27, 2, .bipush 7, 7, 0, 0, 0, 0),
  (29, 1, .idiv, 0, 0, 0, 0, 0),
  (30, 1, .istore_n 2, 0, 0, 0, 0, 0),
  (31, 3, .iinc 3 1, 1, 0, 0, 0, 0),
  (34, 3, .goto (-30), 0, 0, 0, 4, 0),
  (37, 1, .iload_n 2, 0, 0, 0, 0, 0),
  (38, 3, .ifCond .ne 7, 0, 0, 0, 45, 0),
  (41, 1, .iconst 1, 1, 0, 0, 0, 0),
  (42, 3, .goto 4, 0, 0, 0, 46, 0),
  (45, 1, .iconst 0, 0, 0, 0, 0, 0),
  (46, 1, .ireturn, 0, 0, 0, 0, 0)]
set_option maxRecDepth 100000 in
theorem zk_44 : zt_44.all (zx_chk 44) = true := by decide +kernel
/-- NamesThatShrink$Listener.following(I)I -/
def zt_45 : List zx_En := [
  (0, 1, .iload_n 1, 0, 0, 0, 0, 0),
  (1, 1, .istore_n 2, 0, 0, 0, 0, 0),
  (2, 1, .iconst 1, 1, 0, 0, 0, 0),
  (3, 1, .istore_n 3, 0, 0, 0, 0, 0),
  (4, 1, .iconst 0, 0, 0, 0, 0, 0),
  (5, 2, .istore 4, 0, 0, 0, 0, 0),
  (7, 2, .iload 4, 0, 0, 0, 0, 0),
  (9, 1, .iconst 5, 5, 0, 0, 0, 0),
  (10, 3, .if_icmp .ge 44, 0, 0, 0, 54, 0),
  (13, 1, .iload_n 2, 0, 0, 0, 0, 0),
  (14, 1, .iload_n 3, 0, 0, 0, 0, 0),
  (15, 1, .idiv, 0, 0, 0, 0, 0),
  (16, 2, .bipush 7, 7, 0, 0, 0, 0),
  (18, 1, .irem, 0, 0, 0, 0, 0),
  (19, 2, .istore 5, 0, 0, 0, 0, 0),
  (21, 2, .iload 5, 0, 0, 0, 0, 0),
  (23, 1, .aload_n 0, 0, 0, 0, 0, 0),
  (24, 3, .getfield 19, 0, 0, 494, 4, 3),
  (27, 3, .if_icmp .ge 7, 0, 0, 0, 34, 0),
  (30, 1, .iload_n 2, 0, 0, 0, 0, 0),
  (31, 1, .iload_n 3, 0, 0, 0, 0, 0),
  (32, 1, .iadd, 0, 0, 0, 0, 0),
  (33, 1, .ireturn, 0, 0, 0, 0, 0),
  (34, 1, .iload_n 2, 0, 0, 0, 0, 0),
  (35, 2, .iload 5, 0, 0, 0, 0, 0),
  (37, 1, .iconst 1, 1, 0, 0, 0, 0),
  (38, 1, .isub, 0, 0, 0, 0, 0),
  (39, 1, .iload_n 3, 0, 0, 0, 0, 0),
  (40, 1, .imul, 0, 0, 0, 0, 0),
  (41, 1, .isub, 0, 0, 0, 0, 0),
  (42, 1, .istore_n 2, 0, 0, 0, 0, 0),
  (43, 1, .iload_n 3, 0, 0, 0, 0, 0),
  (44, 2, .bipush 7, 7, 0, 0, 0, 0),
  (46, 1, .imul, 0, 0, 0, 0, 0),
  (47, 1, .istore_n 3, 0, 0, 0, 0, 0),
  (48, 3, .iinc 4 1, 1, 0, 0, 0, 0),
  (51, 3, .goto (-44), 0, 0, 0, 7, 0),
  (54, 1, .iload_n 2, 0, 0, 0, 0, 0),
  (55, 1, .ireturn, 0, 0, 0, 0, 0)]
set_option maxRecDepth 100000 in
theorem zk_45 : zt_45.all (zx_chk 45) = true := by decide +kernel
/-- NamesThatShrink$NewNames.<init>(LNamesThatShrink$Crowd;)V -/
def zt_46 : List zx_En := [
  (0, 1, .aload_n 0, 0, 0, 0, 0, 0),
  (1, 3, .invokespecial 3, 0, 0, 430, 5, 0),
  (4, 1, .aload_n 0, 0, 0, 0, 0, 0),
  (5, 2, .bipush 10, 10, 0, 0, 0, 0),
  (7, 2, .newarray .int, 0, 0, 158, 20, 0),
  (9, 3, .putfield 9, 0, 0, 454, 5, 1),
  (12, 1, .aload_n 0, 0, 0, 0, 0, 0),
  (13, 2, .bipush 6, 6, 0, 0, 0, 0),
  (15, 2, .newarray .int, 0, 0, 158, 20, 0),
  (17, 3, .putfield 15, 0, 0, 455, 5, 2),
  (20, 1, .aload_n 0, 0, 0, 0, 0, 0),
  (21, 2, .bipush 6, 6, 0, 0, 0, 0),
  (23, 3, .anewarray 18, 0, 0, 431, 26, 0),
  (26, 3, .putfield 20, 0, 0, 456, 5, 3),
  (29, 1, .aload_n 0, 0, 0, 0, 0, 0),
  (30, 2, .bipush 6, 6, 0, 0, 0, 0),
  (32, 3, .anewarray 18, 0, 0, 431, 26, 0),
  (35, 3, .putfield 24, 0, 0, 457, 5, 4),
  (38, 1, .aload_n 0, 0, 0, 0, 0, 0),
  (39, 1, .aload_n 0, 0, 0, 0, 0, 0),
  (40, 3, .getfield 15, 0, 0, 455, 5, 2),
  (43, 3, .putfield 27, 0, 0, 458, 5, 5),
  (46, 1, .aload_n 0, 0, 0, 0, 0, 0),
  (47, 1, .aload_n 1, 0, 0, 0, 0, 0),
  (48, 3, .putfield 30, 0, 0, 453, 5, 0),
  (51, 1, .iconst 0, 0, 0, 0, 0, 0),
  (52, 1, .istore_n 2, 0, 0, 0, 0, 0),
  (53, 1, .iload_n 2, 0, 0, 0, 0, 0),
  (54, 1, .iconst 5, 5, 0, 0, 0, 0),
  (55, 3, .if_icmp .gt 35, 0, 0, 0, 90, 0),
  (58, 1, .aload_n 0, 0, 0, 0, 0, 0),
  (59, 3, .getfield 20, 0, 0, 456, 5, 3),
  (62, 1, .iload_n 2, 0, 0, 0, 0, 0),
  (63, 3, .new 18, 0, 0, 431, 7, 0),
  (66, 1, .dup, 0, 0, 0, 0, 0),
  (67, 3, .invokespecial 34, 0, 0, 434, 3, 74),
  (70, 1, .aastore, 0, 0, 0, 0, 0),
  (71, 1, .aload_n 0, 0, 0, 0, 0, 0),
  (72, 3, .getfield 24, 0, 0, 457, 5, 4),
  (75, 1, .iload_n 2, 0, 0, 0, 0, 0),
  (76, 3, .new 18, 0, 0, 431, 7, 0),
  (79, 1, .dup, 0, 0, 0, 0, 0),
  (80, 3, .invokespecial 34, 0, 0, 434, 3, 74),
  (83, 1, .aastore, 0, 0, 0, 0, 0),
  (84, 3, .iinc 2 1, 1, 0, 0, 0, 0),
  (87, 3, .goto (-34), 0, 0, 0, 53, 0),
  (90, 1, .return_, 0, 0, 0, 0, 0)]
set_option maxRecDepth 100000 in
theorem zk_46 : zt_46.all (zx_chk 46) = true := by decide +kernel
/-- NamesThatShrink$NewNames.areAsked(II)Z -/
def zt_47 : List zx_En := [
  (0, 1, .iload_n 0, 0, 0, 0, 0, 0),
  (1, 1, .iconst 1, 1, 0, 0, 0, 0),
  (2, 3, .if_icmp .lt 22, 0, 0, 0, 24, 0),
  (5, 1, .iload_n 0, 0, 0, 0, 0, 0),
  (6, 1, .iconst 5, 5, 0, 0, 0, 0),
  (7, 3, .if_icmp .gt 17, 0, 0, 0, 24, 0),
  (10, 1, .iload_n 1, 0, 0, 0, 0, 0),
  (11, 3, .ifCond .lt 13, 0, 0, 0, 24, 0),
  (14, 1, .iload_n 1, 0, 0, 0, 0, 0),
  (15, 2, .bipush 8, 8, 0, 0, 0, 0),
  (17, 3, .if_icmp .gt 7, 0, 0, 0, 24, 0),
  (20, 1, .iconst 1, 1, 0, 0, 0, 0),
  (21, 3, .goto 4, 0, 0, 0, 25, 0),
  (24, 1, .iconst 0, 0, 0, 0, 0, 0),
  (25, 1, .ireturn, 0, 0, 0, 0, 0)]
set_option maxRecDepth 100000 in
theorem zk_47 : zt_47.all (zx_chk 47) = true := by decide +kernel
/-- NamesThatShrink$NewNames.ask(II)V -/
def zt_48 : List zx_En := [
  (0, 1, .aload_n 0, 0, 0, 0, 0, 0),
  (1, 1, .iload_n 1, 0, 0, 0, 0, 0),
  (2, 3, .putfield 35, 0, 0, 460, 5, 7),
  (5, 1, .aload_n 0, 0, 0, 0, 0, 0),
  (6, 1, .iconst 1, 1, 0, 0, 0, 0),
  (7, 1, .iload_n 1, 0, 0, 0, 0, 0),
  (8, 1, .iload_n 2, 0, 0, 0, 0, 0),
  (9, 1, .isub, 0, 0, 0, 0, 0),
  (10, 3, .invokestatic 39, 0, 0, 1067, 7, 0),
  (13, 3, .putfield 45, 0, 0, 461, 5, 8),
  (16, 1, .aload_n 0, 0, 0, 0, 0, 0),
  (17, 1, .iconst 0, 0, 0, 0, 0, 0),
  (18, 3, .putfield 48, 0, 0, 459, 5, 6),
  (21, 1, .iconst 0, 0, 0, 0, 0, 0),
  (22, 1, .istore_n 3, 0, 0, 0, 0, 0),
  (23, 1, .iload_n 3, 0, 0, 0, 0, 0),
  (24, 1, .aload_n 0, 0, 0, 0, 0, 0),
  (25, 3, .getfield 30, 0, 0, 453, 5, 0),
  (28, 3, .getfield 51, 0, 0, 200, 0, 7),
  (31, 3, .if_icmp .ge 85, 0, 0, 0, 116, 0),
  (34, 1, .aload_n 0, 0, 0, 0, 0, 0),
  (35, 3, .getfield 30, 0, 0, 453, 5, 0),
  (38, 3, .getfield 56, 0, 0, 183, 0, 0),
  (41, 1, .iload_n 3, 0, 0, 0, 0, 0),
  (42, 1, .iaload, 0, 0, 0, 0, 0),
  (43, 3, .invokestatic 59, 0, 0, 1068, 4, 161),
  (46, 2, .istore 4, 0, 0, 0, 0, 0),
  (48, 1, .aload_n 0, 0, 0, 0, 0, 0),
  (49, 3, .getfield 45, 0, 0, 461, 5, 8),
  (52, 2, .iload 4, 0, 0, 0, 0, 0),
  (54, 1, .iload_n 2, 0, 0, 0, 0, 0),
  (55, 1, .isub, 0, 0, 0, 0, 0),
  (56, 3, .invokestatic 39, 0, 0, 1067, 7, 0),
  (59, 2, .istore 5, 0, 0, 0, 0, 0),
  (61, 2, .iload 5, 0, 0, 0, 0, 0),
  (63, 1, .iload_n 1, 0, 0, 0, 0, 0),
  (64, 3, .if_icmp .gt 46, 0, 0, 0, 110, 0),
  (67, 2, .iload 5, 0, 0, 0, 0, 0),
  (69, 2, .iload 4, 0, 0, 0, 0, 0),
  (71, 3, .if_icmp .gt 39, 0, 0, 0, 110, 0),
  (74, 1, .aload_n 0, 0, 0, 0, 0, 0),
  (75, 3, .getfield 9, 0, 0, 454, 5, 1),
  (78, 1, .aload_n 0, 0, 0, 0, 0, 0),
  (79, 3, .getfield 48, 0, 0, 459, 5, 6),
  (82, 1, .aload_n 0, 0, 0, 0, 0, 0),
  (83, 3, .getfield 30, 0, 0, 453, 5, 0),
  (86, 3, .getfield 56, 0, 0, 183, 0, 0),
  (89, 1, .iload_n 3, 0, 0, 0, 0, 0),
  (90, 1, .iaload, 0, 0, 0, 0, 0),
  (91, 2, .iload 4, 0, 0, 0, 0, 0),
  (93, 2, .iload 5, 0, 0, 0, 0, 0),
  (95, 1, .isub, 0, 0, 0, 0, 0),
  (96, 3, .invokestatic 63, 0, 0, 1069, 2, 49),
  (99, 1, .iastore, 0, 0, 0, 0, 0),
  (100, 1, .aload_n 0, 0, 0, 0, 0, 0),
  (101, 1, .dup, 0, 0, 0, 0, 0),
  (102, 3, .getfield 48, 0, 0, 459, 5, 6),
  (105, 1, .iconst 1, 1, 0, 0, 0, 0),
  (106, 1, .iadd, 0, 0, 0, 0, 0),
  (107, 3, .putfield 48, 0, 0, 459, 5, 6),
  (110, 3, .iinc 3 1, 1, 0, 0, 0, 0),
  (113, 3, .goto (-90), 0, 0, 0, 23, 0),
  (116, 1, .return_, 0, 0, 0, 0, 0)]
set_option maxRecDepth 100000 in
theorem zk_48 : zt_48.all (zx_chk 48) = true := by decide +kernel
/-- NamesThatShrink$NewNames.firstLetters(II)I -/
def zt_49 : List zx_En := [
  (0, 1, .iload_n 0, 0, 0, 0, 0, 0),
  (1, 1, .istore_n 2, 0, 0, 0, 0, 0),
  (2, 1, .iconst 0, 0, 0, 0, 0, 0),
  (3, 1, .istore_n 3, 0, 0, 0, 0, 0),
  (4, 1, .iload_n 3, 0, 0, 0, 0, 0),
  (5, 1, .iload_n 1, 0, 0, 0, 0, 0),
  (6, 3, .if_icmp .ge 14, 0, 0, 0, 20, 0),
  (9, 1, .iload_n 2, 0, 0, 0, 0, 0),
  (10, 2, .bipush 7, 7, 0, 0, 0, 0),
  (12, 1, .idiv, 0, 0, 0, 0, 0),
  (13, 1, .istore_n 2, 0, 0, 0, 0, 0),
  (14, 3, .iinc 3 1, 1, 0, 0, 0, 0),
  (17, 3, .goto (-13), 0, 0, 0, 4, 0),
  (20, 1, .iload_n 2, 0, 0, 0, 0, 0),
  (21, 1, .ireturn, 0, 0, 0, 0, 0)]
set_option maxRecDepth 100000 in
theorem zk_49 : zt_49.all (zx_chk 49) = true := by decide +kernel
/-- NamesThatShrink$NewNames.tellCheapest(ILNamesThatShrink$Row;)I -/
def zt_50 : List zx_En := [
  (0, 1, .aload_n 0, 0, 0, 0, 0, 0),
  (1, 1, .iload_n 1, 0, 0, 0, 0, 0),
  (2, 1, .aload_n 0, 0, 0, 0, 0, 0),
  (3, 3, .getfield 30, 0, 0, 453, 5, 0),
  (6, 3, .getfield 66, 0, 0, 192, 0, 2),
  (9, 3, .invokevirtual 67, 0, 0, 1076, 0, 52),
  (12, 1, .aload_n 0, 0, 0, 0, 0, 0),
  (13, 3, .getfield 24, 0, 0, 457, 5, 4),
  (16, 1, .iconst 0, 0, 0, 0, 0, 0),
  (17, 1, .aaload, 0, 0, 0, 0, 0),
  (18, 3, .getfield 71, 0, 0, 442, 7, 2),
  (21, 1, .iload_n 1, 0, 0, 0, 0, 0),
  (22, 3, .if_icmp .ge 6, 0, 0, 0, 28, 0),
  (25, 2, .bipush (-2), (-2), 0, 0, 0, 0),
  (27, 1, .ireturn, 0, 0, 0, 0, 0),
  (28, 1, .aload_n 0, 0, 0, 0, 0, 0),
  (29, 3, .getfield 24, 0, 0, 457, 5, 4),
  (32, 1, .iconst 0, 0, 0, 0, 0, 0),
  (33, 1, .aaload, 0, 0, 0, 0, 0),
  (34, 1, .aload_n 2, 0, 0, 0, 0, 0),
  (35, 3, .invokevirtual 74, 0, 0, 1117, 0, 79),
  (38, 1, .aload_n 0, 0, 0, 0, 0, 0),
  (39, 3, .getfield 24, 0, 0, 457, 5, 4),
  (42, 1, .iconst 0, 0, 0, 0, 0, 0),
  (43, 1, .aaload, 0, 0, 0, 0, 0),
  (44, 3, .invokevirtual 78, 0, 0, 1124, 0, 78),
  (47, 1, .ireturn, 0, 0, 0, 0, 0)]
set_option maxRecDepth 100000 in
theorem zk_50 : zt_50.all (zx_chk 50) = true := by decide +kernel
/-- NamesThatShrink$NewNames.tellSafe(LNamesThatShrink$Row;)I -/
def zt_51 : List zx_En := [
  (0, 1, .aload_n 0, 0, 0, 0, 0, 0),
  (1, 1, .iconst 0, 0, 0, 0, 0, 0),
  (2, 1, .iconst 0, 0, 0, 0, 0, 0),
  (3, 3, .invokevirtual 82, 0, 0, 1136, 0, 56),
  (6, 1, .istore_n 2, 0, 0, 0, 0, 0),
  (7, 1, .aload_n 1, 0, 0, 0, 0, 0),
  (8, 3, .invokevirtual 85, 0, 0, 1142, 0, 81),
  (11, 1, .iload_n 2, 0, 0, 0, 0, 0),
  (12, 3, .ifCond .le 54, 0, 0, 0, 66, 0),
  (15, 1, .aload_n 0, 0, 0, 0, 0, 0),
  (16, 1, .iconst 1, 1, 0, 0, 0, 0),
  (17, 1, .aload_n 0, 0, 0, 0, 0, 0),
  (18, 3, .getfield 15, 0, 0, 455, 5, 2),
  (21, 3, .invokevirtual 67, 0, 0, 1076, 0, 52),
  (24, 1, .aload_n 1, 0, 0, 0, 0, 0),
  (25, 1, .aload_n 0, 0, 0, 0, 0, 0),
  (26, 3, .getfield 24, 0, 0, 457, 5, 4),
  (29, 1, .iconst 0, 0, 0, 0, 0, 0),
  (30, 1, .aaload, 0, 0, 0, 0, 0),
  (31, 3, .getfield 90, 0, 0, 440, 7, 1),
  (34, 1, .iconst 0, 0, 0, 0, 0, 0),
  (35, 1, .iaload, 0, 0, 0, 0, 0),
  (36, 3, .invokevirtual 93, 0, 0, 1143, 0, 82),
  (39, 1, .aload_n 0, 0, 0, 0, 0, 0),
  (40, 1, .iconst 1, 1, 0, 0, 0, 0),
  (41, 1, .aload_n 0, 0, 0, 0, 0, 0),
  (42, 3, .getfield 30, 0, 0, 453, 5, 0),
  (45, 3, .getfield 66, 0, 0, 192, 0, 2),
  (48, 3, .invokevirtual 67, 0, 0, 1076, 0, 52),
  (51, 1, .aload_n 1, 0, 0, 0, 0, 0),
  (52, 1, .aload_n 0, 0, 0, 0, 0, 0),
  (53, 3, .getfield 24, 0, 0, 457, 5, 4),
  (56, 1, .iconst 0, 0, 0, 0, 0, 0),
  (57, 1, .aaload, 0, 0, 0, 0, 0),
  (58, 3, .getfield 90, 0, 0, 440, 7, 1),
  (61, 1, .iconst 0, 0, 0, 0, 0, 0),
  (62, 1, .iaload, 0, 0, 0, 0, 0),
  (63, 3, .invokevirtual 93, 0, 0, 1143, 0, 82),
  (66, 1, .iload_n 2, 0, 0, 0, 0, 0),
  (67, 1, .ireturn, 0, 0, 0, 0, 0)]
set_option maxRecDepth 100000 in
theorem zk_51 : zt_51.all (zx_chk 51) = true := by decide +kernel
/-- NamesThatShrink$NewNames.choose(I[I)V -/
def zt_52 : List zx_En := [
  (0, 1, .aload_n 0, 0, 0, 0, 0, 0),
  (1, 1, .iload_n 1, 0, 0, 0, 0, 0),
  (2, 3, .putfield 97, 0, 0, 462, 5, 9),
  (5, 1, .aload_n 0, 0, 0, 0, 0, 0),
  (6, 1, .aload_n 2, 0, 0, 0, 0, 0),
  (7, 3, .putfield 27, 0, 0, 458, 5, 5),
  (10, 1, .aload_n 0, 0, 0, 0, 0, 0),
  (11, 3, .getfield 20, 0, 0, 456, 5, 3),
  (14, 1, .aload_n 0, 0, 0, 0, 0, 0),
  (15, 3, .getfield 35, 0, 0, 460, 5, 7),
  (18, 1, .aaload, 0, 0, 0, 0, 0),
  (19, 1, .iconst 1, 1, 0, 0, 0, 0),
  (20, 3, .invokevirtual 100, 0, 0, 1080, 0, 75),
  (23, 1, .aload_n 0, 0, 0, 0, 0, 0),
  (24, 3, .getfield 20, 0, 0, 456, 5, 3),
  (27, 1, .aload_n 0, 0, 0, 0, 0, 0),
  (28, 3, .getfield 35, 0, 0, 460, 5, 7),
  (31, 1, .aaload, 0, 0, 0, 0, 0),
  (32, 1, .iconst 0, 0, 0, 0, 0, 0),
  (33, 1, .iconst 0, 0, 0, 0, 0, 0),
  (34, 3, .invokevirtual 103, 0, 0, 1085, 0, 76),
  (37, 1, .aload_n 0, 0, 0, 0, 0, 0),
  (38, 3, .getfield 35, 0, 0, 460, 5, 7),
  (41, 1, .iconst 1, 1, 0, 0, 0, 0),
  (42, 1, .isub, 0, 0, 0, 0, 0),
  (43, 1, .istore_n 3, 0, 0, 0, 0, 0),
  (44, 1, .iload_n 3, 0, 0, 0, 0, 0),
  (45, 3, .ifCond .lt 60, 0, 0, 0, 105, 0),
  (48, 1, .aload_n 0, 0, 0, 0, 0, 0),
  (49, 3, .getfield 20, 0, 0, 456, 5, 3),
  (52, 1, .iload_n 3, 0, 0, 0, 0, 0),
  (53, 1, .aaload, 0, 0, 0, 0, 0),
  (54, 1, .aload_n 0, 0, 0, 0, 0, 0),
  (55, 1, .iload_n 3, 0, 0, 0, 0, 0),
  (56, 3, .invokevirtual 106, 0, 0, 1089, 0, 53),
  (59, 3, .invokevirtual 100, 0, 0, 1080, 0, 75),
  (62, 1, .iconst 1, 1, 0, 0, 0, 0),
  (63, 2, .istore 4, 0, 0, 0, 0, 0),
  (65, 2, .iload 4, 0, 0, 0, 0, 0),
  (67, 2, .bipush 6, 6, 0, 0, 0, 0),
  (69, 3, .if_icmp .gt 30, 0, 0, 0, 99, 0),
  (72, 1, .aload_n 0, 0, 0, 0, 0, 0),
  (73, 1, .aload_n 0, 0, 0, 0, 0, 0),
  (74, 3, .getfield 20, 0, 0, 456, 5, 3),
  (77, 1, .iload_n 3, 0, 0, 0, 0, 0),
  (78, 1, .aaload, 0, 0, 0, 0, 0),
  (79, 1, .aload_n 0, 0, 0, 0, 0, 0),
  (80, 3, .getfield 20, 0, 0, 456, 5, 3),
  (83, 1, .iload_n 3, 0, 0, 0, 0, 0),
  (84, 1, .iconst 1, 1, 0, 0, 0, 0),
  (85, 1, .iadd, 0, 0, 0, 0, 0),
  (86, 1, .aaload, 0, 0, 0, 0, 0),
  (87, 2, .iload 4, 0, 0, 0, 0, 0),
  (89, 1, .iload_n 3, 0, 0, 0, 0, 0),
  (90, 3, .invokevirtual 109, 0, 0, 1093, 0, 54),
  (93, 3, .iinc 4 1, 1, 0, 0, 0, 0),
  (96, 3, .goto (-31), 0, 0, 0, 65, 0),
  (99, 3, .iinc 3 (-1), (-1), 0, 0, 0, 0),
  (102, 3, .goto (-58), 0, 0, 0, 44, 0),
  (105, 1, .aload_n 0, 0, 0, 0, 0, 0),
  (106, 1, .iconst 0, 0, 0, 0, 0, 0),
  (107, 1, .iconst 0, 0, 0, 0, 0, 0),
  (108, 3, .invokevirtual 113, 0, 0, 1104, 0, 55),
  (111, 1, .return_, 0, 0, 0, 0, 0)]
set_option maxRecDepth 100000 in
theorem zk_52 : zt_52.all (zx_chk 52) = true := by decide +kernel
/-- NamesThatShrink$NewNames.limitAt(I)I -/
def zt_53 : List zx_En := [
  (0, 1, .iload_n 1, 0, 0, 0, 0, 0),
  (1, 1, .aload_n 0, 0, 0, 0, 0, 0),
  (2, 3, .getfield 45, 0, 0, 461, 5, 8),
  (5, 3, .if_icmp .lt 7, 0, 0, 0, 12, 0),
  (8, 1, .iconst 1, 1, 0, 0, 0, 0),
  (9, 3, .goto 7, 0, 0, 0, 16, 0),
  (12, 1, .aload_n 0, 0, 0, 0, 0, 0),
  (13, 3, .getfield 97, 0, 0, 462, 5, 9),
  (16, 1, .ireturn, 0, 0, 0, 0, 0)]
set_option maxRecDepth 100000 in
theorem zk_53 : zt_53.all (zx_chk 53) = true := by decide +kernel
/-- NamesThatShrink$NewNames.addLetter(LNamesThatShrink$Picks;LNamesThatShrink$Picks;II)V -/
def zt_54 : List zx_En := [
  (0, 1, .aload_n 1, 0, 0, 0, 0, 0),
  (1, 1, .aload_n 2, 0, 0, 0, 0, 0),
  (2, 1, .aload_n 0, 0, 0, 0, 0, 0),
  (3, 3, .getfield 27, 0, 0, 458, 5, 5),
  (6, 1, .iload_n 3, 0, 0, 0, 0, 0),
  (7, 1, .iconst 1, 1, 0, 0, 0, 0),
  (8, 1, .isub, 0, 0, 0, 0, 0),
  (9, 1, .iaload, 0, 0, 0, 0, 0),
  (10, 1, .iload_n 3, 0, 0, 0, 0, 0),
  (11, 3, .getstatic 116, 0, 0, 1097, 1, 0),
  (14, 1, .aload_n 0, 0, 0, 0, 0, 0),
  (15, 3, .getfield 35, 0, 0, 460, 5, 7),
  (18, 2, .iload 4, 0, 0, 0, 0, 0),
  (20, 1, .isub, 0, 0, 0, 0, 0),
  (21, 1, .iconst 1, 1, 0, 0, 0, 0),
  (22, 1, .isub, 0, 0, 0, 0, 0),
  (23, 1, .iaload, 0, 0, 0, 0, 0),
  (24, 1, .imul, 0, 0, 0, 0, 0),
  (25, 3, .invokevirtual 119, 0, 0, 1099, 0, 77),
  (28, 1, .return_, 0, 0, 0, 0, 0)]
set_option maxRecDepth 100000 in
theorem zk_54 : zt_54.all (zx_chk 54) = true := by decide +kernel
/-- NamesThatShrink$NewNames.pick(II)V -/
def zt_55 : List zx_En := [
  (0, 1, .aload_n 0, 0, 0, 0, 0, 0),
  (1, 3, .getfield 24, 0, 0, 457, 5, 4),
  (4, 1, .iload_n 2, 0, 0, 0, 0, 0),
  (5, 1, .aaload, 0, 0, 0, 0, 0),
  (6, 1, .astore_n 3, 0, 0, 0, 0, 0),
  (7, 1, .aload_n 3, 0, 0, 0, 0, 0),
  (8, 1, .aload_n 0, 0, 0, 0, 0, 0),
  (9, 1, .iload_n 2, 0, 0, 0, 0, 0),
  (10, 3, .invokevirtual 106, 0, 0, 1089, 0, 53),
  (13, 3, .invokevirtual 100, 0, 0, 1080, 0, 75),
  (16, 1, .aload_n 0, 0, 0, 0, 0, 0),
  (17, 1, .iload_n 1, 0, 0, 0, 0, 0),
  (18, 3, .invokevirtual 123, 0, 0, 1108, 0, 57),
  (21, 3, .ifCond .eq 4, 0, 0, 0, 25, 0),
  (24, 1, .return_, 0, 0, 0, 0, 0),
  (25, 1, .iload_n 2, 0, 0, 0, 0, 0),
  (26, 1, .aload_n 0, 0, 0, 0, 0, 0),
  (27, 3, .getfield 35, 0, 0, 460, 5, 7),
  (30, 3, .if_icmp .ge 11, 0, 0, 0, 41, 0),
  (33, 1, .aload_n 0, 0, 0, 0, 0, 0),
  (34, 1, .iload_n 1, 0, 0, 0, 0, 0),
  (35, 3, .invokevirtual 127, 0, 0, 1112, 0, 58),
  (38, 3, .ifCond .ne 16, 0, 0, 0, 54, 0),
  (41, 1, .aload_n 3, 0, 0, 0, 0, 0),
  (42, 1, .aload_n 0, 0, 0, 0, 0, 0),
  (43, 3, .getfield 20, 0, 0, 456, 5, 3),
  (46, 1, .iload_n 2, 0, 0, 0, 0, 0),
  (47, 1, .aaload, 0, 0, 0, 0, 0),
  (48, 1, .iconst 0, 0, 0, 0, 0, 0),
  (49, 1, .iconst 0, 0, 0, 0, 0, 0),
  (50, 3, .invokevirtual 119, 0, 0, 1099, 0, 77),
  (53, 1, .return_, 0, 0, 0, 0, 0),
  (54, 1, .iconst 1, 1, 0, 0, 0, 0),
  (55, 2, .istore 4, 0, 0, 0, 0, 0),
  (57, 2, .iload 4, 0, 0, 0, 0, 0),
  (59, 2, .bipush 6, 6, 0, 0, 0, 0),
  (61, 3, .if_icmp .gt 39, 0, 0, 0, 100, 0),
  (64, 1, .aload_n 0, 0, 0, 0, 0, 0),
  (65, 1, .iload_n 1, 0, 0, 0, 0, 0),
  (66, 2, .bipush 7, 7, 0, 0, 0, 0),
  (68, 1, .imul, 0, 0, 0, 0, 0),
  (69, 2, .iload 4, 0, 0, 0, 0, 0),
  (71, 1, .iadd, 0, 0, 0, 0, 0),
  (72, 1, .iload_n 2, 0, 0, 0, 0, 0),
  (73, 1, .iconst 1, 1, 0, 0, 0, 0),
  (74, 1, .iadd, 0, 0, 0, 0, 0),
  (75, 3, .invokevirtual 113, 0, 0, 1104, 0, 55),
  (78, 1, .aload_n 0, 0, 0, 0, 0, 0),
  (79, 1, .aload_n 3, 0, 0, 0, 0, 0),
  (80, 1, .aload_n 0, 0, 0, 0, 0, 0),
  (81, 3, .getfield 24, 0, 0, 457, 5, 4),
  (84, 1, .iload_n 2, 0, 0, 0, 0, 0),
  (85, 1, .iconst 1, 1, 0, 0, 0, 0),
  (86, 1, .iadd, 0, 0, 0, 0, 0),
  (87, 1, .aaload, 0, 0, 0, 0, 0),
  (88, 2, .iload 4, 0, 0, 0, 0, 0),
  (90, 1, .iload_n 2, 0, 0, 0, 0, 0),
  (91, 3, .invokevirtual 109, 0, 0, 1093, 0, 54),
  (94, 3, .iinc 4 1, 1, 0, 0, 0, 0),
  (97, 3, .goto (-40), 0, 0, 0, 57, 0),
  (100, 1, .return_, 0, 0, 0, 0, 0)]
set_option maxRecDepth 100000 in
theorem zk_55 : zt_55.all (zx_chk 55) = true := by decide +kernel
/-- NamesThatShrink$NewNames.countSafe(II)I -/
def zt_56 : List zx_En := [
  (0, 1, .aload_n 0, 0, 0, 0, 0, 0),
  (1, 1, .iload_n 1, 0, 0, 0, 0, 0),
  (2, 3, .invokevirtual 123, 0, 0, 1108, 0, 57),
  (5, 3, .ifCond .eq 5, 0, 0, 0, 10, 0),
  (8, 1, .iconst 0, 0, 0, 0, 0, 0),
  (9, 1, .ireturn, 0, 0, 0, 0, 0),
  (10, 1, .iload_n 2, 0, 0, 0, 0, 0),
  (11, 1, .aload_n 0, 0, 0, 0, 0, 0),
  (12, 3, .getfield 35, 0, 0, 460, 5, 7),
  (15, 3, .if_icmp .ge 11, 0, 0, 0, 26, 0),
  (18, 1, .aload_n 0, 0, 0, 0, 0, 0),
  (19, 1, .iload_n 1, 0, 0, 0, 0, 0),
  (20, 3, .invokevirtual 127, 0, 0, 1112, 0, 58),
  (23, 3, .ifCond .ne 14, 0, 0, 0, 37, 0),
  (26, 3, .getstatic 130, 0, 0, 1140, 2, 0),
  (29, 1, .aload_n 0, 0, 0, 0, 0, 0),
  (30, 3, .getfield 35, 0, 0, 460, 5, 7),
  (33, 1, .iload_n 2, 0, 0, 0, 0, 0),
  (34, 1, .isub, 0, 0, 0, 0, 0),
  (35, 1, .iaload, 0, 0, 0, 0, 0),
  (36, 1, .ireturn, 0, 0, 0, 0, 0),
  (37, 1, .iconst 0, 0, 0, 0, 0, 0),
  (38, 1, .istore_n 3, 0, 0, 0, 0, 0),
  (39, 1, .iconst 1, 1, 0, 0, 0, 0),
  (40, 2, .istore 4, 0, 0, 0, 0, 0),
  (42, 2, .iload 4, 0, 0, 0, 0, 0),
  (44, 2, .bipush 6, 6, 0, 0, 0, 0),
  (46, 3, .if_icmp .gt 26, 0, 0, 0, 72, 0),
  (49, 1, .iload_n 3, 0, 0, 0, 0, 0),
  (50, 1, .aload_n 0, 0, 0, 0, 0, 0),
  (51, 1, .iload_n 1, 0, 0, 0, 0, 0),
  (52, 2, .bipush 7, 7, 0, 0, 0, 0),
  (54, 1, .imul, 0, 0, 0, 0, 0),
  (55, 2, .iload 4, 0, 0, 0, 0, 0),
  (57, 1, .iadd, 0, 0, 0, 0, 0),
  (58, 1, .iload_n 2, 0, 0, 0, 0, 0),
  (59, 1, .iconst 1, 1, 0, 0, 0, 0),
  (60, 1, .iadd, 0, 0, 0, 0, 0),
  (61, 3, .invokevirtual 82, 0, 0, 1136, 0, 56),
  (64, 1, .iadd, 0, 0, 0, 0, 0),
  (65, 1, .istore_n 3, 0, 0, 0, 0, 0),
  (66, 3, .iinc 4 1, 1, 0, 0, 0, 0),
  (69, 3, .goto (-27), 0, 0, 0, 42, 0),
  (72, 1, .iload_n 3, 0, 0, 0, 0, 0),
  (73, 1, .ireturn, 0, 0, 0, 0, 0)]
set_option maxRecDepth 100000 in
theorem zk_56 : zt_56.all (zx_chk 56) = true := by decide +kernel
/-- NamesThatShrink$NewNames.isBarred(I)Z -/
def zt_57 : List zx_En := [
  (0, 1, .iconst 0, 0, 0, 0, 0, 0),
  (1, 1, .istore_n 2, 0, 0, 0, 0, 0),
  (2, 1, .iload_n 2, 0, 0, 0, 0, 0),
  (3, 1, .aload_n 0, 0, 0, 0, 0, 0),
  (4, 3, .getfield 48, 0, 0, 459, 5, 6),
  (7, 3, .if_icmp .ge 21, 0, 0, 0, 28, 0),
  (10, 1, .aload_n 0, 0, 0, 0, 0, 0),
  (11, 3, .getfield 9, 0, 0, 454, 5, 1),
  (14, 1, .iload_n 2, 0, 0, 0, 0, 0),
  (15, 1, .iaload, 0, 0, 0, 0, 0),
  (16, 1, .iload_n 1, 0, 0, 0, 0, 0),
  (17, 3, .if_icmp .ne 5, 0, 0, 0, 22, 0),
  (20, 1, .iconst 1, 1, 0, 0, 0, 0),
  (21, 1, .ireturn, 0, 0, 0, 0, 0),
  (22, 3, .iinc 2 1, 1, 0, 0, 0, 0),
  (25, 3, .goto (-23), 0, 0, 0, 2, 0),
  (28, 1, .iconst 0, 0, 0, 0, 0, 0),
  (29, 1, .ireturn, 0, 0, 0, 0, 0)]
set_option maxRecDepth 100000 in
theorem zk_57 : zt_57.all (zx_chk 57) = true := by decide +kernel
/-- NamesThatShrink$NewNames.leadsToBarred(I)Z -/
def zt_58 : List zx_En := [
  (0, 1, .iconst 0, 0, 0, 0, 0, 0),
  (1, 1, .istore_n 2, 0, 0, 0, 0, 0),
  (2, 1, .iload_n 2, 0, 0, 0, 0, 0),
  (3, 1, .aload_n 0, 0, 0, 0, 0, 0),
  (4, 3, .getfield 48, 0, 0, 459, 5, 6),
  (7, 3, .if_icmp .ge 24, 0, 0, 0, 31, 0),
  (10, 1, .aload_n 0, 0, 0, 0, 0, 0),
  (11, 3, .getfield 9, 0, 0, 454, 5, 1),
  (14, 1, .iload_n 2, 0, 0, 0, 0, 0),
  (15, 1, .iaload, 0, 0, 0, 0, 0),
  (16, 1, .iload_n 1, 0, 0, 0, 0, 0),
  (17, 3, .invokestatic 133, 0, 0, 1116, 4, 162),
  (20, 3, .ifCond .eq 5, 0, 0, 0, 25, 0),
  (23, 1, .iconst 1, 1, 0, 0, 0, 0),
  (24, 1, .ireturn, 0, 0, 0, 0, 0),
  (25, 3, .iinc 2 1, 1, 0, 0, 0, 0),
  (28, 3, .goto (-26), 0, 0, 0, 2, 0),
  (31, 1, .iconst 0, 0, 0, 0, 0, 0),
  (32, 1, .ireturn, 0, 0, 0, 0, 0)]
set_option maxRecDepth 100000 in
theorem zk_58 : zt_58.all (zx_chk 58) = true := by decide +kernel
/-- NamesThatShrink$Order.<init>(LNamesThatShrink$Text;LNamesThatShrink$Crowd;)V -/
def zt_59 : List zx_En := [
  (0, 1, .aload_n 0, 0, 0, 0, 0, 0),
  (1, 3, .invokespecial 3, 0, 0, 263, 5, 0),
  (4, 1, .aload_n 0, 0, 0, 0, 0, 0),
  (5, 2, .bipush 60, 60, 0, 0, 0, 0),
  (7, 2, .newarray .int, 0, 0, 158, 20, 0),
  (9, 3, .putfield 11, 0, 0, 266, 6, 2),
  (12, 1, .aload_n 0, 0, 0, 0, 0, 0),
  (13, 2, .bipush 60, 60, 0, 0, 0, 0),
  (15, 2, .newarray .int, 0, 0, 158, 20, 0),
  (17, 3, .putfield 15, 0, 0, 267, 6, 3),
  (20, 1, .aload_n 0, 0, 0, 0, 0, 0),
  (21, 2, .bipush 60, 60, 0, 0, 0, 0),
  (23, 2, .newarray .int, 0, 0, 158, 20, 0),
  (25, 3, .putfield 18, 0, 0, 268, 6, 4),
  (28, 1, .aload_n 0, 0, 0, 0, 0, 0),
  (29, 2, .bipush 10, 10, 0, 0, 0, 0),
  (31, 2, .newarray .int, 0, 0, 158, 20, 0),
  (33, 3, .putfield 21, 0, 0, 269, 6, 5),
  (36, 1, .aload_n 0, 0, 0, 0, 0, 0),
  (37, 1, .aload_n 1, 0, 0, 0, 0, 0),
  (38, 3, .putfield 24, 0, 0, 264, 6, 0),
  (41, 1, .aload_n 0, 0, 0, 0, 0, 0),
  (42, 1, .aload_n 2, 0, 0, 0, 0, 0),
  (43, 3, .putfield 28, 0, 0, 265, 6, 1),
  (46, 1, .return_, 0, 0, 0, 0, 0)]
set_option maxRecDepth 100000 in
theorem zk_59 : zt_59.all (zx_chk 59) = true := by decide +kernel
/-- NamesThatShrink$Order.read()I -/
def zt_60 : List zx_En := [
  (0, 1, .aload_n 0, 0, 0, 0, 0, 0),
  (1, 3, .getfield 24, 0, 0, 264, 6, 0),
  (4, 2, .bipush 60, 60, 0, 0, 0, 0),
  (6, 3, .invokevirtual 32, 0, 0, 703, 0, 111),
  (9, 1, .aload_n 0, 0, 0, 0, 0, 0),
  (10, 1, .iconst 0, 0, 0, 0, 0, 0),
  (11, 3, .putfield 38, 0, 0, 270, 6, 6),
  (14, 1, .aload_n 0, 0, 0, 0, 0, 0),
  (15, 3, .getfield 24, 0, 0, 264, 6, 0),
  (18, 3, .invokevirtual 42, 0, 0, 704, 0, 112),
  (21, 1, .iconst (-1), (-1), 0, 0, 0, 0),
  (22, 3, .if_icmp .ne 5, 0, 0, 0, 27, 0),
  (25, 1, .iconst 0, 0, 0, 0, 0, 0),
  (26, 1, .ireturn, 0, 0, 0, 0, 0),
  (27, 1, .aload_n 0, 0, 0, 0, 0, 0),
  (28, 1, .iconst 0, 0, 0, 0, 0, 0),
  (29, 3, .invokevirtual 46, 0, 0, 705, 0, 61),
  (32, 3, .ifCond .eq 18, 0, 0, 0, 50, 0),
  (35, 1, .aload_n 0, 0, 0, 0, 0, 0),
  (36, 3, .getfield 24, 0, 0, 264, 6, 0),
  (39, 3, .invokevirtual 42, 0, 0, 704, 0, 112),
  (42, 1, .iconst (-1), (-1), 0, 0, 0, 0),
  (43, 3, .if_icmp .ne 7, 0, 0, 0, 50, 0),
  (46, 1, .iconst 1, 1, 0, 0, 0, 0),
  (47, 3, .goto 4, 0, 0, 0, 51, 0),
  (50, 1, .iconst 0, 0, 0, 0, 0, 0),
  (51, 1, .istore_n 1, 0, 0, 0, 0, 0),
  (52, 1, .iload_n 1, 0, 0, 0, 0, 0),
  (53, 3, .ifCond .eq 7, 0, 0, 0, 60, 0),
  (56, 1, .iconst 0, 0, 0, 0, 0, 0),
  (57, 3, .goto 10, 0, 0, 0, 67, 0),
  (60, 1, .aload_n 0, 0, 0, 0, 0, 0),
  (61, 3, .getfield 24, 0, 0, 264, 6, 0),
  (64, 3, .invokevirtual 50, 0, 0, 724, 0, 113),
  (67, 1, .ireturn, 0, 0, 0, 0, 0)]
set_option maxRecDepth 100000 in
theorem zk_60 : zt_60.all (zx_chk 60) = true := by decide +kernel
/-- NamesThatShrink$Order.readSteps(I)Z -/
def zt_61 : List zx_En := [
  (0, 1, .iconst 0, 0, 0, 0, 0, 0),
  (1, 1, .istore_n 2, 0, 0, 0, 0, 0),
  (2, 1, .iload_n 2, 0, 0, 0, 0, 0),
  (3, 2, .bipush 60, 60, 0, 0, 0, 0),
  (5, 3, .if_icmp .ge 33, 0, 0, 0, 38, 0),
  (8, 1, .aload_n 0, 0, 0, 0, 0, 0),
  (9, 1, .iload_n 1, 0, 0, 0, 0, 0),
  (10, 3, .invokevirtual 53, 0, 0, 709, 0, 62),
  (13, 3, .ifCond .ne 5, 0, 0, 0, 18, 0),
  (16, 1, .iconst 0, 0, 0, 0, 0, 0),
  (17, 1, .ireturn, 0, 0, 0, 0, 0),
  (18, 1, .aload_n 0, 0, 0, 0, 0, 0),
  (19, 3, .getfield 24, 0, 0, 264, 6, 0),
  (22, 2, .bipush 59, 59, 0, 0, 0, 0),
  (24, 3, .invokevirtual 56, 0, 0, 718, 0, 114),
  (27, 3, .ifCond .ne 5, 0, 0, 0, 32, 0),
  (30, 1, .iconst 1, 1, 0, 0, 0, 0),
  (31, 1, .ireturn, 0, 0, 0, 0, 0),
  (32, 3, .iinc 2 1, 1, 0, 0, 0, 0),
  (35, 3, .goto (-33), 0, 0, 0, 2, 0),
  (38, 1, .iconst 0, 0, 0, 0, 0, 0),
  (39, 1, .ireturn, 0, 0, 0, 0, 0)]
set_option maxRecDepth 100000 in
theorem zk_61 : zt_61.all (zx_chk 61) = true := by decide +kernel
/-- NamesThatShrink$Order.readStep(I)Z -/
def zt_62 : List zx_En := [
  (0, 1, .aload_n 0, 0, 0, 0, 0, 0),
  (1, 3, .getfield 24, 0, 0, 264, 6, 0),
  (4, 3, .invokevirtual 59, 0, 0, 713, 0, 115),
  (7, 1, .istore_n 2, 0, 0, 0, 0, 0),
  (8, 1, .iload_n 2, 0, 0, 0, 0, 0),
  (9, 3, .ifCond .le 11, 0, 0, 0, 20, 0),
  (12, 1, .aload_n 0, 0, 0, 0, 0, 0),
  (13, 1, .iconst 2, 2, 0, 0, 0, 0),
  (14, 1, .iload_n 2, 0, 0, 0, 0, 0),
  (15, 1, .iload_n 1, 0, 0, 0, 0, 0),
  (16, 3, .invokevirtual 62, 0, 0, 714, 0, 63),
  (19, 1, .ireturn, 0, 0, 0, 0, 0),
  (20, 1, .aload_n 0, 0, 0, 0, 0, 0),
  (21, 3, .getfield 24, 0, 0, 264, 6, 0),
  (24, 2, .bipush 126, 126, 0, 0, 0, 0),
  (26, 3, .invokevirtual 56, 0, 0, 718, 0, 114),
  (29, 3, .ifCond .eq 42, 0, 0, 0, 71, 0),
  (32, 1, .aload_n 0, 0, 0, 0, 0, 0),
  (33, 3, .getfield 24, 0, 0, 264, 6, 0),
  (36, 3, .invokevirtual 66, 0, 0, 723, 0, 116),
  (39, 1, .aload_n 0, 0, 0, 0, 0, 0),
  (40, 3, .getfield 24, 0, 0, 264, 6, 0),
  (43, 3, .getfield 69, 0, 0, 143, 10, 5),
  (46, 3, .ifCond .le 23, 0, 0, 0, 69, 0),
  (49, 1, .aload_n 0, 0, 0, 0, 0, 0),
  (50, 1, .iconst 3, 3, 0, 0, 0, 0),
  (51, 1, .aload_n 0, 0, 0, 0, 0, 0),
  (52, 3, .getfield 24, 0, 0, 264, 6, 0),
  (55, 3, .getfield 72, 0, 0, 140, 10, 4),
  (58, 1, .iload_n 1, 0, 0, 0, 0, 0),
  (59, 3, .invokevirtual 62, 0, 0, 714, 0, 63),
  (62, 3, .ifCond .eq 7, 0, 0, 0, 69, 0),
  (65, 1, .iconst 1, 1, 0, 0, 0, 0),
  (66, 3, .goto 4, 0, 0, 0, 70, 0),
  (69, 1, .iconst 0, 0, 0, 0, 0, 0),
  (70, 1, .ireturn, 0, 0, 0, 0, 0),
  (71, 1, .aload_n 0, 0, 0, 0, 0, 0),
  (72, 3, .getfield 24, 0, 0, 264, 6, 0),
  (75, 3, .invokevirtual 66, 0, 0, 723, 0, 116),
  (78, 1, .aload_n 0, 0, 0, 0, 0, 0),
  (79, 3, .getfield 24, 0, 0, 264, 6, 0),
  (82, 2, .bipush 42, 42, 0, 0, 0, 0),
  (84, 3, .invokevirtual 56, 0, 0, 718, 0, 114),
  (87, 3, .ifCond .eq 16, 0, 0, 0, 103, 0),
  (90, 1, .aload_n 0, 0, 0, 0, 0, 0),
  (91, 1, .iconst 1, 1, 0, 0, 0, 0),
  (92, 1, .aload_n 0, 0, 0, 0, 0, 0),
  (93, 3, .getfield 24, 0, 0, 264, 6, 0),
  (96, 3, .getfield 72, 0, 0, 140, 10, 4),
  (99, 3, .invokevirtual 75, 0, 0, 719, 0, 64),
  (102, 1, .ireturn, 0, 0, 0, 0, 0),
  (103, 1, .aload_n 0, 0, 0, 0, 0, 0),
  (104, 3, .getfield 24, 0, 0, 264, 6, 0),
  (107, 3, .getfield 69, 0, 0, 143, 10, 5),
  (110, 3, .ifCond .le 22, 0, 0, 0, 132, 0),
  (113, 1, .aload_n 0, 0, 0, 0, 0, 0),
  (114, 1, .iconst 0, 0, 0, 0, 0, 0),
  (115, 1, .aload_n 0, 0, 0, 0, 0, 0),
  (116, 3, .getfield 24, 0, 0, 264, 6, 0),
  (119, 3, .getfield 72, 0, 0, 140, 10, 4),
  (122, 3, .invokevirtual 75, 0, 0, 719, 0, 64),
  (125, 3, .ifCond .eq 7, 0, 0, 0, 132, 0),
  (128, 1, .iconst 1, 1, 0, 0, 0, 0),
  (129, 3, .goto 4, 0, 0, 0, 133, 0),
  (132, 1, .iconst 0, 0, 0, 0, 0, 0),
  (133, 1, .ireturn, 0, 0, 0, 0, 0)]
set_option maxRecDepth 100000 in
theorem zk_62 : zt_62.all (zx_chk 62) = true := by decide +kernel
/-- NamesThatShrink$Order.readBlock(III)Z -/
def zt_63 : List zx_En := [
  (0, 1, .iload_n 3, 0, 0, 0, 0, 0),
  (1, 1, .iconst 4, 4, 0, 0, 0, 0),
  (2, 3, .if_icmp .ge 15, 0, 0, 0, 17, 0),
  (5, 1, .aload_n 0, 0, 0, 0, 0, 0),
  (6, 3, .getfield 24, 0, 0, 264, 6, 0),
  (9, 2, .bipush 40, 40, 0, 0, 0, 0),
  (11, 3, .invokevirtual 56, 0, 0, 718, 0, 114),
  (14, 3, .ifCond .ne 5, 0, 0, 0, 19, 0),
  (17, 1, .iconst 0, 0, 0, 0, 0, 0),
  (18, 1, .ireturn, 0, 0, 0, 0, 0),
  (19, 1, .aload_n 0, 0, 0, 0, 0, 0),
  (20, 3, .getfield 38, 0, 0, 270, 6, 6),
  (23, 2, .istore 4, 0, 0, 0, 0, 0),
  (25, 1, .aload_n 0, 0, 0, 0, 0, 0),
  (26, 1, .iload_n 1, 0, 0, 0, 0, 0),
  (27, 1, .iload_n 2, 0, 0, 0, 0, 0),
  (28, 3, .invokevirtual 75, 0, 0, 719, 0, 64),
  (31, 3, .ifCond .eq 25, 0, 0, 0, 56, 0),
  (34, 1, .aload_n 0, 0, 0, 0, 0, 0),
  (35, 1, .iload_n 3, 0, 0, 0, 0, 0),
  (36, 1, .iconst 1, 1, 0, 0, 0, 0),
  (37, 1, .iadd, 0, 0, 0, 0, 0),
  (38, 3, .invokevirtual 46, 0, 0, 705, 0, 61),
  (41, 3, .ifCond .eq 15, 0, 0, 0, 56, 0),
  (44, 1, .aload_n 0, 0, 0, 0, 0, 0),
  (45, 3, .getfield 24, 0, 0, 264, 6, 0),
  (48, 2, .bipush 41, 41, 0, 0, 0, 0),
  (50, 3, .invokevirtual 56, 0, 0, 718, 0, 114),
  (53, 3, .ifCond .ne 5, 0, 0, 0, 58, 0),
  (56, 1, .iconst 0, 0, 0, 0, 0, 0),
  (57, 1, .ireturn, 0, 0, 0, 0, 0),
  (58, 2, .iload 4, 0, 0, 0, 0, 0),
  (60, 3, .ifCond .lt 10, 0, 0, 0, 70, 0),
  (63, 2, .iload 4, 0, 0, 0, 0, 0),
  (65, 2, .bipush 60, 60, 0, 0, 0, 0),
  (67, 3, .if_icmp .lt 5, 0, 0, 0, 72, 0),
  (70, 1, .iconst 0, 0, 0, 0, 0, 0),
  (71, 1, .ireturn, 0, 0, 0, 0, 0),
  (72, 1, .aload_n 0, 0, 0, 0, 0, 0),
  (73, 3, .getfield 18, 0, 0, 268, 6, 4),
  (76, 2, .iload 4, 0, 0, 0, 0, 0),
  (78, 1, .aload_n 0, 0, 0, 0, 0, 0),
  (79, 3, .getfield 38, 0, 0, 270, 6, 6),
  (82, 1, .iastore, 0, 0, 0, 0, 0),
  (83, 1, .iconst 1, 1, 0, 0, 0, 0),
  (84, 1, .ireturn, 0, 0, 0, 0, 0)]
set_option maxRecDepth 100000 in
theorem zk_63 : zt_63.all (zx_chk 63) = true := by decide +kernel
/-- NamesThatShrink$Order.put(II)Z -/
def zt_64 : List zx_En := [
  (0, 1, .aload_n 0, 0, 0, 0, 0, 0),
  (1, 3, .getfield 38, 0, 0, 270, 6, 6),
  (4, 3, .ifCond .lt 12, 0, 0, 0, 16, 0),
  (7, 1, .aload_n 0, 0, 0, 0, 0, 0),
  (8, 3, .getfield 38, 0, 0, 270, 6, 6),
  (11, 2, .bipush 60, 60, 0, 0, 0, 0),
  (13, 3, .if_icmp .lt 5, 0, 0, 0, 18, 0),
  (16, 1, .iconst 0, 0, 0, 0, 0, 0),
  (17, 1, .ireturn, 0, 0, 0, 0, 0),
  (18, 1, .aload_n 0, 0, 0, 0, 0, 0),
  (19, 3, .getfield 11, 0, 0, 266, 6, 2),
  (22, 1, .aload_n 0, 0, 0, 0, 0, 0),
  (23, 3, .getfield 38, 0, 0, 270, 6, 6),
  (26, 1, .iload_n 1, 0, 0, 0, 0, 0),
  (27, 1, .iastore, 0, 0, 0, 0, 0),
  (28, 1, .aload_n 0, 0, 0, 0, 0, 0),
  (29, 3, .getfield 15, 0, 0, 267, 6, 3),
  (32, 1, .aload_n 0, 0, 0, 0, 0, 0),
  (33, 3, .getfield 38, 0, 0, 270, 6, 6),
  (36, 1, .iload_n 2, 0, 0, 0, 0, 0),
  (37, 1, .iastore, 0, 0, 0, 0, 0),
  (38, 1, .aload_n 0, 0, 0, 0, 0, 0),
  (39, 1, .dup, 0, 0, 0, 0, 0),
  (40, 3, .getfield 38, 0, 0, 270, 6, 6),
  (43, 1, .iconst 1, 1, 0, 0, 0, 0),
  (44, 1, .iadd, 0, 0, 0, 0, 0),
  (45, 3, .putfield 38, 0, 0, 270, 6, 6),
  (48, 1, .aload_n 0, 0, 0, 0, 0, 0),
  (49, 3, .getfield 18, 0, 0, 268, 6, 4),
  (52, 1, .aload_n 0, 0, 0, 0, 0, 0),
  (53, 3, .getfield 38, 0, 0, 270, 6, 6),
  (56, 1, .iconst 1, 1, 0, 0, 0, 0),
  (57, 1, .isub, 0, 0, 0, 0, 0),
  (58, 1, .aload_n 0, 0, 0, 0, 0, 0),
  (59, 3, .getfield 38, 0, 0, 270, 6, 6),
  (62, 1, .iastore, 0, 0, 0, 0, 0),
  (63, 1, .iconst 1, 1, 0, 0, 0, 0),
  (64, 1, .ireturn, 0, 0, 0, 0, 0)]
set_option maxRecDepth 100000 in
theorem zk_64 : zt_64.all (zx_chk 64) = true := by decide +kernel
/-- NamesThatShrink$Order.carryOut()V -/
def zt_65 : List zx_En := [
  (0, 1, .aload_n 0, 0, 0, 0, 0, 0),
  (1, 1, .iconst 0, 0, 0, 0, 0, 0),
  (2, 3, .putfield 79, 0, 0, 271, 6, 7),
  (5, 1, .aload_n 0, 0, 0, 0, 0, 0),
  (6, 1, .iconst 0, 0, 0, 0, 0, 0),
  (7, 3, .putfield 82, 0, 0, 273, 6, 8),
  (10, 1, .aload_n 0, 0, 0, 0, 0, 0),
  (11, 1, .iconst 0, 0, 0, 0, 0, 0),
  (12, 3, .putfield 85, 0, 0, 275, 6, 9),
  (15, 1, .aload_n 0, 0, 0, 0, 0, 0),
  (16, 1, .iconst 0, 0, 0, 0, 0, 0),
  (17, 3, .putfield 88, 0, 0, 277, 6, 10),
  (20, 1, .aload_n 0, 0, 0, 0, 0, 0),
  (21, 1, .iconst 0, 0, 0, 0, 0, 0),
  (22, 3, .putfield 91, 0, 0, 278, 6, 11),
  (25, 1, .aload_n 0, 0, 0, 0, 0, 0),
  (26, 1, .iconst 0, 0, 0, 0, 0, 0),
  (27, 1, .aload_n 0, 0, 0, 0, 0, 0),
  (28, 3, .getfield 38, 0, 0, 270, 6, 6),
  (31, 1, .iconst 0, 0, 0, 0, 0, 0),
  (32, 3, .invokevirtual 95, 0, 0, 729, 0, 66),
  (35, 1, .return_, 0, 0, 0, 0, 0)]
set_option maxRecDepth 100000 in
theorem zk_65 : zt_65.all (zx_chk 65) = true := by decide +kernel
/-- NamesThatShrink$Order.doSteps(III)V -/
def zt_66 : List zx_En := [
  (0, 1, .iload_n 2, 0, 0, 0, 0, 0),
  (1, 2, .bipush 60, 60, 0, 0, 0, 0),
  (3, 3, .invokestatic 99, 0, 0, 733, 8, 0),
  (6, 2, .istore 4, 0, 0, 0, 0, 0),
  (8, 1, .iload_n 1, 0, 0, 0, 0, 0),
  (9, 2, .istore 5, 0, 0, 0, 0, 0),
  (11, 1, .iconst 0, 0, 0, 0, 0, 0),
  (12, 2, .istore 6, 0, 0, 0, 0, 0),
  (14, 2, .iload 6, 0, 0, 0, 0, 0),
  (16, 2, .bipush 60, 60, 0, 0, 0, 0),
  (18, 3, .if_icmp .ge 44, 0, 0, 0, 62, 0),
  (21, 2, .iload 5, 0, 0, 0, 0, 0),
  (23, 3, .ifCond .lt 39, 0, 0, 0, 62, 0),
  (26, 2, .iload 5, 0, 0, 0, 0, 0),
  (28, 2, .iload 4, 0, 0, 0, 0, 0),
  (30, 3, .if_icmp .ge 32, 0, 0, 0, 62, 0),
  (33, 1, .aload_n 0, 0, 0, 0, 0, 0),
  (34, 3, .getfield 91, 0, 0, 278, 6, 11),
  (37, 3, .ifCond .ne 25, 0, 0, 0, 62, 0),
  (40, 1, .aload_n 0, 0, 0, 0, 0, 0),
  (41, 2, .iload 5, 0, 0, 0, 0, 0),
  (43, 1, .iload_n 3, 0, 0, 0, 0, 0),
  (44, 3, .invokevirtual 105, 0, 0, 734, 0, 67),
  (47, 1, .aload_n 0, 0, 0, 0, 0, 0),
  (48, 3, .getfield 18, 0, 0, 268, 6, 4),
  (51, 2, .iload 5, 0, 0, 0, 0, 0),
  (53, 1, .iaload, 0, 0, 0, 0, 0),
  (54, 2, .istore 5, 0, 0, 0, 0, 0),
  (56, 3, .iinc 6 1, 1, 0, 0, 0, 0),
  (59, 3, .goto (-45), 0, 0, 0, 14, 0),
  (62, 1, .return_, 0, 0, 0, 0, 0)]
set_option maxRecDepth 100000 in
theorem zk_66 : zt_66.all (zx_chk 66) = true := by decide +kernel
/-- NamesThatShrink$Order.doStep(II)V -/
def zt_67 : List zx_En := [
  (0, 1, .aload_n 0, 0, 0, 0, 0, 0),
  (1, 3, .getfield 11, 0, 0, 266, 6, 2),
  (4, 1, .iload_n 1, 0, 0, 0, 0, 0),
  (5, 1, .iaload, 0, 0, 0, 0, 0),
  (6, 26, .tableswitch 61 0 2 #[26, 39, 52], 0, 0, 0, 0, 0),
  (32, 1, .aload_n 0, 0, 0, 0, 0, 0),
  (33, 1, .aload_n 0, 0, 0, 0, 0, 0),
  (34, 3, .getfield 15, 0, 0, 267, 6, 3),
  (37, 1, .iload_n 1, 0, 0, 0, 0, 0),
  (38, 1, .iaload, 0, 0, 0, 0, 0),
  (39, 3, .invokevirtual 109, 0, 0, 738, 0, 68),
  (42, 3, .goto 31, 0, 0, 0, 73, 0),
  (45, 1, .aload_n 0, 0, 0, 0, 0, 0),
  (46, 1, .aload_n 0, 0, 0, 0, 0, 0),
  (47, 3, .getfield 15, 0, 0, 267, 6, 3),
  (50, 1, .iload_n 1, 0, 0, 0, 0, 0),
  (51, 1, .iaload, 0, 0, 0, 0, 0),
  (52, 3, .invokevirtual 112, 0, 0, 744, 0, 69),
  (55, 3, .goto 18, 0, 0, 0, 73, 0),
  (58, 1, .aload_n 0, 0, 0, 0, 0, 0),
  (59, 1, .iload_n 1, 0, 0, 0, 0, 0),
  (60, 1, .iload_n 2, 0, 0, 0, 0, 0),
  (61, 3, .invokevirtual 115, 0, 0, 757, 0, 72),
  (64, 3, .goto 9, 0, 0, 0, 73, 0),
  (67, 1, .aload_n 0, 0, 0, 0, 0, 0),
  (68, 1, .iload_n 1, 0, 0, 0, 0, 0),
  (69, 1, .iload_n 2, 0, 0, 0, 0, 0),
  (70, 3, .invokevirtual 118, 0, 0, 761, 0, 73),
  (73, 1, .return_, 0, 0, 0, 0, 0)]
set_option maxRecDepth 100000 in
theorem zk_67 : zt_67.all (zx_chk 67) = true := by decide +kernel
/-- NamesThatShrink$Order.callOne(I)V -/
def zt_68 : List zx_En := [
  (0, 1, .aload_n 0, 0, 0, 0, 0, 0),
  (1, 3, .getfield 79, 0, 0, 271, 6, 7),
  (4, 3, .sipush 300, 300, 0, 0, 0, 0),
  (7, 3, .if_icmp .lt 9, 0, 0, 0, 16, 0),
  (10, 1, .aload_n 0, 0, 0, 0, 0, 0),
  (11, 1, .iconst 1, 1, 0, 0, 0, 0),
  (12, 3, .putfield 91, 0, 0, 278, 6, 11),
  (15, 1, .return_, 0, 0, 0, 0, 0),
  (16, 1, .aload_n 0, 0, 0, 0, 0, 0),
  (17, 1, .dup, 0, 0, 0, 0, 0),
  (18, 3, .getfield 79, 0, 0, 271, 6, 7),
  (21, 1, .iconst 1, 1, 0, 0, 0, 0),
  (22, 1, .iadd, 0, 0, 0, 0, 0),
  (23, 3, .putfield 79, 0, 0, 271, 6, 7),
  (26, 1, .aload_n 0, 0, 0, 0, 0, 0),
  (27, 3, .getfield 28, 0, 0, 265, 6, 1),
  (30, 1, .iload_n 1, 0, 0, 0, 0, 0),
  (31, 3, .invokevirtual 121, 0, 0, 742, 0, 9),
  (34, 1, .istore_n 2, 0, 0, 0, 0, 0),
  (35, 1, .iload_n 2, 0, 0, 0, 0, 0),
  (36, 3, .ifCond .le 26, 0, 0, 0, 62, 0),
  (39, 1, .aload_n 0, 0, 0, 0, 0, 0),
  (40, 1, .dup, 0, 0, 0, 0, 0),
  (41, 3, .getfield 82, 0, 0, 273, 6, 8),
  (44, 1, .iconst 1, 1, 0, 0, 0, 0),
  (45, 1, .iadd, 0, 0, 0, 0, 0),
  (46, 3, .putfield 82, 0, 0, 273, 6, 8),
  (49, 1, .aload_n 0, 0, 0, 0, 0, 0),
  (50, 1, .dup, 0, 0, 0, 0, 0),
  (51, 3, .getfield 85, 0, 0, 275, 6, 9),
  (54, 1, .iload_n 2, 0, 0, 0, 0, 0),
  (55, 3, .invokestatic 127, 0, 0, 743, 2, 266),
  (58, 1, .iadd, 0, 0, 0, 0, 0),
  (59, 3, .putfield 85, 0, 0, 275, 6, 9),
  (62, 1, .return_, 0, 0, 0, 0, 0)]
set_option maxRecDepth 100000 in
theorem zk_68 : zt_68.all (zx_chk 68) = true := by decide +kernel
/-- NamesThatShrink$Order.callAll(I)V -/
def zt_69 : List zx_En := [
  (0, 1, .aload_n 0, 0, 0, 0, 0, 0),
  (1, 1, .iload_n 1, 0, 0, 0, 0, 0),
  (2, 3, .invokevirtual 132, 0, 0, 748, 0, 70),
  (5, 1, .istore_n 2, 0, 0, 0, 0, 0),
  (6, 1, .iconst 0, 0, 0, 0, 0, 0),
  (7, 1, .istore_n 3, 0, 0, 0, 0, 0),
  (8, 1, .iload_n 3, 0, 0, 0, 0, 0),
  (9, 1, .iload_n 2, 0, 0, 0, 0, 0),
  (10, 3, .if_icmp .ge 32, 0, 0, 0, 42, 0),
  (13, 1, .iload_n 3, 0, 0, 0, 0, 0),
  (14, 2, .bipush 10, 10, 0, 0, 0, 0),
  (16, 3, .if_icmp .ge 26, 0, 0, 0, 42, 0),
  (19, 1, .aload_n 0, 0, 0, 0, 0, 0),
  (20, 3, .getfield 91, 0, 0, 278, 6, 11),
  (23, 3, .ifCond .ne 19, 0, 0, 0, 42, 0),
  (26, 1, .aload_n 0, 0, 0, 0, 0, 0),
  (27, 1, .aload_n 0, 0, 0, 0, 0, 0),
  (28, 3, .getfield 21, 0, 0, 269, 6, 5),
  (31, 1, .iload_n 3, 0, 0, 0, 0, 0),
  (32, 1, .iaload, 0, 0, 0, 0, 0),
  (33, 3, .invokevirtual 109, 0, 0, 738, 0, 68),
  (36, 3, .iinc 3 1, 1, 0, 0, 0, 0),
  (39, 3, .goto (-31), 0, 0, 0, 8, 0),
  (42, 1, .return_, 0, 0, 0, 0, 0)]
set_option maxRecDepth 100000 in
theorem zk_69 : zt_69.all (zx_chk 69) = true := by decide +kernel
/-- NamesThatShrink$Order.list(I)I -/
def zt_70 : List zx_En := [
  (0, 1, .iconst 0, 0, 0, 0, 0, 0),
  (1, 1, .istore_n 2, 0, 0, 0, 0, 0),
  (2, 1, .iconst 0, 0, 0, 0, 0, 0),
  (3, 1, .istore_n 3, 0, 0, 0, 0, 0),
  (4, 1, .iload_n 3, 0, 0, 0, 0, 0),
  (5, 2, .bipush 10, 10, 0, 0, 0, 0),
  (7, 3, .if_icmp .ge 42, 0, 0, 0, 49, 0),
  (10, 1, .aload_n 0, 0, 0, 0, 0, 0),
  (11, 3, .getfield 28, 0, 0, 265, 6, 1),
  (14, 3, .getfield 135, 0, 0, 186, 0, 0),
  (17, 1, .iload_n 3, 0, 0, 0, 0, 0),
  (18, 1, .iaload, 0, 0, 0, 0, 0),
  (19, 2, .istore 4, 0, 0, 0, 0, 0),
  (21, 2, .iload 4, 0, 0, 0, 0, 0),
  (23, 3, .ifCond .eq 20, 0, 0, 0, 43, 0),
  (26, 2, .iload 4, 0, 0, 0, 0, 0),
  (28, 1, .iload_n 1, 0, 0, 0, 0, 0),
  (29, 3, .invokestatic 138, 0, 0, 752, 4, 162),
  (32, 3, .ifCond .eq 11, 0, 0, 0, 43, 0),
  (35, 1, .aload_n 0, 0, 0, 0, 0, 0),
  (36, 2, .iload 4, 0, 0, 0, 0, 0),
  (38, 1, .iload_n 2, 0, 0, 0, 0, 0),
  (39, 3, .invokevirtual 141, 0, 0, 753, 0, 71),
  (42, 1, .istore_n 2, 0, 0, 0, 0, 0),
  (43, 3, .iinc 3 1, 1, 0, 0, 0, 0),
  (46, 3, .goto (-42), 0, 0, 0, 4, 0),
  (49, 1, .iload_n 2, 0, 0, 0, 0, 0),
  (50, 1, .ireturn, 0, 0, 0, 0, 0)]
set_option maxRecDepth 100000 in
theorem zk_70 : zt_70.all (zx_chk 70) = true := by decide +kernel
/-- NamesThatShrink$Order.insert(II)I -/
def zt_71 : List zx_En := [
  (0, 1, .iconst 0, 0, 0, 0, 0, 0),
  (1, 1, .istore_n 3, 0, 0, 0, 0, 0),
  (2, 1, .iconst 0, 0, 0, 0, 0, 0),
  (3, 2, .istore 4, 0, 0, 0, 0, 0),
  (5, 2, .iload 4, 0, 0, 0, 0, 0),
  (7, 1, .iload_n 2, 0, 0, 0, 0, 0),
  (8, 3, .if_icmp .ge 45, 0, 0, 0, 53, 0),
  (11, 2, .iload 4, 0, 0, 0, 0, 0),
  (13, 2, .bipush 10, 10, 0, 0, 0, 0),
  (15, 3, .if_icmp .ge 38, 0, 0, 0, 53, 0),
  (18, 1, .aload_n 0, 0, 0, 0, 0, 0),
  (19, 3, .getfield 21, 0, 0, 269, 6, 5),
  (22, 2, .iload 4, 0, 0, 0, 0, 0),
  (24, 1, .iaload, 0, 0, 0, 0, 0),
  (25, 1, .iload_n 1, 0, 0, 0, 0, 0),
  (26, 3, .if_icmp .ne 5, 0, 0, 0, 31, 0),
  (29, 1, .iload_n 2, 0, 0, 0, 0, 0),
  (30, 1, .ireturn, 0, 0, 0, 0, 0),
  (31, 1, .aload_n 0, 0, 0, 0, 0, 0),
  (32, 3, .getfield 21, 0, 0, 269, 6, 5),
  (35, 2, .iload 4, 0, 0, 0, 0, 0),
  (37, 1, .iaload, 0, 0, 0, 0, 0),
  (38, 1, .iload_n 1, 0, 0, 0, 0, 0),
  (39, 3, .if_icmp .ge 8, 0, 0, 0, 47, 0),
  (42, 2, .iload 4, 0, 0, 0, 0, 0),
  (44, 1, .iconst 1, 1, 0, 0, 0, 0),
  (45, 1, .iadd, 0, 0, 0, 0, 0),
  (46, 1, .istore_n 3, 0, 0, 0, 0, 0),
  (47, 3, .iinc 4 1, 1, 0, 0, 0, 0),
  (50, 3, .goto (-45), 0, 0, 0, 5, 0),
  (53, 1, .iload_n 2, 0, 0, 0, 0, 0),
  (54, 2, .bipush 10, 10, 0, 0, 0, 0),
  (56, 3, .if_icmp .ge 9, 0, 0, 0, 65, 0),
  (59, 1, .iload_n 3, 0, 0, 0, 0, 0),
  (60, 2, .bipush 10, 10, 0, 0, 0, 0),
  (62, 3, .if_icmp .lt 5, 0, 0, 0, 67, 0),
  (65, 1, .iload_n 2, 0, 0, 0, 0, 0),
  (66, 1, .ireturn, 0, 0, 0, 0, 0),
  (67, 1, .iload_n 2, 0, 0, 0, 0, 0),
  (68, 2, .istore 4, 0, 0, 0, 0, 0),
  (70, 2, .iload 4, 0, 0, 0, 0, 0),
  (72, 1, .iload_n 3, 0, 0, 0, 0, 0),
  (73, 3, .if_icmp .le 25, 0, 0, 0, 98, 0),
  (76, 1, .aload_n 0, 0, 0, 0, 0, 0),
  (77, 3, .getfield 21, 0, 0, 269, 6, 5),
  (80, 2, .iload 4, 0, 0, 0, 0, 0),
  (82, 1, .aload_n 0, 0, 0, 0, 0, 0),
  (83, 3, .getfield 21, 0, 0, 269, 6, 5),
  (86, 2, .iload 4, 0, 0, 0, 0, 0),
  (88, 1, .iconst 1, 1, 0, 0, 0, 0),
  (89, 1, .isub, 0, 0, 0, 0, 0),
  (90, 1, .iaload, 0, 0, 0, 0, 0),
  (91, 1, .iastore, 0, 0, 0, 0, 0),
  (92, 3, .iinc 4 (-1), (-1), 0, 0, 0, 0),
  (95, 3, .goto (-25), 0, 0, 0, 70, 0),
  (98, 1, .aload_n 0, 0, 0, 0, 0, 0),
  (99, 3, .getfield 21, 0, 0, 269, 6, 5),
  (102, 1, .iload_n 3, 0, 0, 0, 0, 0),
  (103, 1, .iload_n 1, 0, 0, 0, 0, 0),
  (104, 1, .iastore, 0, 0, 0, 0, 0),
  (105, 1, .iload_n 2, 0, 0, 0, 0, 0),
  (106, 1, .iconst 1, 1, 0, 0, 0, 0),
  (107, 1, .iadd, 0, 0, 0, 0, 0),
  (108, 1, .ireturn, 0, 0, 0, 0, 0)]
set_option maxRecDepth 100000 in
theorem zk_71 : zt_71.all (zx_chk 71) = true := by decide +kernel
/-- NamesThatShrink$Order.repeat(II)V -/
def zt_72 : List zx_En := [
  (0, 1, .iload_n 2, 0, 0, 0, 0, 0),
  (1, 1, .iconst 4, 4, 0, 0, 0, 0),
  (2, 3, .if_icmp .lt 4, 0, 0, 0, 6, 0),
  (5, 1, .return_, 0, 0, 0, 0, 0),
  (6, 1, .iconst 0, 0, 0, 0, 0, 0),
  (7, 1, .istore_n 3, 0, 0, 0, 0, 0),
  (8, 1, .iload_n 3, 0, 0, 0, 0, 0),
  (9, 1, .aload_n 0, 0, 0, 0, 0, 0),
  (10, 3, .getfield 15, 0, 0, 267, 6, 3),
  (13, 1, .iload_n 1, 0, 0, 0, 0, 0),
  (14, 1, .iaload, 0, 0, 0, 0, 0),
  (15, 3, .if_icmp .ge 58, 0, 0, 0, 73, 0),
  (18, 1, .aload_n 0, 0, 0, 0, 0, 0),
  (19, 3, .getfield 91, 0, 0, 278, 6, 11),
  (22, 3, .ifCond .ne 51, 0, 0, 0, 73, 0),
  (25, 1, .aload_n 0, 0, 0, 0, 0, 0),
  (26, 3, .getfield 79, 0, 0, 271, 6, 7),
  (29, 1, .aload_n 0, 0, 0, 0, 0, 0),
  (30, 3, .getfield 88, 0, 0, 277, 6, 10),
  (33, 1, .iadd, 0, 0, 0, 0, 0),
  (34, 2, .istore 4, 0, 0, 0, 0, 0),
  (36, 1, .aload_n 0, 0, 0, 0, 0, 0),
  (37, 1, .iload_n 1, 0, 0, 0, 0, 0),
  (38, 1, .iconst 1, 1, 0, 0, 0, 0),
  (39, 1, .iadd, 0, 0, 0, 0, 0),
  (40, 1, .aload_n 0, 0, 0, 0, 0, 0),
  (41, 3, .getfield 18, 0, 0, 268, 6, 4),
  (44, 1, .iload_n 1, 0, 0, 0, 0, 0),
  (45, 1, .iaload, 0, 0, 0, 0, 0),
  (46, 1, .iload_n 2, 0, 0, 0, 0, 0),
  (47, 1, .iconst 1, 1, 0, 0, 0, 0),
  (48, 1, .iadd, 0, 0, 0, 0, 0),
  (49, 3, .invokevirtual 95, 0, 0, 729, 0, 66),
  (52, 1, .aload_n 0, 0, 0, 0, 0, 0),
  (53, 3, .getfield 79, 0, 0, 271, 6, 7),
  (56, 1, .aload_n 0, 0, 0, 0, 0, 0),
  (57, 3, .getfield 88, 0, 0, 277, 6, 10),
  (60, 1, .iadd, 0, 0, 0, 0, 0),
  (61, 2, .iload 4, 0, 0, 0, 0, 0),
  (63, 3, .if_icmp .ne 4, 0, 0, 0, 67, 0),
  (66, 1, .return_, 0, 0, 0, 0, 0),
  (67, 3, .iinc 3 1, 1, 0, 0, 0, 0),
  (70, 3, .goto (-62), 0, 0, 0, 8, 0),
  (73, 1, .return_, 0, 0, 0, 0, 0)]
set_option maxRecDepth 100000 in
theorem zk_72 : zt_72.all (zx_chk 72) = true := by decide +kernel
/-- NamesThatShrink$Order.until(II)V -/
def zt_73 : List zx_En := [
  (0, 1, .iload_n 2, 0, 0, 0, 0, 0),
  (1, 1, .iconst 4, 4, 0, 0, 0, 0),
  (2, 3, .if_icmp .lt 4, 0, 0, 0, 6, 0),
  (5, 1, .return_, 0, 0, 0, 0, 0),
  (6, 1, .iconst 0, 0, 0, 0, 0, 0),
  (7, 1, .istore_n 3, 0, 0, 0, 0, 0),
  (8, 1, .iload_n 3, 0, 0, 0, 0, 0),
  (9, 3, .sipush 300, 300, 0, 0, 0, 0),
  (12, 3, .if_icmp .gt 76, 0, 0, 0, 88, 0),
  (15, 1, .aload_n 0, 0, 0, 0, 0, 0),
  (16, 3, .getfield 91, 0, 0, 278, 6, 11),
  (19, 3, .ifCond .ne 69, 0, 0, 0, 88, 0),
  (22, 1, .aload_n 0, 0, 0, 0, 0, 0),
  (23, 3, .getfield 28, 0, 0, 265, 6, 1),
  (26, 1, .aload_n 0, 0, 0, 0, 0, 0),
  (27, 3, .getfield 15, 0, 0, 267, 6, 3),
  (30, 1, .iload_n 1, 0, 0, 0, 0, 0),
  (31, 1, .iaload, 0, 0, 0, 0, 0),
  (32, 3, .invokevirtual 144, 0, 0, 765, 0, 5),
  (35, 3, .ifCond .eq 53, 0, 0, 0, 88, 0),
  (38, 1, .aload_n 0, 0, 0, 0, 0, 0),
  (39, 3, .getfield 88, 0, 0, 277, 6, 10),
  (42, 3, .sipush 300, 300, 0, 0, 0, 0),
  (45, 3, .if_icmp .lt 11, 0, 0, 0, 56, 0),
  (48, 1, .aload_n 0, 0, 0, 0, 0, 0),
  (49, 1, .iconst 1, 1, 0, 0, 0, 0),
  (50, 3, .putfield 91, 0, 0, 278, 6, 11),
  (53, 3, .goto 29, 0, 0, 0, 82, 0),
  (56, 1, .aload_n 0, 0, 0, 0, 0, 0),
  (57, 1, .dup, 0, 0, 0, 0, 0),
  (58, 3, .getfield 88, 0, 0, 277, 6, 10),
  (61, 1, .iconst 1, 1, 0, 0, 0, 0),
  (62, 1, .iadd, 0, 0, 0, 0, 0),
  (63, 3, .putfield 88, 0, 0, 277, 6, 10),
  (66, 1, .aload_n 0, 0, 0, 0, 0, 0),
  (67, 1, .iload_n 1, 0, 0, 0, 0, 0),
  (68, 1, .iconst 1, 1, 0, 0, 0, 0),
  (69, 1, .iadd, 0, 0, 0, 0, 0),
  (70, 1, .aload_n 0, 0, 0, 0, 0, 0),
  (71, 3, .getfield 18, 0, 0, 268, 6, 4),
  (74, 1, .iload_n 1, 0, 0, 0, 0, 0),
  (75, 1, .iaload, 0, 0, 0, 0, 0),
  (76, 1, .iload_n 2, 0, 0, 0, 0, 0),
  (77, 1, .iconst 1, 1, 0, 0, 0, 0),
  (78, 1, .iadd, 0, 0, 0, 0, 0),
  (79, 3, .invokevirtual 95, 0, 0, 729, 0, 66),
  (82, 3, .iinc 3 1, 1, 0, 0, 0, 0),
  (85, 3, .goto (-77), 0, 0, 0, 8, 0),
  (88, 1, .return_, 0, 0, 0, 0, 0)]
set_option maxRecDepth 100000 in
theorem zk_73 : zt_73.all (zx_chk 73) = true := by decide +kernel
/-- NamesThatShrink$Picks.<init>()V -/
def zt_74 : List zx_En := [
  (0, 1, .aload_n 0, 0, 0, 0, 0, 0),
  (1, 3, .invokespecial 3, 0, 0, 437, 5, 0),
  (4, 1, .aload_n 0, 0, 0, 0, 0, 0),
  (5, 2, .bipush 6, 6, 0, 0, 0, 0),
  (7, 2, .newarray .int, 0, 0, 158, 20, 0),
  (9, 3, .putfield 11, 0, 0, 438, 7, 0),
  (12, 1, .aload_n 0, 0, 0, 0, 0, 0),
  (13, 2, .bipush 6, 6, 0, 0, 0, 0),
  (15, 2, .newarray .int, 0, 0, 158, 20, 0),
  (17, 3, .putfield 17, 0, 0, 439, 7, 1),
  (20, 1, .return_, 0, 0, 0, 0, 0)]
set_option maxRecDepth 100000 in
theorem zk_74 : zt_74.all (zx_chk 74) = true := by decide +kernel
/-- NamesThatShrink$Picks.start(I)V -/
def zt_75 : List zx_En := [
  (0, 1, .aload_n 0, 0, 0, 0, 0, 0),
  (1, 1, .iconst 0, 0, 0, 0, 0, 0),
  (2, 3, .putfield 20, 0, 0, 441, 7, 2),
  (5, 1, .aload_n 0, 0, 0, 0, 0, 0),
  (6, 1, .iload_n 1, 0, 0, 0, 0, 0),
  (7, 2, .bipush 6, 6, 0, 0, 0, 0),
  (9, 3, .invokestatic 24, 0, 0, 1084, 8, 0),
  (12, 3, .putfield 30, 0, 0, 443, 7, 3),
  (15, 1, .return_, 0, 0, 0, 0, 0)]
set_option maxRecDepth 100000 in
theorem zk_75 : zt_75.all (zx_chk 75) = true := by decide +kernel
/-- NamesThatShrink$Picks.add(II)V -/
def zt_76 : List zx_En := [
  (0, 1, .iconst 0, 0, 0, 0, 0, 0),
  (1, 1, .istore_n 3, 0, 0, 0, 0, 0),
  (2, 1, .iconst 0, 0, 0, 0, 0, 0),
  (3, 2, .istore 4, 0, 0, 0, 0, 0),
  (5, 2, .iload 4, 0, 0, 0, 0, 0),
  (7, 1, .aload_n 0, 0, 0, 0, 0, 0),
  (8, 3, .getfield 20, 0, 0, 441, 7, 2),
  (11, 3, .if_icmp .ge 25, 0, 0, 0, 36, 0),
  (14, 1, .aload_n 0, 0, 0, 0, 0, 0),
  (15, 3, .getfield 11, 0, 0, 438, 7, 0),
  (18, 2, .iload 4, 0, 0, 0, 0, 0),
  (20, 1, .iaload, 0, 0, 0, 0, 0),
  (21, 1, .iload_n 1, 0, 0, 0, 0, 0),
  (22, 3, .if_icmp .gt 8, 0, 0, 0, 30, 0),
  (25, 2, .iload 4, 0, 0, 0, 0, 0),
  (27, 1, .iconst 1, 1, 0, 0, 0, 0),
  (28, 1, .iadd, 0, 0, 0, 0, 0),
  (29, 1, .istore_n 3, 0, 0, 0, 0, 0),
  (30, 3, .iinc 4 1, 1, 0, 0, 0, 0),
  (33, 3, .goto (-28), 0, 0, 0, 5, 0),
  (36, 1, .iload_n 3, 0, 0, 0, 0, 0),
  (37, 1, .aload_n 0, 0, 0, 0, 0, 0),
  (38, 3, .getfield 30, 0, 0, 443, 7, 3),
  (41, 3, .if_icmp .lt 4, 0, 0, 0, 45, 0),
  (44, 1, .return_, 0, 0, 0, 0, 0),
  (45, 1, .aload_n 0, 0, 0, 0, 0, 0),
  (46, 1, .aload_n 0, 0, 0, 0, 0, 0),
  (47, 3, .getfield 20, 0, 0, 441, 7, 2),
  (50, 1, .iconst 1, 1, 0, 0, 0, 0),
  (51, 1, .iadd, 0, 0, 0, 0, 0),
  (52, 1, .aload_n 0, 0, 0, 0, 0, 0),
  (53, 3, .getfield 30, 0, 0, 443, 7, 3),
  (56, 3, .invokestatic 24, 0, 0, 1084, 8, 0),
  (59, 3, .putfield 20, 0, 0, 441, 7, 2),
  (62, 1, .aload_n 0, 0, 0, 0, 0, 0),
  (63, 3, .getfield 20, 0, 0, 441, 7, 2),
  (66, 1, .iconst 1, 1, 0, 0, 0, 0),
  (67, 1, .isub, 0, 0, 0, 0, 0),
  (68, 2, .istore 4, 0, 0, 0, 0, 0),
  (70, 2, .iload 4, 0, 0, 0, 0, 0),
  (72, 1, .iload_n 3, 0, 0, 0, 0, 0),
  (73, 3, .if_icmp .le 41, 0, 0, 0, 114, 0),
  (76, 1, .aload_n 0, 0, 0, 0, 0, 0),
  (77, 3, .getfield 11, 0, 0, 438, 7, 0),
  (80, 2, .iload 4, 0, 0, 0, 0, 0),
  (82, 1, .aload_n 0, 0, 0, 0, 0, 0),
  (83, 3, .getfield 11, 0, 0, 438, 7, 0),
  (86, 2, .iload 4, 0, 0, 0, 0, 0),
  (88, 1, .iconst 1, 1, 0, 0, 0, 0),
  (89, 1, .isub, 0, 0, 0, 0, 0),
  (90, 1, .iaload, 0, 0, 0, 0, 0),
  (91, 1, .iastore, 0, 0, 0, 0, 0),
  (92, 1, .aload_n 0, 0, 0, 0, 0, 0),
  (93, 3, .getfield 17, 0, 0, 439, 7, 1),
  (96, 2, .iload 4, 0, 0, 0, 0, 0),
  (98, 1, .aload_n 0, 0, 0, 0, 0, 0),
  (99, 3, .getfield 17, 0, 0, 439, 7, 1),
  (102, 2, .iload 4, 0, 0, 0, 0, 0),
  (104, 1, .iconst 1, 1, 0, 0, 0, 0),
  (105, 1, .isub, 0, 0, 0, 0, 0),
  (106, 1, .iaload, 0, 0, 0, 0, 0),
  (107, 1, .iastore, 0, 0, 0, 0, 0),
  (108, 3, .iinc 4 (-1), (-1), 0, 0, 0, 0),
  (111, 3, .goto (-41), 0, 0, 0, 70, 0),
  (114, 1, .aload_n 0, 0, 0, 0, 0, 0),
  (115, 3, .getfield 11, 0, 0, 438, 7, 0),
  (118, 1, .iload_n 3, 0, 0, 0, 0, 0),
  (119, 1, .iload_n 1, 0, 0, 0, 0, 0),
  (120, 1, .iastore, 0, 0, 0, 0, 0),
  (121, 1, .aload_n 0, 0, 0, 0, 0, 0),
  (122, 3, .getfield 17, 0, 0, 439, 7, 1),
  (125, 1, .iload_n 3, 0, 0, 0, 0, 0),
  (126, 1, .iload_n 2, 0, 0, 0, 0, 0),
  (127, 1, .iastore, 0, 0, 0, 0, 0),
  (128, 1, .return_, 0, 0, 0, 0, 0)]
set_option maxRecDepth 100000 in
theorem zk_76 : zt_76.all (zx_chk 76) = true := by decide +kernel
/-- NamesThatShrink$Picks.addAll(LNamesThatShrink$Picks;II)V -/
def zt_77 : List zx_En := [
  (0, 1, .iconst 0, 0, 0, 0, 0, 0),
  (1, 2, .istore 4, 0, 0, 0, 0, 0),
  (3, 2, .iload 4, 0, 0, 0, 0, 0),
  (5, 1, .aload_n 1, 0, 0, 0, 0, 0),
  (6, 3, .getfield 20, 0, 0, 441, 7, 2),
  (9, 3, .if_icmp .ge 31, 0, 0, 0, 40, 0),
  (12, 1, .aload_n 0, 0, 0, 0, 0, 0),
  (13, 1, .aload_n 1, 0, 0, 0, 0, 0),
  (14, 3, .getfield 11, 0, 0, 438, 7, 0),
  (17, 2, .iload 4, 0, 0, 0, 0, 0),
  (19, 1, .iaload, 0, 0, 0, 0, 0),
  (20, 1, .iload_n 2, 0, 0, 0, 0, 0),
  (21, 1, .iadd, 0, 0, 0, 0, 0),
  (22, 1, .aload_n 1, 0, 0, 0, 0, 0),
  (23, 3, .getfield 17, 0, 0, 439, 7, 1),
  (26, 2, .iload 4, 0, 0, 0, 0, 0),
  (28, 1, .iaload, 0, 0, 0, 0, 0),
  (29, 1, .iload_n 3, 0, 0, 0, 0, 0),
  (30, 1, .iadd, 0, 0, 0, 0, 0),
  (31, 3, .invokevirtual 33, 0, 0, 1103, 0, 76),
  (34, 3, .iinc 4 1, 1, 0, 0, 0, 0),
  (37, 3, .goto (-34), 0, 0, 0, 3, 0),
  (40, 1, .return_, 0, 0, 0, 0, 0)]
set_option maxRecDepth 100000 in
theorem zk_77 : zt_77.all (zx_chk 77) = true := by decide +kernel
/-- NamesThatShrink$Picks.costOfAll()I -/
def zt_78 : List zx_En := [
  (0, 1, .iconst 0, 0, 0, 0, 0, 0),
  (1, 1, .istore_n 1, 0, 0, 0, 0, 0),
  (2, 1, .iconst 0, 0, 0, 0, 0, 0),
  (3, 1, .istore_n 2, 0, 0, 0, 0, 0),
  (4, 1, .iload_n 2, 0, 0, 0, 0, 0),
  (5, 1, .aload_n 0, 0, 0, 0, 0, 0),
  (6, 3, .getfield 20, 0, 0, 441, 7, 2),
  (9, 3, .if_icmp .ge 18, 0, 0, 0, 27, 0),
  (12, 1, .iload_n 1, 0, 0, 0, 0, 0),
  (13, 1, .aload_n 0, 0, 0, 0, 0, 0),
  (14, 3, .getfield 11, 0, 0, 438, 7, 0),
  (17, 1, .iload_n 2, 0, 0, 0, 0, 0),
  (18, 1, .iaload, 0, 0, 0, 0, 0),
  (19, 1, .iadd, 0, 0, 0, 0, 0),
  (20, 1, .istore_n 1, 0, 0, 0, 0, 0),
  (21, 3, .iinc 2 1, 1, 0, 0, 0, 0),
  (24, 3, .goto (-20), 0, 0, 0, 4, 0),
  (27, 1, .iload_n 1, 0, 0, 0, 0, 0),
  (28, 1, .ireturn, 0, 0, 0, 0, 0)]
set_option maxRecDepth 100000 in
theorem zk_78 : zt_78.all (zx_chk 78) = true := by decide +kernel
/-- NamesThatShrink$Picks.tellRising(LNamesThatShrink$Row;)V -/
def zt_79 : List zx_En := [
  (0, 1, .aload_n 1, 0, 0, 0, 0, 0),
  (1, 3, .invokevirtual 37, 0, 0, 1121, 0, 81),
  (4, 1, .iconst 0, 0, 0, 0, 0, 0),
  (5, 1, .istore_n 2, 0, 0, 0, 0, 0),
  (6, 1, .iconst 0, 0, 0, 0, 0, 0),
  (7, 1, .istore_n 3, 0, 0, 0, 0, 0),
  (8, 1, .iload_n 3, 0, 0, 0, 0, 0),
  (9, 1, .aload_n 0, 0, 0, 0, 0, 0),
  (10, 3, .getfield 20, 0, 0, 441, 7, 2),
  (13, 3, .if_icmp .ge 72, 0, 0, 0, 85, 0),
  (16, 2, .ldc 42, 5764801, 0, 1122, 0, 0),
  (18, 2, .istore 4, 0, 0, 0, 0, 0),
  (20, 1, .iconst 0, 0, 0, 0, 0, 0),
  (21, 2, .istore 5, 0, 0, 0, 0, 0),
  (23, 2, .iload 5, 0, 0, 0, 0, 0),
  (25, 1, .aload_n 0, 0, 0, 0, 0, 0),
  (26, 3, .getfield 20, 0, 0, 441, 7, 2),
  (29, 3, .if_icmp .ge 41, 0, 0, 0, 70, 0),
  (32, 1, .aload_n 0, 0, 0, 0, 0, 0),
  (33, 3, .getfield 17, 0, 0, 439, 7, 1),
  (36, 2, .iload 5, 0, 0, 0, 0, 0),
  (38, 1, .iaload, 0, 0, 0, 0, 0),
  (39, 1, .iload_n 2, 0, 0, 0, 0, 0),
  (40, 3, .if_icmp .le 24, 0, 0, 0, 64, 0),
  (43, 1, .aload_n 0, 0, 0, 0, 0, 0),
  (44, 3, .getfield 17, 0, 0, 439, 7, 1),
  (47, 2, .iload 5, 0, 0, 0, 0, 0),
  (49, 1, .iaload, 0, 0, 0, 0, 0),
  (50, 2, .iload 4, 0, 0, 0, 0, 0),
  (52, 3, .if_icmp .ge 12, 0, 0, 0, 64, 0),
  (55, 1, .aload_n 0, 0, 0, 0, 0, 0),
  (56, 3, .getfield 17, 0, 0, 439, 7, 1),
  (59, 2, .iload 5, 0, 0, 0, 0, 0),
  (61, 1, .iaload, 0, 0, 0, 0, 0),
  (62, 2, .istore 4, 0, 0, 0, 0, 0),
  (64, 3, .iinc 5 1, 1, 0, 0, 0, 0),
  (67, 3, .goto (-44), 0, 0, 0, 23, 0),
  (70, 1, .aload_n 1, 0, 0, 0, 0, 0),
  (71, 2, .iload 4, 0, 0, 0, 0, 0),
  (73, 3, .invokevirtual 43, 0, 0, 1123, 0, 82),
  (76, 2, .iload 4, 0, 0, 0, 0, 0),
  (78, 1, .istore_n 2, 0, 0, 0, 0, 0),
  (79, 3, .iinc 3 1, 1, 0, 0, 0, 0),
  (82, 3, .goto (-74), 0, 0, 0, 8, 0),
  (85, 1, .return_, 0, 0, 0, 0, 0)]
set_option maxRecDepth 100000 in
theorem zk_79 : zt_79.all (zx_chk 79) = true := by decide +kernel
/-- NamesThatShrink$Row.<init>()V -/
def zt_80 : List zx_En := [
  (0, 1, .aload_n 0, 0, 0, 0, 0, 0),
  (1, 3, .invokespecial 1, 0, 0, 164, 5, 0),
  (4, 1, .aload_n 0, 0, 0, 0, 0, 0),
  (5, 2, .bipush 12, 12, 0, 0, 0, 0),
  (7, 2, .newarray .int, 0, 0, 158, 20, 0),
  (9, 3, .putfield 9, 0, 0, 165, 8, 0),
  (12, 1, .return_, 0, 0, 0, 0, 0)]
set_option maxRecDepth 100000 in
theorem zk_80 : zt_80.all (zx_chk 80) = true := by decide +kernel
/-- NamesThatShrink$Row.clear()V -/
def zt_81 : List zx_En := [
  (0, 1, .aload_n 0, 0, 0, 0, 0, 0),
  (1, 1, .iconst 0, 0, 0, 0, 0, 0),
  (2, 3, .putfield 13, 0, 0, 167, 8, 1),
  (5, 1, .return_, 0, 0, 0, 0, 0)]
set_option maxRecDepth 100000 in
theorem zk_81 : zt_81.all (zx_chk 81) = true := by decide +kernel
/-- NamesThatShrink$Row.add(I)V -/
def zt_82 : List zx_En := [
  (0, 1, .aload_n 0, 0, 0, 0, 0, 0),
  (1, 3, .getfield 13, 0, 0, 167, 8, 1),
  (4, 2, .bipush 12, 12, 0, 0, 0, 0),
  (6, 3, .if_icmp .ge 23, 0, 0, 0, 29, 0),
  (9, 1, .aload_n 0, 0, 0, 0, 0, 0),
  (10, 3, .getfield 9, 0, 0, 165, 8, 0),
  (13, 1, .aload_n 0, 0, 0, 0, 0, 0),
  (14, 3, .getfield 13, 0, 0, 167, 8, 1),
  (17, 1, .iload_n 1, 0, 0, 0, 0, 0),
  (18, 1, .iastore, 0, 0, 0, 0, 0),
  (19, 1, .aload_n 0, 0, 0, 0, 0, 0),
  (20, 1, .dup, 0, 0, 0, 0, 0),
  (21, 3, .getfield 13, 0, 0, 167, 8, 1),
  (24, 1, .iconst 1, 1, 0, 0, 0, 0),
  (25, 1, .iadd, 0, 0, 0, 0, 0),
  (26, 3, .putfield 13, 0, 0, 167, 8, 1),
  (29, 1, .return_, 0, 0, 0, 0, 0)]
set_option maxRecDepth 100000 in
theorem zk_82 : zt_82.all (zx_chk 82) = true := by decide +kernel
/-- NamesThatShrink$Search.<init>()V -/
def zt_83 : List zx_En := [
  (0, 1, .aload_n 0, 0, 0, 0, 0, 0),
  (1, 3, .invokespecial 3, 0, 0, 310, 5, 0),
  (4, 1, .aload_n 0, 0, 0, 0, 0, 0),
  (5, 3, .new 9, 0, 0, 311, 3, 0),
  (8, 1, .dup, 0, 0, 0, 0, 0),
  (9, 3, .invokespecial 11, 0, 0, 313, 3, 22),
  (12, 3, .putfield 12, 0, 0, 361, 9, 0),
  (15, 1, .aload_n 0, 0, 0, 0, 0, 0),
  (16, 2, .bipush 10, 10, 0, 0, 0, 0),
  (18, 2, .newarray .int, 0, 0, 158, 20, 0),
  (20, 3, .putfield 18, 0, 0, 362, 9, 1),
  (23, 1, .aload_n 0, 0, 0, 0, 0, 0),
  (24, 2, .bipush 7, 7, 0, 0, 0, 0),
  (26, 2, .newarray .int, 0, 0, 158, 20, 0),
  (28, 3, .putfield 22, 0, 0, 363, 9, 2),
  (31, 1, .aload_n 0, 0, 0, 0, 0, 0),
  (32, 2, .bipush 6, 6, 0, 0, 0, 0),
  (34, 2, .bipush 12, 12, 0, 0, 0, 0),
  (36, 4, .multianewarray 27 2, 0, 0, 360, 24, 0),
  (40, 3, .putfield 29, 0, 0, 364, 9, 3),
  (43, 1, .aload_n 0, 0, 0, 0, 0, 0),
  (44, 2, .bipush 6, 6, 0, 0, 0, 0),
  (46, 2, .newarray .int, 0, 0, 158, 20, 0),
  (48, 3, .putfield 32, 0, 0, 365, 9, 4),
  (51, 1, .aload_n 0, 0, 0, 0, 0, 0),
  (52, 1, .iconst 0, 0, 0, 0, 0, 0),
  (53, 2, .newarray .long, 0, 0, 359, 21, 0),
  (55, 3, .putfield 35, 0, 0, 366, 9, 5),
  (58, 1, .aload_n 0, 0, 0, 0, 0, 0),
  (59, 1, .iconst 0, 0, 0, 0, 0, 0),
  (60, 2, .newarray .int, 0, 0, 158, 20, 0),
  (62, 3, .putfield 39, 0, 0, 367, 9, 6),
  (65, 1, .aload_n 0, 0, 0, 0, 0, 0),
  (66, 1, .iconst 0, 0, 0, 0, 0, 0),
  (67, 2, .newarray .byte, 0, 0, 424, 22, 0),
  (69, 3, .putfield 42, 0, 0, 368, 9, 7),
  (72, 1, .aload_n 0, 0, 0, 0, 0, 0),
  (73, 1, .iconst 0, 0, 0, 0, 0, 0),
  (74, 2, .newarray .byte, 0, 0, 424, 22, 0),
  (76, 3, .putfield 46, 0, 0, 369, 9, 8),
  (79, 1, .aload_n 0, 0, 0, 0, 0, 0),
  (80, 1, .iconst 0, 0, 0, 0, 0, 0),
  (81, 2, .newarray .int, 0, 0, 158, 20, 0),
  (83, 3, .putfield 49, 0, 0, 370, 9, 9),
  (86, 1, .return_, 0, 0, 0, 0, 0)]
set_option maxRecDepth 100000 in
theorem zk_83 : zt_83.all (zx_chk 83) = true := by decide +kernel
end
section
/-- NamesThatShrink$Search.freeStates(LNamesThatShrink$Crowd;)I -/
def zt_84 : List zx_En := [
  (0, 1, .aload_n 0, 0, 0, 0, 0, 0),
  (1, 1, .aload_n 1, 0, 0, 0, 0, 0),
  (2, 3, .invokevirtual 52, 0, 0, 848, 0, 86),
  (5, 1, .aload_n 0, 0, 0, 0, 0, 0),
  (6, 3, .getfield 12, 0, 0, 361, 9, 0),
  (9, 2, .bipush 10, 10, 0, 0, 0, 0),
  (11, 3, .invokevirtual 56, 0, 0, 887, 0, 31),
  (14, 1, .ireturn, 0, 0, 0, 0, 0)]
set_option maxRecDepth 100000 in
theorem zk_84 : zt_84.all (zx_chk 84) = true := by decide +kernel
/-- NamesThatShrink$Search.look(LNamesThatShrink$Crowd;)I -/
def zt_85 : List zx_En := [
  (0, 1, .aload_n 0, 0, 0, 0, 0, 0),
  (1, 1, .aload_n 1, 0, 0, 0, 0, 0),
  (2, 3, .invokevirtual 52, 0, 0, 848, 0, 86),
  (5, 1, .aload_n 0, 0, 0, 0, 0, 0),
  (6, 3, .getfield 60, 0, 0, 374, 9, 13),
  (9, 1, .aload_n 1, 0, 0, 0, 0, 0),
  (10, 3, .getfield 64, 0, 0, 208, 0, 9),
  (13, 3, .if_icmp .eq 44, 0, 0, 0, 57, 0),
  (16, 1, .aload_n 0, 0, 0, 0, 0, 0),
  (17, 1, .aload_n 1, 0, 0, 0, 0, 0),
  (18, 3, .getfield 64, 0, 0, 208, 0, 9),
  (21, 3, .putfield 60, 0, 0, 374, 9, 13),
  (24, 1, .aload_n 0, 0, 0, 0, 0, 0),
  (25, 3, .getfield 12, 0, 0, 361, 9, 0),
  (28, 1, .aload_n 0, 0, 0, 0, 0, 0),
  (29, 3, .getfield 60, 0, 0, 374, 9, 13),
  (32, 3, .invokevirtual 56, 0, 0, 887, 0, 31),
  (35, 1, .istore_n 2, 0, 0, 0, 0, 0),
  (36, 1, .aload_n 0, 0, 0, 0, 0, 0),
  (37, 1, .iload_n 2, 0, 0, 0, 0, 0),
  (38, 3, .sipush 20000, 20000, 0, 0, 0, 0),
  (41, 3, .if_icmp .le 8, 0, 0, 0, 49, 0),
  (44, 2, .bipush (-3), (-3), 0, 0, 0, 0),
  (46, 3, .goto 8, 0, 0, 0, 54, 0),
  (49, 1, .aload_n 0, 0, 0, 0, 0, 0),
  (50, 1, .iload_n 2, 0, 0, 0, 0, 0),
  (51, 3, .invokevirtual 67, 0, 0, 922, 0, 88),
  (54, 3, .putfield 70, 0, 0, 375, 9, 14),
  (57, 1, .aload_n 0, 0, 0, 0, 0, 0),
  (58, 3, .getfield 70, 0, 0, 375, 9, 14),
  (61, 1, .ireturn, 0, 0, 0, 0, 0)]
set_option maxRecDepth 100000 in
theorem zk_85 : zt_85.all (zx_chk 85) = true := by decide +kernel
/-- NamesThatShrink$Search.lineUp(LNamesThatShrink$Crowd;)V -/
def zt_86 : List zx_En := [
  (0, 1, .aload_n 0, 0, 0, 0, 0, 0),
  (1, 1, .aload_n 1, 0, 0, 0, 0, 0),
  (2, 3, .invokevirtual 73, 0, 0, 852, 0, 87),
  (5, 3, .ifCond .ne 31, 0, 0, 0, 36, 0),
  (8, 1, .aload_n 1, 0, 0, 0, 0, 0),
  (9, 3, .getfield 77, 0, 0, 184, 0, 0),
  (12, 1, .iconst 0, 0, 0, 0, 0, 0),
  (13, 1, .aload_n 0, 0, 0, 0, 0, 0),
  (14, 3, .getfield 18, 0, 0, 362, 9, 1),
  (17, 1, .iconst 0, 0, 0, 0, 0, 0),
  (18, 2, .bipush 10, 10, 0, 0, 0, 0),
  (20, 3, .invokestatic 80, 0, 0, 856, 6, 0),
  (23, 1, .aload_n 0, 0, 0, 0, 0, 0),
  (24, 3, .getfield 12, 0, 0, 361, 9, 0),
  (27, 1, .aload_n 1, 0, 0, 0, 0, 0),
  (28, 3, .invokevirtual 86, 0, 0, 859, 0, 23),
  (31, 1, .aload_n 0, 0, 0, 0, 0, 0),
  (32, 1, .iconst 0, 0, 0, 0, 0, 0),
  (33, 3, .putfield 60, 0, 0, 374, 9, 13),
  (36, 1, .return_, 0, 0, 0, 0, 0)]
set_option maxRecDepth 100000 in
theorem zk_86 : zt_86.all (zx_chk 86) = true := by decide +kernel
/-- NamesThatShrink$Search.isKnown(LNamesThatShrink$Crowd;)Z -/
def zt_87 : List zx_En := [
  (0, 1, .iconst 0, 0, 0, 0, 0, 0),
  (1, 1, .istore_n 2, 0, 0, 0, 0, 0),
  (2, 1, .iload_n 2, 0, 0, 0, 0, 0),
  (3, 2, .bipush 10, 10, 0, 0, 0, 0),
  (5, 3, .if_icmp .ge 26, 0, 0, 0, 31, 0),
  (8, 1, .aload_n 1, 0, 0, 0, 0, 0),
  (9, 3, .getfield 77, 0, 0, 184, 0, 0),
  (12, 1, .iload_n 2, 0, 0, 0, 0, 0),
  (13, 1, .iaload, 0, 0, 0, 0, 0),
  (14, 1, .aload_n 0, 0, 0, 0, 0, 0),
  (15, 3, .getfield 18, 0, 0, 362, 9, 1),
  (18, 1, .iload_n 2, 0, 0, 0, 0, 0),
  (19, 1, .iaload, 0, 0, 0, 0, 0),
  (20, 3, .if_icmp .eq 5, 0, 0, 0, 25, 0),
  (23, 1, .iconst 0, 0, 0, 0, 0, 0),
  (24, 1, .ireturn, 0, 0, 0, 0, 0),
  (25, 3, .iinc 2 1, 1, 0, 0, 0, 0),
  (28, 3, .goto (-26), 0, 0, 0, 2, 0),
  (31, 1, .iconst 1, 1, 0, 0, 0, 0),
  (32, 1, .ireturn, 0, 0, 0, 0, 0)]
set_option maxRecDepth 100000 in
theorem zk_87 : zt_87.all (zx_chk 87) = true := by decide +kernel
/-- NamesThatShrink$Search.spreadAll(I)I -/
def zt_88 : List zx_En := [
  (0, 1, .aload_n 0, 0, 0, 0, 0, 0),
  (1, 1, .iload_n 1, 0, 0, 0, 0, 0),
  (2, 2, .bipush 6, 6, 0, 0, 0, 0),
  (4, 1, .iadd, 0, 0, 0, 0, 0),
  (5, 3, .invokevirtual 89, 0, 0, 926, 0, 89),
  (8, 1, .iconst 1, 1, 0, 0, 0, 0),
  (9, 1, .istore_n 2, 0, 0, 0, 0, 0),
  (10, 1, .iconst 1, 1, 0, 0, 0, 0),
  (11, 1, .istore_n 3, 0, 0, 0, 0, 0),
  (12, 1, .iconst 1, 1, 0, 0, 0, 0),
  (13, 2, .istore 4, 0, 0, 0, 0, 0),
  (15, 1, .iconst 0, 0, 0, 0, 0, 0),
  (16, 2, .istore 5, 0, 0, 0, 0, 0),
  (18, 2, .iload 5, 0, 0, 0, 0, 0),
  (20, 1, .aload_n 0, 0, 0, 0, 0, 0),
  (21, 3, .getfield 12, 0, 0, 361, 9, 0),
  (24, 3, .getfield 93, 0, 0, 334, 3, 8),
  (27, 3, .if_icmp .ge 57, 0, 0, 0, 84, 0),
  (30, 1, .aload_n 0, 0, 0, 0, 0, 0),
  (31, 3, .getfield 22, 0, 0, 363, 9, 2),
  (34, 2, .iload 5, 0, 0, 0, 0, 0),
  (36, 1, .aload_n 0, 0, 0, 0, 0, 0),
  (37, 3, .getfield 96, 0, 0, 373, 9, 12),
  (40, 1, .iastore, 0, 0, 0, 0, 0),
  (41, 1, .aload_n 0, 0, 0, 0, 0, 0),
  (42, 2, .iload 5, 0, 0, 0, 0, 0),
  (44, 3, .invokevirtual 99, 0, 0, 932, 0, 90),
  (47, 1, .iload_n 2, 0, 0, 0, 0, 0),
  (48, 1, .aload_n 0, 0, 0, 0, 0, 0),
  (49, 3, .getfield 96, 0, 0, 373, 9, 12),
  (52, 1, .aload_n 0, 0, 0, 0, 0, 0),
  (53, 3, .getfield 22, 0, 0, 363, 9, 2),
  (56, 2, .iload 5, 0, 0, 0, 0, 0),
  (58, 1, .iaload, 0, 0, 0, 0, 0),
  (59, 1, .isub, 0, 0, 0, 0, 0),
  (60, 1, .imul, 0, 0, 0, 0, 0),
  (61, 1, .istore_n 2, 0, 0, 0, 0, 0),
  (62, 1, .iload_n 3, 0, 0, 0, 0, 0),
  (63, 1, .aload_n 0, 0, 0, 0, 0, 0),
  (64, 3, .getfield 102, 0, 0, 376, 9, 15),
  (67, 1, .imul, 0, 0, 0, 0, 0),
  (68, 1, .istore_n 3, 0, 0, 0, 0, 0),
  (69, 2, .iload 4, 0, 0, 0, 0, 0),
  (71, 1, .aload_n 0, 0, 0, 0, 0, 0),
  (72, 3, .getfield 105, 0, 0, 378, 9, 16),
  (75, 1, .imul, 0, 0, 0, 0, 0),
  (76, 2, .istore 4, 0, 0, 0, 0, 0),
  (78, 3, .iinc 5 1, 1, 0, 0, 0, 0),
  (81, 3, .goto (-63), 0, 0, 0, 18, 0),
  (84, 1, .aload_n 0, 0, 0, 0, 0, 0),
  (85, 3, .getfield 22, 0, 0, 363, 9, 2),
  (88, 1, .aload_n 0, 0, 0, 0, 0, 0),
  (89, 3, .getfield 12, 0, 0, 361, 9, 0),
  (92, 3, .getfield 93, 0, 0, 334, 3, 8),
  (95, 1, .aload_n 0, 0, 0, 0, 0, 0),
  (96, 3, .getfield 96, 0, 0, 373, 9, 12),
  (99, 1, .iastore, 0, 0, 0, 0, 0),
  (100, 1, .aload_n 0, 0, 0, 0, 0, 0),
  (101, 1, .iload_n 3, 0, 0, 0, 0, 0),
  (102, 3, .putfield 102, 0, 0, 376, 9, 15),
  (105, 1, .aload_n 0, 0, 0, 0, 0, 0),
  (106, 2, .iload 4, 0, 0, 0, 0, 0),
  (108, 3, .putfield 105, 0, 0, 378, 9, 16),
  (111, 1, .iload_n 2, 0, 0, 0, 0, 0),
  (112, 1, .ireturn, 0, 0, 0, 0, 0)]
set_option maxRecDepth 100000 in
theorem zk_88 : zt_88.all (zx_chk 88) = true := by decide +kernel
/-- NamesThatShrink$Search.makeRoom(I)V -/
def zt_89 : List zx_En := [
  (0, 1, .aload_n 0, 0, 0, 0, 0, 0),
  (1, 3, .getfield 35, 0, 0, 366, 9, 5),
  (4, 1, .arraylength, 0, 0, 0, 0, 0),
  (5, 1, .iload_n 1, 0, 0, 0, 0, 0),
  (6, 3, .if_icmp .ge 49, 0, 0, 0, 55, 0),
  (9, 1, .iload_n 1, 0, 0, 0, 0, 0),
  (10, 1, .iconst 2, 2, 0, 0, 0, 0),
  (11, 1, .aload_n 0, 0, 0, 0, 0, 0),
  (12, 3, .getfield 35, 0, 0, 366, 9, 5),
  (15, 1, .arraylength, 0, 0, 0, 0, 0),
  (16, 1, .imul, 0, 0, 0, 0, 0),
  (17, 3, .sipush 20006, 20006, 0, 0, 0, 0),
  (20, 3, .invokestatic 108, 0, 0, 930, 8, 0),
  (23, 3, .invokestatic 114, 0, 0, 931, 7, 0),
  (26, 1, .istore_n 2, 0, 0, 0, 0, 0),
  (27, 1, .aload_n 0, 0, 0, 0, 0, 0),
  (28, 1, .iload_n 2, 0, 0, 0, 0, 0),
  (29, 2, .newarray .long, 0, 0, 359, 21, 0),
  (31, 3, .putfield 35, 0, 0, 366, 9, 5),
  (34, 1, .aload_n 0, 0, 0, 0, 0, 0),
  (35, 1, .iload_n 2, 0, 0, 0, 0, 0),
  (36, 2, .newarray .int, 0, 0, 158, 20, 0),
  (38, 3, .putfield 39, 0, 0, 367, 9, 6),
  (41, 1, .aload_n 0, 0, 0, 0, 0, 0),
  (42, 1, .iload_n 2, 0, 0, 0, 0, 0),
  (43, 2, .newarray .byte, 0, 0, 424, 22, 0),
  (45, 3, .putfield 42, 0, 0, 368, 9, 7),
  (48, 1, .aload_n 0, 0, 0, 0, 0, 0),
  (49, 1, .iload_n 2, 0, 0, 0, 0, 0),
  (50, 2, .newarray .byte, 0, 0, 424, 22, 0),
  (52, 3, .putfield 46, 0, 0, 369, 9, 8),
  (55, 1, .aload_n 0, 0, 0, 0, 0, 0),
  (56, 1, .iconst 5, 5, 0, 0, 0, 0),
  (57, 3, .putfield 117, 0, 0, 371, 9, 10),
  (60, 1, .iconst 0, 0, 0, 0, 0, 0),
  (61, 1, .istore_n 2, 0, 0, 0, 0, 0),
  (62, 1, .iload_n 2, 0, 0, 0, 0, 0),
  (63, 2, .bipush 12, 12, 0, 0, 0, 0),
  (65, 3, .if_icmp .ge 33, 0, 0, 0, 98, 0),
  (68, 1, .iconst 1, 1, 0, 0, 0, 0),
  (69, 1, .aload_n 0, 0, 0, 0, 0, 0),
  (70, 3, .getfield 117, 0, 0, 371, 9, 10),
  (73, 1, .ishl, 0, 0, 0, 0, 0),
  (74, 1, .iconst 2, 2, 0, 0, 0, 0),
  (75, 1, .imul, 0, 0, 0, 0, 0),
  (76, 1, .iload_n 1, 0, 0, 0, 0, 0),
  (77, 1, .iconst 3, 3, 0, 0, 0, 0),
  (78, 1, .imul, 0, 0, 0, 0, 0),
  (79, 3, .if_icmp .ge 19, 0, 0, 0, 98, 0),
  (82, 1, .aload_n 0, 0, 0, 0, 0, 0),
  (83, 1, .dup, 0, 0, 0, 0, 0),
  (84, 3, .getfield 117, 0, 0, 371, 9, 10),
  (87, 1, .iconst 1, 1, 0, 0, 0, 0),
  (88, 1, .iadd, 0, 0, 0, 0, 0),
  (89, 3, .putfield 117, 0, 0, 371, 9, 10),
  (92, 3, .iinc 2 1, 1, 0, 0, 0, 0),
  (95, 3, .goto (-33), 0, 0, 0, 62, 0),
  (98, 1, .aload_n 0, 0, 0, 0, 0, 0),
  (99, 3, .getfield 49, 0, 0, 370, 9, 9),
  (102, 1, .arraylength, 0, 0, 0, 0, 0),
  (103, 1, .iconst 1, 1, 0, 0, 0, 0),
  (104, 1, .aload_n 0, 0, 0, 0, 0, 0),
  (105, 3, .getfield 117, 0, 0, 371, 9, 10),
  (108, 1, .ishl, 0, 0, 0, 0, 0),
  (109, 3, .if_icmp .ge 15, 0, 0, 0, 124, 0),
  (112, 1, .aload_n 0, 0, 0, 0, 0, 0),
  (113, 1, .iconst 1, 1, 0, 0, 0, 0),
  (114, 1, .aload_n 0, 0, 0, 0, 0, 0),
  (115, 3, .getfield 117, 0, 0, 371, 9, 10),
  (118, 1, .ishl, 0, 0, 0, 0, 0),
  (119, 2, .newarray .int, 0, 0, 158, 20, 0),
  (121, 3, .putfield 49, 0, 0, 370, 9, 9),
  (124, 1, .aload_n 0, 0, 0, 0, 0, 0),
  (125, 1, .dup, 0, 0, 0, 0, 0),
  (126, 3, .getfield 120, 0, 0, 372, 9, 11),
  (129, 1, .aload_n 0, 0, 0, 0, 0, 0),
  (130, 3, .getfield 96, 0, 0, 373, 9, 12),
  (133, 1, .iadd, 0, 0, 0, 0, 0),
  (134, 3, .putfield 120, 0, 0, 372, 9, 11),
  (137, 1, .aload_n 0, 0, 0, 0, 0, 0),
  (138, 1, .iconst 0, 0, 0, 0, 0, 0),
  (139, 3, .putfield 96, 0, 0, 373, 9, 12),
  (142, 1, .return_, 0, 0, 0, 0, 0)]
set_option maxRecDepth 100000 in
theorem zk_89 : zt_89.all (zx_chk 89) = true := by decide +kernel
/-- NamesThatShrink$Search.spread(I)V -/
def zt_90 : List zx_En := [
  (0, 1, .aload_n 0, 0, 0, 0, 0, 0),
  (1, 1, .iconst 0, 0, 0, 0, 0, 0),
  (2, 3, .putfield 102, 0, 0, 376, 9, 15),
  (5, 1, .aload_n 0, 0, 0, 0, 0, 0),
  (6, 1, .iconst 0, 0, 0, 0, 0, 0),
  (7, 3, .putfield 105, 0, 0, 378, 9, 16),
  (10, 1, .aload_n 0, 0, 0, 0, 0, 0),
  (11, 3, .getfield 96, 0, 0, 373, 9, 12),
  (14, 1, .istore_n 2, 0, 0, 0, 0, 0),
  (15, 1, .aload_n 0, 0, 0, 0, 0, 0),
  (16, 1, .aload_n 0, 0, 0, 0, 0, 0),
  (17, 1, .iload_n 1, 0, 0, 0, 0, 0),
  (18, 3, .invokevirtual 123, 0, 0, 936, 0, 91),
  (21, 1, .iconst (-1), (-1), 0, 0, 0, 0),
  (22, 1, .iconst 0, 0, 0, 0, 0, 0),
  (23, 3, .invokevirtual 127, 0, 0, 943, 0, 95),
  (26, 1, .iload_n 2, 0, 0, 0, 0, 0),
  (27, 1, .istore_n 3, 0, 0, 0, 0, 0),
  (28, 1, .iload_n 3, 0, 0, 0, 0, 0),
  (29, 1, .aload_n 0, 0, 0, 0, 0, 0),
  (30, 3, .getfield 96, 0, 0, 373, 9, 12),
  (33, 3, .if_icmp .ge 23, 0, 0, 0, 56, 0),
  (36, 1, .iload_n 3, 0, 0, 0, 0, 0),
  (37, 1, .aload_n 0, 0, 0, 0, 0, 0),
  (38, 3, .getfield 35, 0, 0, 366, 9, 5),
  (41, 1, .arraylength, 0, 0, 0, 0, 0),
  (42, 3, .if_icmp .ge 14, 0, 0, 0, 56, 0),
  (45, 1, .aload_n 0, 0, 0, 0, 0, 0),
  (46, 1, .iload_n 3, 0, 0, 0, 0, 0),
  (47, 3, .invokevirtual 131, 0, 0, 956, 0, 93),
  (50, 3, .iinc 3 1, 1, 0, 0, 0, 0),
  (53, 3, .goto (-25), 0, 0, 0, 28, 0),
  (56, 1, .return_, 0, 0, 0, 0, 0)]
set_option maxRecDepth 100000 in
theorem zk_90 : zt_90.all (zx_chk 90) = true := by decide +kernel
/-- NamesThatShrink$Search.startOf(I)J -/
def zt_91 : List zx_En := [
  (0, 1, .iload_n 1, 0, 0, 0, 0, 0),
  (1, 3, .invokestatic 134, 0, 0, 940, 2, 92),
  (4, 1, .lstore_n 2, 0, 0, 0, 0, 0),
  (5, 1, .aload_n 0, 0, 0, 0, 0, 0),
  (6, 3, .getfield 12, 0, 0, 361, 9, 0),
  (9, 3, .getfield 137, 0, 0, 332, 3, 6),
  (12, 1, .iload_n 1, 0, 0, 0, 0, 0),
  (13, 1, .iconst 1, 1, 0, 0, 0, 0),
  (14, 1, .iadd, 0, 0, 0, 0, 0),
  (15, 1, .iaload, 0, 0, 0, 0, 0),
  (16, 2, .istore 4, 0, 0, 0, 0, 0),
  (18, 1, .aload_n 0, 0, 0, 0, 0, 0),
  (19, 3, .getfield 12, 0, 0, 361, 9, 0),
  (22, 3, .getfield 137, 0, 0, 332, 3, 6),
  (25, 1, .iload_n 1, 0, 0, 0, 0, 0),
  (26, 1, .iaload, 0, 0, 0, 0, 0),
  (27, 2, .istore 5, 0, 0, 0, 0, 0),
  (29, 2, .iload 5, 0, 0, 0, 0, 0),
  (31, 2, .iload 4, 0, 0, 0, 0, 0),
  (33, 3, .if_icmp .ge 28, 0, 0, 0, 61, 0),
  (36, 1, .lload_n 2, 0, 0, 0, 0, 0),
  (37, 1, .aload_n 0, 0, 0, 0, 0, 0),
  (38, 3, .getfield 12, 0, 0, 361, 9, 0),
  (41, 3, .getfield 140, 0, 0, 325, 3, 2),
  (44, 2, .iload 5, 0, 0, 0, 0, 0),
  (46, 1, .iaload, 0, 0, 0, 0, 0),
  (47, 1, .i2l, 0, 0, 0, 0, 0),
  (48, 1, .iconst 5, 5, 0, 0, 0, 0),
  (49, 2, .iload 5, 0, 0, 0, 0, 0),
  (51, 1, .imul, 0, 0, 0, 0, 0),
  (52, 1, .lshl, 0, 0, 0, 0, 0),
  (53, 1, .lor, 0, 0, 0, 0, 0),
  (54, 1, .lstore_n 2, 0, 0, 0, 0, 0),
  (55, 3, .iinc 5 1, 1, 0, 0, 0, 0),
  (58, 3, .goto (-29), 0, 0, 0, 29, 0),
  (61, 1, .lload_n 2, 0, 0, 0, 0, 0),
  (62, 1, .lreturn, 0, 0, 0, 0, 0)]
set_option maxRecDepth 100000 in
theorem zk_91 : zt_91.all (zx_chk 91) = true := by decide +kernel
/-- NamesThatShrink$Search.groupMark(I)J -/
def zt_92 : List zx_En := [
  (0, 1, .iload_n 0, 0, 0, 0, 0, 0),
  (1, 1, .iconst 1, 1, 0, 0, 0, 0),
  (2, 1, .iadd, 0, 0, 0, 0, 0),
  (3, 1, .i2l, 0, 0, 0, 0, 0),
  (4, 2, .bipush 50, 50, 0, 0, 0, 0),
  (6, 1, .lshl, 0, 0, 0, 0, 0),
  (7, 1, .lreturn, 0, 0, 0, 0, 0)]
set_option maxRecDepth 100000 in
theorem zk_92 : zt_92.all (zx_chk 92) = true := by decide +kernel
/-- NamesThatShrink$Search.expand(I)V -/
def zt_93 : List zx_En := [
  (0, 1, .aload_n 0, 0, 0, 0, 0, 0),
  (1, 3, .getfield 35, 0, 0, 366, 9, 5),
  (4, 1, .iload_n 1, 0, 0, 0, 0, 0),
  (5, 1, .laload, 0, 0, 0, 0, 0),
  (6, 1, .lstore_n 2, 0, 0, 0, 0, 0),
  (7, 1, .iconst 1, 1, 0, 0, 0, 0),
  (8, 2, .istore 4, 0, 0, 0, 0, 0),
  (10, 1, .iconst 1, 1, 0, 0, 0, 0),
  (11, 2, .istore 5, 0, 0, 0, 0, 0),
  (13, 2, .iload 5, 0, 0, 0, 0, 0),
  (15, 1, .aload_n 0, 0, 0, 0, 0, 0),
  (16, 3, .getfield 12, 0, 0, 361, 9, 0),
  (19, 3, .getfield 143, 0, 0, 337, 3, 9),
  (22, 3, .if_icmp .gt 123, 0, 0, 0, 145, 0),
  (25, 1, .lload_n 2, 0, 0, 0, 0, 0),
  (26, 2, .iload 5, 0, 0, 0, 0, 0),
  (28, 3, .invokestatic 146, 0, 0, 960, 2, 94),
  (31, 2, .lstore 6, 0, 0, 0, 0, 0),
  (33, 1, .iconst 0, 0, 0, 0, 0, 0),
  (34, 2, .istore 8, 0, 0, 0, 0, 0),
  (36, 2, .iload 8, 0, 0, 0, 0, 0),
  (38, 2, .bipush 10, 10, 0, 0, 0, 0),
  (40, 3, .if_icmp .ge 99, 0, 0, 0, 139, 0),
  (43, 2, .lload 6, 0, 0, 0, 0, 0),
  (45, 1, .lconst 0, 0, 0, 0, 0, 0),
  (46, 1, .lcmp, 0, 0, 0, 0, 0),
  (47, 3, .ifCond .eq 92, 0, 0, 0, 139, 0),
  (50, 2, .lload 6, 0, 0, 0, 0, 0),
  (52, 3, .invokestatic 150, 0, 0, 967, 2, 267),
  (55, 1, .iconst 5, 5, 0, 0, 0, 0),
  (56, 1, .idiv, 0, 0, 0, 0, 0),
  (57, 2, .istore 9, 0, 0, 0, 0, 0),
  (59, 2, .lload 6, 0, 0, 0, 0, 0),
  (61, 1, .aload_n 0, 0, 0, 0, 0, 0),
  (62, 3, .getfield 12, 0, 0, 361, 9, 0),
  (65, 3, .getfield 156, 0, 0, 329, 3, 4),
  (68, 2, .iload 9, 0, 0, 0, 0, 0),
  (70, 1, .aaload, 0, 0, 0, 0, 0),
  (71, 2, .iload 5, 0, 0, 0, 0, 0),
  (73, 1, .laload, 0, 0, 0, 0, 0),
  (74, 1, .land, 0, 0, 0, 0, 0),
  (75, 2, .lstore 10, 0, 0, 0, 0, 0),
  (77, 2, .lload 6, 0, 0, 0, 0, 0),
  (79, 2, .lload 10, 0, 0, 0, 0, 0),
  (81, 3, .ldc2_w 160, 0, (-1), 966, 0, 0),
  (84, 1, .lxor, 0, 0, 0, 0, 0),
  (85, 1, .land, 0, 0, 0, 0, 0),
  (86, 2, .lstore 6, 0, 0, 0, 0, 0),
  (88, 2, .lload 10, 0, 0, 0, 0, 0),
  (90, 3, .invokestatic 162, 0, 0, 971, 2, 268),
  (93, 2, .istore 12, 0, 0, 0, 0, 0),
  (95, 2, .iload 4, 0, 0, 0, 0, 0),
  (97, 3, .ifCond .eq 13, 0, 0, 0, 110, 0),
  (100, 2, .iload 12, 0, 0, 0, 0, 0),
  (102, 1, .iconst 1, 1, 0, 0, 0, 0),
  (103, 3, .if_icmp .ne 7, 0, 0, 0, 110, 0),
  (106, 1, .iconst 1, 1, 0, 0, 0, 0),
  (107, 3, .goto 4, 0, 0, 0, 111, 0),
  (110, 1, .iconst 0, 0, 0, 0, 0, 0),
  (111, 2, .istore 4, 0, 0, 0, 0, 0),
  (113, 2, .iload 12, 0, 0, 0, 0, 0),
  (115, 1, .aload_n 0, 0, 0, 0, 0, 0),
  (116, 3, .getfield 60, 0, 0, 374, 9, 13),
  (119, 3, .if_icmp .gt 14, 0, 0, 0, 133, 0),
  (122, 1, .aload_n 0, 0, 0, 0, 0, 0),
  (123, 1, .lload_n 2, 0, 0, 0, 0, 0),
  (124, 2, .lload 10, 0, 0, 0, 0, 0),
  (126, 1, .lsub, 0, 0, 0, 0, 0),
  (127, 1, .iload_n 1, 0, 0, 0, 0, 0),
  (128, 2, .iload 12, 0, 0, 0, 0, 0),
  (130, 3, .invokevirtual 127, 0, 0, 943, 0, 95),
  (133, 3, .iinc 8 1, 1, 0, 0, 0, 0),
  (136, 3, .goto (-100), 0, 0, 0, 36, 0),
  (139, 3, .iinc 5 1, 1, 0, 0, 0, 0),
  (142, 3, .goto (-129), 0, 0, 0, 13, 0),
  (145, 2, .iload 4, 0, 0, 0, 0, 0),
  (147, 3, .ifCond .eq 13, 0, 0, 0, 160, 0),
  (150, 1, .aload_n 0, 0, 0, 0, 0, 0),
  (151, 1, .dup, 0, 0, 0, 0, 0),
  (152, 3, .getfield 102, 0, 0, 376, 9, 15),
  (155, 1, .iconst 1, 1, 0, 0, 0, 0),
  (156, 1, .iadd, 0, 0, 0, 0, 0),
  (157, 3, .putfield 102, 0, 0, 376, 9, 15),
  (160, 1, .lload_n 2, 0, 0, 0, 0, 0),
  (161, 3, .ldc2_w 165, 0, 1125899906842623, 963, 0, 0),
  (164, 1, .land, 0, 0, 0, 0, 0),
  (165, 1, .lconst 0, 0, 0, 0, 0, 0),
  (166, 1, .lcmp, 0, 0, 0, 0, 0),
  (167, 3, .ifCond .ne 13, 0, 0, 0, 180, 0),
  (170, 1, .aload_n 0, 0, 0, 0, 0, 0),
  (171, 1, .dup, 0, 0, 0, 0, 0),
  (172, 3, .getfield 105, 0, 0, 378, 9, 16),
  (175, 1, .iconst 1, 1, 0, 0, 0, 0),
  (176, 1, .iadd, 0, 0, 0, 0, 0),
  (177, 3, .putfield 105, 0, 0, 378, 9, 16),
  (180, 1, .return_, 0, 0, 0, 0, 0)]
set_option maxRecDepth 100000 in
theorem zk_93 : zt_93.all (zx_chk 93) = true := by decide +kernel
/-- NamesThatShrink$Search.placesWith(JI)J -/
def zt_94 : List zx_En := [
  (0, 1, .lload_n 0, 0, 0, 0, 0, 0),
  (1, 3, .ldc2_w 165, 0, 1125899906842623, 963, 0, 0),
  (4, 1, .land, 0, 0, 0, 0, 0),
  (5, 3, .ldc2_w 167, 0, 36319351833633, 964, 0, 0),
  (8, 1, .iload_n 2, 0, 0, 0, 0, 0),
  (9, 1, .i2l, 0, 0, 0, 0, 0),
  (10, 1, .lmul, 0, 0, 0, 0, 0),
  (11, 1, .lxor, 0, 0, 0, 0, 0),
  (12, 1, .lstore_n 3, 0, 0, 0, 0, 0),
  (13, 1, .lload_n 3, 0, 0, 0, 0, 0),
  (14, 3, .ldc2_w 169, 0, 581109629338128, 965, 0, 0),
  (17, 1, .lor, 0, 0, 0, 0, 0),
  (18, 3, .ldc2_w 167, 0, 36319351833633, 964, 0, 0),
  (21, 1, .lsub, 0, 0, 0, 0, 0),
  (22, 3, .ldc2_w 160, 0, (-1), 966, 0, 0),
  (25, 1, .lxor, 0, 0, 0, 0, 0),
  (26, 1, .iconst 4, 4, 0, 0, 0, 0),
  (27, 1, .lushr, 0, 0, 0, 0, 0),
  (28, 3, .ldc2_w 167, 0, 36319351833633, 964, 0, 0),
  (31, 1, .land, 0, 0, 0, 0, 0),
  (32, 1, .lreturn, 0, 0, 0, 0, 0)]
set_option maxRecDepth 100000 in
theorem zk_94 : zt_94.all (zx_chk 94) = true := by decide +kernel
/-- NamesThatShrink$Search.add(JII)V -/
def zt_95 : List zx_En := [
  (0, 1, .aload_n 0, 0, 0, 0, 0, 0),
  (1, 1, .lload_n 1, 0, 0, 0, 0, 0),
  (2, 3, .invokevirtual 171, 0, 0, 947, 0, 97),
  (5, 2, .istore 5, 0, 0, 0, 0, 0),
  (7, 2, .iload 5, 0, 0, 0, 0, 0),
  (9, 3, .ifCond .lt 24, 0, 0, 0, 33, 0),
  (12, 1, .aload_n 0, 0, 0, 0, 0, 0),
  (13, 2, .iload 5, 0, 0, 0, 0, 0),
  (15, 3, .invokevirtual 174, 0, 0, 952, 0, 96),
  (18, 3, .ifCond .ne 15, 0, 0, 0, 33, 0),
  (21, 1, .aload_n 0, 0, 0, 0, 0, 0),
  (22, 3, .getfield 96, 0, 0, 373, 9, 12),
  (25, 1, .aload_n 0, 0, 0, 0, 0, 0),
  (26, 3, .getfield 35, 0, 0, 366, 9, 5),
  (29, 1, .arraylength, 0, 0, 0, 0, 0),
  (30, 3, .if_icmp .lt 4, 0, 0, 0, 34, 0),
  (33, 1, .return_, 0, 0, 0, 0, 0),
  (34, 1, .aload_n 0, 0, 0, 0, 0, 0),
  (35, 3, .getfield 35, 0, 0, 366, 9, 5),
  (38, 1, .aload_n 0, 0, 0, 0, 0, 0),
  (39, 3, .getfield 96, 0, 0, 373, 9, 12),
  (42, 1, .lload_n 1, 0, 0, 0, 0, 0),
  (43, 1, .lastore, 0, 0, 0, 0, 0),
  (44, 1, .aload_n 0, 0, 0, 0, 0, 0),
  (45, 3, .getfield 39, 0, 0, 367, 9, 6),
  (48, 1, .aload_n 0, 0, 0, 0, 0, 0),
  (49, 3, .getfield 96, 0, 0, 373, 9, 12),
  (52, 1, .iload_n 3, 0, 0, 0, 0, 0),
  (53, 1, .iastore, 0, 0, 0, 0, 0),
  (54, 1, .iload_n 3, 0, 0, 0, 0, 0),
  (55, 3, .ifCond .ge 7, 0, 0, 0, 62, 0),
  (58, 1, .iconst 1, 1, 0, 0, 0, 0),
  (59, 3, .goto 4, 0, 0, 0, 63, 0),
  (62, 1, .iconst 0, 0, 0, 0, 0, 0),
  (63, 2, .istore 6, 0, 0, 0, 0, 0),
  (65, 1, .aload_n 0, 0, 0, 0, 0, 0),
  (66, 3, .getfield 42, 0, 0, 368, 9, 7),
  (69, 1, .aload_n 0, 0, 0, 0, 0, 0),
  (70, 3, .getfield 96, 0, 0, 373, 9, 12),
  (73, 2, .iload 6, 0, 0, 0, 0, 0),
  (75, 3, .ifCond .eq 7, 0, 0, 0, 82, 0),
  (78, 1, .iconst 0, 0, 0, 0, 0, 0),
  (79, 3, .goto 12, 0, 0, 0, 91, 0),
  (82, 1, .aload_n 0, 0, 0, 0, 0, 0),
  (83, 3, .getfield 42, 0, 0, 368, 9, 7),
  (86, 1, .iload_n 3, 0, 0, 0, 0, 0),
  (87, 1, .baload, 0, 0, 0, 22, 0),
  (88, 1, .iconst 1, 1, 0, 0, 0, 0),
  (89, 1, .iadd, 0, 0, 0, 0, 0),
  (90, 1, .i2b, 0, 0, 0, 0, 0),
  (91, 1, .bastore, 0, 0, 0, 22, 0),
  (92, 1, .aload_n 0, 0, 0, 0, 0, 0),
  (93, 3, .getfield 46, 0, 0, 369, 9, 8),
  (96, 1, .aload_n 0, 0, 0, 0, 0, 0),
  (97, 3, .getfield 96, 0, 0, 373, 9, 12),
  (100, 2, .iload 6, 0, 0, 0, 0, 0),
  (102, 3, .ifCond .eq 7, 0, 0, 0, 109, 0),
  (105, 1, .iconst 0, 0, 0, 0, 0, 0),
  (106, 3, .goto 13, 0, 0, 0, 119, 0),
  (109, 1, .aload_n 0, 0, 0, 0, 0, 0),
  (110, 3, .getfield 46, 0, 0, 369, 9, 8),
  (113, 1, .iload_n 3, 0, 0, 0, 0, 0),
  (114, 1, .baload, 0, 0, 0, 22, 0),
  (115, 2, .iload 4, 0, 0, 0, 0, 0),
  (117, 1, .iadd, 0, 0, 0, 0, 0),
  (118, 1, .i2b, 0, 0, 0, 0, 0),
  (119, 1, .bastore, 0, 0, 0, 22, 0),
  (120, 1, .aload_n 0, 0, 0, 0, 0, 0),
  (121, 1, .dup, 0, 0, 0, 0, 0),
  (122, 3, .getfield 96, 0, 0, 373, 9, 12),
  (125, 1, .iconst 1, 1, 0, 0, 0, 0),
  (126, 1, .iadd, 0, 0, 0, 0, 0),
  (127, 3, .putfield 96, 0, 0, 373, 9, 12),
  (130, 1, .aload_n 0, 0, 0, 0, 0, 0),
  (131, 3, .getfield 49, 0, 0, 370, 9, 9),
  (134, 2, .iload 5, 0, 0, 0, 0, 0),
  (136, 1, .aload_n 0, 0, 0, 0, 0, 0),
  (137, 3, .getfield 120, 0, 0, 372, 9, 11),
  (140, 1, .aload_n 0, 0, 0, 0, 0, 0),
  (141, 3, .getfield 96, 0, 0, 373, 9, 12),
  (144, 1, .iadd, 0, 0, 0, 0, 0),
  (145, 1, .iastore, 0, 0, 0, 0, 0),
  (146, 1, .return_, 0, 0, 0, 0, 0)]
set_option maxRecDepth 100000 in
theorem zk_95 : zt_95.all (zx_chk 95) = true := by decide +kernel
/-- NamesThatShrink$Search.isTaken(I)Z -/
def zt_96 : List zx_En := [
  (0, 1, .aload_n 0, 0, 0, 0, 0, 0),
  (1, 3, .getfield 49, 0, 0, 370, 9, 9),
  (4, 1, .iload_n 1, 0, 0, 0, 0, 0),
  (5, 1, .iaload, 0, 0, 0, 0, 0),
  (6, 1, .aload_n 0, 0, 0, 0, 0, 0),
  (7, 3, .getfield 120, 0, 0, 372, 9, 11),
  (10, 3, .if_icmp .le 25, 0, 0, 0, 35, 0),
  (13, 1, .aload_n 0, 0, 0, 0, 0, 0),
  (14, 3, .getfield 49, 0, 0, 370, 9, 9),
  (17, 1, .iload_n 1, 0, 0, 0, 0, 0),
  (18, 1, .iaload, 0, 0, 0, 0, 0),
  (19, 1, .aload_n 0, 0, 0, 0, 0, 0),
  (20, 3, .getfield 120, 0, 0, 372, 9, 11),
  (23, 1, .aload_n 0, 0, 0, 0, 0, 0),
  (24, 3, .getfield 96, 0, 0, 373, 9, 12),
  (27, 1, .iadd, 0, 0, 0, 0, 0),
  (28, 3, .if_icmp .gt 7, 0, 0, 0, 35, 0),
  (31, 1, .iconst 1, 1, 0, 0, 0, 0),
  (32, 3, .goto 4, 0, 0, 0, 36, 0),
  (35, 1, .iconst 0, 0, 0, 0, 0, 0),
  (36, 1, .ireturn, 0, 0, 0, 0, 0)]
set_option maxRecDepth 100000 in
theorem zk_96 : zt_96.all (zx_chk 96) = true := by decide +kernel
/-- NamesThatShrink$Search.slotOf(J)I -/
def zt_97 : List zx_En := [
  (0, 1, .iconst 1, 1, 0, 0, 0, 0),
  (1, 1, .aload_n 0, 0, 0, 0, 0, 0),
  (2, 3, .getfield 117, 0, 0, 371, 9, 10),
  (5, 1, .ishl, 0, 0, 0, 0, 0),
  (6, 1, .iconst 1, 1, 0, 0, 0, 0),
  (7, 1, .isub, 0, 0, 0, 0, 0),
  (8, 1, .istore_n 3, 0, 0, 0, 0, 0),
  (9, 1, .lload_n 1, 0, 0, 0, 0, 0),
  (10, 3, .ldc2_w 178, 0, (-7046029254386353131), 951, 0, 0),
  (13, 1, .lmul, 0, 0, 0, 0, 0),
  (14, 2, .bipush 64, 64, 0, 0, 0, 0),
  (16, 1, .aload_n 0, 0, 0, 0, 0, 0),
  (17, 3, .getfield 117, 0, 0, 371, 9, 10),
  (20, 1, .isub, 0, 0, 0, 0, 0),
  (21, 1, .lushr, 0, 0, 0, 0, 0),
  (22, 1, .l2i, 0, 0, 0, 0, 0),
  (23, 2, .istore 4, 0, 0, 0, 0, 0),
  (25, 1, .iconst 0, 0, 0, 0, 0, 0),
  (26, 2, .istore 5, 0, 0, 0, 0, 0),
  (28, 2, .iload 5, 0, 0, 0, 0, 0),
  (30, 1, .iload_n 3, 0, 0, 0, 0, 0),
  (31, 3, .if_icmp .gt 66, 0, 0, 0, 97, 0),
  (34, 2, .iload 4, 0, 0, 0, 0, 0),
  (36, 1, .iload_n 3, 0, 0, 0, 0, 0),
  (37, 1, .iand, 0, 0, 0, 0, 0),
  (38, 2, .istore 4, 0, 0, 0, 0, 0),
  (40, 2, .iload 4, 0, 0, 0, 0, 0),
  (42, 1, .aload_n 0, 0, 0, 0, 0, 0),
  (43, 3, .getfield 49, 0, 0, 370, 9, 9),
  (46, 1, .arraylength, 0, 0, 0, 0, 0),
  (47, 3, .if_icmp .lt 5, 0, 0, 0, 52, 0),
  (50, 1, .iconst (-1), (-1), 0, 0, 0, 0),
  (51, 1, .ireturn, 0, 0, 0, 0, 0),
  (52, 1, .aload_n 0, 0, 0, 0, 0, 0),
  (53, 2, .iload 4, 0, 0, 0, 0, 0),
  (55, 3, .invokevirtual 174, 0, 0, 952, 0, 96),
  (58, 3, .ifCond .eq 27, 0, 0, 0, 85, 0),
  (61, 1, .aload_n 0, 0, 0, 0, 0, 0),
  (62, 3, .getfield 35, 0, 0, 366, 9, 5),
  (65, 1, .aload_n 0, 0, 0, 0, 0, 0),
  (66, 3, .getfield 49, 0, 0, 370, 9, 9),
  (69, 2, .iload 4, 0, 0, 0, 0, 0),
  (71, 1, .iaload, 0, 0, 0, 0, 0),
  (72, 1, .aload_n 0, 0, 0, 0, 0, 0),
  (73, 3, .getfield 120, 0, 0, 372, 9, 11),
  (76, 1, .isub, 0, 0, 0, 0, 0),
  (77, 1, .iconst 1, 1, 0, 0, 0, 0),
  (78, 1, .isub, 0, 0, 0, 0, 0),
  (79, 1, .laload, 0, 0, 0, 0, 0),
  (80, 1, .lload_n 1, 0, 0, 0, 0, 0),
  (81, 1, .lcmp, 0, 0, 0, 0, 0),
  (82, 3, .ifCond .ne 6, 0, 0, 0, 88, 0),
  (85, 2, .iload 4, 0, 0, 0, 0, 0),
  (87, 1, .ireturn, 0, 0, 0, 0, 0),
  (88, 3, .iinc 4 1, 1, 0, 0, 0, 0),
  (91, 3, .iinc 5 1, 1, 0, 0, 0, 0),
  (94, 3, .goto (-66), 0, 0, 0, 28, 0),
  (97, 1, .iconst (-1), (-1), 0, 0, 0, 0),
  (98, 1, .ireturn, 0, 0, 0, 0, 0)]
set_option maxRecDepth 100000 in
theorem zk_97 : zt_97.all (zx_chk 97) = true := by decide +kernel
/-- NamesThatShrink$Search.wantDues(LNamesThatShrink$Crowd;J)Z -/
def zt_98 : List zx_En := [
  (0, 1, .aload_n 0, 0, 0, 0, 0, 0),
  (1, 1, .lconst 0, 0, 0, 0, 0, 0),
  (2, 3, .putfield 180, 0, 0, 382, 9, 19),
  (5, 1, .aload_n 0, 0, 0, 0, 0, 0),
  (6, 1, .lconst 0, 0, 0, 0, 0, 0),
  (7, 3, .putfield 184, 0, 0, 380, 9, 17),
  (10, 1, .iconst 0, 0, 0, 0, 0, 0),
  (11, 2, .istore 4, 0, 0, 0, 0, 0),
  (13, 2, .iload 4, 0, 0, 0, 0, 0),
  (15, 1, .aload_n 1, 0, 0, 0, 0, 0),
  (16, 3, .getfield 187, 0, 0, 202, 0, 7),
  (19, 3, .if_icmp .ge 68, 0, 0, 0, 87, 0),
  (22, 1, .aload_n 1, 0, 0, 0, 0, 0),
  (23, 3, .getfield 77, 0, 0, 184, 0, 0),
  (26, 2, .iload 4, 0, 0, 0, 0, 0),
  (28, 1, .iaload, 0, 0, 0, 0, 0),
  (29, 3, .invokestatic 190, 0, 0, 981, 4, 161),
  (32, 1, .lload_n 2, 0, 0, 0, 0, 0),
  (33, 2, .iload 4, 0, 0, 0, 0, 0),
  (35, 3, .invokestatic 193, 0, 0, 982, 4, 157),
  (38, 1, .isub, 0, 0, 0, 0, 0),
  (39, 2, .istore 5, 0, 0, 0, 0, 0),
  (41, 1, .aload_n 0, 0, 0, 0, 0, 0),
  (42, 3, .getfield 12, 0, 0, 361, 9, 0),
  (45, 2, .iload 4, 0, 0, 0, 0, 0),
  (47, 3, .invokevirtual 197, 0, 0, 985, 0, 29),
  (50, 2, .istore 6, 0, 0, 0, 0, 0),
  (52, 2, .iload 5, 0, 0, 0, 0, 0),
  (54, 3, .ifCond .ge 5, 0, 0, 0, 59, 0),
  (57, 1, .iconst 0, 0, 0, 0, 0, 0),
  (58, 1, .ireturn, 0, 0, 0, 0, 0),
  (59, 2, .iload 6, 0, 0, 0, 0, 0),
  (61, 3, .ifCond .lt 20, 0, 0, 0, 81, 0),
  (64, 1, .aload_n 0, 0, 0, 0, 0, 0),
  (65, 1, .dup, 0, 0, 0, 0, 0),
  (66, 3, .getfield 184, 0, 0, 380, 9, 17),
  (69, 2, .iload 5, 0, 0, 0, 0, 0),
  (71, 1, .i2l, 0, 0, 0, 0, 0),
  (72, 1, .iconst 5, 5, 0, 0, 0, 0),
  (73, 2, .iload 6, 0, 0, 0, 0, 0),
  (75, 1, .imul, 0, 0, 0, 0, 0),
  (76, 1, .lshl, 0, 0, 0, 0, 0),
  (77, 1, .lor, 0, 0, 0, 0, 0),
  (78, 3, .putfield 184, 0, 0, 380, 9, 17),
  (81, 3, .iinc 4 1, 1, 0, 0, 0, 0),
  (84, 3, .goto (-71), 0, 0, 0, 13, 0),
  (87, 1, .iconst 1, 1, 0, 0, 0, 0),
  (88, 1, .ireturn, 0, 0, 0, 0, 0)]
set_option maxRecDepth 100000 in
theorem zk_98 : zt_98.all (zx_chk 98) = true := by decide +kernel
/-- NamesThatShrink$Search.wantSides(LNamesThatShrink$Crowd;)Z -/
def zt_99 : List zx_En := [
  (0, 1, .aload_n 0, 0, 0, 0, 0, 0),
  (1, 3, .ldc2_w 167, 0, 36319351833633, 964, 0, 0),
  (4, 3, .putfield 180, 0, 0, 382, 9, 19),
  (7, 1, .aload_n 0, 0, 0, 0, 0, 0),
  (8, 1, .lconst 0, 0, 0, 0, 0, 0),
  (9, 3, .putfield 184, 0, 0, 380, 9, 17),
  (12, 1, .aload_n 0, 0, 0, 0, 0, 0),
  (13, 1, .lconst 0, 0, 0, 0, 0, 0),
  (14, 3, .putfield 200, 0, 0, 381, 9, 18),
  (17, 1, .iconst 0, 0, 0, 0, 0, 0),
  (18, 1, .istore_n 2, 0, 0, 0, 0, 0),
  (19, 1, .iload_n 2, 0, 0, 0, 0, 0),
  (20, 1, .aload_n 1, 0, 0, 0, 0, 0),
  (21, 3, .getfield 187, 0, 0, 202, 0, 7),
  (24, 3, .if_icmp .ge 95, 0, 0, 0, 119, 0),
  (27, 1, .aload_n 1, 0, 0, 0, 0, 0),
  (28, 3, .getfield 77, 0, 0, 184, 0, 0),
  (31, 1, .iload_n 2, 0, 0, 0, 0, 0),
  (32, 1, .iaload, 0, 0, 0, 0, 0),
  (33, 3, .invokestatic 190, 0, 0, 981, 4, 161),
  (36, 1, .istore_n 3, 0, 0, 0, 0, 0),
  (37, 1, .aload_n 1, 0, 0, 0, 0, 0),
  (38, 3, .getfield 203, 0, 0, 206, 0, 8),
  (41, 1, .iload_n 2, 0, 0, 0, 0, 0),
  (42, 1, .ishr, 0, 0, 0, 0, 0),
  (43, 1, .iconst 1, 1, 0, 0, 0, 0),
  (44, 1, .iand, 0, 0, 0, 0, 0),
  (45, 2, .istore 4, 0, 0, 0, 0, 0),
  (47, 1, .aload_n 0, 0, 0, 0, 0, 0),
  (48, 3, .getfield 12, 0, 0, 361, 9, 0),
  (51, 1, .iload_n 2, 0, 0, 0, 0, 0),
  (52, 3, .invokevirtual 197, 0, 0, 985, 0, 29),
  (55, 2, .istore 5, 0, 0, 0, 0, 0),
  (57, 2, .iload 5, 0, 0, 0, 0, 0),
  (59, 3, .ifCond .ge 10, 0, 0, 0, 69, 0),
  (62, 2, .iload 4, 0, 0, 0, 0, 0),
  (64, 3, .ifCond .ne 5, 0, 0, 0, 69, 0),
  (67, 1, .iconst 0, 0, 0, 0, 0, 0),
  (68, 1, .ireturn, 0, 0, 0, 0, 0),
  (69, 2, .iload 5, 0, 0, 0, 0, 0),
  (71, 3, .ifCond .lt 42, 0, 0, 0, 113, 0),
  (74, 1, .aload_n 0, 0, 0, 0, 0, 0),
  (75, 1, .dup, 0, 0, 0, 0, 0),
  (76, 3, .getfield 184, 0, 0, 380, 9, 17),
  (79, 1, .iload_n 3, 0, 0, 0, 0, 0),
  (80, 1, .i2l, 0, 0, 0, 0, 0),
  (81, 1, .iconst 5, 5, 0, 0, 0, 0),
  (82, 2, .iload 5, 0, 0, 0, 0, 0),
  (84, 1, .imul, 0, 0, 0, 0, 0),
  (85, 1, .lshl, 0, 0, 0, 0, 0),
  (86, 1, .lor, 0, 0, 0, 0, 0),
  (87, 3, .putfield 184, 0, 0, 380, 9, 17),
  (90, 1, .aload_n 0, 0, 0, 0, 0, 0),
  (91, 1, .dup, 0, 0, 0, 0, 0),
  (92, 3, .getfield 200, 0, 0, 381, 9, 18),
  (95, 1, .iload_n 3, 0, 0, 0, 0, 0),
  (96, 2, .iload 4, 0, 0, 0, 0, 0),
  (98, 1, .iadd, 0, 0, 0, 0, 0),
  (99, 1, .iconst 1, 1, 0, 0, 0, 0),
  (100, 1, .iadd, 0, 0, 0, 0, 0),
  (101, 1, .iconst 1, 1, 0, 0, 0, 0),
  (102, 1, .iand, 0, 0, 0, 0, 0),
  (103, 1, .i2l, 0, 0, 0, 0, 0),
  (104, 1, .iconst 5, 5, 0, 0, 0, 0),
  (105, 2, .iload 5, 0, 0, 0, 0, 0),
  (107, 1, .imul, 0, 0, 0, 0, 0),
  (108, 1, .lshl, 0, 0, 0, 0, 0),
  (109, 1, .lor, 0, 0, 0, 0, 0),
  (110, 3, .putfield 200, 0, 0, 381, 9, 18),
  (113, 3, .iinc 2 1, 1, 0, 0, 0, 0),
  (116, 3, .goto (-97), 0, 0, 0, 19, 0),
  (119, 1, .iconst 1, 1, 0, 0, 0, 0),
  (120, 1, .ireturn, 0, 0, 0, 0, 0)]
set_option maxRecDepth 100000 in
theorem zk_99 : zt_99.all (zx_chk 99) = true := by decide +kernel
/-- NamesThatShrink$Search.isWanted(JJ)Z -/
def zt_100 : List zx_En := [
  (0, 1, .lload_n 1, 0, 0, 0, 0, 0),
  (1, 3, .ldc2_w 165, 0, 1125899906842623, 963, 0, 0),
  (4, 1, .land, 0, 0, 0, 0, 0),
  (5, 2, .lstore 5, 0, 0, 0, 0, 0),
  (7, 1, .aload_n 0, 0, 0, 0, 0, 0),
  (8, 3, .getfield 184, 0, 0, 380, 9, 17),
  (11, 3, .ldc2_w 169, 0, 581109629338128, 965, 0, 0),
  (14, 1, .lor, 0, 0, 0, 0, 0),
  (15, 2, .lload 5, 0, 0, 0, 0, 0),
  (17, 1, .lsub, 0, 0, 0, 0, 0),
  (18, 3, .ldc2_w 169, 0, 581109629338128, 965, 0, 0),
  (21, 1, .land, 0, 0, 0, 0, 0),
  (22, 3, .ldc2_w 169, 0, 581109629338128, 965, 0, 0),
  (25, 1, .lcmp, 0, 0, 0, 0, 0),
  (26, 3, .ifCond .ne 7, 0, 0, 0, 33, 0),
  (29, 1, .iconst 1, 1, 0, 0, 0, 0),
  (30, 3, .goto 4, 0, 0, 0, 34, 0),
  (33, 1, .iconst 0, 0, 0, 0, 0, 0),
  (34, 2, .istore 7, 0, 0, 0, 0, 0),
  (36, 2, .iload 7, 0, 0, 0, 0, 0),
  (38, 3, .ifCond .eq 26, 0, 0, 0, 64, 0),
  (41, 2, .lload 5, 0, 0, 0, 0, 0),
  (43, 1, .aload_n 0, 0, 0, 0, 0, 0),
  (44, 3, .getfield 200, 0, 0, 381, 9, 18),
  (47, 1, .lxor, 0, 0, 0, 0, 0),
  (48, 1, .aload_n 0, 0, 0, 0, 0, 0),
  (49, 3, .getfield 180, 0, 0, 382, 9, 19),
  (52, 1, .land, 0, 0, 0, 0, 0),
  (53, 1, .lload_n 3, 0, 0, 0, 0, 0),
  (54, 1, .land, 0, 0, 0, 0, 0),
  (55, 1, .lconst 0, 0, 0, 0, 0, 0),
  (56, 1, .lcmp, 0, 0, 0, 0, 0),
  (57, 3, .ifCond .ne 7, 0, 0, 0, 64, 0),
  (60, 1, .iconst 1, 1, 0, 0, 0, 0),
  (61, 3, .goto 4, 0, 0, 0, 65, 0),
  (64, 1, .iconst 0, 0, 0, 0, 0, 0),
  (65, 1, .ireturn, 0, 0, 0, 0, 0)]
set_option maxRecDepth 100000 in
theorem zk_100 : zt_100.all (zx_chk 100) = true := by decide +kernel
/-- NamesThatShrink$Search.bestOf(IZ)I -/
def zt_101 : List zx_En := [
  (0, 1, .aload_n 0, 0, 0, 0, 0, 0),
  (1, 3, .getfield 12, 0, 0, 361, 9, 0),
  (4, 3, .getfield 156, 0, 0, 329, 3, 4),
  (7, 1, .aload_n 0, 0, 0, 0, 0, 0),
  (8, 3, .getfield 12, 0, 0, 361, 9, 0),
  (11, 3, .getfield 137, 0, 0, 332, 3, 6),
  (14, 1, .iload_n 1, 0, 0, 0, 0, 0),
  (15, 1, .iaload, 0, 0, 0, 0, 0),
  (16, 1, .aaload, 0, 0, 0, 0, 0),
  (17, 1, .iconst 1, 1, 0, 0, 0, 0),
  (18, 1, .laload, 0, 0, 0, 0, 0),
  (19, 1, .lstore_n 3, 0, 0, 0, 0, 0),
  (20, 1, .iconst (-1), (-1), 0, 0, 0, 0),
  (21, 2, .istore 5, 0, 0, 0, 0, 0),
  (23, 1, .aload_n 0, 0, 0, 0, 0, 0),
  (24, 3, .getfield 22, 0, 0, 363, 9, 2),
  (27, 1, .iload_n 1, 0, 0, 0, 0, 0),
  (28, 1, .iaload, 0, 0, 0, 0, 0),
  (29, 2, .istore 6, 0, 0, 0, 0, 0),
  (31, 2, .iload 6, 0, 0, 0, 0, 0),
  (33, 1, .aload_n 0, 0, 0, 0, 0, 0),
  (34, 3, .getfield 22, 0, 0, 363, 9, 2),
  (37, 1, .iload_n 1, 0, 0, 0, 0, 0),
  (38, 1, .iconst 1, 1, 0, 0, 0, 0),
  (39, 1, .iadd, 0, 0, 0, 0, 0),
  (40, 1, .iaload, 0, 0, 0, 0, 0),
  (41, 3, .if_icmp .ge 79, 0, 0, 0, 120, 0),
  (44, 2, .iload 5, 0, 0, 0, 0, 0),
  (46, 3, .ifCond .lt 27, 0, 0, 0, 73, 0),
  (49, 1, .iload_n 2, 0, 0, 0, 0, 0),
  (50, 3, .ifCond .ne 23, 0, 0, 0, 73, 0),
  (53, 1, .aload_n 0, 0, 0, 0, 0, 0),
  (54, 3, .getfield 42, 0, 0, 368, 9, 7),
  (57, 2, .iload 6, 0, 0, 0, 0, 0),
  (59, 1, .baload, 0, 0, 0, 22, 0),
  (60, 1, .aload_n 0, 0, 0, 0, 0, 0),
  (61, 3, .getfield 42, 0, 0, 368, 9, 7),
  (64, 2, .iload 5, 0, 0, 0, 0, 0),
  (66, 1, .baload, 0, 0, 0, 22, 0),
  (67, 3, .if_icmp .le 6, 0, 0, 0, 73, 0),
  (70, 3, .goto 50, 0, 0, 0, 120, 0),
  (73, 1, .aload_n 0, 0, 0, 0, 0, 0),
  (74, 1, .aload_n 0, 0, 0, 0, 0, 0),
  (75, 3, .getfield 35, 0, 0, 366, 9, 5),
  (78, 2, .iload 6, 0, 0, 0, 0, 0),
  (80, 1, .laload, 0, 0, 0, 0, 0),
  (81, 1, .lload_n 3, 0, 0, 0, 0, 0),
  (82, 3, .invokevirtual 206, 0, 0, 997, 0, 100),
  (85, 3, .ifCond .eq 29, 0, 0, 0, 114, 0),
  (88, 2, .iload 5, 0, 0, 0, 0, 0),
  (90, 3, .ifCond .lt 20, 0, 0, 0, 110, 0),
  (93, 1, .aload_n 0, 0, 0, 0, 0, 0),
  (94, 3, .getfield 46, 0, 0, 369, 9, 8),
  (97, 2, .iload 6, 0, 0, 0, 0, 0),
  (99, 1, .baload, 0, 0, 0, 22, 0),
  (100, 1, .aload_n 0, 0, 0, 0, 0, 0),
  (101, 3, .getfield 46, 0, 0, 369, 9, 8),
  (104, 2, .iload 5, 0, 0, 0, 0, 0),
  (106, 1, .baload, 0, 0, 0, 22, 0),
  (107, 3, .if_icmp .ge 7, 0, 0, 0, 114, 0),
  (110, 2, .iload 6, 0, 0, 0, 0, 0),
  (112, 2, .istore 5, 0, 0, 0, 0, 0),
  (114, 3, .iinc 6 1, 1, 0, 0, 0, 0),
  (117, 3, .goto (-86), 0, 0, 0, 31, 0),
  (120, 2, .iload 5, 0, 0, 0, 0, 0),
  (122, 1, .ireturn, 0, 0, 0, 0, 0)]
set_option maxRecDepth 100000 in
theorem zk_101 : zt_101.all (zx_chk 101) = true := by decide +kernel
/-- NamesThatShrink$Search.tellCalls(LNamesThatShrink$Row;)I -/
def zt_102 : List zx_En := [
  (0, 1, .iconst 0, 0, 0, 0, 0, 0),
  (1, 1, .istore_n 2, 0, 0, 0, 0, 0),
  (2, 1, .iconst 0, 0, 0, 0, 0, 0),
  (3, 1, .istore_n 3, 0, 0, 0, 0, 0),
  (4, 1, .iload_n 3, 0, 0, 0, 0, 0),
  (5, 1, .aload_n 0, 0, 0, 0, 0, 0),
  (6, 3, .getfield 12, 0, 0, 361, 9, 0),
  (9, 3, .getfield 93, 0, 0, 334, 3, 8),
  (12, 3, .if_icmp .ge 42, 0, 0, 0, 54, 0),
  (15, 1, .aload_n 0, 0, 0, 0, 0, 0),
  (16, 1, .iload_n 3, 0, 0, 0, 0, 0),
  (17, 1, .iconst 0, 0, 0, 0, 0, 0),
  (18, 3, .invokevirtual 210, 0, 0, 993, 0, 101),
  (21, 2, .istore 4, 0, 0, 0, 0, 0),
  (23, 2, .iload 4, 0, 0, 0, 0, 0),
  (25, 3, .ifCond .ge 6, 0, 0, 0, 31, 0),
  (28, 2, .bipush (-2), (-2), 0, 0, 0, 0),
  (30, 1, .ireturn, 0, 0, 0, 0, 0),
  (31, 1, .iload_n 2, 0, 0, 0, 0, 0),
  (32, 1, .aload_n 0, 0, 0, 0, 0, 0),
  (33, 3, .getfield 42, 0, 0, 368, 9, 7),
  (36, 2, .iload 4, 0, 0, 0, 0, 0),
  (38, 1, .baload, 0, 0, 0, 22, 0),
  (39, 1, .iadd, 0, 0, 0, 0, 0),
  (40, 1, .istore_n 2, 0, 0, 0, 0, 0),
  (41, 1, .aload_n 0, 0, 0, 0, 0, 0),
  (42, 1, .iload_n 3, 0, 0, 0, 0, 0),
  (43, 2, .iload 4, 0, 0, 0, 0, 0),
  (45, 3, .invokevirtual 214, 0, 0, 1001, 0, 103),
  (48, 3, .iinc 3 1, 1, 0, 0, 0, 0),
  (51, 3, .goto (-47), 0, 0, 0, 4, 0),
  (54, 1, .aload_n 1, 0, 0, 0, 0, 0),
  (55, 3, .invokevirtual 218, 0, 0, 1008, 0, 81),
  (58, 1, .iconst 0, 0, 0, 0, 0, 0),
  (59, 1, .istore_n 3, 0, 0, 0, 0, 0),
  (60, 1, .iload_n 3, 0, 0, 0, 0, 0),
  (61, 1, .iload_n 2, 0, 0, 0, 0, 0),
  (62, 3, .if_icmp .ge 23, 0, 0, 0, 85, 0),
  (65, 1, .iload_n 3, 0, 0, 0, 0, 0),
  (66, 2, .bipush 12, 12, 0, 0, 0, 0),
  (68, 3, .if_icmp .ge 17, 0, 0, 0, 85, 0),
  (71, 1, .aload_n 1, 0, 0, 0, 0, 0),
  (72, 1, .aload_n 0, 0, 0, 0, 0, 0),
  (73, 3, .invokevirtual 221, 0, 0, 1009, 0, 104),
  (76, 3, .invokevirtual 225, 0, 0, 1013, 0, 82),
  (79, 3, .iinc 3 1, 1, 0, 0, 0, 0),
  (82, 3, .goto (-22), 0, 0, 0, 60, 0),
  (85, 1, .iload_n 2, 0, 0, 0, 0, 0),
  (86, 1, .ireturn, 0, 0, 0, 0, 0)]
set_option maxRecDepth 100000 in
theorem zk_102 : zt_102.all (zx_chk 102) = true := by decide +kernel
/-- NamesThatShrink$Search.trace(II)V -/
def zt_103 : List zx_En := [
  (0, 1, .aload_n 0, 0, 0, 0, 0, 0),
  (1, 3, .getfield 32, 0, 0, 365, 9, 4),
  (4, 1, .iload_n 1, 0, 0, 0, 0, 0),
  (5, 1, .iconst 0, 0, 0, 0, 0, 0),
  (6, 1, .iastore, 0, 0, 0, 0, 0),
  (7, 1, .aload_n 0, 0, 0, 0, 0, 0),
  (8, 3, .getfield 29, 0, 0, 364, 9, 3),
  (11, 1, .iload_n 1, 0, 0, 0, 0, 0),
  (12, 1, .aaload, 0, 0, 0, 0, 0),
  (13, 1, .iconst 0, 0, 0, 0, 0, 0),
  (14, 3, .invokestatic 227, 0, 0, 1005, 2, 271),
  (17, 1, .iload_n 2, 0, 0, 0, 0, 0),
  (18, 1, .istore_n 3, 0, 0, 0, 0, 0),
  (19, 1, .aload_n 0, 0, 0, 0, 0, 0),
  (20, 3, .getfield 42, 0, 0, 368, 9, 7),
  (23, 1, .iload_n 2, 0, 0, 0, 0, 0),
  (24, 1, .baload, 0, 0, 0, 22, 0),
  (25, 1, .iconst 1, 1, 0, 0, 0, 0),
  (26, 1, .isub, 0, 0, 0, 0, 0),
  (27, 2, .istore 4, 0, 0, 0, 0, 0),
  (29, 2, .iload 4, 0, 0, 0, 0, 0),
  (31, 3, .ifCond .lt 110, 0, 0, 0, 141, 0),
  (34, 1, .aload_n 0, 0, 0, 0, 0, 0),
  (35, 3, .getfield 39, 0, 0, 367, 9, 6),
  (38, 1, .iload_n 3, 0, 0, 0, 0, 0),
  (39, 1, .iaload, 0, 0, 0, 0, 0),
  (40, 3, .ifCond .lt 101, 0, 0, 0, 141, 0),
  (43, 1, .aload_n 0, 0, 0, 0, 0, 0),
  (44, 3, .getfield 35, 0, 0, 366, 9, 5),
  (47, 1, .aload_n 0, 0, 0, 0, 0, 0),
  (48, 3, .getfield 39, 0, 0, 367, 9, 6),
  (51, 1, .iload_n 3, 0, 0, 0, 0, 0),
  (52, 1, .iaload, 0, 0, 0, 0, 0),
  (53, 1, .laload, 0, 0, 0, 0, 0),
  (54, 2, .lstore 5, 0, 0, 0, 0, 0),
  (56, 2, .lload 5, 0, 0, 0, 0, 0),
  (58, 1, .aload_n 0, 0, 0, 0, 0, 0),
  (59, 3, .getfield 35, 0, 0, 366, 9, 5),
  (62, 1, .iload_n 3, 0, 0, 0, 0, 0),
  (63, 1, .laload, 0, 0, 0, 0, 0),
  (64, 1, .lsub, 0, 0, 0, 0, 0),
  (65, 3, .invokestatic 150, 0, 0, 967, 2, 267),
  (68, 1, .iconst 5, 5, 0, 0, 0, 0),
  (69, 1, .idiv, 0, 0, 0, 0, 0),
  (70, 2, .istore 7, 0, 0, 0, 0, 0),
  (72, 2, .lload 5, 0, 0, 0, 0, 0),
  (74, 1, .iconst 5, 5, 0, 0, 0, 0),
  (75, 2, .iload 7, 0, 0, 0, 0, 0),
  (77, 1, .imul, 0, 0, 0, 0, 0),
  (78, 1, .lushr, 0, 0, 0, 0, 0),
  (79, 1, .l2i, 0, 0, 0, 0, 0),
  (80, 2, .bipush 15, 15, 0, 0, 0, 0),
  (82, 1, .iand, 0, 0, 0, 0, 0),
  (83, 2, .istore 8, 0, 0, 0, 0, 0),
  (85, 2, .iload 4, 0, 0, 0, 0, 0),
  (87, 2, .bipush 12, 12, 0, 0, 0, 0),
  (89, 3, .if_icmp .ge 39, 0, 0, 0, 128, 0),
  (92, 2, .iload 7, 0, 0, 0, 0, 0),
  (94, 2, .bipush 10, 10, 0, 0, 0, 0),
  (96, 3, .if_icmp .ge 32, 0, 0, 0, 128, 0),
  (99, 2, .iload 8, 0, 0, 0, 0, 0),
  (101, 2, .bipush 8, 8, 0, 0, 0, 0),
  (103, 3, .if_icmp .gt 25, 0, 0, 0, 128, 0),
  (106, 1, .aload_n 0, 0, 0, 0, 0, 0),
  (107, 3, .getfield 29, 0, 0, 364, 9, 3),
  (110, 1, .iload_n 1, 0, 0, 0, 0, 0),
  (111, 1, .aaload, 0, 0, 0, 0, 0),
  (112, 2, .iload 4, 0, 0, 0, 0, 0),
  (114, 1, .aload_n 0, 0, 0, 0, 0, 0),
  (115, 3, .getfield 12, 0, 0, 361, 9, 0),
  (118, 3, .getfield 233, 0, 0, 327, 3, 3),
  (121, 2, .iload 7, 0, 0, 0, 0, 0),
  (123, 1, .aaload, 0, 0, 0, 0, 0),
  (124, 2, .iload 8, 0, 0, 0, 0, 0),
  (126, 1, .iaload, 0, 0, 0, 0, 0),
  (127, 1, .iastore, 0, 0, 0, 0, 0),
  (128, 1, .aload_n 0, 0, 0, 0, 0, 0),
  (129, 3, .getfield 39, 0, 0, 367, 9, 6),
  (132, 1, .iload_n 3, 0, 0, 0, 0, 0),
  (133, 1, .iaload, 0, 0, 0, 0, 0),
  (134, 1, .istore_n 3, 0, 0, 0, 0, 0),
  (135, 3, .iinc 4 (-1), (-1), 0, 0, 0, 0),
  (138, 3, .goto (-109), 0, 0, 0, 29, 0),
  (141, 1, .return_, 0, 0, 0, 0, 0)]
set_option maxRecDepth 100000 in
theorem zk_103 : zt_103.all (zx_chk 103) = true := by decide +kernel
/-- NamesThatShrink$Search.nextCall()I -/
def zt_104 : List zx_En := [
  (0, 1, .iconst 0, 0, 0, 0, 0, 0),
  (1, 1, .istore_n 1, 0, 0, 0, 0, 0),
  (2, 1, .iconst (-1), (-1), 0, 0, 0, 0),
  (3, 1, .istore_n 2, 0, 0, 0, 0, 0),
  (4, 1, .iconst 0, 0, 0, 0, 0, 0),
  (5, 1, .istore_n 3, 0, 0, 0, 0, 0),
  (6, 1, .iload_n 3, 0, 0, 0, 0, 0),
  (7, 1, .aload_n 0, 0, 0, 0, 0, 0),
  (8, 3, .getfield 12, 0, 0, 361, 9, 0),
  (11, 3, .getfield 93, 0, 0, 334, 3, 8),
  (14, 3, .if_icmp .ge 59, 0, 0, 0, 73, 0),
  (17, 1, .aload_n 0, 0, 0, 0, 0, 0),
  (18, 3, .getfield 32, 0, 0, 365, 9, 4),
  (21, 1, .iload_n 3, 0, 0, 0, 0, 0),
  (22, 1, .iaload, 0, 0, 0, 0, 0),
  (23, 2, .bipush 12, 12, 0, 0, 0, 0),
  (25, 3, .if_icmp .ge 19, 0, 0, 0, 44, 0),
  (28, 1, .aload_n 0, 0, 0, 0, 0, 0),
  (29, 3, .getfield 29, 0, 0, 364, 9, 3),
  (32, 1, .iload_n 3, 0, 0, 0, 0, 0),
  (33, 1, .aaload, 0, 0, 0, 0, 0),
  (34, 1, .aload_n 0, 0, 0, 0, 0, 0),
  (35, 3, .getfield 32, 0, 0, 365, 9, 4),
  (38, 1, .iload_n 3, 0, 0, 0, 0, 0),
  (39, 1, .iaload, 0, 0, 0, 0, 0),
  (40, 1, .iaload, 0, 0, 0, 0, 0),
  (41, 3, .goto 4, 0, 0, 0, 45, 0),
  (44, 1, .iconst 0, 0, 0, 0, 0, 0),
  (45, 2, .istore 4, 0, 0, 0, 0, 0),
  (47, 2, .iload 4, 0, 0, 0, 0, 0),
  (49, 3, .ifCond .eq 18, 0, 0, 0, 67, 0),
  (52, 1, .iload_n 2, 0, 0, 0, 0, 0),
  (53, 3, .ifCond .lt 9, 0, 0, 0, 62, 0),
  (56, 2, .iload 4, 0, 0, 0, 0, 0),
  (58, 1, .iload_n 1, 0, 0, 0, 0, 0),
  (59, 3, .if_icmp .ge 8, 0, 0, 0, 67, 0),
  (62, 2, .iload 4, 0, 0, 0, 0, 0),
  (64, 1, .istore_n 1, 0, 0, 0, 0, 0),
  (65, 1, .iload_n 3, 0, 0, 0, 0, 0),
  (66, 1, .istore_n 2, 0, 0, 0, 0, 0),
  (67, 3, .iinc 3 1, 1, 0, 0, 0, 0),
  (70, 3, .goto (-64), 0, 0, 0, 6, 0),
  (73, 1, .iload_n 2, 0, 0, 0, 0, 0),
  (74, 3, .ifCond .lt 13, 0, 0, 0, 87, 0),
  (77, 1, .aload_n 0, 0, 0, 0, 0, 0),
  (78, 3, .getfield 32, 0, 0, 365, 9, 4),
  (81, 1, .iload_n 2, 0, 0, 0, 0, 0),
  (82, 1, .dup2, 0, 0, 0, 0, 0),
  (83, 1, .iaload, 0, 0, 0, 0, 0),
  (84, 1, .iconst 1, 1, 0, 0, 0, 0),
  (85, 1, .iadd, 0, 0, 0, 0, 0),
  (86, 1, .iastore, 0, 0, 0, 0, 0),
  (87, 1, .iload_n 1, 0, 0, 0, 0, 0),
  (88, 1, .ireturn, 0, 0, 0, 0, 0)]
set_option maxRecDepth 100000 in
theorem zk_104 : zt_104.all (zx_chk 104) = true := by decide +kernel
/-- NamesThatShrink$Search.tellLosses(LNamesThatShrink$Row;)I -/
def zt_105 : List zx_En := [
  (0, 1, .iconst 0, 0, 0, 0, 0, 0),
  (1, 1, .istore_n 2, 0, 0, 0, 0, 0),
  (2, 1, .iconst 0, 0, 0, 0, 0, 0),
  (3, 1, .istore_n 3, 0, 0, 0, 0, 0),
  (4, 1, .iconst 0, 0, 0, 0, 0, 0),
  (5, 2, .istore 4, 0, 0, 0, 0, 0),
  (7, 2, .iload 4, 0, 0, 0, 0, 0),
  (9, 1, .aload_n 0, 0, 0, 0, 0, 0),
  (10, 3, .getfield 12, 0, 0, 361, 9, 0),
  (13, 3, .getfield 93, 0, 0, 334, 3, 8),
  (16, 3, .if_icmp .ge 46, 0, 0, 0, 62, 0),
  (19, 1, .aload_n 0, 0, 0, 0, 0, 0),
  (20, 2, .iload 4, 0, 0, 0, 0, 0),
  (22, 1, .iconst 1, 1, 0, 0, 0, 0),
  (23, 3, .invokevirtual 210, 0, 0, 993, 0, 101),
  (26, 2, .istore 5, 0, 0, 0, 0, 0),
  (28, 2, .iload 5, 0, 0, 0, 0, 0),
  (30, 3, .ifCond .ge 6, 0, 0, 0, 36, 0),
  (33, 2, .bipush (-2), (-2), 0, 0, 0, 0),
  (35, 1, .ireturn, 0, 0, 0, 0, 0),
  (36, 1, .iload_n 2, 0, 0, 0, 0, 0),
  (37, 1, .aload_n 0, 0, 0, 0, 0, 0),
  (38, 3, .getfield 46, 0, 0, 369, 9, 8),
  (41, 2, .iload 5, 0, 0, 0, 0, 0),
  (43, 1, .baload, 0, 0, 0, 22, 0),
  (44, 1, .iadd, 0, 0, 0, 0, 0),
  (45, 1, .istore_n 2, 0, 0, 0, 0, 0),
  (46, 1, .iload_n 3, 0, 0, 0, 0, 0),
  (47, 1, .aload_n 0, 0, 0, 0, 0, 0),
  (48, 3, .getfield 42, 0, 0, 368, 9, 7),
  (51, 2, .iload 5, 0, 0, 0, 0, 0),
  (53, 1, .baload, 0, 0, 0, 22, 0),
  (54, 1, .iadd, 0, 0, 0, 0, 0),
  (55, 1, .istore_n 3, 0, 0, 0, 0, 0),
  (56, 3, .iinc 4 1, 1, 0, 0, 0, 0),
  (59, 3, .goto (-52), 0, 0, 0, 7, 0),
  (62, 1, .aload_n 1, 0, 0, 0, 0, 0),
  (63, 3, .invokevirtual 218, 0, 0, 1008, 0, 81),
  (66, 1, .aload_n 1, 0, 0, 0, 0, 0),
  (67, 1, .iload_n 3, 0, 0, 0, 0, 0),
  (68, 3, .invokevirtual 225, 0, 0, 1013, 0, 82),
  (71, 1, .iload_n 2, 0, 0, 0, 0, 0),
  (72, 1, .ireturn, 0, 0, 0, 0, 0)]
set_option maxRecDepth 100000 in
theorem zk_105 : zt_105.all (zx_chk 105) = true := by decide +kernel
/-- NamesThatShrink$Search.tellAlone(IILNamesThatShrink$Row;)I -/
def zt_106 : List zx_En := [
  (0, 1, .aload_n 0, 0, 0, 0, 0, 0),
  (1, 3, .getfield 12, 0, 0, 361, 9, 0),
  (4, 1, .iload_n 1, 0, 0, 0, 0, 0),
  (5, 3, .invokevirtual 197, 0, 0, 985, 0, 29),
  (8, 2, .istore 4, 0, 0, 0, 0, 0),
  (10, 2, .iload 4, 0, 0, 0, 0, 0),
  (12, 3, .ifCond .lt 17, 0, 0, 0, 29, 0),
  (15, 1, .aload_n 0, 0, 0, 0, 0, 0),
  (16, 3, .getfield 12, 0, 0, 361, 9, 0),
  (19, 3, .getfield 140, 0, 0, 325, 3, 2),
  (22, 2, .iload 4, 0, 0, 0, 0, 0),
  (24, 1, .iaload, 0, 0, 0, 0, 0),
  (25, 1, .iload_n 2, 0, 0, 0, 0, 0),
  (26, 3, .if_icmp .ge 6, 0, 0, 0, 32, 0),
  (29, 2, .bipush (-2), (-2), 0, 0, 0, 0),
  (31, 1, .ireturn, 0, 0, 0, 0, 0),
  (32, 1, .aload_n 0, 0, 0, 0, 0, 0),
  (33, 3, .getfield 12, 0, 0, 361, 9, 0),
  (36, 2, .iload 4, 0, 0, 0, 0, 0),
  (38, 3, .invokevirtual 236, 0, 0, 1038, 0, 30),
  (41, 2, .istore 5, 0, 0, 0, 0, 0),
  (43, 1, .aload_n 0, 0, 0, 0, 0, 0),
  (44, 3, .getfield 12, 0, 0, 361, 9, 0),
  (47, 3, .getfield 140, 0, 0, 325, 3, 2),
  (50, 2, .iload 4, 0, 0, 0, 0, 0),
  (52, 1, .iaload, 0, 0, 0, 0, 0),
  (53, 1, .iload_n 2, 0, 0, 0, 0, 0),
  (54, 1, .isub, 0, 0, 0, 0, 0),
  (55, 2, .istore 6, 0, 0, 0, 0, 0),
  (57, 1, .iconst (-1), (-1), 0, 0, 0, 0),
  (58, 2, .istore 7, 0, 0, 0, 0, 0),
  (60, 1, .aload_n 0, 0, 0, 0, 0, 0),
  (61, 3, .getfield 22, 0, 0, 363, 9, 2),
  (64, 2, .iload 5, 0, 0, 0, 0, 0),
  (66, 1, .iaload, 0, 0, 0, 0, 0),
  (67, 2, .istore 8, 0, 0, 0, 0, 0),
  (69, 2, .iload 8, 0, 0, 0, 0, 0),
  (71, 1, .aload_n 0, 0, 0, 0, 0, 0),
  (72, 3, .getfield 22, 0, 0, 363, 9, 2),
  (75, 2, .iload 5, 0, 0, 0, 0, 0),
  (77, 1, .iconst 1, 1, 0, 0, 0, 0),
  (78, 1, .iadd, 0, 0, 0, 0, 0),
  (79, 1, .iaload, 0, 0, 0, 0, 0),
  (80, 3, .if_icmp .ge 70, 0, 0, 0, 150, 0),
  (83, 1, .aload_n 0, 0, 0, 0, 0, 0),
  (84, 3, .getfield 35, 0, 0, 366, 9, 5),
  (87, 2, .iload 8, 0, 0, 0, 0, 0),
  (89, 1, .laload, 0, 0, 0, 0, 0),
  (90, 1, .iconst 5, 5, 0, 0, 0, 0),
  (91, 2, .iload 4, 0, 0, 0, 0, 0),
  (93, 1, .imul, 0, 0, 0, 0, 0),
  (94, 1, .lushr, 0, 0, 0, 0, 0),
  (95, 3, .ldc2_w 239, 0, 15, 1042, 0, 0),
  (98, 1, .land, 0, 0, 0, 0, 0),
  (99, 2, .iload 6, 0, 0, 0, 0, 0),
  (101, 1, .i2l, 0, 0, 0, 0, 0),
  (102, 1, .lcmp, 0, 0, 0, 0, 0),
  (103, 3, .ifCond .ne 7, 0, 0, 0, 110, 0),
  (106, 1, .iconst 1, 1, 0, 0, 0, 0),
  (107, 3, .goto 4, 0, 0, 0, 111, 0),
  (110, 1, .iconst 0, 0, 0, 0, 0, 0),
  (111, 2, .istore 9, 0, 0, 0, 0, 0),
  (113, 2, .iload 9, 0, 0, 0, 0, 0),
  (115, 3, .ifCond .eq 29, 0, 0, 0, 144, 0),
  (118, 2, .iload 7, 0, 0, 0, 0, 0),
  (120, 3, .ifCond .lt 20, 0, 0, 0, 140, 0),
  (123, 1, .aload_n 0, 0, 0, 0, 0, 0),
  (124, 3, .getfield 46, 0, 0, 369, 9, 8),
  (127, 2, .iload 8, 0, 0, 0, 0, 0),
  (129, 1, .baload, 0, 0, 0, 22, 0),
  (130, 1, .aload_n 0, 0, 0, 0, 0, 0),
  (131, 3, .getfield 46, 0, 0, 369, 9, 8),
  (134, 2, .iload 7, 0, 0, 0, 0, 0),
  (136, 1, .baload, 0, 0, 0, 22, 0),
  (137, 3, .if_icmp .ge 7, 0, 0, 0, 144, 0),
  (140, 2, .iload 8, 0, 0, 0, 0, 0),
  (142, 2, .istore 7, 0, 0, 0, 0, 0),
  (144, 3, .iinc 8 1, 1, 0, 0, 0, 0),
  (147, 3, .goto (-78), 0, 0, 0, 69, 0),
  (150, 2, .iload 7, 0, 0, 0, 0, 0),
  (152, 3, .ifCond .ge 6, 0, 0, 0, 158, 0),
  (155, 2, .bipush (-2), (-2), 0, 0, 0, 0),
  (157, 1, .ireturn, 0, 0, 0, 0, 0),
  (158, 1, .aload_n 3, 0, 0, 0, 0, 0),
  (159, 3, .invokevirtual 218, 0, 0, 1008, 0, 81),
  (162, 1, .aload_n 3, 0, 0, 0, 0, 0),
  (163, 1, .aload_n 0, 0, 0, 0, 0, 0),
  (164, 3, .getfield 42, 0, 0, 368, 9, 7),
  (167, 2, .iload 7, 0, 0, 0, 0, 0),
  (169, 1, .baload, 0, 0, 0, 22, 0),
  (170, 3, .invokevirtual 225, 0, 0, 1013, 0, 82),
  (173, 1, .aload_n 0, 0, 0, 0, 0, 0),
  (174, 3, .getfield 46, 0, 0, 369, 9, 8),
  (177, 2, .iload 7, 0, 0, 0, 0, 0),
  (179, 1, .baload, 0, 0, 0, 22, 0),
  (180, 1, .iload_n 2, 0, 0, 0, 0, 0),
  (181, 1, .isub, 0, 0, 0, 0, 0),
  (182, 1, .ireturn, 0, 0, 0, 0, 0)]
set_option maxRecDepth 100000 in
theorem zk_106 : zt_106.all (zx_chk 106) = true := by decide +kernel
/-- NamesThatShrink$Search.callsTo(J)I -/
def zt_107 : List zx_En := [
  (0, 1, .iconst 0, 0, 0, 0, 0, 0),
  (1, 1, .istore_n 3, 0, 0, 0, 0, 0),
  (2, 1, .iconst 0, 0, 0, 0, 0, 0),
  (3, 2, .istore 4, 0, 0, 0, 0, 0),
  (5, 2, .iload 4, 0, 0, 0, 0, 0),
  (7, 1, .aload_n 0, 0, 0, 0, 0, 0),
  (8, 3, .getfield 12, 0, 0, 361, 9, 0),
  (11, 3, .getfield 93, 0, 0, 334, 3, 8),
  (14, 3, .if_icmp .ge 123, 0, 0, 0, 137, 0),
  (17, 2, .iload 4, 0, 0, 0, 0, 0),
  (19, 3, .invokestatic 134, 0, 0, 940, 2, 92),
  (22, 2, .lstore 5, 0, 0, 0, 0, 0),
  (24, 1, .aload_n 0, 0, 0, 0, 0, 0),
  (25, 3, .getfield 12, 0, 0, 361, 9, 0),
  (28, 3, .getfield 137, 0, 0, 332, 3, 6),
  (31, 2, .iload 4, 0, 0, 0, 0, 0),
  (33, 1, .iaload, 0, 0, 0, 0, 0),
  (34, 2, .istore 7, 0, 0, 0, 0, 0),
  (36, 2, .iload 7, 0, 0, 0, 0, 0),
  (38, 1, .aload_n 0, 0, 0, 0, 0, 0),
  (39, 3, .getfield 12, 0, 0, 361, 9, 0),
  (42, 3, .getfield 137, 0, 0, 332, 3, 6),
  (45, 2, .iload 4, 0, 0, 0, 0, 0),
  (47, 1, .iconst 1, 1, 0, 0, 0, 0),
  (48, 1, .iadd, 0, 0, 0, 0, 0),
  (49, 1, .iaload, 0, 0, 0, 0, 0),
  (50, 3, .if_icmp .ge 34, 0, 0, 0, 84, 0),
  (53, 2, .lload 5, 0, 0, 0, 0, 0),
  (55, 1, .lload_n 1, 0, 0, 0, 0, 0),
  (56, 1, .aload_n 0, 0, 0, 0, 0, 0),
  (57, 3, .getfield 12, 0, 0, 361, 9, 0),
  (60, 3, .getfield 241, 0, 0, 322, 3, 0),
  (63, 2, .iload 7, 0, 0, 0, 0, 0),
  (65, 1, .iaload, 0, 0, 0, 0, 0),
  (66, 3, .invokestatic 193, 0, 0, 982, 4, 157),
  (69, 1, .i2l, 0, 0, 0, 0, 0),
  (70, 1, .iconst 5, 5, 0, 0, 0, 0),
  (71, 2, .iload 7, 0, 0, 0, 0, 0),
  (73, 1, .imul, 0, 0, 0, 0, 0),
  (74, 1, .lshl, 0, 0, 0, 0, 0),
  (75, 1, .lor, 0, 0, 0, 0, 0),
  (76, 2, .lstore 5, 0, 0, 0, 0, 0),
  (78, 3, .iinc 7 1, 1, 0, 0, 0, 0),
  (81, 3, .goto (-45), 0, 0, 0, 36, 0),
  (84, 1, .aload_n 0, 0, 0, 0, 0, 0),
  (85, 2, .lload 5, 0, 0, 0, 0, 0),
  (87, 3, .invokevirtual 171, 0, 0, 947, 0, 97),
  (90, 2, .istore 7, 0, 0, 0, 0, 0),
  (92, 2, .iload 7, 0, 0, 0, 0, 0),
  (94, 3, .ifCond .lt 12, 0, 0, 0, 106, 0),
  (97, 1, .aload_n 0, 0, 0, 0, 0, 0),
  (98, 2, .iload 7, 0, 0, 0, 0, 0),
  (100, 3, .invokevirtual 174, 0, 0, 952, 0, 96),
  (103, 3, .ifCond .ne 6, 0, 0, 0, 109, 0),
  (106, 2, .bipush (-2), (-2), 0, 0, 0, 0),
  (108, 1, .ireturn, 0, 0, 0, 0, 0),
  (109, 1, .iload_n 3, 0, 0, 0, 0, 0),
  (110, 1, .aload_n 0, 0, 0, 0, 0, 0),
  (111, 3, .getfield 42, 0, 0, 368, 9, 7),
  (114, 1, .aload_n 0, 0, 0, 0, 0, 0),
  (115, 3, .getfield 49, 0, 0, 370, 9, 9),
  (118, 2, .iload 7, 0, 0, 0, 0, 0),
  (120, 1, .iaload, 0, 0, 0, 0, 0),
  (121, 1, .aload_n 0, 0, 0, 0, 0, 0),
  (122, 3, .getfield 120, 0, 0, 372, 9, 11),
  (125, 1, .isub, 0, 0, 0, 0, 0),
  (126, 1, .iconst 1, 1, 0, 0, 0, 0),
  (127, 1, .isub, 0, 0, 0, 0, 0),
  (128, 1, .baload, 0, 0, 0, 22, 0),
  (129, 1, .iadd, 0, 0, 0, 0, 0),
  (130, 1, .istore_n 3, 0, 0, 0, 0, 0),
  (131, 3, .iinc 4 1, 1, 0, 0, 0, 0),
  (134, 3, .goto (-129), 0, 0, 0, 5, 0),
  (137, 1, .iload_n 3, 0, 0, 0, 0, 0),
  (138, 1, .ireturn, 0, 0, 0, 0, 0)]
set_option maxRecDepth 100000 in
theorem zk_107 : zt_107.all (zx_chk 107) = true := by decide +kernel
/-- NamesThatShrink$Text.<init>()V -/
def zt_108 : List zx_En := [
  (0, 1, .aload_n 0, 0, 0, 0, 0, 0),
  (1, 3, .invokespecial 3, 0, 0, 133, 5, 0),
  (4, 1, .aload_n 0, 0, 0, 0, 0, 0),
  (5, 2, .bipush 80, 80, 0, 0, 0, 0),
  (7, 2, .newarray .int, 0, 0, 158, 20, 0),
  (9, 3, .putfield 11, 0, 0, 134, 10, 0),
  (12, 1, .return_, 0, 0, 0, 0, 0)]
set_option maxRecDepth 100000 in
theorem zk_108 : zt_108.all (zx_chk 108) = true := by decide +kernel
/-- NamesThatShrink$Text.append(I)Z -/
def zt_109 : List zx_En := [
  (0, 1, .aload_n 0, 0, 0, 0, 0, 0),
  (1, 3, .getfield 15, 0, 0, 135, 10, 1),
  (4, 1, .iconst 4, 4, 0, 0, 0, 0),
  (5, 1, .iadd, 0, 0, 0, 0, 0),
  (6, 2, .bipush 80, 80, 0, 0, 0, 0),
  (8, 3, .if_icmp .le 5, 0, 0, 0, 13, 0),
  (11, 1, .iconst 0, 0, 0, 0, 0, 0),
  (12, 1, .ireturn, 0, 0, 0, 0, 0),
  (13, 1, .iconst 0, 0, 0, 0, 0, 0),
  (14, 1, .istore_n 2, 0, 0, 0, 0, 0),
  (15, 1, .iload_n 2, 0, 0, 0, 0, 0),
  (16, 1, .iconst 4, 4, 0, 0, 0, 0),
  (17, 3, .if_icmp .ge 33, 0, 0, 0, 50, 0),
  (20, 1, .aload_n 0, 0, 0, 0, 0, 0),
  (21, 3, .getfield 11, 0, 0, 134, 10, 0),
  (24, 1, .aload_n 0, 0, 0, 0, 0, 0),
  (25, 3, .getfield 15, 0, 0, 135, 10, 1),
  (28, 1, .iload_n 2, 0, 0, 0, 0, 0),
  (29, 1, .iadd, 0, 0, 0, 0, 0),
  (30, 1, .iload_n 1, 0, 0, 0, 0, 0),
  (31, 2, .bipush 24, 24, 0, 0, 0, 0),
  (33, 2, .bipush 8, 8, 0, 0, 0, 0),
  (35, 1, .iload_n 2, 0, 0, 0, 0, 0),
  (36, 1, .imul, 0, 0, 0, 0, 0),
  (37, 1, .isub, 0, 0, 0, 0, 0),
  (38, 1, .iushr, 0, 0, 0, 0, 0),
  (39, 3, .sipush 255, 255, 0, 0, 0, 0),
  (42, 1, .iand, 0, 0, 0, 0, 0),
  (43, 1, .iastore, 0, 0, 0, 0, 0),
  (44, 3, .iinc 2 1, 1, 0, 0, 0, 0),
  (47, 3, .goto (-32), 0, 0, 0, 15, 0),
  (50, 1, .aload_n 0, 0, 0, 0, 0, 0),
  (51, 1, .dup, 0, 0, 0, 0, 0),
  (52, 3, .getfield 15, 0, 0, 135, 10, 1),
  (55, 1, .iconst 4, 4, 0, 0, 0, 0),
  (56, 1, .iadd, 0, 0, 0, 0, 0),
  (57, 3, .putfield 15, 0, 0, 135, 10, 1),
  (60, 1, .iconst 1, 1, 0, 0, 0, 0),
  (61, 1, .ireturn, 0, 0, 0, 0, 0)]
set_option maxRecDepth 100000 in
theorem zk_109 : zt_109.all (zx_chk 109) = true := by decide +kernel
/-- NamesThatShrink$Text.cut(I)Z -/
def zt_110 : List zx_En := [
  (0, 1, .iload_n 1, 0, 0, 0, 0, 0),
  (1, 3, .ifCond .lt 11, 0, 0, 0, 12, 0),
  (4, 1, .iload_n 1, 0, 0, 0, 0, 0),
  (5, 1, .aload_n 0, 0, 0, 0, 0, 0),
  (6, 3, .getfield 15, 0, 0, 135, 10, 1),
  (9, 3, .if_icmp .le 5, 0, 0, 0, 14, 0),
  (12, 1, .iconst 0, 0, 0, 0, 0, 0),
  (13, 1, .ireturn, 0, 0, 0, 0, 0),
  (14, 1, .aload_n 0, 0, 0, 0, 0, 0),
  (15, 1, .iload_n 1, 0, 0, 0, 0, 0),
  (16, 3, .putfield 15, 0, 0, 135, 10, 1),
  (19, 1, .iconst 1, 1, 0, 0, 0, 0),
  (20, 1, .ireturn, 0, 0, 0, 0, 0)]
set_option maxRecDepth 100000 in
theorem zk_110 : zt_110.all (zx_chk 110) = true := by decide +kernel
/-- NamesThatShrink$Text.startReading(I)V -/
def zt_111 : List zx_En := [
  (0, 1, .aload_n 0, 0, 0, 0, 0, 0),
  (1, 1, .iload_n 1, 0, 0, 0, 0, 0),
  (2, 3, .putfield 19, 0, 0, 137, 10, 2),
  (5, 1, .aload_n 0, 0, 0, 0, 0, 0),
  (6, 1, .iconst 0, 0, 0, 0, 0, 0),
  (7, 3, .putfield 22, 0, 0, 138, 10, 3),
  (10, 1, .return_, 0, 0, 0, 0, 0)]
set_option maxRecDepth 100000 in
theorem zk_111 : zt_111.all (zx_chk 111) = true := by decide +kernel
/-- NamesThatShrink$Text.look()I -/
def zt_112 : List zx_En := [
  (0, 1, .aload_n 0, 0, 0, 0, 0, 0),
  (1, 3, .getfield 22, 0, 0, 138, 10, 3),
  (4, 3, .ifCond .lt 23, 0, 0, 0, 27, 0),
  (7, 1, .aload_n 0, 0, 0, 0, 0, 0),
  (8, 3, .getfield 22, 0, 0, 138, 10, 3),
  (11, 1, .aload_n 0, 0, 0, 0, 0, 0),
  (12, 3, .getfield 15, 0, 0, 135, 10, 1),
  (15, 3, .if_icmp .ge 12, 0, 0, 0, 27, 0),
  (18, 1, .aload_n 0, 0, 0, 0, 0, 0),
  (19, 3, .getfield 22, 0, 0, 138, 10, 3),
  (22, 2, .bipush 80, 80, 0, 0, 0, 0),
  (24, 3, .if_icmp .lt 5, 0, 0, 0, 29, 0),
  (27, 1, .iconst (-1), (-1), 0, 0, 0, 0),
  (28, 1, .ireturn, 0, 0, 0, 0, 0),
  (29, 1, .aload_n 0, 0, 0, 0, 0, 0),
  (30, 3, .getfield 22, 0, 0, 138, 10, 3),
  (33, 1, .aload_n 0, 0, 0, 0, 0, 0),
  (34, 3, .getfield 19, 0, 0, 137, 10, 2),
  (37, 3, .if_icmp .ge 15, 0, 0, 0, 52, 0),
  (40, 1, .aload_n 0, 0, 0, 0, 0, 0),
  (41, 3, .getfield 11, 0, 0, 134, 10, 0),
  (44, 1, .aload_n 0, 0, 0, 0, 0, 0),
  (45, 3, .getfield 22, 0, 0, 138, 10, 3),
  (48, 1, .iaload, 0, 0, 0, 0, 0),
  (49, 3, .goto 5, 0, 0, 0, 54, 0),
  (52, 2, .bipush (-2), (-2), 0, 0, 0, 0),
  (54, 1, .ireturn, 0, 0, 0, 0, 0)]
set_option maxRecDepth 100000 in
theorem zk_112 : zt_112.all (zx_chk 112) = true := by decide +kernel
/-- NamesThatShrink$Text.fault()I -/
def zt_113 : List zx_En := [
  (0, 1, .iconst (-1), (-1), 0, 0, 0, 0),
  (1, 1, .aload_n 0, 0, 0, 0, 0, 0),
  (2, 3, .getfield 22, 0, 0, 138, 10, 3),
  (5, 1, .isub, 0, 0, 0, 0, 0),
  (6, 1, .ireturn, 0, 0, 0, 0, 0)]
set_option maxRecDepth 100000 in
theorem zk_113 : zt_113.all (zx_chk 113) = true := by decide +kernel
/-- NamesThatShrink$Text.take(I)Z -/
def zt_114 : List zx_En := [
  (0, 1, .aload_n 0, 0, 0, 0, 0, 0),
  (1, 3, .invokevirtual 25, 0, 0, 597, 0, 112),
  (4, 1, .iload_n 1, 0, 0, 0, 0, 0),
  (5, 3, .if_icmp .eq 5, 0, 0, 0, 10, 0),
  (8, 1, .iconst 0, 0, 0, 0, 0, 0),
  (9, 1, .ireturn, 0, 0, 0, 0, 0),
  (10, 1, .aload_n 0, 0, 0, 0, 0, 0),
  (11, 1, .dup, 0, 0, 0, 0, 0),
  (12, 3, .getfield 22, 0, 0, 138, 10, 3),
  (15, 1, .iconst 1, 1, 0, 0, 0, 0),
  (16, 1, .iadd, 0, 0, 0, 0, 0),
  (17, 3, .putfield 22, 0, 0, 138, 10, 3),
  (20, 1, .iconst 1, 1, 0, 0, 0, 0),
  (21, 1, .ireturn, 0, 0, 0, 0, 0)]
set_option maxRecDepth 100000 in
theorem zk_114 : zt_114.all (zx_chk 114) = true := by decide +kernel
/-- NamesThatShrink$Text.takeDigit()I -/
def zt_115 : List zx_En := [
  (0, 1, .aload_n 0, 0, 0, 0, 0, 0),
  (1, 3, .invokevirtual 25, 0, 0, 597, 0, 112),
  (4, 2, .bipush 48, 48, 0, 0, 0, 0),
  (6, 1, .isub, 0, 0, 0, 0, 0),
  (7, 1, .istore_n 1, 0, 0, 0, 0, 0),
  (8, 1, .iload_n 1, 0, 0, 0, 0, 0),
  (9, 1, .iconst 1, 1, 0, 0, 0, 0),
  (10, 3, .if_icmp .lt 9, 0, 0, 0, 19, 0),
  (13, 1, .iload_n 1, 0, 0, 0, 0, 0),
  (14, 2, .bipush 9, 9, 0, 0, 0, 0),
  (16, 3, .if_icmp .le 5, 0, 0, 0, 21, 0),
  (19, 1, .iconst 0, 0, 0, 0, 0, 0),
  (20, 1, .ireturn, 0, 0, 0, 0, 0),
  (21, 1, .aload_n 0, 0, 0, 0, 0, 0),
  (22, 1, .dup, 0, 0, 0, 0, 0),
  (23, 3, .getfield 22, 0, 0, 138, 10, 3),
  (26, 1, .iconst 1, 1, 0, 0, 0, 0),
  (27, 1, .iadd, 0, 0, 0, 0, 0),
  (28, 3, .putfield 22, 0, 0, 138, 10, 3),
  (31, 1, .iload_n 1, 0, 0, 0, 0, 0),
  (32, 1, .ireturn, 0, 0, 0, 0, 0)]
set_option maxRecDepth 100000 in
theorem zk_115 : zt_115.all (zx_chk 115) = true := by decide +kernel
/-- NamesThatShrink$Text.takeName()V -/
def zt_116 : List zx_En := [
  (0, 1, .aload_n 0, 0, 0, 0, 0, 0),
  (1, 1, .iconst 0, 0, 0, 0, 0, 0),
  (2, 3, .putfield 29, 0, 0, 141, 10, 4),
  (5, 1, .aload_n 0, 0, 0, 0, 0, 0),
  (6, 1, .iconst 0, 0, 0, 0, 0, 0),
  (7, 3, .putfield 32, 0, 0, 144, 10, 5),
  (10, 1, .iconst 0, 0, 0, 0, 0, 0),
  (11, 1, .istore_n 1, 0, 0, 0, 0, 0),
  (12, 1, .iload_n 1, 0, 0, 0, 0, 0),
  (13, 2, .bipush 8, 8, 0, 0, 0, 0),
  (15, 3, .if_icmp .ge 64, 0, 0, 0, 79, 0),
  (18, 1, .aload_n 0, 0, 0, 0, 0, 0),
  (19, 3, .invokevirtual 25, 0, 0, 597, 0, 112),
  (22, 2, .bipush 97, 97, 0, 0, 0, 0),
  (24, 1, .isub, 0, 0, 0, 0, 0),
  (25, 1, .iconst 1, 1, 0, 0, 0, 0),
  (26, 1, .iadd, 0, 0, 0, 0, 0),
  (27, 1, .istore_n 2, 0, 0, 0, 0, 0),
  (28, 1, .iload_n 2, 0, 0, 0, 0, 0),
  (29, 1, .iconst 1, 1, 0, 0, 0, 0),
  (30, 3, .if_icmp .lt 9, 0, 0, 0, 39, 0),
  (33, 1, .iload_n 2, 0, 0, 0, 0, 0),
  (34, 2, .bipush 6, 6, 0, 0, 0, 0),
  (36, 3, .if_icmp .le 4, 0, 0, 0, 40, 0),
  (39, 1, .return_, 0, 0, 0, 0, 0),
  (40, 1, .aload_n 0, 0, 0, 0, 0, 0),
  (41, 1, .aload_n 0, 0, 0, 0, 0, 0),
  (42, 3, .getfield 29, 0, 0, 141, 10, 4),
  (45, 2, .bipush 7, 7, 0, 0, 0, 0),
  (47, 1, .imul, 0, 0, 0, 0, 0),
  (48, 1, .iload_n 2, 0, 0, 0, 0, 0),
  (49, 1, .iadd, 0, 0, 0, 0, 0),
  (50, 3, .putfield 29, 0, 0, 141, 10, 4),
  (53, 1, .aload_n 0, 0, 0, 0, 0, 0),
  (54, 1, .dup, 0, 0, 0, 0, 0),
  (55, 3, .getfield 32, 0, 0, 144, 10, 5),
  (58, 1, .iconst 1, 1, 0, 0, 0, 0),
  (59, 1, .iadd, 0, 0, 0, 0, 0),
  (60, 3, .putfield 32, 0, 0, 144, 10, 5),
  (63, 1, .aload_n 0, 0, 0, 0, 0, 0),
  (64, 1, .dup, 0, 0, 0, 0, 0),
  (65, 3, .getfield 22, 0, 0, 138, 10, 3),
  (68, 1, .iconst 1, 1, 0, 0, 0, 0),
  (69, 1, .iadd, 0, 0, 0, 0, 0),
  (70, 3, .putfield 22, 0, 0, 138, 10, 3),
  (73, 3, .iinc 1 1, 1, 0, 0, 0, 0),
  (76, 3, .goto (-64), 0, 0, 0, 12, 0),
  (79, 1, .return_, 0, 0, 0, 0, 0)]
set_option maxRecDepth 100000 in
theorem zk_116 : zt_116.all (zx_chk 116) = true := by decide +kernel
/-- NamesThatShrink.<init>()V -/
def zt_117 : List zx_En := [
  (0, 1, .aload_n 0, 0, 0, 0, 0, 0),
  (1, 3, .invokespecial 1, 0, 0, 125, 5, 0),
  (4, 1, .aload_n 0, 0, 0, 0, 0, 0),
  (5, 3, .new 7, 0, 0, 128, 10, 0),
  (8, 1, .dup, 0, 0, 0, 0, 0),
  (9, 3, .invokespecial 9, 0, 0, 130, 3, 108),
  (12, 3, .putfield 10, 0, 0, 529, 11, 0),
  (15, 1, .aload_n 0, 0, 0, 0, 0, 0),
  (16, 3, .new 16, 0, 0, 159, 8, 0),
  (19, 1, .dup, 0, 0, 0, 0, 0),
  (20, 3, .invokespecial 18, 0, 0, 161, 3, 80),
  (23, 3, .putfield 19, 0, 0, 530, 11, 1),
  (26, 1, .aload_n 0, 0, 0, 0, 0, 0),
  (27, 3, .new 23, 0, 0, 174, 0, 0),
  (30, 1, .dup, 0, 0, 0, 0, 0),
  (31, 3, .invokespecial 25, 0, 0, 176, 3, 0),
  (34, 3, .putfield 26, 0, 0, 531, 11, 2),
  (37, 1, .aload_n 0, 0, 0, 0, 0, 0),
  (38, 3, .new 30, 0, 0, 236, 1, 0),
  (41, 1, .dup, 0, 0, 0, 0, 0),
  (42, 1, .aload_n 0, 0, 0, 0, 0, 0),
  (43, 3, .getfield 10, 0, 0, 529, 11, 0),
  (46, 3, .invokespecial 32, 0, 0, 238, 1, 15),
  (49, 3, .putfield 35, 0, 0, 532, 11, 3),
  (52, 1, .aload_n 0, 0, 0, 0, 0, 0),
  (53, 3, .new 39, 0, 0, 258, 6, 0),
  (56, 1, .dup, 0, 0, 0, 0, 0),
  (57, 1, .aload_n 0, 0, 0, 0, 0, 0),
  (58, 3, .getfield 10, 0, 0, 529, 11, 0),
  (61, 1, .aload_n 0, 0, 0, 0, 0, 0),
  (62, 3, .getfield 26, 0, 0, 531, 11, 2),
  (65, 3, .invokespecial 41, 0, 0, 260, 1, 59),
  (68, 3, .putfield 44, 0, 0, 533, 11, 4),
  (71, 1, .aload_n 0, 0, 0, 0, 0, 0),
  (72, 3, .new 48, 0, 0, 305, 9, 0),
  (75, 1, .dup, 0, 0, 0, 0, 0),
  (76, 3, .invokespecial 50, 0, 0, 307, 3, 83),
  (79, 3, .putfield 51, 0, 0, 534, 11, 5),
  (82, 1, .aload_n 0, 0, 0, 0, 0, 0),
  (83, 3, .new 55, 0, 0, 425, 5, 0),
  (86, 1, .dup, 0, 0, 0, 0, 0),
  (87, 1, .aload_n 0, 0, 0, 0, 0, 0),
  (88, 3, .getfield 26, 0, 0, 531, 11, 2),
  (91, 3, .invokespecial 57, 0, 0, 427, 1, 46),
  (94, 3, .putfield 60, 0, 0, 535, 11, 6),
  (97, 1, .aload_n 0, 0, 0, 0, 0, 0),
  (98, 3, .new 64, 0, 0, 484, 4, 0),
  (101, 1, .dup, 0, 0, 0, 0, 0),
  (102, 3, .invokespecial 66, 0, 0, 486, 3, 36),
  (105, 3, .putfield 67, 0, 0, 536, 11, 7),
  (108, 1, .aload_n 0, 0, 0, 0, 0, 0),
  (109, 3, .new 71, 0, 0, 506, 2, 0),
  (112, 1, .dup, 0, 0, 0, 0, 0),
  (113, 3, .invokespecial 73, 0, 0, 508, 3, 19),
  (116, 3, .putfield 74, 0, 0, 537, 11, 8),
  (119, 1, .return_, 0, 0, 0, 0, 0)]
set_option maxRecDepth 100000 in
theorem zk_117 : zt_117.all (zx_chk 117) = true := by decide +kernel
end
section
/-- NamesThatShrink.sign(I)I -/
def zt_118 : List zx_En := [
  (0, 1, .aload_n 0, 0, 0, 0, 0, 0),
  (1, 3, .getfield 10, 0, 0, 529, 11, 0),
  (4, 1, .iload_n 1, 0, 0, 0, 0, 0),
  (5, 3, .invokevirtual 78, 0, 0, 561, 0, 109),
  (8, 3, .ifCond .eq 13, 0, 0, 0, 21, 0),
  (11, 1, .aload_n 0, 0, 0, 0, 0, 0),
  (12, 3, .getfield 10, 0, 0, 529, 11, 0),
  (15, 3, .getfield 82, 0, 0, 136, 10, 1),
  (18, 3, .goto 4, 0, 0, 0, 22, 0),
  (21, 1, .iconst (-1), (-1), 0, 0, 0, 0),
  (22, 1, .ireturn, 0, 0, 0, 0, 0)]
set_option maxRecDepth 100000 in
theorem zk_118 : zt_118.all (zx_chk 118) = true := by decide +kernel
/-- NamesThatShrink.end(I)Z -/
def zt_119 : List zx_En := [
  (0, 1, .aload_n 0, 0, 0, 0, 0, 0),
  (1, 3, .getfield 10, 0, 0, 529, 11, 0),
  (4, 1, .iload_n 1, 0, 0, 0, 0, 0),
  (5, 3, .invokevirtual 86, 0, 0, 569, 0, 110),
  (8, 1, .ireturn, 0, 0, 0, 0, 0)]
set_option maxRecDepth 100000 in
theorem zk_119 : zt_119.all (zx_chk 119) = true := by decide +kernel
/-- NamesThatShrink.crowd()I -/
def zt_120 : List zx_En := [
  (0, 1, .aload_n 0, 0, 0, 0, 0, 0),
  (1, 3, .getfield 35, 0, 0, 532, 11, 3),
  (4, 2, .bipush 10, 10, 0, 0, 0, 0),
  (6, 1, .aload_n 0, 0, 0, 0, 0, 0),
  (7, 3, .getfield 26, 0, 0, 531, 11, 2),
  (10, 3, .getfield 89, 0, 0, 201, 0, 7),
  (13, 1, .isub, 0, 0, 0, 0, 0),
  (14, 3, .invokevirtual 92, 0, 0, 577, 0, 16),
  (17, 1, .istore_n 1, 0, 0, 0, 0, 0),
  (18, 1, .aload_n 0, 0, 0, 0, 0, 0),
  (19, 3, .getfield 10, 0, 0, 529, 11, 0),
  (22, 1, .iconst 0, 0, 0, 0, 0, 0),
  (23, 3, .invokevirtual 86, 0, 0, 569, 0, 110),
  (26, 1, .pop, 0, 0, 0, 0, 0),
  (27, 1, .iload_n 1, 0, 0, 0, 0, 0),
  (28, 3, .ifCond .le 14, 0, 0, 0, 42, 0),
  (31, 1, .aload_n 0, 0, 0, 0, 0, 0),
  (32, 3, .getfield 35, 0, 0, 532, 11, 3),
  (35, 1, .aload_n 0, 0, 0, 0, 0, 0),
  (36, 3, .getfield 26, 0, 0, 531, 11, 2),
  (39, 3, .invokevirtual 96, 0, 0, 610, 0, 18),
  (42, 1, .iload_n 1, 0, 0, 0, 0, 0),
  (43, 1, .ireturn, 0, 0, 0, 0, 0)]
set_option maxRecDepth 100000 in
theorem zk_120 : zt_120.all (zx_chk 120) = true := by decide +kernel
/-- NamesThatShrink.sheet(IIII)I -/
def zt_121 : List zx_En := [
  (0, 1, .iload_n 1, 0, 0, 0, 0, 0),
  (1, 3, .ifCond .lt 14, 0, 0, 0, 15, 0),
  (4, 1, .iload_n 1, 0, 0, 0, 0, 0),
  (5, 1, .iconst 3, 3, 0, 0, 0, 0),
  (6, 3, .if_icmp .gt 9, 0, 0, 0, 15, 0),
  (9, 1, .iload_n 2, 0, 0, 0, 0, 0),
  (10, 2, .bipush 10, 10, 0, 0, 0, 0),
  (12, 3, .if_icmp .le 5, 0, 0, 0, 17, 0),
  (15, 1, .iconst (-1), (-1), 0, 0, 0, 0),
  (16, 1, .ireturn, 0, 0, 0, 0, 0),
  (17, 1, .iload_n 1, 0, 0, 0, 0, 0),
  (18, 1, .iconst 3, 3, 0, 0, 0, 0),
  (19, 3, .if_icmp .ge 10, 0, 0, 0, 29, 0),
  (22, 1, .iload_n 2, 0, 0, 0, 0, 0),
  (23, 3, .ifCond .ge 6, 0, 0, 0, 29, 0),
  (26, 2, .bipush (-2), (-2), 0, 0, 0, 0),
  (28, 1, .ireturn, 0, 0, 0, 0, 0),
  (29, 1, .iconst 0, 0, 0, 0, 0, 0),
  (30, 2, .istore 5, 0, 0, 0, 0, 0),
  (32, 2, .iload 5, 0, 0, 0, 0, 0),
  (34, 1, .aload_n 0, 0, 0, 0, 0, 0),
  (35, 3, .getfield 26, 0, 0, 531, 11, 2),
  (38, 3, .getfield 89, 0, 0, 201, 0, 7),
  (41, 3, .if_icmp .ge 61, 0, 0, 0, 102, 0),
  (44, 1, .iload_n 1, 0, 0, 0, 0, 0),
  (45, 1, .iconst 3, 3, 0, 0, 0, 0),
  (46, 3, .if_icmp .ge 23, 0, 0, 0, 69, 0),
  (49, 2, .iload 5, 0, 0, 0, 0, 0),
  (51, 1, .iload_n 2, 0, 0, 0, 0, 0),
  (52, 3, .if_icmp .ge 17, 0, 0, 0, 69, 0),
  (55, 1, .iload_n 1, 0, 0, 0, 0, 0),
  (56, 1, .iload_n 3, 0, 0, 0, 0, 0),
  (57, 2, .iload 5, 0, 0, 0, 0, 0),
  (59, 2, .iload 4, 0, 0, 0, 0, 0),
  (61, 1, .imul, 0, 0, 0, 0, 0),
  (62, 1, .iadd, 0, 0, 0, 0, 0),
  (63, 3, .invokestatic 99, 0, 0, 626, 2, 158),
  (66, 3, .goto 4, 0, 0, 0, 70, 0),
  (69, 1, .iconst 0, 0, 0, 0, 0, 0),
  (70, 2, .istore 6, 0, 0, 0, 0, 0),
  (72, 1, .aload_n 0, 0, 0, 0, 0, 0),
  (73, 3, .getfield 26, 0, 0, 531, 11, 2),
  (76, 3, .getfield 103, 0, 0, 185, 0, 0),
  (79, 2, .iload 5, 0, 0, 0, 0, 0),
  (81, 2, .iload 6, 0, 0, 0, 0, 0),
  (83, 3, .invokestatic 107, 0, 0, 629, 2, 160),
  (86, 3, .ifCond .eq 8, 0, 0, 0, 94, 0),
  (89, 2, .iload 6, 0, 0, 0, 0, 0),
  (91, 3, .goto 4, 0, 0, 0, 95, 0),
  (94, 1, .iconst 0, 0, 0, 0, 0, 0),
  (95, 1, .iastore, 0, 0, 0, 0, 0),
  (96, 3, .iinc 5 1, 1, 0, 0, 0, 0),
  (99, 3, .goto (-67), 0, 0, 0, 32, 0),
  (102, 1, .aload_n 0, 0, 0, 0, 0, 0),
  (103, 3, .getfield 26, 0, 0, 531, 11, 2),
  (106, 3, .invokevirtual 110, 0, 0, 633, 0, 11),
  (109, 1, .iload_n 1, 0, 0, 0, 0, 0),
  (110, 1, .iconst 3, 3, 0, 0, 0, 0),
  (111, 3, .if_icmp .ne 8, 0, 0, 0, 119, 0),
  (114, 2, .bipush (-3), (-3), 0, 0, 0, 0),
  (116, 3, .goto 13, 0, 0, 0, 129, 0),
  (119, 1, .aload_n 0, 0, 0, 0, 0, 0),
  (120, 3, .getfield 26, 0, 0, 531, 11, 2),
  (123, 3, .invokevirtual 113, 0, 0, 634, 0, 4),
  (126, 3, .invokestatic 117, 0, 0, 638, 2, 266),
  (129, 1, .ireturn, 0, 0, 0, 0, 0)]
set_option maxRecDepth 100000 in
theorem zk_121 : zt_121.all (zx_chk 121) = true := by decide +kernel
/-- NamesThatShrink.of(II)I -/
def zt_122 : List zx_En := [
  (0, 1, .aload_n 0, 0, 0, 0, 0, 0),
  (1, 3, .getfield 26, 0, 0, 531, 11, 2),
  (4, 1, .iload_n 1, 0, 0, 0, 0, 0),
  (5, 3, .invokevirtual 122, 0, 0, 672, 0, 1),
  (8, 3, .ifCond .eq 12, 0, 0, 0, 20, 0),
  (11, 1, .iload_n 2, 0, 0, 0, 0, 0),
  (12, 3, .ifCond .lt 8, 0, 0, 0, 20, 0),
  (15, 1, .iload_n 2, 0, 0, 0, 0, 0),
  (16, 1, .iconst 3, 3, 0, 0, 0, 0),
  (17, 3, .if_icmp .le 11, 0, 0, 0, 28, 0),
  (20, 3, .new 125, 0, 0, 1241, 99, 0),
  (23, 1, .dup, 0, 0, 0, 0, 0),
  (24, 3, .invokespecial 127, 0, 0, 1280, 9, 1002),
  (27, 1, .athrow, 0, 0, 0, 0, 0),
  (28, 1, .iload_n 2, 0, 0, 0, 0, 0),
  (29, 27, .tableswitch 60 0 2 #[27, 37, 50], 0, 0, 0, 0, 0),
  (56, 1, .aload_n 0, 0, 0, 0, 0, 0),
  (57, 3, .getfield 26, 0, 0, 531, 11, 2),
  (60, 3, .getfield 103, 0, 0, 185, 0, 0),
  (63, 1, .iload_n 1, 0, 0, 0, 0, 0),
  (64, 1, .iaload, 0, 0, 0, 0, 0),
  (65, 1, .ireturn, 0, 0, 0, 0, 0),
  (66, 1, .aload_n 0, 0, 0, 0, 0, 0),
  (67, 3, .getfield 26, 0, 0, 531, 11, 2),
  (70, 3, .getfield 103, 0, 0, 185, 0, 0),
  (73, 1, .iload_n 1, 0, 0, 0, 0, 0),
  (74, 1, .iaload, 0, 0, 0, 0, 0),
  (75, 3, .invokestatic 128, 0, 0, 782, 2, 161),
  (78, 1, .ireturn, 0, 0, 0, 0, 0),
  (79, 1, .aload_n 0, 0, 0, 0, 0, 0),
  (80, 3, .getfield 26, 0, 0, 531, 11, 2),
  (83, 3, .getfield 131, 0, 0, 189, 0, 1),
  (86, 1, .iload_n 1, 0, 0, 0, 0, 0),
  (87, 1, .iaload, 0, 0, 0, 0, 0),
  (88, 1, .ireturn, 0, 0, 0, 0, 0),
  (89, 1, .aload_n 0, 0, 0, 0, 0, 0),
  (90, 3, .getfield 26, 0, 0, 531, 11, 2),
  (93, 3, .getfield 134, 0, 0, 204, 0, 8),
  (96, 1, .iload_n 1, 0, 0, 0, 0, 0),
  (97, 1, .ishr, 0, 0, 0, 0, 0),
  (98, 1, .iconst 1, 1, 0, 0, 0, 0),
  (99, 1, .iand, 0, 0, 0, 0, 0),
  (100, 1, .ireturn, 0, 0, 0, 0, 0)]
set_option maxRecDepth 100000 in
theorem zk_122 : zt_122.all (zx_chk 122) = true := by decide +kernel
/-- NamesThatShrink.set(III)I -/
def zt_123 : List zx_En := [
  (0, 1, .iconst (-1), (-1), 0, 0, 0, 0),
  (1, 2, .istore 4, 0, 0, 0, 0, 0),
  (3, 1, .iload_n 1, 0, 0, 0, 0, 0),
  (4, 3, .ifCond .ne 48, 0, 0, 0, 52, 0),
  (7, 1, .iload_n 2, 0, 0, 0, 0, 0),
  (8, 3, .ifCond .lt 44, 0, 0, 0, 52, 0),
  (11, 1, .iload_n 2, 0, 0, 0, 0, 0),
  (12, 2, .bipush 6, 6, 0, 0, 0, 0),
  (14, 3, .if_icmp .ge 38, 0, 0, 0, 52, 0),
  (17, 1, .iload_n 3, 0, 0, 0, 0, 0),
  (18, 1, .iconst 1, 1, 0, 0, 0, 0),
  (19, 3, .if_icmp .lt 33, 0, 0, 0, 52, 0),
  (22, 1, .iload_n 3, 0, 0, 0, 0, 0),
  (23, 2, .bipush 9, 9, 0, 0, 0, 0),
  (25, 3, .if_icmp .gt 27, 0, 0, 0, 52, 0),
  (28, 1, .aload_n 0, 0, 0, 0, 0, 0),
  (29, 3, .getfield 26, 0, 0, 531, 11, 2),
  (32, 3, .getfield 137, 0, 0, 193, 0, 2),
  (35, 1, .iload_n 2, 0, 0, 0, 0, 0),
  (36, 1, .iaload, 0, 0, 0, 0, 0),
  (37, 2, .istore 4, 0, 0, 0, 0, 0),
  (39, 1, .aload_n 0, 0, 0, 0, 0, 0),
  (40, 3, .getfield 26, 0, 0, 531, 11, 2),
  (43, 3, .getfield 137, 0, 0, 193, 0, 2),
  (46, 1, .iload_n 2, 0, 0, 0, 0, 0),
  (47, 1, .iload_n 3, 0, 0, 0, 0, 0),
  (48, 1, .iastore, 0, 0, 0, 0, 0),
  (49, 3, .goto 36, 0, 0, 0, 85, 0),
  (52, 1, .iload_n 1, 0, 0, 0, 0, 0),
  (53, 1, .iconst 1, 1, 0, 0, 0, 0),
  (54, 3, .if_icmp .ne 31, 0, 0, 0, 85, 0),
  (57, 1, .iload_n 3, 0, 0, 0, 0, 0),
  (58, 1, .iconst 1, 1, 0, 0, 0, 0),
  (59, 3, .if_icmp .lt 26, 0, 0, 0, 85, 0),
  (62, 1, .iload_n 3, 0, 0, 0, 0, 0),
  (63, 2, .bipush 10, 10, 0, 0, 0, 0),
  (65, 3, .if_icmp .gt 20, 0, 0, 0, 85, 0),
  (68, 1, .aload_n 0, 0, 0, 0, 0, 0),
  (69, 3, .getfield 26, 0, 0, 531, 11, 2),
  (72, 3, .getfield 140, 0, 0, 209, 0, 9),
  (75, 2, .istore 4, 0, 0, 0, 0, 0),
  (77, 1, .aload_n 0, 0, 0, 0, 0, 0),
  (78, 3, .getfield 26, 0, 0, 531, 11, 2),
  (81, 1, .iload_n 3, 0, 0, 0, 0, 0),
  (82, 3, .putfield 140, 0, 0, 209, 0, 9),
  (85, 2, .iload 4, 0, 0, 0, 0, 0),
  (87, 1, .ireturn, 0, 0, 0, 0, 0)]
set_option maxRecDepth 100000 in
theorem zk_123 : zt_123.all (zx_chk 123) = true := by decide +kernel
/-- NamesThatShrink.call(I)I -/
def zt_124 : List zx_En := [
  (0, 1, .iload_n 1, 0, 0, 0, 0, 0),
  (1, 3, .ifCond .eq 21, 0, 0, 0, 22, 0),
  (4, 1, .iload_n 1, 0, 0, 0, 0, 0),
  (5, 3, .invokestatic 107, 0, 0, 629, 2, 160),
  (8, 3, .ifCond .eq 14, 0, 0, 0, 22, 0),
  (11, 1, .aload_n 0, 0, 0, 0, 0, 0),
  (12, 3, .getfield 26, 0, 0, 531, 11, 2),
  (15, 1, .iload_n 1, 0, 0, 0, 0, 0),
  (16, 3, .invokevirtual 143, 0, 0, 652, 0, 9),
  (19, 3, .goto 4, 0, 0, 0, 23, 0),
  (22, 1, .iconst (-1), (-1), 0, 0, 0, 0),
  (23, 1, .ireturn, 0, 0, 0, 0, 0)]
set_option maxRecDepth 100000 in
theorem zk_124 : zt_124.all (zx_chk 124) = true := by decide +kernel
/-- NamesThatShrink.hey(I)I -/
def zt_125 : List zx_En := [
  (0, 1, .aload_n 0, 0, 0, 0, 0, 0),
  (1, 3, .getfield 26, 0, 0, 531, 11, 2),
  (4, 1, .iload_n 1, 0, 0, 0, 0, 0),
  (5, 3, .invokevirtual 122, 0, 0, 672, 0, 1),
  (8, 3, .ifCond .ne 5, 0, 0, 0, 13, 0),
  (11, 1, .iconst (-1), (-1), 0, 0, 0, 0),
  (12, 1, .ireturn, 0, 0, 0, 0, 0),
  (13, 1, .aload_n 0, 0, 0, 0, 0, 0),
  (14, 3, .getfield 26, 0, 0, 531, 11, 2),
  (17, 3, .getfield 103, 0, 0, 185, 0, 0),
  (20, 1, .iload_n 1, 0, 0, 0, 0, 0),
  (21, 1, .iaload, 0, 0, 0, 0, 0),
  (22, 1, .istore_n 2, 0, 0, 0, 0, 0),
  (23, 1, .iload_n 2, 0, 0, 0, 0, 0),
  (24, 3, .ifCond .ne 8, 0, 0, 0, 32, 0),
  (27, 2, .bipush (-3), (-3), 0, 0, 0, 0),
  (29, 3, .goto 11, 0, 0, 0, 40, 0),
  (32, 1, .aload_n 0, 0, 0, 0, 0, 0),
  (33, 3, .getfield 26, 0, 0, 531, 11, 2),
  (36, 1, .iload_n 2, 0, 0, 0, 0, 0),
  (37, 3, .invokevirtual 143, 0, 0, 652, 0, 9),
  (40, 1, .ireturn, 0, 0, 0, 0, 0)]
set_option maxRecDepth 100000 in
theorem zk_125 : zt_125.all (zx_chk 125) = true := by decide +kernel
/-- NamesThatShrink.begin(I)I -/
def zt_126 : List zx_En := [
  (0, 1, .iload_n 1, 0, 0, 0, 0, 0),
  (1, 3, .invokestatic 107, 0, 0, 629, 2, 160),
  (4, 3, .ifCond .eq 14, 0, 0, 0, 18, 0),
  (7, 1, .aload_n 0, 0, 0, 0, 0, 0),
  (8, 3, .getfield 26, 0, 0, 531, 11, 2),
  (11, 1, .iload_n 1, 0, 0, 0, 0, 0),
  (12, 3, .invokevirtual 146, 0, 0, 680, 0, 6),
  (15, 3, .goto 4, 0, 0, 0, 19, 0),
  (18, 1, .iconst (-1), (-1), 0, 0, 0, 0),
  (19, 1, .ireturn, 0, 0, 0, 0, 0)]
set_option maxRecDepth 100000 in
theorem zk_126 : zt_126.all (zx_chk 126) = true := by decide +kernel
/-- NamesThatShrink.undo()I -/
def zt_127 : List zx_En := [
  (0, 1, .aload_n 0, 0, 0, 0, 0, 0),
  (1, 3, .getfield 26, 0, 0, 531, 11, 2),
  (4, 3, .invokevirtual 149, 0, 0, 691, 0, 12),
  (7, 3, .ifCond .eq 13, 0, 0, 0, 20, 0),
  (10, 1, .aload_n 0, 0, 0, 0, 0, 0),
  (11, 3, .getfield 26, 0, 0, 531, 11, 2),
  (14, 3, .getfield 153, 0, 0, 196, 0, 5),
  (17, 3, .goto 4, 0, 0, 0, 21, 0),
  (20, 1, .iconst (-1), (-1), 0, 0, 0, 0),
  (21, 1, .ireturn, 0, 0, 0, 0, 0)]
set_option maxRecDepth 100000 in
theorem zk_127 : zt_127.all (zx_chk 127) = true := by decide +kernel
/-- NamesThatShrink.order()I -/
def zt_128 : List zx_En := [
  (0, 1, .aload_n 0, 0, 0, 0, 0, 0),
  (1, 3, .getfield 44, 0, 0, 533, 11, 4),
  (4, 3, .invokevirtual 156, 0, 0, 699, 0, 60),
  (7, 1, .istore_n 1, 0, 0, 0, 0, 0),
  (8, 1, .aload_n 0, 0, 0, 0, 0, 0),
  (9, 3, .getfield 10, 0, 0, 529, 11, 0),
  (12, 1, .iconst 0, 0, 0, 0, 0, 0),
  (13, 3, .invokevirtual 86, 0, 0, 569, 0, 110),
  (16, 1, .pop, 0, 0, 0, 0, 0),
  (17, 1, .iload_n 1, 0, 0, 0, 0, 0),
  (18, 3, .ifCond .eq 5, 0, 0, 0, 23, 0),
  (21, 1, .iload_n 1, 0, 0, 0, 0, 0),
  (22, 1, .ireturn, 0, 0, 0, 0, 0),
  (23, 1, .aload_n 0, 0, 0, 0, 0, 0),
  (24, 3, .getfield 44, 0, 0, 533, 11, 4),
  (27, 3, .invokevirtual 158, 0, 0, 725, 0, 65),
  (30, 1, .aload_n 0, 0, 0, 0, 0, 0),
  (31, 3, .getfield 19, 0, 0, 530, 11, 1),
  (34, 3, .invokevirtual 161, 0, 0, 766, 0, 81),
  (37, 1, .aload_n 0, 0, 0, 0, 0, 0),
  (38, 3, .getfield 19, 0, 0, 530, 11, 1),
  (41, 1, .aload_n 0, 0, 0, 0, 0, 0),
  (42, 3, .getfield 44, 0, 0, 533, 11, 4),
  (45, 3, .getfield 164, 0, 0, 272, 6, 7),
  (48, 3, .invokevirtual 167, 0, 0, 770, 0, 82),
  (51, 1, .aload_n 0, 0, 0, 0, 0, 0),
  (52, 3, .getfield 19, 0, 0, 530, 11, 1),
  (55, 1, .aload_n 0, 0, 0, 0, 0, 0),
  (56, 3, .getfield 44, 0, 0, 533, 11, 4),
  (59, 3, .getfield 171, 0, 0, 276, 6, 9),
  (62, 3, .invokevirtual 167, 0, 0, 770, 0, 82),
  (65, 1, .aload_n 0, 0, 0, 0, 0, 0),
  (66, 3, .getfield 19, 0, 0, 530, 11, 1),
  (69, 1, .aload_n 0, 0, 0, 0, 0, 0),
  (70, 3, .getfield 44, 0, 0, 533, 11, 4),
  (73, 3, .getfield 174, 0, 0, 279, 6, 11),
  (76, 3, .ifCond .eq 7, 0, 0, 0, 83, 0),
  (79, 1, .iconst 1, 1, 0, 0, 0, 0),
  (80, 3, .goto 4, 0, 0, 0, 84, 0),
  (83, 1, .iconst 0, 0, 0, 0, 0, 0),
  (84, 3, .invokevirtual 167, 0, 0, 770, 0, 82),
  (87, 1, .aload_n 0, 0, 0, 0, 0, 0),
  (88, 3, .getfield 44, 0, 0, 533, 11, 4),
  (91, 3, .getfield 178, 0, 0, 274, 6, 8),
  (94, 1, .ireturn, 0, 0, 0, 0, 0)]
set_option maxRecDepth 100000 in
theorem zk_128 : zt_128.all (zx_chk 128) = true := by decide +kernel
/-- NamesThatShrink.pass(II)I -/
def zt_129 : List zx_En := [
  (0, 1, .aload_n 0, 0, 0, 0, 0, 0),
  (1, 1, .iload_n 1, 0, 0, 0, 0, 0),
  (2, 1, .iload_n 2, 0, 0, 0, 0, 0),
  (3, 3, .invokevirtual 181, 0, 0, 778, 0, 155),
  (6, 3, .ifCond .ne 5, 0, 0, 0, 11, 0),
  (9, 1, .iconst (-1), (-1), 0, 0, 0, 0),
  (10, 1, .ireturn, 0, 0, 0, 0, 0),
  (11, 1, .aload_n 0, 0, 0, 0, 0, 0),
  (12, 3, .getfield 26, 0, 0, 531, 11, 2),
  (15, 3, .getfield 103, 0, 0, 185, 0, 0),
  (18, 1, .iload_n 1, 0, 0, 0, 0, 0),
  (19, 1, .iaload, 0, 0, 0, 0, 0),
  (20, 1, .istore_n 3, 0, 0, 0, 0, 0),
  (21, 1, .aload_n 0, 0, 0, 0, 0, 0),
  (22, 3, .getfield 26, 0, 0, 531, 11, 2),
  (25, 3, .getfield 103, 0, 0, 185, 0, 0),
  (28, 1, .iload_n 2, 0, 0, 0, 0, 0),
  (29, 1, .iaload, 0, 0, 0, 0, 0),
  (30, 2, .istore 4, 0, 0, 0, 0, 0),
  (32, 1, .iload_n 3, 0, 0, 0, 0, 0),
  (33, 3, .ifCond .ne 6, 0, 0, 0, 39, 0),
  (36, 2, .bipush (-2), (-2), 0, 0, 0, 0),
  (38, 1, .ireturn, 0, 0, 0, 0, 0),
  (39, 2, .iload 4, 0, 0, 0, 0, 0),
  (41, 3, .invokestatic 128, 0, 0, 782, 2, 161),
  (44, 2, .bipush 8, 8, 0, 0, 0, 0),
  (46, 3, .if_icmp .lt 6, 0, 0, 0, 52, 0),
  (49, 2, .bipush (-3), (-3), 0, 0, 0, 0),
  (51, 1, .ireturn, 0, 0, 0, 0, 0),
  (52, 1, .aload_n 0, 0, 0, 0, 0, 0),
  (53, 3, .getfield 26, 0, 0, 531, 11, 2),
  (56, 3, .getfield 103, 0, 0, 185, 0, 0),
  (59, 1, .iload_n 1, 0, 0, 0, 0, 0),
  (60, 1, .iload_n 3, 0, 0, 0, 0, 0),
  (61, 2, .bipush 7, 7, 0, 0, 0, 0),
  (63, 1, .idiv, 0, 0, 0, 0, 0),
  (64, 1, .iastore, 0, 0, 0, 0, 0),
  (65, 1, .aload_n 0, 0, 0, 0, 0, 0),
  (66, 3, .getfield 26, 0, 0, 531, 11, 2),
  (69, 3, .getfield 103, 0, 0, 185, 0, 0),
  (72, 1, .iload_n 2, 0, 0, 0, 0, 0),
  (73, 2, .iload 4, 0, 0, 0, 0, 0),
  (75, 2, .bipush 7, 7, 0, 0, 0, 0),
  (77, 1, .imul, 0, 0, 0, 0, 0),
  (78, 1, .iload_n 3, 0, 0, 0, 0, 0),
  (79, 2, .bipush 7, 7, 0, 0, 0, 0),
  (81, 1, .irem, 0, 0, 0, 0, 0),
  (82, 1, .iadd, 0, 0, 0, 0, 0),
  (83, 1, .iastore, 0, 0, 0, 0, 0),
  (84, 1, .aload_n 0, 0, 0, 0, 0, 0),
  (85, 3, .getfield 26, 0, 0, 531, 11, 2),
  (88, 3, .invokevirtual 110, 0, 0, 633, 0, 11),
  (91, 1, .aload_n 0, 0, 0, 0, 0, 0),
  (92, 3, .getfield 26, 0, 0, 531, 11, 2),
  (95, 3, .getfield 103, 0, 0, 185, 0, 0),
  (98, 1, .iload_n 2, 0, 0, 0, 0, 0),
  (99, 1, .iaload, 0, 0, 0, 0, 0),
  (100, 1, .ireturn, 0, 0, 0, 0, 0)]
set_option maxRecDepth 100000 in
theorem zk_129 : zt_129.all (zx_chk 129) = true := by decide +kernel
/-- NamesThatShrink.rename(II)I -/
def zt_130 : List zx_En := [
  (0, 1, .aload_n 0, 0, 0, 0, 0, 0),
  (1, 3, .getfield 26, 0, 0, 531, 11, 2),
  (4, 1, .iload_n 1, 0, 0, 0, 0, 0),
  (5, 3, .invokevirtual 122, 0, 0, 672, 0, 1),
  (8, 3, .ifCond .eq 10, 0, 0, 0, 18, 0),
  (11, 1, .iload_n 2, 0, 0, 0, 0, 0),
  (12, 3, .invokestatic 107, 0, 0, 629, 2, 160),
  (15, 3, .ifCond .ne 5, 0, 0, 0, 20, 0),
  (18, 1, .iconst (-1), (-1), 0, 0, 0, 0),
  (19, 1, .ireturn, 0, 0, 0, 0, 0),
  (20, 1, .aload_n 0, 0, 0, 0, 0, 0),
  (21, 3, .getfield 26, 0, 0, 531, 11, 2),
  (24, 3, .getfield 103, 0, 0, 185, 0, 0),
  (27, 1, .iload_n 1, 0, 0, 0, 0, 0),
  (28, 1, .iload_n 2, 0, 0, 0, 0, 0),
  (29, 1, .iastore, 0, 0, 0, 0, 0),
  (30, 1, .aload_n 0, 0, 0, 0, 0, 0),
  (31, 3, .getfield 26, 0, 0, 531, 11, 2),
  (34, 3, .invokevirtual 110, 0, 0, 633, 0, 11),
  (37, 1, .aload_n 0, 0, 0, 0, 0, 0),
  (38, 3, .getfield 26, 0, 0, 531, 11, 2),
  (41, 1, .iload_n 2, 0, 0, 0, 0, 0),
  (42, 3, .invokevirtual 185, 0, 0, 789, 0, 8),
  (45, 1, .ireturn, 0, 0, 0, 0, 0)]
set_option maxRecDepth 100000 in
theorem zk_130 : zt_130.all (zx_chk 130) = true := by decide +kernel
/-- NamesThatShrink.season(I)I -/
def zt_131 : List zx_En := [
  (0, 1, .iload_n 1, 0, 0, 0, 0, 0),
  (1, 3, .ifCond .lt 10, 0, 0, 0, 11, 0),
  (4, 1, .iload_n 1, 0, 0, 0, 0, 0),
  (5, 3, .sipush 200, 200, 0, 0, 0, 0),
  (8, 3, .if_icmp .le 5, 0, 0, 0, 13, 0),
  (11, 1, .iconst (-1), (-1), 0, 0, 0, 0),
  (12, 1, .ireturn, 0, 0, 0, 0, 0),
  (13, 1, .iconst 0, 0, 0, 0, 0, 0),
  (14, 1, .istore_n 2, 0, 0, 0, 0, 0),
  (15, 1, .iconst 0, 0, 0, 0, 0, 0),
  (16, 1, .istore_n 3, 0, 0, 0, 0, 0),
  (17, 1, .iconst 0, 0, 0, 0, 0, 0),
  (18, 2, .istore 4, 0, 0, 0, 0, 0),
  (20, 2, .iload 4, 0, 0, 0, 0, 0),
  (22, 1, .iload_n 1, 0, 0, 0, 0, 0),
  (23, 3, .if_icmp .ge 44, 0, 0, 0, 67, 0),
  (26, 1, .aload_n 0, 0, 0, 0, 0, 0),
  (27, 3, .getfield 26, 0, 0, 531, 11, 2),
  (30, 3, .invokevirtual 113, 0, 0, 634, 0, 4),
  (33, 3, .ifCond .eq 34, 0, 0, 0, 67, 0),
  (36, 3, .iinc 2 1, 1, 0, 0, 0, 0),
  (39, 1, .aload_n 0, 0, 0, 0, 0, 0),
  (40, 3, .getfield 26, 0, 0, 531, 11, 2),
  (43, 1, .aload_n 0, 0, 0, 0, 0, 0),
  (44, 3, .getfield 26, 0, 0, 531, 11, 2),
  (47, 3, .invokevirtual 188, 0, 0, 797, 0, 14),
  (50, 3, .invokevirtual 143, 0, 0, 652, 0, 9),
  (53, 2, .bipush (-2), (-2), 0, 0, 0, 0),
  (55, 3, .if_icmp .ne 6, 0, 0, 0, 61, 0),
  (58, 3, .iinc 3 1, 1, 0, 0, 0, 0),
  (61, 3, .iinc 4 1, 1, 0, 0, 0, 0),
  (64, 3, .goto (-44), 0, 0, 0, 20, 0),
  (67, 1, .aload_n 0, 0, 0, 0, 0, 0),
  (68, 3, .getfield 19, 0, 0, 530, 11, 1),
  (71, 3, .invokevirtual 161, 0, 0, 766, 0, 81),
  (74, 1, .aload_n 0, 0, 0, 0, 0, 0),
  (75, 3, .getfield 19, 0, 0, 530, 11, 1),
  (78, 1, .iload_n 3, 0, 0, 0, 0, 0),
  (79, 3, .invokevirtual 167, 0, 0, 770, 0, 82),
  (82, 1, .aload_n 0, 0, 0, 0, 0, 0),
  (83, 3, .getfield 19, 0, 0, 530, 11, 1),
  (86, 1, .aload_n 0, 0, 0, 0, 0, 0),
  (87, 3, .getfield 26, 0, 0, 531, 11, 2),
  (90, 3, .invokevirtual 191, 0, 0, 807, 0, 3),
  (93, 1, .aload_n 0, 0, 0, 0, 0, 0),
  (94, 3, .getfield 26, 0, 0, 531, 11, 2),
  (97, 3, .invokevirtual 113, 0, 0, 634, 0, 4),
  (100, 1, .iconst (-1), (-1), 0, 0, 0, 0),
  (101, 1, .ixor, 0, 0, 0, 0, 0),
  (102, 1, .iand, 0, 0, 0, 0, 0),
  (103, 3, .invokevirtual 167, 0, 0, 770, 0, 82),
  (106, 1, .iload_n 2, 0, 0, 0, 0, 0),
  (107, 1, .ireturn, 0, 0, 0, 0, 0)]
set_option maxRecDepth 100000 in
theorem zk_131 : zt_131.all (zx_chk 131) = true := by decide +kernel
/-- NamesThatShrink.common(II)I -/
def zt_132 : List zx_En := [
  (0, 1, .aload_n 0, 0, 0, 0, 0, 0),
  (1, 1, .iload_n 1, 0, 0, 0, 0, 0),
  (2, 1, .iload_n 2, 0, 0, 0, 0, 0),
  (3, 3, .invokevirtual 181, 0, 0, 778, 0, 155),
  (6, 3, .ifCond .eq 27, 0, 0, 0, 33, 0),
  (9, 1, .aload_n 0, 0, 0, 0, 0, 0),
  (10, 3, .getfield 26, 0, 0, 531, 11, 2),
  (13, 3, .getfield 103, 0, 0, 185, 0, 0),
  (16, 1, .iload_n 1, 0, 0, 0, 0, 0),
  (17, 1, .iaload, 0, 0, 0, 0, 0),
  (18, 1, .aload_n 0, 0, 0, 0, 0, 0),
  (19, 3, .getfield 26, 0, 0, 531, 11, 2),
  (22, 3, .getfield 103, 0, 0, 185, 0, 0),
  (25, 1, .iload_n 2, 0, 0, 0, 0, 0),
  (26, 1, .iaload, 0, 0, 0, 0, 0),
  (27, 3, .invokestatic 194, 0, 0, 815, 2, 163),
  (30, 3, .goto 4, 0, 0, 0, 34, 0),
  (33, 1, .iconst (-1), (-1), 0, 0, 0, 0),
  (34, 1, .ireturn, 0, 0, 0, 0, 0)]
set_option maxRecDepth 100000 in
theorem zk_132 : zt_132.all (zx_chk 132) = true := by decide +kernel
/-- NamesThatShrink.meet(II)I -/
def zt_133 : List zx_En := [
  (0, 1, .aload_n 0, 0, 0, 0, 0, 0),
  (1, 1, .iload_n 1, 0, 0, 0, 0, 0),
  (2, 1, .iload_n 2, 0, 0, 0, 0, 0),
  (3, 3, .invokevirtual 181, 0, 0, 778, 0, 155),
  (6, 3, .ifCond .ne 5, 0, 0, 0, 11, 0),
  (9, 1, .iconst (-1), (-1), 0, 0, 0, 0),
  (10, 1, .ireturn, 0, 0, 0, 0, 0),
  (11, 1, .aload_n 0, 0, 0, 0, 0, 0),
  (12, 3, .getfield 26, 0, 0, 531, 11, 2),
  (15, 3, .getfield 103, 0, 0, 185, 0, 0),
  (18, 1, .iload_n 1, 0, 0, 0, 0, 0),
  (19, 1, .iaload, 0, 0, 0, 0, 0),
  (20, 1, .aload_n 0, 0, 0, 0, 0, 0),
  (21, 3, .getfield 26, 0, 0, 531, 11, 2),
  (24, 3, .getfield 103, 0, 0, 185, 0, 0),
  (27, 1, .iload_n 2, 0, 0, 0, 0, 0),
  (28, 1, .iaload, 0, 0, 0, 0, 0),
  (29, 3, .invokestatic 194, 0, 0, 815, 2, 163),
  (32, 3, .invokestatic 128, 0, 0, 782, 2, 161),
  (35, 1, .istore_n 3, 0, 0, 0, 0, 0),
  (36, 1, .aload_n 0, 0, 0, 0, 0, 0),
  (37, 3, .getfield 26, 0, 0, 531, 11, 2),
  (40, 3, .getfield 103, 0, 0, 185, 0, 0),
  (43, 1, .iload_n 1, 0, 0, 0, 0, 0),
  (44, 1, .iaload, 0, 0, 0, 0, 0),
  (45, 3, .invokestatic 128, 0, 0, 782, 2, 161),
  (48, 1, .aload_n 0, 0, 0, 0, 0, 0),
  (49, 3, .getfield 26, 0, 0, 531, 11, 2),
  (52, 3, .getfield 103, 0, 0, 185, 0, 0),
  (55, 1, .iload_n 2, 0, 0, 0, 0, 0),
  (56, 1, .iaload, 0, 0, 0, 0, 0),
  (57, 3, .invokestatic 128, 0, 0, 782, 2, 161),
  (60, 1, .iadd, 0, 0, 0, 0, 0),
  (61, 2, .istore 4, 0, 0, 0, 0, 0),
  (63, 1, .iload_n 3, 0, 0, 0, 0, 0),
  (64, 3, .ifCond .ne 8, 0, 0, 0, 72, 0),
  (67, 2, .bipush (-2), (-2), 0, 0, 0, 0),
  (69, 3, .goto 9, 0, 0, 0, 78, 0),
  (72, 2, .iload 4, 0, 0, 0, 0, 0),
  (74, 1, .iconst 2, 2, 0, 0, 0, 0),
  (75, 1, .iload_n 3, 0, 0, 0, 0, 0),
  (76, 1, .imul, 0, 0, 0, 0, 0),
  (77, 1, .isub, 0, 0, 0, 0, 0),
  (78, 1, .ireturn, 0, 0, 0, 0, 0)]
set_option maxRecDepth 100000 in
theorem zk_133 : zt_133.all (zx_chk 133) = true := by decide +kernel
/-- NamesThatShrink.pairs(I)I -/
def zt_134 : List zx_En := [
  (0, 1, .iload_n 1, 0, 0, 0, 0, 0),
  (1, 3, .ifCond .lt 9, 0, 0, 0, 10, 0),
  (4, 1, .iload_n 1, 0, 0, 0, 0, 0),
  (5, 2, .bipush 8, 8, 0, 0, 0, 0),
  (7, 3, .if_icmp .le 5, 0, 0, 0, 12, 0),
  (10, 1, .iconst (-1), (-1), 0, 0, 0, 0),
  (11, 1, .ireturn, 0, 0, 0, 0, 0),
  (12, 1, .iconst 0, 0, 0, 0, 0, 0),
  (13, 1, .istore_n 2, 0, 0, 0, 0, 0),
  (14, 1, .aload_n 0, 0, 0, 0, 0, 0),
  (15, 3, .getfield 19, 0, 0, 530, 11, 1),
  (18, 3, .invokevirtual 161, 0, 0, 766, 0, 81),
  (21, 1, .iconst 0, 0, 0, 0, 0, 0),
  (22, 1, .istore_n 3, 0, 0, 0, 0, 0),
  (23, 1, .iload_n 3, 0, 0, 0, 0, 0),
  (24, 1, .aload_n 0, 0, 0, 0, 0, 0),
  (25, 3, .getfield 26, 0, 0, 531, 11, 2),
  (28, 3, .getfield 89, 0, 0, 201, 0, 7),
  (31, 3, .if_icmp .ge 85, 0, 0, 0, 116, 0),
  (34, 1, .iload_n 3, 0, 0, 0, 0, 0),
  (35, 1, .iconst 1, 1, 0, 0, 0, 0),
  (36, 1, .iadd, 0, 0, 0, 0, 0),
  (37, 2, .istore 4, 0, 0, 0, 0, 0),
  (39, 2, .iload 4, 0, 0, 0, 0, 0),
  (41, 1, .aload_n 0, 0, 0, 0, 0, 0),
  (42, 3, .getfield 26, 0, 0, 531, 11, 2),
  (45, 3, .getfield 89, 0, 0, 201, 0, 7),
  (48, 3, .if_icmp .ge 62, 0, 0, 0, 110, 0),
  (51, 1, .aload_n 0, 0, 0, 0, 0, 0),
  (52, 3, .getfield 26, 0, 0, 531, 11, 2),
  (55, 3, .getfield 103, 0, 0, 185, 0, 0),
  (58, 1, .iload_n 3, 0, 0, 0, 0, 0),
  (59, 1, .iaload, 0, 0, 0, 0, 0),
  (60, 1, .aload_n 0, 0, 0, 0, 0, 0),
  (61, 3, .getfield 26, 0, 0, 531, 11, 2),
  (64, 3, .getfield 103, 0, 0, 185, 0, 0),
  (67, 2, .iload 4, 0, 0, 0, 0, 0),
  (69, 1, .iaload, 0, 0, 0, 0, 0),
  (70, 1, .iload_n 1, 0, 0, 0, 0, 0),
  (71, 3, .invokestatic 197, 0, 0, 826, 2, 164),
  (74, 3, .ifCond .ne 6, 0, 0, 0, 80, 0),
  (77, 3, .goto 27, 0, 0, 0, 104, 0),
  (80, 1, .iload_n 2, 0, 0, 0, 0, 0),
  (81, 3, .ifCond .ne 20, 0, 0, 0, 101, 0),
  (84, 1, .aload_n 0, 0, 0, 0, 0, 0),
  (85, 3, .getfield 19, 0, 0, 530, 11, 1),
  (88, 1, .iload_n 3, 0, 0, 0, 0, 0),
  (89, 3, .invokevirtual 167, 0, 0, 770, 0, 82),
  (92, 1, .aload_n 0, 0, 0, 0, 0, 0),
  (93, 3, .getfield 19, 0, 0, 530, 11, 1),
  (96, 2, .iload 4, 0, 0, 0, 0, 0),
  (98, 3, .invokevirtual 167, 0, 0, 770, 0, 82),
  (101, 3, .iinc 2 1, 1, 0, 0, 0, 0),
  (104, 3, .iinc 4 1, 1, 0, 0, 0, 0),
  (107, 3, .goto (-68), 0, 0, 0, 39, 0),
  (110, 3, .iinc 3 1, 1, 0, 0, 0, 0),
  (113, 3, .goto (-90), 0, 0, 0, 23, 0),
  (116, 1, .iload_n 2, 0, 0, 0, 0, 0),
  (117, 1, .ireturn, 0, 0, 0, 0, 0)]
set_option maxRecDepth 100000 in
theorem zk_134 : zt_134.all (zx_chk 134) = true := by decide +kernel
/-- NamesThatShrink.tree()I -/
def zt_135 : List zx_En := [
  (0, 1, .iconst 0, 0, 0, 0, 0, 0),
  (1, 1, .istore_n 1, 0, 0, 0, 0, 0),
  (2, 1, .iconst 0, 0, 0, 0, 0, 0),
  (3, 1, .istore_n 2, 0, 0, 0, 0, 0),
  (4, 1, .iconst 0, 0, 0, 0, 0, 0),
  (5, 1, .istore_n 3, 0, 0, 0, 0, 0),
  (6, 1, .iconst 0, 0, 0, 0, 0, 0),
  (7, 2, .istore 4, 0, 0, 0, 0, 0),
  (9, 2, .iload 4, 0, 0, 0, 0, 0),
  (11, 1, .aload_n 0, 0, 0, 0, 0, 0),
  (12, 3, .getfield 26, 0, 0, 531, 11, 2),
  (15, 3, .getfield 89, 0, 0, 201, 0, 7),
  (18, 3, .if_icmp .ge 107, 0, 0, 0, 125, 0),
  (21, 1, .aload_n 0, 0, 0, 0, 0, 0),
  (22, 3, .getfield 26, 0, 0, 531, 11, 2),
  (25, 3, .getfield 103, 0, 0, 185, 0, 0),
  (28, 2, .iload 4, 0, 0, 0, 0, 0),
  (30, 1, .iaload, 0, 0, 0, 0, 0),
  (31, 2, .istore 5, 0, 0, 0, 0, 0),
  (33, 1, .iconst 0, 0, 0, 0, 0, 0),
  (34, 2, .istore 6, 0, 0, 0, 0, 0),
  (36, 2, .iload 6, 0, 0, 0, 0, 0),
  (38, 2, .bipush 8, 8, 0, 0, 0, 0),
  (40, 3, .if_icmp .ge 79, 0, 0, 0, 119, 0),
  (43, 2, .iload 5, 0, 0, 0, 0, 0),
  (45, 3, .ifCond .eq 74, 0, 0, 0, 119, 0),
  (48, 1, .aload_n 0, 0, 0, 0, 0, 0),
  (49, 3, .getfield 26, 0, 0, 531, 11, 2),
  (52, 2, .iload 5, 0, 0, 0, 0, 0),
  (54, 3, .invokevirtual 146, 0, 0, 680, 0, 6),
  (57, 2, .istore 7, 0, 0, 0, 0, 0),
  (59, 2, .iload 7, 0, 0, 0, 0, 0),
  (61, 3, .invokestatic 201, 0, 0, 833, 2, 265),
  (64, 2, .iload 4, 0, 0, 0, 0, 0),
  (66, 3, .if_icmp .ne 40, 0, 0, 0, 106, 0),
  (69, 3, .iinc 1 1, 1, 0, 0, 0, 0),
  (72, 2, .iload 7, 0, 0, 0, 0, 0),
  (74, 3, .invokestatic 117, 0, 0, 638, 2, 266),
  (77, 2, .istore 8, 0, 0, 0, 0, 0),
  (79, 2, .iload 8, 0, 0, 0, 0, 0),
  (81, 1, .iload_n 3, 0, 0, 0, 0, 0),
  (82, 3, .if_icmp .gt 18, 0, 0, 0, 100, 0),
  (85, 2, .iload 8, 0, 0, 0, 0, 0),
  (87, 1, .iload_n 3, 0, 0, 0, 0, 0),
  (88, 3, .if_icmp .ne 18, 0, 0, 0, 106, 0),
  (91, 2, .iload 5, 0, 0, 0, 0, 0),
  (93, 1, .iload_n 2, 0, 0, 0, 0, 0),
  (94, 3, .invokestatic 204, 0, 0, 837, 2, 159),
  (97, 3, .ifCond .eq 9, 0, 0, 0, 106, 0),
  (100, 2, .iload 8, 0, 0, 0, 0, 0),
  (102, 1, .istore_n 3, 0, 0, 0, 0, 0),
  (103, 2, .iload 5, 0, 0, 0, 0, 0),
  (105, 1, .istore_n 2, 0, 0, 0, 0, 0),
  (106, 2, .iload 5, 0, 0, 0, 0, 0),
  (108, 2, .bipush 7, 7, 0, 0, 0, 0),
  (110, 1, .idiv, 0, 0, 0, 0, 0),
  (111, 2, .istore 5, 0, 0, 0, 0, 0),
  (113, 3, .iinc 6 1, 1, 0, 0, 0, 0),
  (116, 3, .goto (-80), 0, 0, 0, 36, 0),
  (119, 3, .iinc 4 1, 1, 0, 0, 0, 0),
  (122, 3, .goto (-113), 0, 0, 0, 9, 0),
  (125, 1, .aload_n 0, 0, 0, 0, 0, 0),
  (126, 3, .getfield 19, 0, 0, 530, 11, 1),
  (129, 3, .invokevirtual 161, 0, 0, 766, 0, 81),
  (132, 1, .iload_n 1, 0, 0, 0, 0, 0),
  (133, 3, .ifCond .le 19, 0, 0, 0, 152, 0),
  (136, 1, .aload_n 0, 0, 0, 0, 0, 0),
  (137, 3, .getfield 19, 0, 0, 530, 11, 1),
  (140, 1, .iload_n 2, 0, 0, 0, 0, 0),
  (141, 3, .invokevirtual 167, 0, 0, 770, 0, 82),
  (144, 1, .aload_n 0, 0, 0, 0, 0, 0),
  (145, 3, .getfield 19, 0, 0, 530, 11, 1),
  (148, 1, .iload_n 3, 0, 0, 0, 0, 0),
  (149, 3, .invokevirtual 167, 0, 0, 770, 0, 82),
  (152, 1, .iload_n 1, 0, 0, 0, 0, 0),
  (153, 1, .ireturn, 0, 0, 0, 0, 0)]
set_option maxRecDepth 100000 in
theorem zk_135 : zt_135.all (zx_chk 135) = true := by decide +kernel
/-- NamesThatShrink.most()I -/
def zt_136 : List zx_En := [
  (0, 1, .aload_n 0, 0, 0, 0, 0, 0),
  (1, 3, .getfield 51, 0, 0, 534, 11, 5),
  (4, 1, .aload_n 0, 0, 0, 0, 0, 0),
  (5, 3, .getfield 26, 0, 0, 531, 11, 2),
  (8, 3, .invokevirtual 207, 0, 0, 844, 0, 84),
  (11, 3, .sipush 20000, 20000, 0, 0, 0, 0),
  (14, 3, .if_icmp .le 6, 0, 0, 0, 20, 0),
  (17, 2, .bipush (-3), (-3), 0, 0, 0, 0),
  (19, 1, .ireturn, 0, 0, 0, 0, 0),
  (20, 1, .iconst 0, 0, 0, 0, 0, 0),
  (21, 1, .istore_n 1, 0, 0, 0, 0, 0),
  (22, 1, .iconst 0, 0, 0, 0, 0, 0),
  (23, 1, .istore_n 2, 0, 0, 0, 0, 0),
  (24, 1, .iload_n 2, 0, 0, 0, 0, 0),
  (25, 1, .aload_n 0, 0, 0, 0, 0, 0),
  (26, 3, .getfield 26, 0, 0, 531, 11, 2),
  (29, 3, .getfield 89, 0, 0, 201, 0, 7),
  (32, 3, .if_icmp .ge 45, 0, 0, 0, 77, 0),
  (35, 1, .aload_n 0, 0, 0, 0, 0, 0),
  (36, 3, .getfield 26, 0, 0, 531, 11, 2),
  (39, 3, .getfield 103, 0, 0, 185, 0, 0),
  (42, 1, .iload_n 2, 0, 0, 0, 0, 0),
  (43, 1, .iaload, 0, 0, 0, 0, 0),
  (44, 1, .istore_n 3, 0, 0, 0, 0, 0),
  (45, 1, .iload_n 3, 0, 0, 0, 0, 0),
  (46, 3, .ifCond .eq 25, 0, 0, 0, 71, 0),
  (49, 1, .aload_n 0, 0, 0, 0, 0, 0),
  (50, 3, .getfield 26, 0, 0, 531, 11, 2),
  (53, 1, .iload_n 3, 0, 0, 0, 0, 0),
  (54, 3, .invokevirtual 211, 0, 0, 908, 0, 5),
  (57, 3, .invokestatic 201, 0, 0, 833, 2, 265),
  (60, 1, .iload_n 2, 0, 0, 0, 0, 0),
  (61, 3, .if_icmp .ne 10, 0, 0, 0, 71, 0),
  (64, 1, .iload_n 1, 0, 0, 0, 0, 0),
  (65, 1, .iload_n 3, 0, 0, 0, 0, 0),
  (66, 3, .invokestatic 128, 0, 0, 782, 2, 161),
  (69, 1, .iadd, 0, 0, 0, 0, 0),
  (70, 1, .istore_n 1, 0, 0, 0, 0, 0),
  (71, 3, .iinc 2 1, 1, 0, 0, 0, 0),
  (74, 3, .goto (-50), 0, 0, 0, 24, 0),
  (77, 1, .aload_n 0, 0, 0, 0, 0, 0),
  (78, 3, .invokevirtual 214, 0, 0, 909, 0, 135),
  (81, 1, .istore_n 2, 0, 0, 0, 0, 0),
  (82, 1, .aload_n 0, 0, 0, 0, 0, 0),
  (83, 3, .getfield 19, 0, 0, 530, 11, 1),
  (86, 3, .invokevirtual 161, 0, 0, 766, 0, 81),
  (89, 1, .aload_n 0, 0, 0, 0, 0, 0),
  (90, 3, .getfield 19, 0, 0, 530, 11, 1),
  (93, 1, .iload_n 2, 0, 0, 0, 0, 0),
  (94, 3, .invokevirtual 167, 0, 0, 770, 0, 82),
  (97, 1, .iload_n 1, 0, 0, 0, 0, 0),
  (98, 1, .ireturn, 0, 0, 0, 0, 0)]
set_option maxRecDepth 100000 in
theorem zk_136 : zt_136.all (zx_chk 136) = true := by decide +kernel
/-- NamesThatShrink.fewest(J)I -/
def zt_137 : List zx_En := [
  (0, 1, .aload_n 0, 0, 0, 0, 0, 0),
  (1, 1, .lload_n 1, 0, 0, 0, 0, 0),
  (2, 3, .invokevirtual 217, 0, 0, 914, 0, 156),
  (5, 3, .ifCond .eq 5, 0, 0, 0, 10, 0),
  (8, 1, .iconst (-1), (-1), 0, 0, 0, 0),
  (9, 1, .ireturn, 0, 0, 0, 0, 0),
  (10, 1, .aload_n 0, 0, 0, 0, 0, 0),
  (11, 3, .getfield 51, 0, 0, 534, 11, 5),
  (14, 1, .aload_n 0, 0, 0, 0, 0, 0),
  (15, 3, .getfield 26, 0, 0, 531, 11, 2),
  (18, 3, .invokevirtual 221, 0, 0, 918, 0, 85),
  (21, 3, .ifCond .ge 6, 0, 0, 0, 27, 0),
  (24, 2, .bipush (-3), (-3), 0, 0, 0, 0),
  (26, 1, .ireturn, 0, 0, 0, 0, 0),
  (27, 1, .aload_n 0, 0, 0, 0, 0, 0),
  (28, 3, .getfield 51, 0, 0, 534, 11, 5),
  (31, 1, .aload_n 0, 0, 0, 0, 0, 0),
  (32, 3, .getfield 26, 0, 0, 531, 11, 2),
  (35, 1, .lload_n 1, 0, 0, 0, 0, 0),
  (36, 3, .invokevirtual 224, 0, 0, 977, 0, 98),
  (39, 3, .ifCond .eq 17, 0, 0, 0, 56, 0),
  (42, 1, .aload_n 0, 0, 0, 0, 0, 0),
  (43, 3, .getfield 51, 0, 0, 534, 11, 5),
  (46, 1, .aload_n 0, 0, 0, 0, 0, 0),
  (47, 3, .getfield 19, 0, 0, 530, 11, 1),
  (50, 3, .invokevirtual 228, 0, 0, 989, 0, 102),
  (53, 3, .goto 5, 0, 0, 0, 58, 0),
  (56, 2, .bipush (-2), (-2), 0, 0, 0, 0),
  (58, 1, .ireturn, 0, 0, 0, 0, 0)]
set_option maxRecDepth 100000 in
theorem zk_137 : zt_137.all (zx_chk 137) = true := by decide +kernel
/-- NamesThatShrink.losses(J)I -/
def zt_138 : List zx_En := [
  (0, 1, .aload_n 0, 0, 0, 0, 0, 0),
  (1, 1, .lload_n 1, 0, 0, 0, 0, 0),
  (2, 3, .invokevirtual 217, 0, 0, 914, 0, 156),
  (5, 3, .ifCond .eq 5, 0, 0, 0, 10, 0),
  (8, 1, .iconst (-1), (-1), 0, 0, 0, 0),
  (9, 1, .ireturn, 0, 0, 0, 0, 0),
  (10, 1, .aload_n 0, 0, 0, 0, 0, 0),
  (11, 3, .getfield 51, 0, 0, 534, 11, 5),
  (14, 1, .aload_n 0, 0, 0, 0, 0, 0),
  (15, 3, .getfield 26, 0, 0, 531, 11, 2),
  (18, 3, .invokevirtual 221, 0, 0, 918, 0, 85),
  (21, 3, .ifCond .ge 6, 0, 0, 0, 27, 0),
  (24, 2, .bipush (-3), (-3), 0, 0, 0, 0),
  (26, 1, .ireturn, 0, 0, 0, 0, 0),
  (27, 1, .aload_n 0, 0, 0, 0, 0, 0),
  (28, 3, .getfield 51, 0, 0, 534, 11, 5),
  (31, 1, .aload_n 0, 0, 0, 0, 0, 0),
  (32, 3, .getfield 26, 0, 0, 531, 11, 2),
  (35, 1, .lload_n 1, 0, 0, 0, 0, 0),
  (36, 3, .invokevirtual 224, 0, 0, 977, 0, 98),
  (39, 3, .ifCond .eq 17, 0, 0, 0, 56, 0),
  (42, 1, .aload_n 0, 0, 0, 0, 0, 0),
  (43, 3, .getfield 51, 0, 0, 534, 11, 5),
  (46, 1, .aload_n 0, 0, 0, 0, 0, 0),
  (47, 3, .getfield 19, 0, 0, 530, 11, 1),
  (50, 3, .invokevirtual 232, 0, 0, 1018, 0, 105),
  (53, 3, .goto 5, 0, 0, 0, 58, 0),
  (56, 2, .bipush (-2), (-2), 0, 0, 0, 0),
  (58, 1, .ireturn, 0, 0, 0, 0, 0)]
set_option maxRecDepth 100000 in
theorem zk_138 : zt_138.all (zx_chk 138) = true := by decide +kernel
/-- NamesThatShrink.river()I -/
def zt_139 : List zx_En := [
  (0, 1, .aload_n 0, 0, 0, 0, 0, 0),
  (1, 3, .getfield 51, 0, 0, 534, 11, 5),
  (4, 1, .aload_n 0, 0, 0, 0, 0, 0),
  (5, 3, .getfield 26, 0, 0, 531, 11, 2),
  (8, 3, .invokevirtual 221, 0, 0, 918, 0, 85),
  (11, 3, .ifCond .ge 6, 0, 0, 0, 17, 0),
  (14, 2, .bipush (-3), (-3), 0, 0, 0, 0),
  (16, 1, .ireturn, 0, 0, 0, 0, 0),
  (17, 1, .aload_n 0, 0, 0, 0, 0, 0),
  (18, 3, .getfield 51, 0, 0, 534, 11, 5),
  (21, 1, .aload_n 0, 0, 0, 0, 0, 0),
  (22, 3, .getfield 26, 0, 0, 531, 11, 2),
  (25, 3, .invokevirtual 235, 0, 0, 1026, 0, 99),
  (28, 3, .ifCond .eq 17, 0, 0, 0, 45, 0),
  (31, 1, .aload_n 0, 0, 0, 0, 0, 0),
  (32, 3, .getfield 51, 0, 0, 534, 11, 5),
  (35, 1, .aload_n 0, 0, 0, 0, 0, 0),
  (36, 3, .getfield 19, 0, 0, 530, 11, 1),
  (39, 3, .invokevirtual 228, 0, 0, 989, 0, 102),
  (42, 3, .goto 5, 0, 0, 0, 47, 0),
  (45, 2, .bipush (-2), (-2), 0, 0, 0, 0),
  (47, 1, .ireturn, 0, 0, 0, 0, 0)]
set_option maxRecDepth 100000 in
theorem zk_139 : zt_139.all (zx_chk 139) = true := by decide +kernel
/-- NamesThatShrink.alone(II)I -/
def zt_140 : List zx_En := [
  (0, 1, .aload_n 0, 0, 0, 0, 0, 0),
  (1, 3, .getfield 26, 0, 0, 531, 11, 2),
  (4, 1, .iload_n 1, 0, 0, 0, 0, 0),
  (5, 3, .invokevirtual 122, 0, 0, 672, 0, 1),
  (8, 3, .ifCond .eq 14, 0, 0, 0, 22, 0),
  (11, 1, .iload_n 2, 0, 0, 0, 0, 0),
  (12, 1, .iconst 1, 1, 0, 0, 0, 0),
  (13, 3, .if_icmp .lt 9, 0, 0, 0, 22, 0),
  (16, 1, .iload_n 2, 0, 0, 0, 0, 0),
  (17, 2, .bipush 8, 8, 0, 0, 0, 0),
  (19, 3, .if_icmp .le 5, 0, 0, 0, 24, 0),
  (22, 1, .iconst (-1), (-1), 0, 0, 0, 0),
  (23, 1, .ireturn, 0, 0, 0, 0, 0),
  (24, 1, .aload_n 0, 0, 0, 0, 0, 0),
  (25, 3, .getfield 51, 0, 0, 534, 11, 5),
  (28, 1, .aload_n 0, 0, 0, 0, 0, 0),
  (29, 3, .getfield 26, 0, 0, 531, 11, 2),
  (32, 3, .invokevirtual 221, 0, 0, 918, 0, 85),
  (35, 3, .ifCond .ge 6, 0, 0, 0, 41, 0),
  (38, 2, .bipush (-3), (-3), 0, 0, 0, 0),
  (40, 1, .ireturn, 0, 0, 0, 0, 0),
  (41, 1, .aload_n 0, 0, 0, 0, 0, 0),
  (42, 3, .getfield 51, 0, 0, 534, 11, 5),
  (45, 1, .iload_n 1, 0, 0, 0, 0, 0),
  (46, 1, .iload_n 2, 0, 0, 0, 0, 0),
  (47, 1, .aload_n 0, 0, 0, 0, 0, 0),
  (48, 3, .getfield 19, 0, 0, 530, 11, 1),
  (51, 3, .invokevirtual 239, 0, 0, 1034, 0, 106),
  (54, 1, .ireturn, 0, 0, 0, 0, 0)]
set_option maxRecDepth 100000 in
theorem zk_140 : zt_140.all (zx_chk 140) = true := by decide +kernel
/-- NamesThatShrink.states()I -/
def zt_141 : List zx_En := [
  (0, 1, .aload_n 0, 0, 0, 0, 0, 0),
  (1, 3, .getfield 51, 0, 0, 534, 11, 5),
  (4, 1, .aload_n 0, 0, 0, 0, 0, 0),
  (5, 3, .getfield 26, 0, 0, 531, 11, 2),
  (8, 3, .invokevirtual 221, 0, 0, 918, 0, 85),
  (11, 1, .istore_n 1, 0, 0, 0, 0, 0),
  (12, 1, .iload_n 1, 0, 0, 0, 0, 0),
  (13, 3, .ifCond .ge 6, 0, 0, 0, 19, 0),
  (16, 2, .bipush (-3), (-3), 0, 0, 0, 0),
  (18, 1, .ireturn, 0, 0, 0, 0, 0),
  (19, 1, .aload_n 0, 0, 0, 0, 0, 0),
  (20, 3, .getfield 19, 0, 0, 530, 11, 1),
  (23, 3, .invokevirtual 161, 0, 0, 766, 0, 81),
  (26, 1, .aload_n 0, 0, 0, 0, 0, 0),
  (27, 3, .getfield 19, 0, 0, 530, 11, 1),
  (30, 1, .aload_n 0, 0, 0, 0, 0, 0),
  (31, 3, .getfield 51, 0, 0, 534, 11, 5),
  (34, 3, .getfield 243, 0, 0, 377, 9, 15),
  (37, 3, .invokevirtual 167, 0, 0, 770, 0, 82),
  (40, 1, .aload_n 0, 0, 0, 0, 0, 0),
  (41, 3, .getfield 19, 0, 0, 530, 11, 1),
  (44, 1, .aload_n 0, 0, 0, 0, 0, 0),
  (45, 3, .getfield 51, 0, 0, 534, 11, 5),
  (48, 3, .getfield 246, 0, 0, 379, 9, 16),
  (51, 3, .invokevirtual 167, 0, 0, 770, 0, 82),
  (54, 1, .iload_n 1, 0, 0, 0, 0, 0),
  (55, 1, .ireturn, 0, 0, 0, 0, 0)]
set_option maxRecDepth 100000 in
theorem zk_141 : zt_141.all (zx_chk 141) = true := by decide +kernel
/-- NamesThatShrink.comes(J)I -/
def zt_142 : List zx_En := [
  (0, 1, .aload_n 0, 0, 0, 0, 0, 0),
  (1, 1, .lload_n 1, 0, 0, 0, 0, 0),
  (2, 3, .invokevirtual 217, 0, 0, 914, 0, 156),
  (5, 3, .ifCond .eq 5, 0, 0, 0, 10, 0),
  (8, 1, .iconst (-1), (-1), 0, 0, 0, 0),
  (9, 1, .ireturn, 0, 0, 0, 0, 0),
  (10, 1, .iconst 0, 0, 0, 0, 0, 0),
  (11, 1, .istore_n 3, 0, 0, 0, 0, 0),
  (12, 1, .iload_n 3, 0, 0, 0, 0, 0),
  (13, 1, .aload_n 0, 0, 0, 0, 0, 0),
  (14, 3, .getfield 26, 0, 0, 531, 11, 2),
  (17, 3, .getfield 89, 0, 0, 201, 0, 7),
  (20, 3, .if_icmp .ge 31, 0, 0, 0, 51, 0),
  (23, 1, .aload_n 0, 0, 0, 0, 0, 0),
  (24, 3, .getfield 26, 0, 0, 531, 11, 2),
  (27, 3, .getfield 103, 0, 0, 185, 0, 0),
  (30, 1, .iload_n 3, 0, 0, 0, 0, 0),
  (31, 1, .iaload, 0, 0, 0, 0, 0),
  (32, 3, .invokestatic 128, 0, 0, 782, 2, 161),
  (35, 1, .lload_n 1, 0, 0, 0, 0, 0),
  (36, 1, .iload_n 3, 0, 0, 0, 0, 0),
  (37, 3, .invokestatic 249, 0, 0, 1051, 2, 157),
  (40, 3, .if_icmp .ge 5, 0, 0, 0, 45, 0),
  (43, 1, .iconst (-1), (-1), 0, 0, 0, 0),
  (44, 1, .ireturn, 0, 0, 0, 0, 0),
  (45, 3, .iinc 3 1, 1, 0, 0, 0, 0),
  (48, 3, .goto (-36), 0, 0, 0, 12, 0),
  (51, 1, .aload_n 0, 0, 0, 0, 0, 0),
  (52, 3, .getfield 51, 0, 0, 534, 11, 5),
  (55, 1, .aload_n 0, 0, 0, 0, 0, 0),
  (56, 3, .getfield 26, 0, 0, 531, 11, 2),
  (59, 3, .invokevirtual 221, 0, 0, 918, 0, 85),
  (62, 3, .ifCond .ge 8, 0, 0, 0, 70, 0),
  (65, 2, .bipush (-3), (-3), 0, 0, 0, 0),
  (67, 3, .goto 11, 0, 0, 0, 78, 0),
  (70, 1, .aload_n 0, 0, 0, 0, 0, 0),
  (71, 3, .getfield 51, 0, 0, 534, 11, 5),
  (74, 1, .lload_n 1, 0, 0, 0, 0, 0),
  (75, 3, .invokevirtual 253, 0, 0, 1052, 0, 107),
  (78, 1, .ireturn, 0, 0, 0, 0, 0)]
set_option maxRecDepth 100000 in
theorem zk_142 : zt_142.all (zx_chk 142) = true := by decide +kernel
/-- NamesThatShrink.names(III)I -/
def zt_143 : List zx_En := [
  (0, 1, .iload_n 1, 0, 0, 0, 0, 0),
  (1, 1, .iconst 1, 1, 0, 0, 0, 0),
  (2, 3, .if_icmp .lt 17, 0, 0, 0, 19, 0),
  (5, 1, .iload_n 1, 0, 0, 0, 0, 0),
  (6, 2, .bipush 6, 6, 0, 0, 0, 0),
  (8, 3, .if_icmp .gt 11, 0, 0, 0, 19, 0),
  (11, 1, .iload_n 2, 0, 0, 0, 0, 0),
  (12, 1, .iload_n 3, 0, 0, 0, 0, 0),
  (13, 3, .invokestatic 257, 0, 0, 1060, 2, 47),
  (16, 3, .ifCond .ne 5, 0, 0, 0, 21, 0),
  (19, 1, .iconst (-1), (-1), 0, 0, 0, 0),
  (20, 1, .ireturn, 0, 0, 0, 0, 0),
  (21, 1, .aload_n 0, 0, 0, 0, 0, 0),
  (22, 3, .getfield 60, 0, 0, 535, 11, 6),
  (25, 1, .iload_n 2, 0, 0, 0, 0, 0),
  (26, 1, .iload_n 3, 0, 0, 0, 0, 0),
  (27, 3, .invokevirtual 260, 0, 0, 1063, 0, 48),
  (30, 1, .aload_n 0, 0, 0, 0, 0, 0),
  (31, 3, .getfield 60, 0, 0, 535, 11, 6),
  (34, 1, .iload_n 1, 0, 0, 0, 0, 0),
  (35, 1, .aload_n 0, 0, 0, 0, 0, 0),
  (36, 3, .getfield 19, 0, 0, 530, 11, 1),
  (39, 3, .invokevirtual 264, 0, 0, 1072, 0, 50),
  (42, 1, .ireturn, 0, 0, 0, 0, 0)]
set_option maxRecDepth 100000 in
theorem zk_143 : zt_143.all (zx_chk 143) = true := by decide +kernel
/-- NamesThatShrink.safe(II)I -/
def zt_144 : List zx_En := [
  (0, 1, .iload_n 1, 0, 0, 0, 0, 0),
  (1, 1, .iload_n 2, 0, 0, 0, 0, 0),
  (2, 3, .invokestatic 257, 0, 0, 1060, 2, 47),
  (5, 3, .ifCond .ne 5, 0, 0, 0, 10, 0),
  (8, 1, .iconst (-1), (-1), 0, 0, 0, 0),
  (9, 1, .ireturn, 0, 0, 0, 0, 0),
  (10, 1, .aload_n 0, 0, 0, 0, 0, 0),
  (11, 3, .getfield 60, 0, 0, 535, 11, 6),
  (14, 1, .iload_n 1, 0, 0, 0, 0, 0),
  (15, 1, .iload_n 2, 0, 0, 0, 0, 0),
  (16, 3, .invokevirtual 260, 0, 0, 1063, 0, 48),
  (19, 1, .aload_n 0, 0, 0, 0, 0, 0),
  (20, 3, .getfield 60, 0, 0, 535, 11, 6),
  (23, 1, .aload_n 0, 0, 0, 0, 0, 0),
  (24, 3, .getfield 19, 0, 0, 530, 11, 1),
  (27, 3, .invokevirtual 268, 0, 0, 1132, 0, 51),
  (30, 1, .ireturn, 0, 0, 0, 0, 0)]
set_option maxRecDepth 100000 in
theorem zk_144 : zt_144.all (zx_chk 144) = true := by decide +kernel
/-- NamesThatShrink.listen(I)I -/
def zt_145 : List zx_En := [
  (0, 1, .iload_n 1, 0, 0, 0, 0, 0),
  (1, 1, .iconst 1, 1, 0, 0, 0, 0),
  (2, 3, .if_icmp .lt 9, 0, 0, 0, 11, 0),
  (5, 1, .iload_n 1, 0, 0, 0, 0, 0),
  (6, 2, .bipush 6, 6, 0, 0, 0, 0),
  (8, 3, .if_icmp .le 5, 0, 0, 0, 13, 0),
  (11, 1, .iconst (-1), (-1), 0, 0, 0, 0),
  (12, 1, .ireturn, 0, 0, 0, 0, 0),
  (13, 1, .aload_n 0, 0, 0, 0, 0, 0),
  (14, 3, .getfield 67, 0, 0, 536, 11, 7),
  (17, 1, .iload_n 1, 0, 0, 0, 0, 0),
  (18, 3, .putfield 271, 0, 0, 495, 4, 3),
  (21, 1, .aload_n 0, 0, 0, 0, 0, 0),
  (22, 3, .getfield 67, 0, 0, 536, 11, 7),
  (25, 1, .iconst 0, 0, 0, 0, 0, 0),
  (26, 3, .putfield 274, 0, 0, 493, 4, 2),
  (29, 1, .aload_n 0, 0, 0, 0, 0, 0),
  (30, 3, .getfield 67, 0, 0, 536, 11, 7),
  (33, 3, .invokevirtual 277, 0, 0, 1148, 0, 37),
  (36, 1, .ireturn, 0, 0, 0, 0, 0)]
set_option maxRecDepth 100000 in
theorem zk_145 : zt_145.all (zx_chk 145) = true := by decide +kernel
/-- NamesThatShrink.hears(IZ)I -/
def zt_146 : List zx_En := [
  (0, 1, .iload_n 1, 0, 0, 0, 0, 0),
  (1, 3, .ifCond .eq 10, 0, 0, 0, 11, 0),
  (4, 1, .iload_n 1, 0, 0, 0, 0, 0),
  (5, 3, .invokestatic 107, 0, 0, 629, 2, 160),
  (8, 3, .ifCond .ne 5, 0, 0, 0, 13, 0),
  (11, 1, .iconst (-1), (-1), 0, 0, 0, 0),
  (12, 1, .ireturn, 0, 0, 0, 0, 0),
  (13, 1, .aload_n 0, 0, 0, 0, 0, 0),
  (14, 3, .getfield 67, 0, 0, 536, 11, 7),
  (17, 1, .iload_n 1, 0, 0, 0, 0, 0),
  (18, 1, .iload_n 2, 0, 0, 0, 0, 0),
  (19, 3, .invokevirtual 280, 0, 0, 1156, 0, 38),
  (22, 3, .ifCond .ne 6, 0, 0, 0, 28, 0),
  (25, 2, .bipush (-2), (-2), 0, 0, 0, 0),
  (27, 1, .ireturn, 0, 0, 0, 0, 0),
  (28, 1, .aload_n 0, 0, 0, 0, 0, 0),
  (29, 3, .getfield 67, 0, 0, 536, 11, 7),
  (32, 3, .invokevirtual 284, 0, 0, 1160, 0, 39),
  (35, 1, .istore_n 3, 0, 0, 0, 0, 0),
  (36, 1, .aload_n 0, 0, 0, 0, 0, 0),
  (37, 3, .getfield 19, 0, 0, 530, 11, 1),
  (40, 3, .invokevirtual 161, 0, 0, 766, 0, 81),
  (43, 1, .iload_n 3, 0, 0, 0, 0, 0),
  (44, 3, .ifCond .le 17, 0, 0, 0, 61, 0),
  (47, 1, .aload_n 0, 0, 0, 0, 0, 0),
  (48, 3, .getfield 19, 0, 0, 530, 11, 1),
  (51, 1, .aload_n 0, 0, 0, 0, 0, 0),
  (52, 3, .getfield 67, 0, 0, 536, 11, 7),
  (55, 3, .invokevirtual 287, 0, 0, 1181, 0, 40),
  (58, 3, .invokevirtual 167, 0, 0, 770, 0, 82),
  (61, 1, .iload_n 3, 0, 0, 0, 0, 0),
  (62, 1, .ireturn, 0, 0, 0, 0, 0)]
set_option maxRecDepth 100000 in
theorem zk_146 : zt_146.all (zx_chk 146) = true := by decide +kernel
/-- NamesThatShrink.knows()I -/
def zt_147 : List zx_En := [
  (0, 1, .aload_n 0, 0, 0, 0, 0, 0),
  (1, 3, .getfield 67, 0, 0, 536, 11, 7),
  (4, 3, .invokevirtual 284, 0, 0, 1160, 0, 39),
  (7, 1, .istore_n 1, 0, 0, 0, 0, 0),
  (8, 1, .iload_n 1, 0, 0, 0, 0, 0),
  (9, 3, .ifCond .ne 6, 0, 0, 0, 15, 0),
  (12, 2, .bipush (-2), (-2), 0, 0, 0, 0),
  (14, 1, .ireturn, 0, 0, 0, 0, 0),
  (15, 1, .aload_n 0, 0, 0, 0, 0, 0),
  (16, 3, .getfield 19, 0, 0, 530, 11, 1),
  (19, 3, .invokevirtual 161, 0, 0, 766, 0, 81),
  (22, 1, .aload_n 0, 0, 0, 0, 0, 0),
  (23, 3, .getfield 19, 0, 0, 530, 11, 1),
  (26, 1, .aload_n 0, 0, 0, 0, 0, 0),
  (27, 3, .getfield 67, 0, 0, 536, 11, 7),
  (30, 1, .aload_n 0, 0, 0, 0, 0, 0),
  (31, 3, .getfield 67, 0, 0, 536, 11, 7),
  (34, 3, .invokevirtual 287, 0, 0, 1181, 0, 40),
  (37, 3, .invokevirtual 290, 0, 0, 1193, 0, 41),
  (40, 3, .invokevirtual 167, 0, 0, 770, 0, 82),
  (43, 1, .aload_n 0, 0, 0, 0, 0, 0),
  (44, 3, .getfield 19, 0, 0, 530, 11, 1),
  (47, 1, .iconst 1, 1, 0, 0, 0, 0),
  (48, 3, .invokevirtual 167, 0, 0, 770, 0, 82),
  (51, 1, .iload_n 1, 0, 0, 0, 0, 0),
  (52, 1, .ireturn, 0, 0, 0, 0, 0)]
set_option maxRecDepth 100000 in
theorem zk_147 : zt_147.all (zx_chk 147) = true := by decide +kernel
/-- NamesThatShrink.asks()I -/
def zt_148 : List zx_En := [
  (0, 1, .aload_n 0, 0, 0, 0, 0, 0),
  (1, 3, .getfield 67, 0, 0, 536, 11, 7),
  (4, 3, .invokevirtual 284, 0, 0, 1160, 0, 39),
  (7, 1, .istore_n 1, 0, 0, 0, 0, 0),
  (8, 1, .iload_n 1, 0, 0, 0, 0, 0),
  (9, 3, .ifCond .ne 6, 0, 0, 0, 15, 0),
  (12, 2, .bipush (-2), (-2), 0, 0, 0, 0),
  (14, 1, .ireturn, 0, 0, 0, 0, 0),
  (15, 1, .aload_n 0, 0, 0, 0, 0, 0),
  (16, 3, .getfield 19, 0, 0, 530, 11, 1),
  (19, 3, .invokevirtual 161, 0, 0, 766, 0, 81),
  (22, 1, .aload_n 0, 0, 0, 0, 0, 0),
  (23, 3, .getfield 19, 0, 0, 530, 11, 1),
  (26, 1, .iconst 1, 1, 0, 0, 0, 0),
  (27, 1, .iload_n 1, 0, 0, 0, 0, 0),
  (28, 1, .iconst 1, 1, 0, 0, 0, 0),
  (29, 1, .isub, 0, 0, 0, 0, 0),
  (30, 3, .invokestatic 293, 0, 0, 1198, 7, 0),
  (33, 3, .invokevirtual 167, 0, 0, 770, 0, 82),
  (36, 1, .iload_n 1, 0, 0, 0, 0, 0),
  (37, 1, .iconst 1, 1, 0, 0, 0, 0),
  (38, 3, .if_icmp .ne 7, 0, 0, 0, 45, 0),
  (41, 1, .iconst 1, 1, 0, 0, 0, 0),
  (42, 3, .goto 10, 0, 0, 0, 52, 0),
  (45, 1, .aload_n 0, 0, 0, 0, 0, 0),
  (46, 3, .getfield 67, 0, 0, 536, 11, 7),
  (49, 3, .invokevirtual 287, 0, 0, 1181, 0, 40),
  (52, 1, .ireturn, 0, 0, 0, 0, 0)]
set_option maxRecDepth 100000 in
theorem zk_148 : zt_148.all (zx_chk 148) = true := by decide +kernel
/-- NamesThatShrink.forget()I -/
def zt_149 : List zx_En := [
  (0, 1, .aload_n 0, 0, 0, 0, 0, 0),
  (1, 3, .getfield 67, 0, 0, 536, 11, 7),
  (4, 3, .getfield 274, 0, 0, 493, 4, 2),
  (7, 3, .ifCond .ne 5, 0, 0, 0, 12, 0),
  (10, 1, .iconst (-1), (-1), 0, 0, 0, 0),
  (11, 1, .ireturn, 0, 0, 0, 0, 0),
  (12, 1, .aload_n 0, 0, 0, 0, 0, 0),
  (13, 3, .getfield 67, 0, 0, 536, 11, 7),
  (16, 1, .dup, 0, 0, 0, 0, 0),
  (17, 3, .getfield 274, 0, 0, 493, 4, 2),
  (20, 1, .iconst 1, 1, 0, 0, 0, 0),
  (21, 1, .isub, 0, 0, 0, 0, 0),
  (22, 3, .putfield 274, 0, 0, 493, 4, 2),
  (25, 1, .aload_n 0, 0, 0, 0, 0, 0),
  (26, 3, .getfield 67, 0, 0, 536, 11, 7),
  (29, 3, .getfield 274, 0, 0, 493, 4, 2),
  (32, 1, .ireturn, 0, 0, 0, 0, 0)]
set_option maxRecDepth 100000 in
theorem zk_149 : zt_149.all (zx_chk 149) = true := by decide +kernel
/-- NamesThatShrink.seed(I)I -/
def zt_150 : List zx_En := [
  (0, 1, .aload_n 0, 0, 0, 0, 0, 0),
  (1, 3, .getfield 26, 0, 0, 531, 11, 2),
  (4, 3, .getfield 298, 0, 0, 212, 0, 10),
  (7, 1, .istore_n 2, 0, 0, 0, 0, 0),
  (8, 1, .aload_n 0, 0, 0, 0, 0, 0),
  (9, 3, .getfield 26, 0, 0, 531, 11, 2),
  (12, 1, .iload_n 1, 0, 0, 0, 0, 0),
  (13, 3, .putfield 298, 0, 0, 212, 0, 10),
  (16, 1, .iload_n 2, 0, 0, 0, 0, 0),
  (17, 1, .ireturn, 0, 0, 0, 0, 0)]
set_option maxRecDepth 100000 in
theorem zk_150 : zt_150.all (zx_chk 150) = true := by decide +kernel
/-- NamesThatShrink.keep(I)Z -/
def zt_151 : List zx_En := [
  (0, 1, .aload_n 0, 0, 0, 0, 0, 0),
  (1, 3, .getfield 74, 0, 0, 537, 11, 8),
  (4, 1, .iload_n 1, 0, 0, 0, 0, 0),
  (5, 1, .aload_n 0, 0, 0, 0, 0, 0),
  (6, 3, .getfield 26, 0, 0, 531, 11, 2),
  (9, 3, .invokevirtual 301, 0, 0, 1211, 0, 20),
  (12, 1, .ireturn, 0, 0, 0, 0, 0)]
set_option maxRecDepth 100000 in
theorem zk_151 : zt_151.all (zx_chk 151) = true := by decide +kernel
/-- NamesThatShrink.again(I)Z -/
def zt_152 : List zx_En := [
  (0, 1, .aload_n 0, 0, 0, 0, 0, 0),
  (1, 3, .getfield 74, 0, 0, 537, 11, 8),
  (4, 1, .iload_n 1, 0, 0, 0, 0, 0),
  (5, 1, .aload_n 0, 0, 0, 0, 0, 0),
  (6, 3, .getfield 26, 0, 0, 531, 11, 2),
  (9, 3, .invokevirtual 305, 0, 0, 1220, 0, 21),
  (12, 1, .ireturn, 0, 0, 0, 0, 0)]
set_option maxRecDepth 100000 in
theorem zk_152 : zt_152.all (zx_chk 152) = true := by decide +kernel
/-- NamesThatShrink.count(I)I -/
def zt_153 : List zx_En := [
  (0, 1, .iload_n 1, 0, 0, 0, 0, 0),
  (1, 47, .tableswitch 111 0 7 #[47, 55, 63, 71, 79, 87, 95, 103], 0, 0, 0, 0, 0),
  (48, 1, .aload_n 0, 0, 0, 0, 0, 0),
  (49, 3, .getfield 26, 0, 0, 531, 11, 2),
  (52, 3, .getfield 89, 0, 0, 201, 0, 7),
  (55, 1, .ireturn, 0, 0, 0, 0, 0),
  (56, 1, .aload_n 0, 0, 0, 0, 0, 0),
  (57, 3, .getfield 26, 0, 0, 531, 11, 2),
  (60, 3, .invokevirtual 113, 0, 0, 634, 0, 4),
  (63, 1, .ireturn, 0, 0, 0, 0, 0),
  (64, 1, .aload_n 0, 0, 0, 0, 0, 0),
  (65, 3, .getfield 26, 0, 0, 531, 11, 2),
  (68, 3, .getfield 134, 0, 0, 204, 0, 8),
  (71, 1, .ireturn, 0, 0, 0, 0, 0),
  (72, 1, .aload_n 0, 0, 0, 0, 0, 0),
  (73, 3, .getfield 26, 0, 0, 531, 11, 2),
  (76, 3, .getfield 153, 0, 0, 196, 0, 5),
  (79, 1, .ireturn, 0, 0, 0, 0, 0),
  (80, 1, .aload_n 0, 0, 0, 0, 0, 0),
  (81, 3, .getfield 67, 0, 0, 536, 11, 7),
  (84, 3, .getfield 274, 0, 0, 493, 4, 2),
  (87, 1, .ireturn, 0, 0, 0, 0, 0),
  (88, 1, .aload_n 0, 0, 0, 0, 0, 0),
  (89, 3, .getfield 19, 0, 0, 530, 11, 1),
  (92, 3, .getfield 308, 0, 0, 168, 8, 1),
  (95, 1, .ireturn, 0, 0, 0, 0, 0),
  (96, 1, .aload_n 0, 0, 0, 0, 0, 0),
  (97, 3, .getfield 10, 0, 0, 529, 11, 0),
  (100, 3, .getfield 82, 0, 0, 136, 10, 1),
  (103, 1, .ireturn, 0, 0, 0, 0, 0),
  (104, 1, .aload_n 0, 0, 0, 0, 0, 0),
  (105, 3, .getfield 26, 0, 0, 531, 11, 2),
  (108, 3, .invokevirtual 309, 0, 0, 1229, 0, 7),
  (111, 1, .ireturn, 0, 0, 0, 0, 0),
  (112, 1, .iconst (-1), (-1), 0, 0, 0, 0),
  (113, 1, .ireturn, 0, 0, 0, 0, 0)]
set_option maxRecDepth 100000 in
theorem zk_153 : zt_153.all (zx_chk 153) = true := by decide +kernel
/-- NamesThatShrink.row(I)I -/
def zt_154 : List zx_En := [
  (0, 1, .iload_n 1, 0, 0, 0, 0, 0),
  (1, 3, .ifCond .lt 14, 0, 0, 0, 15, 0),
  (4, 1, .iload_n 1, 0, 0, 0, 0, 0),
  (5, 1, .aload_n 0, 0, 0, 0, 0, 0),
  (6, 3, .getfield 19, 0, 0, 530, 11, 1),
  (9, 3, .getfield 308, 0, 0, 168, 8, 1),
  (12, 3, .if_icmp .lt 11, 0, 0, 0, 23, 0),
  (15, 3, .new 125, 0, 0, 1241, 99, 0),
  (18, 1, .dup, 0, 0, 0, 0, 0),
  (19, 3, .invokespecial 127, 0, 0, 1280, 9, 1002),
  (22, 1, .athrow, 0, 0, 0, 0, 0),
  (23, 1, .aload_n 0, 0, 0, 0, 0, 0),
  (24, 3, .getfield 19, 0, 0, 530, 11, 1),
  (27, 3, .getfield 311, 0, 0, 166, 8, 0),
  (30, 1, .iload_n 1, 0, 0, 0, 0, 0),
  (31, 1, .iaload, 0, 0, 0, 0, 0),
  (32, 1, .ireturn, 0, 0, 0, 0, 0)]
set_option maxRecDepth 100000 in
theorem zk_154 : zt_154.all (zx_chk 154) = true := by decide +kernel
/-- NamesThatShrink.areTwo(II)Z -/
def zt_155 : List zx_En := [
  (0, 1, .aload_n 0, 0, 0, 0, 0, 0),
  (1, 3, .getfield 26, 0, 0, 531, 11, 2),
  (4, 1, .iload_n 1, 0, 0, 0, 0, 0),
  (5, 3, .invokevirtual 122, 0, 0, 672, 0, 1),
  (8, 3, .ifCond .eq 23, 0, 0, 0, 31, 0),
  (11, 1, .aload_n 0, 0, 0, 0, 0, 0),
  (12, 3, .getfield 26, 0, 0, 531, 11, 2),
  (15, 1, .iload_n 2, 0, 0, 0, 0, 0),
  (16, 3, .invokevirtual 122, 0, 0, 672, 0, 1),
  (19, 3, .ifCond .eq 12, 0, 0, 0, 31, 0),
  (22, 1, .iload_n 1, 0, 0, 0, 0, 0),
  (23, 1, .iload_n 2, 0, 0, 0, 0, 0),
  (24, 3, .if_icmp .eq 7, 0, 0, 0, 31, 0),
  (27, 1, .iconst 1, 1, 0, 0, 0, 0),
  (28, 3, .goto 4, 0, 0, 0, 32, 0),
  (31, 1, .iconst 0, 0, 0, 0, 0, 0),
  (32, 1, .ireturn, 0, 0, 0, 0, 0)]
set_option maxRecDepth 100000 in
theorem zk_155 : zt_155.all (zx_chk 155) = true := by decide +kernel
/-- NamesThatShrink.tellsOfNobody(J)Z -/
def zt_156 : List zx_En := [
  (0, 1, .lload_n 1, 0, 0, 0, 0, 0),
  (1, 1, .iconst 4, 4, 0, 0, 0, 0),
  (2, 1, .aload_n 0, 0, 0, 0, 0, 0),
  (3, 3, .getfield 26, 0, 0, 531, 11, 2),
  (6, 3, .getfield 89, 0, 0, 201, 0, 7),
  (9, 1, .imul, 0, 0, 0, 0, 0),
  (10, 1, .lushr, 0, 0, 0, 0, 0),
  (11, 1, .lconst 0, 0, 0, 0, 0, 0),
  (12, 1, .lcmp, 0, 0, 0, 0, 0),
  (13, 3, .ifCond .eq 7, 0, 0, 0, 20, 0),
  (16, 1, .iconst 1, 1, 0, 0, 0, 0),
  (17, 3, .goto 4, 0, 0, 0, 21, 0),
  (20, 1, .iconst 0, 0, 0, 0, 0, 0),
  (21, 1, .ireturn, 0, 0, 0, 0, 0)]
set_option maxRecDepth 100000 in
theorem zk_156 : zt_156.all (zx_chk 156) = true := by decide +kernel
/-- NamesThatShrink.fourBits(JI)I -/
def zt_157 : List zx_En := [
  (0, 1, .lload_n 0, 0, 0, 0, 0, 0),
  (1, 1, .iconst 4, 4, 0, 0, 0, 0),
  (2, 1, .iload_n 2, 0, 0, 0, 0, 0),
  (3, 1, .imul, 0, 0, 0, 0, 0),
  (4, 1, .lushr, 0, 0, 0, 0, 0),
  (5, 1, .l2i, 0, 0, 0, 0, 0),
  (6, 2, .bipush 15, 15, 0, 0, 0, 0),
  (8, 1, .iand, 0, 0, 0, 0, 0),
  (9, 1, .ireturn, 0, 0, 0, 0, 0)]
set_option maxRecDepth 100000 in
theorem zk_157 : zt_157.all (zx_chk 157) = true := by decide +kernel
/-- NamesThatShrink.asKind(II)I -/
def zt_158 : List zx_En := [
  (0, 1, .iload_n 0, 0, 0, 0, 0, 0),
  (1, 3, .ifCond .ne 6, 0, 0, 0, 7, 0),
  (4, 1, .iload_n 1, 0, 0, 0, 0, 0),
  (5, 1, .i2b, 0, 0, 0, 0, 0),
  (6, 1, .ireturn, 0, 0, 0, 0, 0),
  (7, 1, .iload_n 0, 0, 0, 0, 0, 0),
  (8, 1, .iconst 1, 1, 0, 0, 0, 0),
  (9, 3, .if_icmp .ne 8, 0, 0, 0, 17, 0),
  (12, 1, .iload_n 1, 0, 0, 0, 0, 0),
  (13, 1, .i2s, 0, 0, 0, 0, 0),
  (14, 3, .goto 4, 0, 0, 0, 18, 0),
  (17, 1, .iload_n 1, 0, 0, 0, 0, 0),
  (18, 1, .ireturn, 0, 0, 0, 0, 0)]
set_option maxRecDepth 100000 in
theorem zk_158 : zt_158.all (zx_chk 158) = true := by decide +kernel
/-- NamesThatShrink.isBeforeInTree(II)Z -/
def zt_159 : List zx_En := [
  (0, 1, .iload_n 0, 0, 0, 0, 0, 0),
  (1, 3, .invokestatic 128, 0, 0, 782, 2, 161),
  (4, 1, .iload_n 1, 0, 0, 0, 0, 0),
  (5, 3, .invokestatic 128, 0, 0, 782, 2, 161),
  (8, 1, .isub, 0, 0, 0, 0, 0),
  (9, 1, .istore_n 2, 0, 0, 0, 0, 0),
  (10, 1, .iload_n 2, 0, 0, 0, 0, 0),
  (11, 3, .ifCond .gt 12, 0, 0, 0, 23, 0),
  (14, 1, .iload_n 2, 0, 0, 0, 0, 0),
  (15, 3, .ifCond .ne 12, 0, 0, 0, 27, 0),
  (18, 1, .iload_n 0, 0, 0, 0, 0, 0),
  (19, 1, .iload_n 1, 0, 0, 0, 0, 0),
  (20, 3, .if_icmp .ge 7, 0, 0, 0, 27, 0),
  (23, 1, .iconst 1, 1, 0, 0, 0, 0),
  (24, 3, .goto 4, 0, 0, 0, 28, 0),
  (27, 1, .iconst 0, 0, 0, 0, 0, 0),
  (28, 1, .ireturn, 0, 0, 0, 0, 0)]
set_option maxRecDepth 100000 in
theorem zk_159 : zt_159.all (zx_chk 159) = true := by decide +kernel
/-- NamesThatShrink.isCode(I)Z -/
def zt_160 : List zx_En := [
  (0, 1, .iload_n 0, 0, 0, 0, 0, 0),
  (1, 3, .ifCond .lt 10, 0, 0, 0, 11, 0),
  (4, 1, .iload_n 0, 0, 0, 0, 0, 0),
  (5, 3, .ldc_w 314, 5764801, 0, 632, 0, 0),
  (8, 3, .if_icmp .lt 5, 0, 0, 0, 13, 0),
  (11, 1, .iconst 0, 0, 0, 0, 0, 0),
  (12, 1, .ireturn, 0, 0, 0, 0, 0),
  (13, 1, .iload_n 0, 0, 0, 0, 0, 0),
  (14, 1, .istore_n 1, 0, 0, 0, 0, 0),
  (15, 1, .iconst 0, 0, 0, 0, 0, 0),
  (16, 1, .istore_n 2, 0, 0, 0, 0, 0),
  (17, 1, .iload_n 2, 0, 0, 0, 0, 0),
  (18, 2, .bipush 8, 8, 0, 0, 0, 0),
  (20, 3, .if_icmp .ge 27, 0, 0, 0, 47, 0),
  (23, 1, .iload_n 1, 0, 0, 0, 0, 0),
  (24, 3, .ifCond .eq 23, 0, 0, 0, 47, 0),
  (27, 1, .iload_n 1, 0, 0, 0, 0, 0),
  (28, 2, .bipush 7, 7, 0, 0, 0, 0),
  (30, 1, .irem, 0, 0, 0, 0, 0),
  (31, 3, .ifCond .ne 5, 0, 0, 0, 36, 0),
  (34, 1, .iconst 0, 0, 0, 0, 0, 0),
  (35, 1, .ireturn, 0, 0, 0, 0, 0),
  (36, 1, .iload_n 1, 0, 0, 0, 0, 0),
  (37, 2, .bipush 7, 7, 0, 0, 0, 0),
  (39, 1, .idiv, 0, 0, 0, 0, 0),
  (40, 1, .istore_n 1, 0, 0, 0, 0, 0),
  (41, 3, .iinc 2 1, 1, 0, 0, 0, 0),
  (44, 3, .goto (-27), 0, 0, 0, 17, 0),
  (47, 1, .iconst 1, 1, 0, 0, 0, 0),
  (48, 1, .ireturn, 0, 0, 0, 0, 0)]
set_option maxRecDepth 100000 in
theorem zk_160 : zt_160.all (zx_chk 160) = true := by decide +kernel
/-- NamesThatShrink.lettersOf(I)I -/
def zt_161 : List zx_En := [
  (0, 1, .iload_n 0, 0, 0, 0, 0, 0),
  (1, 1, .istore_n 1, 0, 0, 0, 0, 0),
  (2, 1, .iconst 0, 0, 0, 0, 0, 0),
  (3, 1, .istore_n 2, 0, 0, 0, 0, 0),
  (4, 1, .iconst 0, 0, 0, 0, 0, 0),
  (5, 1, .istore_n 3, 0, 0, 0, 0, 0),
  (6, 1, .iload_n 3, 0, 0, 0, 0, 0),
  (7, 2, .bipush 8, 8, 0, 0, 0, 0),
  (9, 3, .if_icmp .ge 21, 0, 0, 0, 30, 0),
  (12, 1, .iload_n 1, 0, 0, 0, 0, 0),
  (13, 3, .ifCond .le 17, 0, 0, 0, 30, 0),
  (16, 1, .iload_n 1, 0, 0, 0, 0, 0),
  (17, 2, .bipush 7, 7, 0, 0, 0, 0),
  (19, 1, .idiv, 0, 0, 0, 0, 0),
  (20, 1, .istore_n 1, 0, 0, 0, 0, 0),
  (21, 3, .iinc 2 1, 1, 0, 0, 0, 0),
  (24, 3, .iinc 3 1, 1, 0, 0, 0, 0),
  (27, 3, .goto (-21), 0, 0, 0, 6, 0),
  (30, 1, .iload_n 2, 0, 0, 0, 0, 0),
  (31, 1, .ireturn, 0, 0, 0, 0, 0)]
set_option maxRecDepth 100000 in
theorem zk_161 : zt_161.all (zx_chk 161) = true := by decide +kernel
/-- NamesThatShrink.startsWith(II)Z -/
def zt_162 : List zx_En := [
  (0, 1, .iload_n 0, 0, 0, 0, 0, 0),
  (1, 1, .istore_n 2, 0, 0, 0, 0, 0),
  (2, 1, .iconst 0, 0, 0, 0, 0, 0),
  (3, 1, .istore_n 3, 0, 0, 0, 0, 0),
  (4, 1, .iload_n 3, 0, 0, 0, 0, 0),
  (5, 2, .bipush 8, 8, 0, 0, 0, 0),
  (7, 3, .if_icmp .ge 19, 0, 0, 0, 26, 0),
  (10, 1, .iload_n 2, 0, 0, 0, 0, 0),
  (11, 1, .iload_n 1, 0, 0, 0, 0, 0),
  (12, 3, .if_icmp .le 14, 0, 0, 0, 26, 0),
  (15, 1, .iload_n 2, 0, 0, 0, 0, 0),
  (16, 2, .bipush 7, 7, 0, 0, 0, 0),
  (18, 1, .idiv, 0, 0, 0, 0, 0),
  (19, 1, .istore_n 2, 0, 0, 0, 0, 0),
  (20, 3, .iinc 3 1, 1, 0, 0, 0, 0),
  (23, 3, .goto (-19), 0, 0, 0, 4, 0),
  (26, 1, .iload_n 2, 0, 0, 0, 0, 0),
  (27, 1, .iload_n 1, 0, 0, 0, 0, 0),
  (28, 3, .if_icmp .ne 7, 0, 0, 0, 35, 0),
  (31, 1, .iconst 1, 1, 0, 0, 0, 0),
  (32, 3, .goto 4, 0, 0, 0, 36, 0),
  (35, 1, .iconst 0, 0, 0, 0, 0, 0),
  (36, 1, .ireturn, 0, 0, 0, 0, 0)]
set_option maxRecDepth 100000 in
theorem zk_162 : zt_162.all (zx_chk 162) = true := by decide +kernel
/-- NamesThatShrink.shared(II)I -/
def zt_163 : List zx_En := [
  (0, 1, .iload_n 0, 0, 0, 0, 0, 0),
  (1, 1, .istore_n 2, 0, 0, 0, 0, 0),
  (2, 1, .iload_n 1, 0, 0, 0, 0, 0),
  (3, 1, .istore_n 3, 0, 0, 0, 0, 0),
  (4, 1, .iconst 0, 0, 0, 0, 0, 0),
  (5, 2, .istore 4, 0, 0, 0, 0, 0),
  (7, 2, .iload 4, 0, 0, 0, 0, 0),
  (9, 2, .bipush 16, 16, 0, 0, 0, 0),
  (11, 3, .if_icmp .ge 32, 0, 0, 0, 43, 0),
  (14, 1, .iload_n 2, 0, 0, 0, 0, 0),
  (15, 1, .iload_n 3, 0, 0, 0, 0, 0),
  (16, 3, .if_icmp .eq 27, 0, 0, 0, 43, 0),
  (19, 1, .iload_n 2, 0, 0, 0, 0, 0),
  (20, 1, .iload_n 3, 0, 0, 0, 0, 0),
  (21, 3, .if_icmp .le 11, 0, 0, 0, 32, 0),
  (24, 1, .iload_n 2, 0, 0, 0, 0, 0),
  (25, 2, .bipush 7, 7, 0, 0, 0, 0),
  (27, 1, .idiv, 0, 0, 0, 0, 0),
  (28, 1, .istore_n 2, 0, 0, 0, 0, 0),
  (29, 3, .goto 8, 0, 0, 0, 37, 0),
  (32, 1, .iload_n 3, 0, 0, 0, 0, 0),
  (33, 2, .bipush 7, 7, 0, 0, 0, 0),
  (35, 1, .idiv, 0, 0, 0, 0, 0),
  (36, 1, .istore_n 3, 0, 0, 0, 0, 0),
  (37, 3, .iinc 4 1, 1, 0, 0, 0, 0),
  (40, 3, .goto (-33), 0, 0, 0, 7, 0),
  (43, 1, .iload_n 2, 0, 0, 0, 0, 0),
  (44, 1, .ireturn, 0, 0, 0, 0, 0)]
set_option maxRecDepth 100000 in
theorem zk_163 : zt_163.all (zx_chk 163) = true := by decide +kernel
/-- NamesThatShrink.canMeet(III)Z -/
def zt_164 : List zx_En := [
  (0, 1, .iload_n 0, 0, 0, 0, 0, 0),
  (1, 1, .iload_n 1, 0, 0, 0, 0, 0),
  (2, 3, .invokestatic 194, 0, 0, 815, 2, 163),
  (5, 3, .invokestatic 128, 0, 0, 782, 2, 161),
  (8, 1, .istore_n 3, 0, 0, 0, 0, 0),
  (9, 1, .iload_n 3, 0, 0, 0, 0, 0),
  (10, 3, .ifCond .le 27, 0, 0, 0, 37, 0),
  (13, 1, .iload_n 0, 0, 0, 0, 0, 0),
  (14, 3, .invokestatic 128, 0, 0, 782, 2, 161),
  (17, 1, .iload_n 3, 0, 0, 0, 0, 0),
  (18, 1, .isub, 0, 0, 0, 0, 0),
  (19, 1, .iload_n 2, 0, 0, 0, 0, 0),
  (20, 3, .if_icmp .gt 17, 0, 0, 0, 37, 0),
  (23, 1, .iload_n 1, 0, 0, 0, 0, 0),
  (24, 3, .invokestatic 128, 0, 0, 782, 2, 161),
  (27, 1, .iload_n 3, 0, 0, 0, 0, 0),
  (28, 1, .isub, 0, 0, 0, 0, 0),
  (29, 1, .iload_n 2, 0, 0, 0, 0, 0),
  (30, 3, .if_icmp .gt 7, 0, 0, 0, 37, 0),
  (33, 1, .iconst 1, 1, 0, 0, 0, 0),
  (34, 3, .goto 4, 0, 0, 0, 38, 0),
  (37, 1, .iconst 0, 0, 0, 0, 0, 0),
  (38, 1, .ireturn, 0, 0, 0, 0, 0)]
set_option maxRecDepth 100000 in
theorem zk_164 : zt_164.all (zx_chk 164) = true := by decide +kernel
/-- NamesThatShrinkModel.thrown()I -/
def zt_165 : List zx_En := [
  (0, 1, .aload_n 0, 0, 0, 0, 0, 0),
  (1, 3, .getfield 3, 0, 0, 1713, 12, 0),
  (4, 1, .ireturn, 0, 0, 0, 0, 0)]
set_option maxRecDepth 100000 in
theorem zk_165 : zt_165.all (zx_chk 165) = true := by decide +kernel
/-- NamesThatShrinkModel.refuse()I -/
def zt_166 : List zx_En := [
  (0, 1, .aload_n 0, 0, 0, 0, 0, 0),
  (1, 1, .iconst 1, 1, 0, 0, 0, 0),
  (2, 3, .putfield 3, 0, 0, 1713, 12, 0),
  (5, 1, .iconst 0, 0, 0, 0, 0, 0),
  (6, 1, .ireturn, 0, 0, 0, 0, 0)]
set_option maxRecDepth 100000 in
theorem zk_166 : zt_166.all (zx_chk 166) = true := by decide +kernel
/-- NamesThatShrinkModel.in(JJJ)Z -/
def zt_167 : List zx_En := [
  (0, 1, .lload_n 0, 0, 0, 0, 0, 0),
  (1, 1, .lload_n 2, 0, 0, 0, 0, 0),
  (2, 1, .lcmp, 0, 0, 0, 0, 0),
  (3, 3, .ifCond .lt 14, 0, 0, 0, 17, 0),
  (6, 1, .lload_n 0, 0, 0, 0, 0, 0),
  (7, 2, .lload 4, 0, 0, 0, 0, 0),
  (9, 1, .lcmp, 0, 0, 0, 0, 0),
  (10, 3, .ifCond .gt 7, 0, 0, 0, 17, 0),
  (13, 1, .iconst 1, 1, 0, 0, 0, 0),
  (14, 3, .goto 4, 0, 0, 0, 18, 0),
  (17, 1, .iconst 0, 0, 0, 0, 0, 0),
  (18, 1, .ireturn, 0, 0, 0, 0, 0)]
set_option maxRecDepth 100000 in
theorem zk_167 : zt_167.all (zx_chk 167) = true := by decide +kernel
/-- NamesThatShrinkModel.has(II)Z -/
def zt_168 : List zx_En := [
  (0, 1, .iload_n 0, 0, 0, 0, 0, 0),
  (1, 1, .iload_n 1, 0, 0, 0, 0, 0),
  (2, 1, .ishr, 0, 0, 0, 0, 0),
  (3, 1, .iconst 1, 1, 0, 0, 0, 0),
  (4, 1, .iand, 0, 0, 0, 0, 0),
  (5, 1, .iconst 1, 1, 0, 0, 0, 0),
  (6, 3, .if_icmp .ne 7, 0, 0, 0, 13, 0),
  (9, 1, .iconst 1, 1, 0, 0, 0, 0),
  (10, 3, .goto 4, 0, 0, 0, 14, 0),
  (13, 1, .iconst 0, 0, 0, 0, 0, 0),
  (14, 1, .ireturn, 0, 0, 0, 0, 0)]
set_option maxRecDepth 100000 in
theorem zk_168 : zt_168.all (zx_chk 168) = true := by decide +kernel
/-- NamesThatShrinkModel.flag(Z)I -/
def zt_169 : List zx_En := [
  (0, 1, .iload_n 0, 0, 0, 0, 0, 0),
  (1, 3, .ifCond .eq 7, 0, 0, 0, 8, 0),
  (4, 1, .iconst 1, 1, 0, 0, 0, 0),
  (5, 3, .goto 4, 0, 0, 0, 9, 0),
  (8, 1, .iconst 0, 0, 0, 0, 0, 0),
  (9, 1, .ireturn, 0, 0, 0, 0, 0)]
set_option maxRecDepth 100000 in
theorem zk_169 : zt_169.all (zx_chk 169) = true := by decide +kernel
/-- NamesThatShrinkModel.enters(I)V -/
def zt_170 : List zx_En := [
  (0, 1, .aload_n 0, 0, 0, 0, 0, 0),
  (1, 3, .getfield 7, 0, 0, 1715, 12, 2),
  (4, 1, .aload_n 0, 0, 0, 0, 0, 0),
  (5, 3, .getfield 11, 0, 0, 1714, 12, 1),
  (8, 1, .iload_n 1, 0, 0, 0, 0, 0),
  (9, 1, .iastore, 0, 0, 0, 0, 0),
  (10, 1, .aload_n 0, 0, 0, 0, 0, 0),
  (11, 1, .dup, 0, 0, 0, 0, 0),
  (12, 3, .getfield 11, 0, 0, 1714, 12, 1),
  (15, 1, .iconst 1, 1, 0, 0, 0, 0),
  (16, 1, .iadd, 0, 0, 0, 0, 0),
  (17, 3, .putfield 11, 0, 0, 1714, 12, 1),
  (20, 1, .return_, 0, 0, 0, 0, 0)]
set_option maxRecDepth 100000 in
theorem zk_170 : zt_170.all (zx_chk 170) = true := by decide +kernel
/-- NamesThatShrinkModel.lengthOf(I)I -/
def zt_171 : List zx_En := [
  (0, 1, .iconst 0, 0, 0, 0, 0, 0),
  (1, 1, .istore_n 1, 0, 0, 0, 0, 0),
  (2, 1, .iload_n 0, 0, 0, 0, 0, 0),
  (3, 1, .istore_n 2, 0, 0, 0, 0, 0),
  (4, 1, .iload_n 2, 0, 0, 0, 0, 0),
  (5, 3, .ifCond .le 14, 0, 0, 0, 19, 0),
  (8, 3, .iinc 1 1, 1, 0, 0, 0, 0),
  (11, 1, .iload_n 2, 0, 0, 0, 0, 0),
  (12, 2, .bipush 7, 7, 0, 0, 0, 0),
  (14, 1, .idiv, 0, 0, 0, 0, 0),
  (15, 1, .istore_n 2, 0, 0, 0, 0, 0),
  (16, 3, .goto (-12), 0, 0, 0, 4, 0),
  (19, 1, .iload_n 1, 0, 0, 0, 0, 0),
  (20, 1, .ireturn, 0, 0, 0, 0, 0)]
set_option maxRecDepth 100000 in
theorem zk_171 : zt_171.all (zx_chk 171) = true := by decide +kernel
/-- NamesThatShrinkModel.isCode(I)Z -/
def zt_172 : List zx_En := [
  (0, 1, .iload_n 0, 0, 0, 0, 0, 0),
  (1, 3, .ifCond .lt 16, 0, 0, 0, 17, 0),
  (4, 1, .iload_n 0, 0, 0, 0, 0, 0),
  (5, 3, .invokestatic 14, 0, 0, 1373, 2, 171),
  (8, 2, .bipush 8, 8, 0, 0, 0, 0),
  (10, 3, .if_icmp .gt 7, 0, 0, 0, 17, 0),
  (13, 1, .iconst 1, 1, 0, 0, 0, 0),
  (14, 3, .goto 4, 0, 0, 0, 18, 0),
  (17, 1, .iconst 0, 0, 0, 0, 0, 0),
  (18, 1, .istore_n 1, 0, 0, 0, 0, 0),
  (19, 1, .iload_n 0, 0, 0, 0, 0, 0),
  (20, 1, .istore_n 2, 0, 0, 0, 0, 0),
  (21, 1, .iload_n 2, 0, 0, 0, 0, 0),
  (22, 3, .ifCond .le 28, 0, 0, 0, 50, 0),
  (25, 1, .iload_n 1, 0, 0, 0, 0, 0),
  (26, 3, .ifCond .eq 14, 0, 0, 0, 40, 0),
  (29, 1, .iload_n 2, 0, 0, 0, 0, 0),
  (30, 2, .bipush 7, 7, 0, 0, 0, 0),
  (32, 1, .irem, 0, 0, 0, 0, 0),
  (33, 3, .ifCond .le 7, 0, 0, 0, 40, 0),
  (36, 1, .iconst 1, 1, 0, 0, 0, 0),
  (37, 3, .goto 4, 0, 0, 0, 41, 0),
  (40, 1, .iconst 0, 0, 0, 0, 0, 0),
  (41, 1, .istore_n 1, 0, 0, 0, 0, 0),
  (42, 1, .iload_n 2, 0, 0, 0, 0, 0),
  (43, 2, .bipush 7, 7, 0, 0, 0, 0),
  (45, 1, .idiv, 0, 0, 0, 0, 0),
  (46, 1, .istore_n 2, 0, 0, 0, 0, 0),
  (47, 3, .goto (-26), 0, 0, 0, 21, 0),
  (50, 1, .iload_n 1, 0, 0, 0, 0, 0),
  (51, 1, .ireturn, 0, 0, 0, 0, 0)]
set_option maxRecDepth 100000 in
theorem zk_172 : zt_172.all (zx_chk 172) = true := by decide +kernel
/-- NamesThatShrinkModel.firstOf(II)I -/
def zt_173 : List zx_En := [
  (0, 1, .iload_n 0, 0, 0, 0, 0, 0),
  (1, 1, .istore_n 2, 0, 0, 0, 0, 0),
  (2, 1, .iload_n 0, 0, 0, 0, 0, 0),
  (3, 3, .invokestatic 14, 0, 0, 1373, 2, 171),
  (6, 1, .istore_n 3, 0, 0, 0, 0, 0),
  (7, 1, .iload_n 3, 0, 0, 0, 0, 0),
  (8, 1, .iload_n 1, 0, 0, 0, 0, 0),
  (9, 3, .if_icmp .le 14, 0, 0, 0, 23, 0),
  (12, 1, .iload_n 2, 0, 0, 0, 0, 0),
  (13, 2, .bipush 7, 7, 0, 0, 0, 0),
  (15, 1, .idiv, 0, 0, 0, 0, 0),
  (16, 1, .istore_n 2, 0, 0, 0, 0, 0),
  (17, 3, .iinc 3 (-1), (-1), 0, 0, 0, 0),
  (20, 3, .goto (-13), 0, 0, 0, 7, 0),
  (23, 1, .iload_n 2, 0, 0, 0, 0, 0),
  (24, 1, .ireturn, 0, 0, 0, 0, 0)]
set_option maxRecDepth 100000 in
theorem zk_173 : zt_173.all (zx_chk 173) = true := by decide +kernel
end
section
/-- NamesThatShrinkModel.alike(II)I -/
def zt_174 : List zx_En := [
  (0, 1, .iload_n 0, 0, 0, 0, 0, 0),
  (1, 3, .invokestatic 14, 0, 0, 1373, 2, 171),
  (4, 1, .iload_n 1, 0, 0, 0, 0, 0),
  (5, 3, .invokestatic 14, 0, 0, 1373, 2, 171),
  (8, 3, .invokestatic 18, 0, 0, 1333, 8, 0),
  (11, 1, .istore_n 2, 0, 0, 0, 0, 0),
  (12, 1, .iload_n 2, 0, 0, 0, 0, 0),
  (13, 3, .ifCond .le 22, 0, 0, 0, 35, 0),
  (16, 1, .iload_n 0, 0, 0, 0, 0, 0),
  (17, 1, .iload_n 2, 0, 0, 0, 0, 0),
  (18, 3, .invokestatic 24, 0, 0, 1429, 2, 173),
  (21, 1, .iload_n 1, 0, 0, 0, 0, 0),
  (22, 1, .iload_n 2, 0, 0, 0, 0, 0),
  (23, 3, .invokestatic 24, 0, 0, 1429, 2, 173),
  (26, 3, .if_icmp .eq 9, 0, 0, 0, 35, 0),
  (29, 3, .iinc 2 (-1), (-1), 0, 0, 0, 0),
  (32, 3, .goto (-20), 0, 0, 0, 12, 0),
  (35, 1, .iload_n 2, 0, 0, 0, 0, 0),
  (36, 1, .ireturn, 0, 0, 0, 0, 0)]
set_option maxRecDepth 100000 in
theorem zk_174 : zt_174.all (zx_chk 174) = true := by decide +kernel
/-- NamesThatShrinkModel.isPerson(I)Z -/
def zt_175 : List zx_En := [
  (0, 1, .iload_n 1, 0, 0, 0, 0, 0),
  (1, 1, .i2l, 0, 0, 0, 0, 0),
  (2, 1, .lconst 0, 0, 0, 0, 0, 0),
  (3, 1, .aload_n 0, 0, 0, 0, 0, 0),
  (4, 3, .getfield 27, 0, 0, 1716, 12, 3),
  (7, 1, .iconst 1, 1, 0, 0, 0, 0),
  (8, 1, .isub, 0, 0, 0, 0, 0),
  (9, 1, .i2l, 0, 0, 0, 0, 0),
  (10, 3, .invokestatic 30, 0, 0, 1321, 2, 167),
  (13, 1, .ireturn, 0, 0, 0, 0, 0)]
set_option maxRecDepth 100000 in
theorem zk_175 : zt_175.all (zx_chk 175) = true := by decide +kernel
/-- NamesThatShrinkModel.sign(I)I -/
def zt_176 : List zx_En := [
  (0, 1, .aload_n 0, 0, 0, 0, 0, 0),
  (1, 1, .iconst 0, 0, 0, 0, 0, 0),
  (2, 3, .putfield 3, 0, 0, 1713, 12, 0),
  (5, 1, .aload_n 0, 0, 0, 0, 0, 0),
  (6, 3, .getfield 34, 0, 0, 1727, 12, 14),
  (9, 2, .bipush 76, 76, 0, 0, 0, 0),
  (11, 3, .if_icmp .le 5, 0, 0, 0, 16, 0),
  (14, 1, .iconst (-1), (-1), 0, 0, 0, 0),
  (15, 1, .ireturn, 0, 0, 0, 0, 0),
  (16, 1, .iconst 0, 0, 0, 0, 0, 0),
  (17, 1, .istore_n 2, 0, 0, 0, 0, 0),
  (18, 1, .iload_n 2, 0, 0, 0, 0, 0),
  (19, 1, .iconst 4, 4, 0, 0, 0, 0),
  (20, 3, .if_icmp .ge 33, 0, 0, 0, 53, 0),
  (23, 1, .aload_n 0, 0, 0, 0, 0, 0),
  (24, 3, .getfield 37, 0, 0, 1726, 12, 13),
  (27, 1, .aload_n 0, 0, 0, 0, 0, 0),
  (28, 3, .getfield 34, 0, 0, 1727, 12, 14),
  (31, 1, .iload_n 2, 0, 0, 0, 0, 0),
  (32, 1, .iadd, 0, 0, 0, 0, 0),
  (33, 1, .iload_n 1, 0, 0, 0, 0, 0),
  (34, 2, .bipush 24, 24, 0, 0, 0, 0),
  (36, 2, .bipush 8, 8, 0, 0, 0, 0),
  (38, 1, .iload_n 2, 0, 0, 0, 0, 0),
  (39, 1, .imul, 0, 0, 0, 0, 0),
  (40, 1, .isub, 0, 0, 0, 0, 0),
  (41, 1, .ishr, 0, 0, 0, 0, 0),
  (42, 3, .sipush 255, 255, 0, 0, 0, 0),
  (45, 1, .iand, 0, 0, 0, 0, 0),
  (46, 1, .iastore, 0, 0, 0, 0, 0),
  (47, 3, .iinc 2 1, 1, 0, 0, 0, 0),
  (50, 3, .goto (-32), 0, 0, 0, 18, 0),
  (53, 1, .aload_n 0, 0, 0, 0, 0, 0),
  (54, 1, .dup, 0, 0, 0, 0, 0),
  (55, 3, .getfield 34, 0, 0, 1727, 12, 14),
  (58, 1, .iconst 4, 4, 0, 0, 0, 0),
  (59, 1, .iadd, 0, 0, 0, 0, 0),
  (60, 3, .putfield 34, 0, 0, 1727, 12, 14),
  (63, 1, .aload_n 0, 0, 0, 0, 0, 0),
  (64, 3, .getfield 34, 0, 0, 1727, 12, 14),
  (67, 1, .ireturn, 0, 0, 0, 0, 0)]
set_option maxRecDepth 100000 in
theorem zk_176 : zt_176.all (zx_chk 176) = true := by decide +kernel
/-- NamesThatShrinkModel.end(I)Z -/
def zt_177 : List zx_En := [
  (0, 1, .aload_n 0, 0, 0, 0, 0, 0),
  (1, 1, .iconst 0, 0, 0, 0, 0, 0),
  (2, 3, .putfield 3, 0, 0, 1713, 12, 0),
  (5, 1, .iload_n 1, 0, 0, 0, 0, 0),
  (6, 1, .i2l, 0, 0, 0, 0, 0),
  (7, 1, .lconst 0, 0, 0, 0, 0, 0),
  (8, 1, .aload_n 0, 0, 0, 0, 0, 0),
  (9, 3, .getfield 34, 0, 0, 1727, 12, 14),
  (12, 1, .i2l, 0, 0, 0, 0, 0),
  (13, 3, .invokestatic 30, 0, 0, 1321, 2, 167),
  (16, 3, .ifCond .ne 5, 0, 0, 0, 21, 0),
  (19, 1, .iconst 0, 0, 0, 0, 0, 0),
  (20, 1, .ireturn, 0, 0, 0, 0, 0),
  (21, 1, .aload_n 0, 0, 0, 0, 0, 0),
  (22, 1, .iload_n 1, 0, 0, 0, 0, 0),
  (23, 3, .putfield 34, 0, 0, 1727, 12, 14),
  (26, 1, .iconst 1, 1, 0, 0, 0, 0),
  (27, 1, .ireturn, 0, 0, 0, 0, 0)]
set_option maxRecDepth 100000 in
theorem zk_177 : zt_177.all (zx_chk 177) = true := by decide +kernel
/-- NamesThatShrinkModel.begins(I)I -/
def zt_178 : List zx_En := [
  (0, 1, .aload_n 0, 0, 0, 0, 0, 0),
  (1, 3, .getfield 34, 0, 0, 1727, 12, 14),
  (4, 1, .istore_n 2, 0, 0, 0, 0, 0),
  (5, 1, .aload_n 0, 0, 0, 0, 0, 0),
  (6, 1, .iconst 0, 0, 0, 0, 0, 0),
  (7, 3, .putfield 34, 0, 0, 1727, 12, 14),
  (10, 1, .aload_n 0, 0, 0, 0, 0, 0),
  (11, 1, .iconst 0, 0, 0, 0, 0, 0),
  (12, 3, .putfield 40, 0, 0, 1728, 12, 15),
  (15, 1, .aload_n 0, 0, 0, 0, 0, 0),
  (16, 1, .iconst 0, 0, 0, 0, 0, 0),
  (17, 3, .putfield 43, 0, 0, 1730, 12, 17),
  (20, 1, .aload_n 0, 0, 0, 0, 0, 0),
  (21, 1, .iload_n 2, 0, 0, 0, 0, 0),
  (22, 1, .iload_n 1, 0, 0, 0, 0, 0),
  (23, 3, .invokestatic 18, 0, 0, 1333, 8, 0),
  (26, 3, .putfield 46, 0, 0, 1729, 12, 16),
  (29, 1, .iload_n 2, 0, 0, 0, 0, 0),
  (30, 1, .ireturn, 0, 0, 0, 0, 0)]
set_option maxRecDepth 100000 in
theorem zk_178 : zt_178.all (zx_chk 178) = true := by decide +kernel
/-- NamesThatShrinkModel.takes(I)Z -/
def zt_179 : List zx_En := [
  (0, 1, .aload_n 0, 0, 0, 0, 0, 0),
  (1, 3, .getfield 40, 0, 0, 1728, 12, 15),
  (4, 1, .aload_n 0, 0, 0, 0, 0, 0),
  (5, 3, .getfield 46, 0, 0, 1729, 12, 16),
  (8, 3, .if_icmp .ge 20, 0, 0, 0, 28, 0),
  (11, 1, .aload_n 0, 0, 0, 0, 0, 0),
  (12, 3, .getfield 37, 0, 0, 1726, 12, 13),
  (15, 1, .aload_n 0, 0, 0, 0, 0, 0),
  (16, 3, .getfield 40, 0, 0, 1728, 12, 15),
  (19, 1, .iaload, 0, 0, 0, 0, 0),
  (20, 1, .iload_n 1, 0, 0, 0, 0, 0),
  (21, 3, .if_icmp .ne 7, 0, 0, 0, 28, 0),
  (24, 1, .iconst 1, 1, 0, 0, 0, 0),
  (25, 3, .goto 4, 0, 0, 0, 29, 0),
  (28, 1, .iconst 0, 0, 0, 0, 0, 0),
  (29, 1, .istore_n 2, 0, 0, 0, 0, 0),
  (30, 1, .aload_n 0, 0, 0, 0, 0, 0),
  (31, 1, .dup, 0, 0, 0, 0, 0),
  (32, 3, .getfield 40, 0, 0, 1728, 12, 15),
  (35, 1, .iload_n 2, 0, 0, 0, 0, 0),
  (36, 3, .invokestatic 49, 0, 0, 1352, 2, 169),
  (39, 1, .iadd, 0, 0, 0, 0, 0),
  (40, 3, .putfield 40, 0, 0, 1728, 12, 15),
  (43, 1, .iload_n 2, 0, 0, 0, 0, 0),
  (44, 1, .ireturn, 0, 0, 0, 0, 0)]
set_option maxRecDepth 100000 in
theorem zk_179 : zt_179.all (zx_chk 179) = true := by decide +kernel
/-- NamesThatShrinkModel.isLetter()Z -/
def zt_180 : List zx_En := [
  (0, 1, .aload_n 0, 0, 0, 0, 0, 0),
  (1, 3, .getfield 40, 0, 0, 1728, 12, 15),
  (4, 1, .aload_n 0, 0, 0, 0, 0, 0),
  (5, 3, .getfield 46, 0, 0, 1729, 12, 16),
  (8, 3, .if_icmp .ge 29, 0, 0, 0, 37, 0),
  (11, 1, .aload_n 0, 0, 0, 0, 0, 0),
  (12, 3, .getfield 37, 0, 0, 1726, 12, 13),
  (15, 1, .aload_n 0, 0, 0, 0, 0, 0),
  (16, 3, .getfield 40, 0, 0, 1728, 12, 15),
  (19, 1, .iaload, 0, 0, 0, 0, 0),
  (20, 1, .i2l, 0, 0, 0, 0, 0),
  (21, 3, .ldc2_w 53, 0, 97, 1346, 0, 0),
  (24, 3, .ldc2_w 55, 0, 102, 1347, 0, 0),
  (27, 3, .invokestatic 30, 0, 0, 1321, 2, 167),
  (30, 3, .ifCond .eq 7, 0, 0, 0, 37, 0),
  (33, 1, .iconst 1, 1, 0, 0, 0, 0),
  (34, 3, .goto 4, 0, 0, 0, 38, 0),
  (37, 1, .iconst 0, 0, 0, 0, 0, 0),
  (38, 1, .ireturn, 0, 0, 0, 0, 0)]
set_option maxRecDepth 100000 in
theorem zk_180 : zt_180.all (zx_chk 180) = true := by decide +kernel
/-- NamesThatShrinkModel.letters()I -/
def zt_181 : List zx_En := [
  (0, 1, .iconst 0, 0, 0, 0, 0, 0),
  (1, 1, .istore_n 1, 0, 0, 0, 0, 0),
  (2, 1, .iconst 0, 0, 0, 0, 0, 0),
  (3, 1, .istore_n 2, 0, 0, 0, 0, 0),
  (4, 1, .iload_n 2, 0, 0, 0, 0, 0),
  (5, 2, .bipush 8, 8, 0, 0, 0, 0),
  (7, 3, .if_icmp .ge 46, 0, 0, 0, 53, 0),
  (10, 1, .aload_n 0, 0, 0, 0, 0, 0),
  (11, 3, .invokevirtual 57, 0, 0, 1342, 0, 180),
  (14, 3, .ifCond .eq 39, 0, 0, 0, 53, 0),
  (17, 1, .iload_n 1, 0, 0, 0, 0, 0),
  (18, 2, .bipush 7, 7, 0, 0, 0, 0),
  (20, 1, .imul, 0, 0, 0, 0, 0),
  (21, 1, .aload_n 0, 0, 0, 0, 0, 0),
  (22, 3, .getfield 37, 0, 0, 1726, 12, 13),
  (25, 1, .aload_n 0, 0, 0, 0, 0, 0),
  (26, 3, .getfield 40, 0, 0, 1728, 12, 15),
  (29, 1, .iaload, 0, 0, 0, 0, 0),
  (30, 1, .iadd, 0, 0, 0, 0, 0),
  (31, 2, .bipush 97, 97, 0, 0, 0, 0),
  (33, 1, .isub, 0, 0, 0, 0, 0),
  (34, 1, .iconst 1, 1, 0, 0, 0, 0),
  (35, 1, .iadd, 0, 0, 0, 0, 0),
  (36, 1, .istore_n 1, 0, 0, 0, 0, 0),
  (37, 1, .aload_n 0, 0, 0, 0, 0, 0),
  (38, 1, .dup, 0, 0, 0, 0, 0),
  (39, 3, .getfield 40, 0, 0, 1728, 12, 15),
  (42, 1, .iconst 1, 1, 0, 0, 0, 0),
  (43, 1, .iadd, 0, 0, 0, 0, 0),
  (44, 3, .putfield 40, 0, 0, 1728, 12, 15),
  (47, 3, .iinc 2 1, 1, 0, 0, 0, 0),
  (50, 3, .goto (-46), 0, 0, 0, 4, 0),
  (53, 1, .iload_n 1, 0, 0, 0, 0, 0),
  (54, 1, .ireturn, 0, 0, 0, 0, 0)]
set_option maxRecDepth 100000 in
theorem zk_181 : zt_181.all (zx_chk 181) = true := by decide +kernel
/-- NamesThatShrinkModel.isDigit()Z -/
def zt_182 : List zx_En := [
  (0, 1, .aload_n 0, 0, 0, 0, 0, 0),
  (1, 3, .getfield 40, 0, 0, 1728, 12, 15),
  (4, 1, .aload_n 0, 0, 0, 0, 0, 0),
  (5, 3, .getfield 46, 0, 0, 1729, 12, 16),
  (8, 3, .if_icmp .ge 29, 0, 0, 0, 37, 0),
  (11, 1, .aload_n 0, 0, 0, 0, 0, 0),
  (12, 3, .getfield 37, 0, 0, 1726, 12, 13),
  (15, 1, .aload_n 0, 0, 0, 0, 0, 0),
  (16, 3, .getfield 40, 0, 0, 1728, 12, 15),
  (19, 1, .iaload, 0, 0, 0, 0, 0),
  (20, 1, .i2l, 0, 0, 0, 0, 0),
  (21, 3, .ldc2_w 61, 0, 49, 1359, 0, 0),
  (24, 3, .ldc2_w 63, 0, 57, 1360, 0, 0),
  (27, 3, .invokestatic 30, 0, 0, 1321, 2, 167),
  (30, 3, .ifCond .eq 7, 0, 0, 0, 37, 0),
  (33, 1, .iconst 1, 1, 0, 0, 0, 0),
  (34, 3, .goto 4, 0, 0, 0, 38, 0),
  (37, 1, .iconst 0, 0, 0, 0, 0, 0),
  (38, 1, .ireturn, 0, 0, 0, 0, 0)]
set_option maxRecDepth 100000 in
theorem zk_182 : zt_182.all (zx_chk 182) = true := by decide +kernel
/-- NamesThatShrinkModel.faultOf(IIZ)I -/
def zt_183 : List zx_En := [
  (0, 1, .iload_n 3, 0, 0, 0, 0, 0),
  (1, 3, .ifCond .eq 18, 0, 0, 0, 19, 0),
  (4, 1, .aload_n 0, 0, 0, 0, 0, 0),
  (5, 3, .getfield 40, 0, 0, 1728, 12, 15),
  (8, 1, .aload_n 0, 0, 0, 0, 0, 0),
  (9, 3, .getfield 46, 0, 0, 1729, 12, 16),
  (12, 3, .if_icmp .ne 7, 0, 0, 0, 19, 0),
  (15, 1, .iconst 1, 1, 0, 0, 0, 0),
  (16, 3, .goto 4, 0, 0, 0, 20, 0),
  (19, 1, .iconst 0, 0, 0, 0, 0, 0),
  (20, 2, .istore 4, 0, 0, 0, 0, 0),
  (22, 1, .iload_n 1, 0, 0, 0, 0, 0),
  (23, 1, .iload_n 2, 0, 0, 0, 0, 0),
  (24, 3, .if_icmp .le 20, 0, 0, 0, 44, 0),
  (27, 2, .iload 4, 0, 0, 0, 0, 0),
  (29, 3, .ifCond .ne 11, 0, 0, 0, 40, 0),
  (32, 1, .aload_n 0, 0, 0, 0, 0, 0),
  (33, 3, .getfield 40, 0, 0, 1728, 12, 15),
  (36, 1, .iload_n 2, 0, 0, 0, 0, 0),
  (37, 3, .if_icmp .lt 7, 0, 0, 0, 44, 0),
  (40, 1, .iconst (-1), (-1), 0, 0, 0, 0),
  (41, 1, .iload_n 2, 0, 0, 0, 0, 0),
  (42, 1, .isub, 0, 0, 0, 0, 0),
  (43, 1, .ireturn, 0, 0, 0, 0, 0),
  (44, 2, .iload 4, 0, 0, 0, 0, 0),
  (46, 3, .ifCond .eq 7, 0, 0, 0, 53, 0),
  (49, 1, .iconst 0, 0, 0, 0, 0, 0),
  (50, 3, .goto 9, 0, 0, 0, 59, 0),
  (53, 1, .iconst (-1), (-1), 0, 0, 0, 0),
  (54, 1, .aload_n 0, 0, 0, 0, 0, 0),
  (55, 3, .getfield 40, 0, 0, 1728, 12, 15),
  (58, 1, .isub, 0, 0, 0, 0, 0),
  (59, 1, .ireturn, 0, 0, 0, 0, 0)]
set_option maxRecDepth 100000 in
theorem zk_183 : zt_183.all (zx_chk 183) = true := by decide +kernel
/-- NamesThatShrinkModel.readsLine()Z -/
def zt_184 : List zx_En := [
  (0, 1, .aload_n 0, 0, 0, 0, 0, 0),
  (1, 3, .invokevirtual 65, 0, 0, 1338, 0, 181),
  (4, 1, .istore_n 1, 0, 0, 0, 0, 0),
  (5, 1, .iload_n 1, 0, 0, 0, 0, 0),
  (6, 3, .ifCond .ne 5, 0, 0, 0, 11, 0),
  (9, 1, .iconst 0, 0, 0, 0, 0, 0),
  (10, 1, .ireturn, 0, 0, 0, 0, 0),
  (11, 1, .iload_n 1, 0, 0, 0, 0, 0),
  (12, 2, .bipush 7, 7, 0, 0, 0, 0),
  (14, 3, .if_icmp .ge 53, 0, 0, 0, 67, 0),
  (17, 1, .aload_n 0, 0, 0, 0, 0, 0),
  (18, 2, .bipush 61, 61, 0, 0, 0, 0),
  (20, 3, .invokevirtual 69, 0, 0, 1348, 0, 179),
  (23, 3, .ifCond .eq 44, 0, 0, 0, 67, 0),
  (26, 1, .aload_n 0, 0, 0, 0, 0, 0),
  (27, 3, .invokevirtual 73, 0, 0, 1355, 0, 182),
  (30, 1, .istore_n 2, 0, 0, 0, 0, 0),
  (31, 1, .iload_n 2, 0, 0, 0, 0, 0),
  (32, 3, .ifCond .eq 33, 0, 0, 0, 65, 0),
  (35, 1, .aload_n 0, 0, 0, 0, 0, 0),
  (36, 3, .getfield 76, 0, 0, 1732, 12, 19),
  (39, 1, .iload_n 1, 0, 0, 0, 0, 0),
  (40, 1, .iconst 1, 1, 0, 0, 0, 0),
  (41, 1, .isub, 0, 0, 0, 0, 0),
  (42, 1, .aload_n 0, 0, 0, 0, 0, 0),
  (43, 3, .getfield 37, 0, 0, 1726, 12, 13),
  (46, 1, .aload_n 0, 0, 0, 0, 0, 0),
  (47, 3, .getfield 40, 0, 0, 1728, 12, 15),
  (50, 1, .iaload, 0, 0, 0, 0, 0),
  (51, 2, .bipush 48, 48, 0, 0, 0, 0),
  (53, 1, .isub, 0, 0, 0, 0, 0),
  (54, 1, .iastore, 0, 0, 0, 0, 0),
  (55, 1, .aload_n 0, 0, 0, 0, 0, 0),
  (56, 1, .dup, 0, 0, 0, 0, 0),
  (57, 3, .getfield 40, 0, 0, 1728, 12, 15),
  (60, 1, .iconst 1, 1, 0, 0, 0, 0),
  (61, 1, .iadd, 0, 0, 0, 0, 0),
  (62, 3, .putfield 40, 0, 0, 1728, 12, 15),
  (65, 1, .iload_n 2, 0, 0, 0, 0, 0),
  (66, 1, .ireturn, 0, 0, 0, 0, 0),
  (67, 1, .aload_n 0, 0, 0, 0, 0, 0),
  (68, 3, .invokevirtual 57, 0, 0, 1342, 0, 180),
  (71, 3, .ifCond .ne 17, 0, 0, 0, 88, 0),
  (74, 1, .aload_n 0, 0, 0, 0, 0, 0),
  (75, 3, .getfield 27, 0, 0, 1716, 12, 3),
  (78, 1, .aload_n 0, 0, 0, 0, 0, 0),
  (79, 3, .getfield 79, 0, 0, 1733, 12, 20),
  (82, 1, .iadd, 0, 0, 0, 0, 0),
  (83, 2, .bipush 10, 10, 0, 0, 0, 0),
  (85, 3, .if_icmp .ne 5, 0, 0, 0, 90, 0),
  (88, 1, .iconst 0, 0, 0, 0, 0, 0),
  (89, 1, .ireturn, 0, 0, 0, 0, 0),
  (90, 1, .aload_n 0, 0, 0, 0, 0, 0),
  (91, 3, .getfield 82, 0, 0, 1731, 12, 18),
  (94, 1, .aload_n 0, 0, 0, 0, 0, 0),
  (95, 3, .getfield 79, 0, 0, 1733, 12, 20),
  (98, 1, .iload_n 1, 0, 0, 0, 0, 0),
  (99, 1, .iastore, 0, 0, 0, 0, 0),
  (100, 1, .aload_n 0, 0, 0, 0, 0, 0),
  (101, 1, .dup, 0, 0, 0, 0, 0),
  (102, 3, .getfield 79, 0, 0, 1733, 12, 20),
  (105, 1, .iconst 1, 1, 0, 0, 0, 0),
  (106, 1, .iadd, 0, 0, 0, 0, 0),
  (107, 3, .putfield 79, 0, 0, 1733, 12, 20),
  (110, 1, .iconst 1, 1, 0, 0, 0, 0),
  (111, 1, .ireturn, 0, 0, 0, 0, 0)]
set_option maxRecDepth 100000 in
theorem zk_184 : zt_184.all (zx_chk 184) = true := by decide +kernel
/-- NamesThatShrinkModel.crowd()I -/
def zt_185 : List zx_En := [
  (0, 1, .aload_n 0, 0, 0, 0, 0, 0),
  (1, 1, .iconst 0, 0, 0, 0, 0, 0),
  (2, 3, .putfield 3, 0, 0, 1713, 12, 0),
  (5, 1, .aload_n 0, 0, 0, 0, 0, 0),
  (6, 2, .bipush 76, 76, 0, 0, 0, 0),
  (8, 3, .invokevirtual 85, 0, 0, 1328, 0, 178),
  (11, 1, .istore_n 1, 0, 0, 0, 0, 0),
  (12, 1, .aload_n 0, 0, 0, 0, 0, 0),
  (13, 1, .iconst 0, 0, 0, 0, 0, 0),
  (14, 3, .putfield 79, 0, 0, 1733, 12, 20),
  (17, 1, .iconst 0, 0, 0, 0, 0, 0),
  (18, 1, .istore_n 2, 0, 0, 0, 0, 0),
  (19, 1, .iload_n 2, 0, 0, 0, 0, 0),
  (20, 2, .bipush 6, 6, 0, 0, 0, 0),
  (22, 3, .if_icmp .ge 21, 0, 0, 0, 43, 0),
  (25, 1, .aload_n 0, 0, 0, 0, 0, 0),
  (26, 3, .getfield 76, 0, 0, 1732, 12, 19),
  (29, 1, .iload_n 2, 0, 0, 0, 0, 0),
  (30, 1, .aload_n 0, 0, 0, 0, 0, 0),
  (31, 3, .getfield 88, 0, 0, 1720, 12, 7),
  (34, 1, .iload_n 2, 0, 0, 0, 0, 0),
  (35, 1, .iaload, 0, 0, 0, 0, 0),
  (36, 1, .iastore, 0, 0, 0, 0, 0),
  (37, 3, .iinc 2 1, 1, 0, 0, 0, 0),
  (40, 3, .goto (-21), 0, 0, 0, 19, 0),
  (43, 1, .iconst 0, 0, 0, 0, 0, 0),
  (44, 1, .istore_n 2, 0, 0, 0, 0, 0),
  (45, 1, .iconst 1, 1, 0, 0, 0, 0),
  (46, 1, .istore_n 3, 0, 0, 0, 0, 0),
  (47, 1, .iload_n 1, 0, 0, 0, 0, 0),
  (48, 3, .ifCond .le 7, 0, 0, 0, 55, 0),
  (51, 1, .iconst 1, 1, 0, 0, 0, 0),
  (52, 3, .goto 4, 0, 0, 0, 56, 0),
  (55, 1, .iconst 0, 0, 0, 0, 0, 0),
  (56, 2, .istore 4, 0, 0, 0, 0, 0),
  (58, 2, .iload 4, 0, 0, 0, 0, 0),
  (60, 3, .ifCond .eq 34, 0, 0, 0, 94, 0),
  (63, 1, .aload_n 0, 0, 0, 0, 0, 0),
  (64, 3, .invokevirtual 91, 0, 0, 1334, 0, 184),
  (67, 1, .istore_n 3, 0, 0, 0, 0, 0),
  (68, 3, .iinc 2 1, 1, 0, 0, 0, 0),
  (71, 1, .iload_n 3, 0, 0, 0, 0, 0),
  (72, 3, .ifCond .eq 16, 0, 0, 0, 88, 0),
  (75, 1, .aload_n 0, 0, 0, 0, 0, 0),
  (76, 2, .bipush 59, 59, 0, 0, 0, 0),
  (78, 3, .invokevirtual 69, 0, 0, 1348, 0, 179),
  (81, 3, .ifCond .eq 7, 0, 0, 0, 88, 0),
  (84, 1, .iconst 1, 1, 0, 0, 0, 0),
  (85, 3, .goto 4, 0, 0, 0, 89, 0),
  (88, 1, .iconst 0, 0, 0, 0, 0, 0),
  (89, 2, .istore 4, 0, 0, 0, 0, 0),
  (91, 3, .goto (-33), 0, 0, 0, 58, 0),
  (94, 1, .aload_n 0, 0, 0, 0, 0, 0),
  (95, 1, .iload_n 1, 0, 0, 0, 0, 0),
  (96, 2, .bipush 76, 76, 0, 0, 0, 0),
  (98, 1, .iload_n 3, 0, 0, 0, 0, 0),
  (99, 3, .invokevirtual 94, 0, 0, 1361, 0, 183),
  (102, 2, .istore 5, 0, 0, 0, 0, 0),
  (104, 2, .iload 5, 0, 0, 0, 0, 0),
  (106, 3, .ifCond .ge 6, 0, 0, 0, 112, 0),
  (109, 2, .iload 5, 0, 0, 0, 0, 0),
  (111, 1, .ireturn, 0, 0, 0, 0, 0),
  (112, 1, .iconst 0, 0, 0, 0, 0, 0),
  (113, 2, .istore 6, 0, 0, 0, 0, 0),
  (115, 2, .iload 6, 0, 0, 0, 0, 0),
  (117, 1, .aload_n 0, 0, 0, 0, 0, 0),
  (118, 3, .getfield 79, 0, 0, 1733, 12, 20),
  (121, 3, .if_icmp .ge 55, 0, 0, 0, 176, 0),
  (124, 1, .aload_n 0, 0, 0, 0, 0, 0),
  (125, 3, .getfield 98, 0, 0, 1717, 12, 4),
  (128, 1, .aload_n 0, 0, 0, 0, 0, 0),
  (129, 3, .getfield 27, 0, 0, 1716, 12, 3),
  (132, 1, .aload_n 0, 0, 0, 0, 0, 0),
  (133, 3, .getfield 82, 0, 0, 1731, 12, 18),
  (136, 2, .iload 6, 0, 0, 0, 0, 0),
  (138, 1, .iaload, 0, 0, 0, 0, 0),
  (139, 1, .iastore, 0, 0, 0, 0, 0),
  (140, 1, .aload_n 0, 0, 0, 0, 0, 0),
  (141, 3, .getfield 101, 0, 0, 1718, 12, 5),
  (144, 1, .aload_n 0, 0, 0, 0, 0, 0),
  (145, 3, .getfield 27, 0, 0, 1716, 12, 3),
  (148, 1, .iconst 0, 0, 0, 0, 0, 0),
  (149, 1, .iastore, 0, 0, 0, 0, 0),
  (150, 1, .aload_n 0, 0, 0, 0, 0, 0),
  (151, 3, .getfield 104, 0, 0, 1719, 12, 6),
  (154, 1, .aload_n 0, 0, 0, 0, 0, 0),
  (155, 3, .getfield 27, 0, 0, 1716, 12, 3),
  (158, 1, .iconst 0, 0, 0, 0, 0, 0),
  (159, 1, .iastore, 0, 0, 0, 0, 0),
  (160, 1, .aload_n 0, 0, 0, 0, 0, 0),
  (161, 1, .dup, 0, 0, 0, 0, 0),
  (162, 3, .getfield 27, 0, 0, 1716, 12, 3),
  (165, 1, .iconst 1, 1, 0, 0, 0, 0),
  (166, 1, .iadd, 0, 0, 0, 0, 0),
  (167, 3, .putfield 27, 0, 0, 1716, 12, 3),
  (170, 3, .iinc 6 1, 1, 0, 0, 0, 0),
  (173, 3, .goto (-58), 0, 0, 0, 115, 0),
  (176, 1, .iconst 0, 0, 0, 0, 0, 0),
  (177, 2, .istore 6, 0, 0, 0, 0, 0),
  (179, 2, .iload 6, 0, 0, 0, 0, 0),
  (181, 2, .bipush 6, 6, 0, 0, 0, 0),
  (183, 3, .if_icmp .ge 23, 0, 0, 0, 206, 0),
  (186, 1, .aload_n 0, 0, 0, 0, 0, 0),
  (187, 3, .getfield 88, 0, 0, 1720, 12, 7),
  (190, 2, .iload 6, 0, 0, 0, 0, 0),
  (192, 1, .aload_n 0, 0, 0, 0, 0, 0),
  (193, 3, .getfield 76, 0, 0, 1732, 12, 19),
  (196, 2, .iload 6, 0, 0, 0, 0, 0),
  (198, 1, .iaload, 0, 0, 0, 0, 0),
  (199, 1, .iastore, 0, 0, 0, 0, 0),
  (200, 3, .iinc 6 1, 1, 0, 0, 0, 0),
  (203, 3, .goto (-24), 0, 0, 0, 179, 0),
  (206, 1, .aload_n 0, 0, 0, 0, 0, 0),
  (207, 1, .iload_n 1, 0, 0, 0, 0, 0),
  (208, 3, .ifCond .le 7, 0, 0, 0, 215, 0),
  (211, 1, .iconst 0, 0, 0, 0, 0, 0),
  (212, 3, .goto 7, 0, 0, 0, 219, 0),
  (215, 1, .aload_n 0, 0, 0, 0, 0, 0),
  (216, 3, .getfield 107, 0, 0, 1723, 12, 10),
  (219, 3, .putfield 107, 0, 0, 1723, 12, 10),
  (222, 1, .iload_n 2, 0, 0, 0, 0, 0),
  (223, 1, .ireturn, 0, 0, 0, 0, 0)]
set_option maxRecDepth 100000 in
theorem zk_185 : zt_185.all (zx_chk 185) = true := by decide +kernel
/-- NamesThatShrinkModel.sheet(IIII)I -/
def zt_186 : List zx_En := [
  (0, 1, .aload_n 0, 0, 0, 0, 0, 0),
  (1, 1, .iconst 0, 0, 0, 0, 0, 0),
  (2, 3, .putfield 3, 0, 0, 1713, 12, 0),
  (5, 1, .iload_n 1, 0, 0, 0, 0, 0),
  (6, 1, .i2l, 0, 0, 0, 0, 0),
  (7, 1, .lconst 0, 0, 0, 0, 0, 0),
  (8, 3, .ldc2_w 110, 0, 3, 1369, 0, 0),
  (11, 3, .invokestatic 30, 0, 0, 1321, 2, 167),
  (14, 3, .ifCond .eq 9, 0, 0, 0, 23, 0),
  (17, 1, .iload_n 2, 0, 0, 0, 0, 0),
  (18, 2, .bipush 10, 10, 0, 0, 0, 0),
  (20, 3, .if_icmp .le 5, 0, 0, 0, 25, 0),
  (23, 1, .iconst (-1), (-1), 0, 0, 0, 0),
  (24, 1, .ireturn, 0, 0, 0, 0, 0),
  (25, 1, .iload_n 1, 0, 0, 0, 0, 0),
  (26, 1, .iconst 3, 3, 0, 0, 0, 0),
  (27, 3, .if_icmp .eq 10, 0, 0, 0, 37, 0),
  (30, 1, .iload_n 2, 0, 0, 0, 0, 0),
  (31, 3, .ifCond .ge 6, 0, 0, 0, 37, 0),
  (34, 2, .bipush (-2), (-2), 0, 0, 0, 0),
  (36, 1, .ireturn, 0, 0, 0, 0, 0),
  (37, 1, .iconst 0, 0, 0, 0, 0, 0),
  (38, 2, .istore 5, 0, 0, 0, 0, 0),
  (40, 1, .iload_n 3, 0, 0, 0, 0, 0),
  (41, 2, .istore 6, 0, 0, 0, 0, 0),
  (43, 1, .iconst 0, 0, 0, 0, 0, 0),
  (44, 2, .istore 7, 0, 0, 0, 0, 0),
  (46, 2, .iload 7, 0, 0, 0, 0, 0),
  (48, 1, .aload_n 0, 0, 0, 0, 0, 0),
  (49, 3, .getfield 27, 0, 0, 1716, 12, 3),
  (52, 3, .if_icmp .ge 96, 0, 0, 0, 148, 0),
  (55, 1, .iload_n 1, 0, 0, 0, 0, 0),
  (56, 3, .ifCond .ne 9, 0, 0, 0, 65, 0),
  (59, 2, .iload 6, 0, 0, 0, 0, 0),
  (61, 1, .i2b, 0, 0, 0, 0, 0),
  (62, 3, .goto 16, 0, 0, 0, 78, 0),
  (65, 1, .iload_n 1, 0, 0, 0, 0, 0),
  (66, 1, .iconst 1, 1, 0, 0, 0, 0),
  (67, 3, .if_icmp .ne 9, 0, 0, 0, 76, 0),
  (70, 2, .iload 6, 0, 0, 0, 0, 0),
  (72, 1, .i2s, 0, 0, 0, 0, 0),
  (73, 3, .goto 5, 0, 0, 0, 78, 0),
  (76, 2, .iload 6, 0, 0, 0, 0, 0),
  (78, 2, .istore 8, 0, 0, 0, 0, 0),
  (80, 1, .aload_n 0, 0, 0, 0, 0, 0),
  (81, 3, .getfield 98, 0, 0, 1717, 12, 4),
  (84, 2, .iload 7, 0, 0, 0, 0, 0),
  (86, 1, .iload_n 1, 0, 0, 0, 0, 0),
  (87, 1, .iconst 3, 3, 0, 0, 0, 0),
  (88, 3, .if_icmp .eq 17, 0, 0, 0, 105, 0),
  (91, 2, .iload 7, 0, 0, 0, 0, 0),
  (93, 1, .iload_n 2, 0, 0, 0, 0, 0),
  (94, 3, .if_icmp .ge 11, 0, 0, 0, 105, 0),
  (97, 2, .iload 8, 0, 0, 0, 0, 0),
  (99, 3, .invokestatic 112, 0, 0, 1370, 2, 172),
  (102, 3, .ifCond .ne 7, 0, 0, 0, 109, 0),
  (105, 1, .iconst 0, 0, 0, 0, 0, 0),
  (106, 3, .goto 5, 0, 0, 0, 111, 0),
  (109, 2, .iload 8, 0, 0, 0, 0, 0),
  (111, 1, .iastore, 0, 0, 0, 0, 0),
  (112, 2, .iload 5, 0, 0, 0, 0, 0),
  (114, 1, .aload_n 0, 0, 0, 0, 0, 0),
  (115, 3, .getfield 98, 0, 0, 1717, 12, 4),
  (118, 2, .iload 7, 0, 0, 0, 0, 0),
  (120, 1, .iaload, 0, 0, 0, 0, 0),
  (121, 3, .ifCond .le 7, 0, 0, 0, 128, 0),
  (124, 1, .iconst 1, 1, 0, 0, 0, 0),
  (125, 3, .goto 4, 0, 0, 0, 129, 0),
  (128, 1, .iconst 0, 0, 0, 0, 0, 0),
  (129, 3, .invokestatic 49, 0, 0, 1352, 2, 169),
  (132, 1, .iadd, 0, 0, 0, 0, 0),
  (133, 2, .istore 5, 0, 0, 0, 0, 0),
  (135, 2, .iload 6, 0, 0, 0, 0, 0),
  (137, 2, .iload 4, 0, 0, 0, 0, 0),
  (139, 1, .iadd, 0, 0, 0, 0, 0),
  (140, 2, .istore 6, 0, 0, 0, 0, 0),
  (142, 3, .iinc 7 1, 1, 0, 0, 0, 0),
  (145, 3, .goto (-99), 0, 0, 0, 46, 0),
  (148, 1, .aload_n 0, 0, 0, 0, 0, 0),
  (149, 1, .iconst 0, 0, 0, 0, 0, 0),
  (150, 3, .putfield 107, 0, 0, 1723, 12, 10),
  (153, 1, .iload_n 1, 0, 0, 0, 0, 0),
  (154, 1, .iconst 3, 3, 0, 0, 0, 0),
  (155, 3, .if_icmp .ne 8, 0, 0, 0, 163, 0),
  (158, 2, .bipush (-3), (-3), 0, 0, 0, 0),
  (160, 3, .goto 5, 0, 0, 0, 165, 0),
  (163, 2, .iload 5, 0, 0, 0, 0, 0),
  (165, 1, .ireturn, 0, 0, 0, 0, 0)]
set_option maxRecDepth 100000 in
theorem zk_186 : zt_186.all (zx_chk 186) = true := by decide +kernel
/-- NamesThatShrinkModel.of(II)I -/
def zt_187 : List zx_En := [
  (0, 1, .aload_n 0, 0, 0, 0, 0, 0),
  (1, 1, .iconst 0, 0, 0, 0, 0, 0),
  (2, 3, .putfield 3, 0, 0, 1713, 12, 0),
  (5, 1, .aload_n 0, 0, 0, 0, 0, 0),
  (6, 1, .iload_n 1, 0, 0, 0, 0, 0),
  (7, 3, .invokevirtual 115, 0, 0, 1380, 0, 175),
  (10, 3, .ifCond .eq 15, 0, 0, 0, 25, 0),
  (13, 1, .iload_n 2, 0, 0, 0, 0, 0),
  (14, 1, .i2l, 0, 0, 0, 0, 0),
  (15, 1, .lconst 0, 0, 0, 0, 0, 0),
  (16, 3, .ldc2_w 110, 0, 3, 1369, 0, 0),
  (19, 3, .invokestatic 30, 0, 0, 1321, 2, 167),
  (22, 3, .ifCond .ne 8, 0, 0, 0, 30, 0),
  (25, 1, .aload_n 0, 0, 0, 0, 0, 0),
  (26, 3, .invokevirtual 118, 0, 0, 1384, 0, 166),
  (29, 1, .ireturn, 0, 0, 0, 0, 0),
  (30, 1, .iload_n 2, 0, 0, 0, 0, 0),
  (31, 3, .ifCond .ne 12, 0, 0, 0, 43, 0),
  (34, 1, .aload_n 0, 0, 0, 0, 0, 0),
  (35, 3, .getfield 98, 0, 0, 1717, 12, 4),
  (38, 1, .iload_n 1, 0, 0, 0, 0, 0),
  (39, 1, .iaload, 0, 0, 0, 0, 0),
  (40, 3, .goto 40, 0, 0, 0, 80, 0),
  (43, 1, .iload_n 2, 0, 0, 0, 0, 0),
  (44, 1, .iconst 1, 1, 0, 0, 0, 0),
  (45, 3, .if_icmp .ne 15, 0, 0, 0, 60, 0),
  (48, 1, .aload_n 0, 0, 0, 0, 0, 0),
  (49, 3, .getfield 98, 0, 0, 1717, 12, 4),
  (52, 1, .iload_n 1, 0, 0, 0, 0, 0),
  (53, 1, .iaload, 0, 0, 0, 0, 0),
  (54, 3, .invokestatic 14, 0, 0, 1373, 2, 171),
  (57, 3, .goto 23, 0, 0, 0, 80, 0),
  (60, 1, .iload_n 2, 0, 0, 0, 0, 0),
  (61, 1, .iconst 2, 2, 0, 0, 0, 0),
  (62, 3, .if_icmp .ne 12, 0, 0, 0, 74, 0),
  (65, 1, .aload_n 0, 0, 0, 0, 0, 0),
  (66, 3, .getfield 101, 0, 0, 1718, 12, 5),
  (69, 1, .iload_n 1, 0, 0, 0, 0, 0),
  (70, 1, .iaload, 0, 0, 0, 0, 0),
  (71, 3, .goto 9, 0, 0, 0, 80, 0),
  (74, 1, .aload_n 0, 0, 0, 0, 0, 0),
  (75, 3, .getfield 104, 0, 0, 1719, 12, 6),
  (78, 1, .iload_n 1, 0, 0, 0, 0, 0),
  (79, 1, .iaload, 0, 0, 0, 0, 0),
  (80, 1, .ireturn, 0, 0, 0, 0, 0)]
set_option maxRecDepth 100000 in
theorem zk_187 : zt_187.all (zx_chk 187) = true := by decide +kernel
/-- NamesThatShrinkModel.set(III)I -/
def zt_188 : List zx_En := [
  (0, 1, .aload_n 0, 0, 0, 0, 0, 0),
  (1, 1, .iconst 0, 0, 0, 0, 0, 0),
  (2, 3, .putfield 3, 0, 0, 1713, 12, 0),
  (5, 1, .iload_n 1, 0, 0, 0, 0, 0),
  (6, 3, .ifCond .ne 45, 0, 0, 0, 51, 0),
  (9, 1, .iload_n 2, 0, 0, 0, 0, 0),
  (10, 1, .i2l, 0, 0, 0, 0, 0),
  (11, 1, .lconst 0, 0, 0, 0, 0, 0),
  (12, 3, .ldc2_w 121, 0, 5, 1392, 0, 0),
  (15, 3, .invokestatic 30, 0, 0, 1321, 2, 167),
  (18, 3, .ifCond .eq 33, 0, 0, 0, 51, 0),
  (21, 1, .iload_n 3, 0, 0, 0, 0, 0),
  (22, 1, .i2l, 0, 0, 0, 0, 0),
  (23, 1, .lconst 1, 0, 1, 0, 0, 0),
  (24, 3, .ldc2_w 123, 0, 9, 1393, 0, 0),
  (27, 3, .invokestatic 30, 0, 0, 1321, 2, 167),
  (30, 3, .ifCond .eq 21, 0, 0, 0, 51, 0),
  (33, 1, .aload_n 0, 0, 0, 0, 0, 0),
  (34, 3, .getfield 88, 0, 0, 1720, 12, 7),
  (37, 1, .iload_n 2, 0, 0, 0, 0, 0),
  (38, 1, .iaload, 0, 0, 0, 0, 0),
  (39, 2, .istore 4, 0, 0, 0, 0, 0),
  (41, 1, .aload_n 0, 0, 0, 0, 0, 0),
  (42, 3, .getfield 88, 0, 0, 1720, 12, 7),
  (45, 1, .iload_n 2, 0, 0, 0, 0, 0),
  (46, 1, .iload_n 3, 0, 0, 0, 0, 0),
  (47, 1, .iastore, 0, 0, 0, 0, 0),
  (48, 2, .iload 4, 0, 0, 0, 0, 0),
  (50, 1, .ireturn, 0, 0, 0, 0, 0),
  (51, 1, .iload_n 1, 0, 0, 0, 0, 0),
  (52, 1, .iconst 1, 1, 0, 0, 0, 0),
  (53, 3, .if_icmp .ne 29, 0, 0, 0, 82, 0),
  (56, 1, .iload_n 3, 0, 0, 0, 0, 0),
  (57, 1, .i2l, 0, 0, 0, 0, 0),
  (58, 1, .lconst 1, 0, 1, 0, 0, 0),
  (59, 3, .ldc2_w 125, 0, 10, 1394, 0, 0),
  (62, 3, .invokestatic 30, 0, 0, 1321, 2, 167),
  (65, 3, .ifCond .eq 17, 0, 0, 0, 82, 0),
  (68, 1, .aload_n 0, 0, 0, 0, 0, 0),
  (69, 3, .getfield 127, 0, 0, 1721, 12, 8),
  (72, 2, .istore 4, 0, 0, 0, 0, 0),
  (74, 1, .aload_n 0, 0, 0, 0, 0, 0),
  (75, 1, .iload_n 3, 0, 0, 0, 0, 0),
  (76, 3, .putfield 127, 0, 0, 1721, 12, 8),
  (79, 2, .iload 4, 0, 0, 0, 0, 0),
  (81, 1, .ireturn, 0, 0, 0, 0, 0),
  (82, 1, .iconst (-1), (-1), 0, 0, 0, 0),
  (83, 1, .ireturn, 0, 0, 0, 0, 0)]
set_option maxRecDepth 100000 in
theorem zk_188 : zt_188.all (zx_chk 188) = true := by decide +kernel
/-- NamesThatShrinkModel.whoHave(I)I -/
def zt_189 : List zx_En := [
  (0, 1, .iconst 0, 0, 0, 0, 0, 0),
  (1, 1, .istore_n 2, 0, 0, 0, 0, 0),
  (2, 1, .iconst 0, 0, 0, 0, 0, 0),
  (3, 1, .istore_n 3, 0, 0, 0, 0, 0),
  (4, 1, .iload_n 3, 0, 0, 0, 0, 0),
  (5, 1, .aload_n 0, 0, 0, 0, 0, 0),
  (6, 3, .getfield 27, 0, 0, 1716, 12, 3),
  (9, 3, .if_icmp .ge 29, 0, 0, 0, 38, 0),
  (12, 1, .iload_n 2, 0, 0, 0, 0, 0),
  (13, 1, .aload_n 0, 0, 0, 0, 0, 0),
  (14, 3, .getfield 98, 0, 0, 1717, 12, 4),
  (17, 1, .iload_n 3, 0, 0, 0, 0, 0),
  (18, 1, .iaload, 0, 0, 0, 0, 0),
  (19, 1, .iload_n 1, 0, 0, 0, 0, 0),
  (20, 3, .if_icmp .ne 9, 0, 0, 0, 29, 0),
  (23, 1, .iconst 1, 1, 0, 0, 0, 0),
  (24, 1, .iload_n 3, 0, 0, 0, 0, 0),
  (25, 1, .ishl, 0, 0, 0, 0, 0),
  (26, 3, .goto 4, 0, 0, 0, 30, 0),
  (29, 1, .iconst 0, 0, 0, 0, 0, 0),
  (30, 1, .ior, 0, 0, 0, 0, 0),
  (31, 1, .istore_n 2, 0, 0, 0, 0, 0),
  (32, 3, .iinc 3 1, 1, 0, 0, 0, 0),
  (35, 3, .goto (-31), 0, 0, 0, 4, 0),
  (38, 1, .iload_n 2, 0, 0, 0, 0, 0),
  (39, 1, .ireturn, 0, 0, 0, 0, 0)]
set_option maxRecDepth 100000 in
theorem zk_189 : zt_189.all (zx_chk 189) = true := by decide +kernel
/-- NamesThatShrinkModel.turns(II)V -/
def zt_190 : List zx_En := [
  (0, 1, .iconst 0, 0, 0, 0, 0, 0),
  (1, 1, .istore_n 3, 0, 0, 0, 0, 0),
  (2, 1, .iload_n 3, 0, 0, 0, 0, 0),
  (3, 1, .aload_n 0, 0, 0, 0, 0, 0),
  (4, 3, .getfield 27, 0, 0, 1716, 12, 3),
  (7, 3, .if_icmp .ge 41, 0, 0, 0, 48, 0),
  (10, 1, .iload_n 1, 0, 0, 0, 0, 0),
  (11, 1, .iload_n 3, 0, 0, 0, 0, 0),
  (12, 3, .invokestatic 130, 0, 0, 1415, 2, 168),
  (15, 3, .ifCond .eq 27, 0, 0, 0, 42, 0),
  (18, 1, .aload_n 0, 0, 0, 0, 0, 0),
  (19, 3, .getfield 101, 0, 0, 1718, 12, 5),
  (22, 1, .iload_n 3, 0, 0, 0, 0, 0),
  (23, 1, .dup2, 0, 0, 0, 0, 0),
  (24, 1, .iaload, 0, 0, 0, 0, 0),
  (25, 1, .iload_n 2, 0, 0, 0, 0, 0),
  (26, 1, .iadd, 0, 0, 0, 0, 0),
  (27, 1, .iastore, 0, 0, 0, 0, 0),
  (28, 1, .aload_n 0, 0, 0, 0, 0, 0),
  (29, 3, .getfield 104, 0, 0, 1719, 12, 6),
  (32, 1, .iload_n 3, 0, 0, 0, 0, 0),
  (33, 1, .iconst 1, 1, 0, 0, 0, 0),
  (34, 1, .aload_n 0, 0, 0, 0, 0, 0),
  (35, 3, .getfield 104, 0, 0, 1719, 12, 6),
  (38, 1, .iload_n 3, 0, 0, 0, 0, 0),
  (39, 1, .iaload, 0, 0, 0, 0, 0),
  (40, 1, .isub, 0, 0, 0, 0, 0),
  (41, 1, .iastore, 0, 0, 0, 0, 0),
  (42, 3, .iinc 3 1, 1, 0, 0, 0, 0),
  (45, 3, .goto (-43), 0, 0, 0, 2, 0),
  (48, 1, .return_, 0, 0, 0, 0, 0)]
set_option maxRecDepth 100000 in
theorem zk_190 : zt_190.all (zx_chk 190) = true := by decide +kernel
/-- NamesThatShrinkModel.calls(I)I -/
def zt_191 : List zx_En := [
  (0, 1, .aload_n 0, 0, 0, 0, 0, 0),
  (1, 1, .iload_n 1, 0, 0, 0, 0, 0),
  (2, 3, .invokevirtual 134, 0, 0, 1406, 0, 189),
  (5, 1, .istore_n 2, 0, 0, 0, 0, 0),
  (6, 1, .iload_n 2, 0, 0, 0, 0, 0),
  (7, 3, .invokestatic 137, 0, 0, 1410, 2, 266),
  (10, 1, .aload_n 0, 0, 0, 0, 0, 0),
  (11, 3, .getfield 127, 0, 0, 1721, 12, 8),
  (14, 3, .if_icmp .le 6, 0, 0, 0, 20, 0),
  (17, 2, .bipush (-2), (-2), 0, 0, 0, 0),
  (19, 1, .ireturn, 0, 0, 0, 0, 0),
  (20, 1, .iload_n 2, 0, 0, 0, 0, 0),
  (21, 3, .ifCond .ne 5, 0, 0, 0, 26, 0),
  (24, 1, .iconst 0, 0, 0, 0, 0, 0),
  (25, 1, .ireturn, 0, 0, 0, 0, 0),
  (26, 1, .aload_n 0, 0, 0, 0, 0, 0),
  (27, 1, .iload_n 2, 0, 0, 0, 0, 0),
  (28, 1, .iconst 1, 1, 0, 0, 0, 0),
  (29, 3, .invokevirtual 142, 0, 0, 1411, 0, 190),
  (32, 1, .iconst 0, 0, 0, 0, 0, 0),
  (33, 1, .istore_n 3, 0, 0, 0, 0, 0),
  (34, 1, .iload_n 3, 0, 0, 0, 0, 0),
  (35, 1, .aload_n 0, 0, 0, 0, 0, 0),
  (36, 3, .getfield 27, 0, 0, 1716, 12, 3),
  (39, 3, .if_icmp .ge 36, 0, 0, 0, 75, 0),
  (42, 1, .aload_n 0, 0, 0, 0, 0, 0),
  (43, 3, .getfield 98, 0, 0, 1717, 12, 4),
  (46, 1, .iload_n 3, 0, 0, 0, 0, 0),
  (47, 1, .iload_n 2, 0, 0, 0, 0, 0),
  (48, 1, .iload_n 3, 0, 0, 0, 0, 0),
  (49, 3, .invokestatic 130, 0, 0, 1415, 2, 168),
  (52, 3, .ifCond .eq 10, 0, 0, 0, 62, 0),
  (55, 1, .iload_n 1, 0, 0, 0, 0, 0),
  (56, 2, .bipush 7, 7, 0, 0, 0, 0),
  (58, 1, .idiv, 0, 0, 0, 0, 0),
  (59, 3, .goto 9, 0, 0, 0, 68, 0),
  (62, 1, .aload_n 0, 0, 0, 0, 0, 0),
  (63, 3, .getfield 98, 0, 0, 1717, 12, 4),
  (66, 1, .iload_n 3, 0, 0, 0, 0, 0),
  (67, 1, .iaload, 0, 0, 0, 0, 0),
  (68, 1, .iastore, 0, 0, 0, 0, 0),
  (69, 3, .iinc 3 1, 1, 0, 0, 0, 0),
  (72, 3, .goto (-38), 0, 0, 0, 34, 0),
  (75, 1, .aload_n 0, 0, 0, 0, 0, 0),
  (76, 3, .getfield 107, 0, 0, 1723, 12, 10),
  (79, 2, .bipush 60, 60, 0, 0, 0, 0),
  (81, 3, .if_icmp .ne 55, 0, 0, 0, 136, 0),
  (84, 1, .iconst 1, 1, 0, 0, 0, 0),
  (85, 1, .istore_n 3, 0, 0, 0, 0, 0),
  (86, 1, .iload_n 3, 0, 0, 0, 0, 0),
  (87, 2, .bipush 60, 60, 0, 0, 0, 0),
  (89, 3, .if_icmp .ge 37, 0, 0, 0, 126, 0),
  (92, 1, .aload_n 0, 0, 0, 0, 0, 0),
  (93, 3, .getfield 146, 0, 0, 1724, 12, 11),
  (96, 1, .iload_n 3, 0, 0, 0, 0, 0),
  (97, 1, .iconst 1, 1, 0, 0, 0, 0),
  (98, 1, .isub, 0, 0, 0, 0, 0),
  (99, 1, .aload_n 0, 0, 0, 0, 0, 0),
  (100, 3, .getfield 146, 0, 0, 1724, 12, 11),
  (103, 1, .iload_n 3, 0, 0, 0, 0, 0),
  (104, 1, .iaload, 0, 0, 0, 0, 0),
  (105, 1, .iastore, 0, 0, 0, 0, 0),
  (106, 1, .aload_n 0, 0, 0, 0, 0, 0),
  (107, 3, .getfield 149, 0, 0, 1725, 12, 12),
  (110, 1, .iload_n 3, 0, 0, 0, 0, 0),
  (111, 1, .iconst 1, 1, 0, 0, 0, 0),
  (112, 1, .isub, 0, 0, 0, 0, 0),
  (113, 1, .aload_n 0, 0, 0, 0, 0, 0),
  (114, 3, .getfield 149, 0, 0, 1725, 12, 12),
  (117, 1, .iload_n 3, 0, 0, 0, 0, 0),
  (118, 1, .iaload, 0, 0, 0, 0, 0),
  (119, 1, .iastore, 0, 0, 0, 0, 0),
  (120, 3, .iinc 3 1, 1, 0, 0, 0, 0),
  (123, 3, .goto (-37), 0, 0, 0, 86, 0),
  (126, 1, .aload_n 0, 0, 0, 0, 0, 0),
  (127, 1, .dup, 0, 0, 0, 0, 0),
  (128, 3, .getfield 107, 0, 0, 1723, 12, 10),
  (131, 1, .iconst 1, 1, 0, 0, 0, 0),
  (132, 1, .isub, 0, 0, 0, 0, 0),
  (133, 3, .putfield 107, 0, 0, 1723, 12, 10),
  (136, 1, .aload_n 0, 0, 0, 0, 0, 0),
  (137, 3, .getfield 146, 0, 0, 1724, 12, 11),
  (140, 1, .aload_n 0, 0, 0, 0, 0, 0),
  (141, 3, .getfield 107, 0, 0, 1723, 12, 10),
  (144, 1, .iload_n 1, 0, 0, 0, 0, 0),
  (145, 1, .iastore, 0, 0, 0, 0, 0),
  (146, 1, .aload_n 0, 0, 0, 0, 0, 0),
  (147, 3, .getfield 149, 0, 0, 1725, 12, 12),
  (150, 1, .aload_n 0, 0, 0, 0, 0, 0),
  (151, 3, .getfield 107, 0, 0, 1723, 12, 10),
  (154, 1, .iload_n 2, 0, 0, 0, 0, 0),
  (155, 1, .iastore, 0, 0, 0, 0, 0),
  (156, 1, .aload_n 0, 0, 0, 0, 0, 0),
  (157, 1, .dup, 0, 0, 0, 0, 0),
  (158, 3, .getfield 107, 0, 0, 1723, 12, 10),
  (161, 1, .iconst 1, 1, 0, 0, 0, 0),
  (162, 1, .iadd, 0, 0, 0, 0, 0),
  (163, 3, .putfield 107, 0, 0, 1723, 12, 10),
  (166, 1, .iload_n 2, 0, 0, 0, 0, 0),
  (167, 1, .ireturn, 0, 0, 0, 0, 0)]
set_option maxRecDepth 100000 in
theorem zk_191 : zt_191.all (zx_chk 191) = true := by decide +kernel
/-- NamesThatShrinkModel.isName(I)Z -/
def zt_192 : List zx_En := [
  (0, 1, .iload_n 0, 0, 0, 0, 0, 0),
  (1, 3, .ifCond .le 14, 0, 0, 0, 15, 0),
  (4, 1, .iload_n 0, 0, 0, 0, 0, 0),
  (5, 3, .invokestatic 112, 0, 0, 1370, 2, 172),
  (8, 3, .ifCond .eq 7, 0, 0, 0, 15, 0),
  (11, 1, .iconst 1, 1, 0, 0, 0, 0),
  (12, 3, .goto 4, 0, 0, 0, 16, 0),
  (15, 1, .iconst 0, 0, 0, 0, 0, 0),
  (16, 1, .ireturn, 0, 0, 0, 0, 0)]
set_option maxRecDepth 100000 in
theorem zk_192 : zt_192.all (zx_chk 192) = true := by decide +kernel
/-- NamesThatShrinkModel.call(I)I -/
def zt_193 : List zx_En := [
  (0, 1, .aload_n 0, 0, 0, 0, 0, 0),
  (1, 1, .iconst 0, 0, 0, 0, 0, 0),
  (2, 3, .putfield 3, 0, 0, 1713, 12, 0),
  (5, 1, .iload_n 1, 0, 0, 0, 0, 0),
  (6, 3, .invokestatic 152, 0, 0, 1399, 2, 192),
  (9, 3, .ifCond .eq 11, 0, 0, 0, 20, 0),
  (12, 1, .aload_n 0, 0, 0, 0, 0, 0),
  (13, 1, .iload_n 1, 0, 0, 0, 0, 0),
  (14, 3, .invokevirtual 155, 0, 0, 1402, 0, 191),
  (17, 3, .goto 4, 0, 0, 0, 21, 0),
  (20, 1, .iconst (-1), (-1), 0, 0, 0, 0),
  (21, 1, .ireturn, 0, 0, 0, 0, 0)]
set_option maxRecDepth 100000 in
theorem zk_193 : zt_193.all (zx_chk 193) = true := by decide +kernel
/-- NamesThatShrinkModel.hey(I)I -/
def zt_194 : List zx_En := [
  (0, 1, .aload_n 0, 0, 0, 0, 0, 0),
  (1, 1, .iconst 0, 0, 0, 0, 0, 0),
  (2, 3, .putfield 3, 0, 0, 1713, 12, 0),
  (5, 1, .aload_n 0, 0, 0, 0, 0, 0),
  (6, 1, .iload_n 1, 0, 0, 0, 0, 0),
  (7, 3, .invokevirtual 115, 0, 0, 1380, 0, 175),
  (10, 3, .ifCond .ne 5, 0, 0, 0, 15, 0),
  (13, 1, .iconst (-1), (-1), 0, 0, 0, 0),
  (14, 1, .ireturn, 0, 0, 0, 0, 0),
  (15, 1, .aload_n 0, 0, 0, 0, 0, 0),
  (16, 3, .getfield 98, 0, 0, 1717, 12, 4),
  (19, 1, .iload_n 1, 0, 0, 0, 0, 0),
  (20, 1, .iaload, 0, 0, 0, 0, 0),
  (21, 3, .ifCond .ne 8, 0, 0, 0, 29, 0),
  (24, 2, .bipush (-3), (-3), 0, 0, 0, 0),
  (26, 3, .goto 13, 0, 0, 0, 39, 0),
  (29, 1, .aload_n 0, 0, 0, 0, 0, 0),
  (30, 1, .aload_n 0, 0, 0, 0, 0, 0),
  (31, 3, .getfield 98, 0, 0, 1717, 12, 4),
  (34, 1, .iload_n 1, 0, 0, 0, 0, 0),
  (35, 1, .iaload, 0, 0, 0, 0, 0),
  (36, 3, .invokevirtual 155, 0, 0, 1402, 0, 191),
  (39, 1, .ireturn, 0, 0, 0, 0, 0)]
set_option maxRecDepth 100000 in
theorem zk_194 : zt_194.all (zx_chk 194) = true := by decide +kernel
/-- NamesThatShrinkModel.beginsWith(II)Z -/
def zt_195 : List zx_En := [
  (0, 1, .iload_n 0, 0, 0, 0, 0, 0),
  (1, 1, .iload_n 1, 0, 0, 0, 0, 0),
  (2, 3, .invokestatic 14, 0, 0, 1373, 2, 171),
  (5, 3, .invokestatic 24, 0, 0, 1429, 2, 173),
  (8, 1, .iload_n 1, 0, 0, 0, 0, 0),
  (9, 3, .if_icmp .ne 7, 0, 0, 0, 16, 0),
  (12, 1, .iconst 1, 1, 0, 0, 0, 0),
  (13, 3, .goto 4, 0, 0, 0, 17, 0),
  (16, 1, .iconst 0, 0, 0, 0, 0, 0),
  (17, 1, .ireturn, 0, 0, 0, 0, 0)]
set_option maxRecDepth 100000 in
theorem zk_195 : zt_195.all (zx_chk 195) = true := by decide +kernel
/-- NamesThatShrinkModel.begin(I)I -/
def zt_196 : List zx_En := [
  (0, 1, .aload_n 0, 0, 0, 0, 0, 0),
  (1, 1, .iconst 0, 0, 0, 0, 0, 0),
  (2, 3, .putfield 3, 0, 0, 1713, 12, 0),
  (5, 1, .iload_n 1, 0, 0, 0, 0, 0),
  (6, 3, .invokestatic 112, 0, 0, 1370, 2, 172),
  (9, 3, .ifCond .ne 5, 0, 0, 0, 14, 0),
  (12, 1, .iconst (-1), (-1), 0, 0, 0, 0),
  (13, 1, .ireturn, 0, 0, 0, 0, 0),
  (14, 1, .iconst 0, 0, 0, 0, 0, 0),
  (15, 1, .istore_n 2, 0, 0, 0, 0, 0),
  (16, 1, .iconst 0, 0, 0, 0, 0, 0),
  (17, 1, .istore_n 3, 0, 0, 0, 0, 0),
  (18, 1, .iload_n 3, 0, 0, 0, 0, 0),
  (19, 1, .aload_n 0, 0, 0, 0, 0, 0),
  (20, 3, .getfield 27, 0, 0, 1716, 12, 3),
  (23, 3, .if_icmp .ge 57, 0, 0, 0, 80, 0),
  (26, 1, .iload_n 2, 0, 0, 0, 0, 0),
  (27, 1, .aload_n 0, 0, 0, 0, 0, 0),
  (28, 3, .getfield 98, 0, 0, 1717, 12, 4),
  (31, 1, .iload_n 3, 0, 0, 0, 0, 0),
  (32, 1, .iaload, 0, 0, 0, 0, 0),
  (33, 3, .ifCond .le 38, 0, 0, 0, 71, 0),
  (36, 1, .aload_n 0, 0, 0, 0, 0, 0),
  (37, 3, .getfield 98, 0, 0, 1717, 12, 4),
  (40, 1, .iload_n 3, 0, 0, 0, 0, 0),
  (41, 1, .iaload, 0, 0, 0, 0, 0),
  (42, 3, .invokestatic 14, 0, 0, 1373, 2, 171),
  (45, 1, .iload_n 1, 0, 0, 0, 0, 0),
  (46, 3, .invokestatic 14, 0, 0, 1373, 2, 171),
  (49, 3, .if_icmp .lt 22, 0, 0, 0, 71, 0),
  (52, 1, .aload_n 0, 0, 0, 0, 0, 0),
  (53, 3, .getfield 98, 0, 0, 1717, 12, 4),
  (56, 1, .iload_n 3, 0, 0, 0, 0, 0),
  (57, 1, .iaload, 0, 0, 0, 0, 0),
  (58, 1, .iload_n 1, 0, 0, 0, 0, 0),
  (59, 3, .invokestatic 158, 0, 0, 1426, 2, 195),
  (62, 3, .ifCond .eq 9, 0, 0, 0, 71, 0),
  (65, 1, .iconst 1, 1, 0, 0, 0, 0),
  (66, 1, .iload_n 3, 0, 0, 0, 0, 0),
  (67, 1, .ishl, 0, 0, 0, 0, 0),
  (68, 3, .goto 4, 0, 0, 0, 72, 0),
  (71, 1, .iconst 0, 0, 0, 0, 0, 0),
  (72, 1, .ior, 0, 0, 0, 0, 0),
  (73, 1, .istore_n 2, 0, 0, 0, 0, 0),
  (74, 3, .iinc 3 1, 1, 0, 0, 0, 0),
  (77, 3, .goto (-59), 0, 0, 0, 18, 0),
  (80, 1, .iload_n 2, 0, 0, 0, 0, 0),
  (81, 1, .ireturn, 0, 0, 0, 0, 0)]
set_option maxRecDepth 100000 in
theorem zk_196 : zt_196.all (zx_chk 196) = true := by decide +kernel
/-- NamesThatShrinkModel.undo()I -/
def zt_197 : List zx_En := [
  (0, 1, .aload_n 0, 0, 0, 0, 0, 0),
  (1, 1, .iconst 0, 0, 0, 0, 0, 0),
  (2, 3, .putfield 3, 0, 0, 1713, 12, 0),
  (5, 1, .aload_n 0, 0, 0, 0, 0, 0),
  (6, 3, .getfield 107, 0, 0, 1723, 12, 10),
  (9, 3, .ifCond .ne 5, 0, 0, 0, 14, 0),
  (12, 1, .iconst (-1), (-1), 0, 0, 0, 0),
  (13, 1, .ireturn, 0, 0, 0, 0, 0),
  (14, 1, .aload_n 0, 0, 0, 0, 0, 0),
  (15, 1, .dup, 0, 0, 0, 0, 0),
  (16, 3, .getfield 107, 0, 0, 1723, 12, 10),
  (19, 1, .iconst 1, 1, 0, 0, 0, 0),
  (20, 1, .isub, 0, 0, 0, 0, 0),
  (21, 3, .putfield 107, 0, 0, 1723, 12, 10),
  (24, 1, .aload_n 0, 0, 0, 0, 0, 0),
  (25, 1, .aload_n 0, 0, 0, 0, 0, 0),
  (26, 3, .getfield 149, 0, 0, 1725, 12, 12),
  (29, 1, .aload_n 0, 0, 0, 0, 0, 0),
  (30, 3, .getfield 107, 0, 0, 1723, 12, 10),
  (33, 1, .iaload, 0, 0, 0, 0, 0),
  (34, 1, .iconst (-1), (-1), 0, 0, 0, 0),
  (35, 3, .invokevirtual 142, 0, 0, 1411, 0, 190),
  (38, 1, .iconst 0, 0, 0, 0, 0, 0),
  (39, 1, .istore_n 1, 0, 0, 0, 0, 0),
  (40, 1, .iload_n 1, 0, 0, 0, 0, 0),
  (41, 1, .aload_n 0, 0, 0, 0, 0, 0),
  (42, 3, .getfield 27, 0, 0, 1716, 12, 3),
  (45, 3, .if_icmp .ge 49, 0, 0, 0, 94, 0),
  (48, 1, .aload_n 0, 0, 0, 0, 0, 0),
  (49, 3, .getfield 98, 0, 0, 1717, 12, 4),
  (52, 1, .iload_n 1, 0, 0, 0, 0, 0),
  (53, 1, .aload_n 0, 0, 0, 0, 0, 0),
  (54, 3, .getfield 149, 0, 0, 1725, 12, 12),
  (57, 1, .aload_n 0, 0, 0, 0, 0, 0),
  (58, 3, .getfield 107, 0, 0, 1723, 12, 10),
  (61, 1, .iaload, 0, 0, 0, 0, 0),
  (62, 1, .iload_n 1, 0, 0, 0, 0, 0),
  (63, 3, .invokestatic 130, 0, 0, 1415, 2, 168),
  (66, 3, .ifCond .eq 15, 0, 0, 0, 81, 0),
  (69, 1, .aload_n 0, 0, 0, 0, 0, 0),
  (70, 3, .getfield 146, 0, 0, 1724, 12, 11),
  (73, 1, .aload_n 0, 0, 0, 0, 0, 0),
  (74, 3, .getfield 107, 0, 0, 1723, 12, 10),
  (77, 1, .iaload, 0, 0, 0, 0, 0),
  (78, 3, .goto 9, 0, 0, 0, 87, 0),
  (81, 1, .aload_n 0, 0, 0, 0, 0, 0),
  (82, 3, .getfield 98, 0, 0, 1717, 12, 4),
  (85, 1, .iload_n 1, 0, 0, 0, 0, 0),
  (86, 1, .iaload, 0, 0, 0, 0, 0),
  (87, 1, .iastore, 0, 0, 0, 0, 0),
  (88, 3, .iinc 1 1, 1, 0, 0, 0, 0),
  (91, 3, .goto (-51), 0, 0, 0, 40, 0),
  (94, 1, .aload_n 0, 0, 0, 0, 0, 0),
  (95, 3, .getfield 107, 0, 0, 1723, 12, 10),
  (98, 1, .ireturn, 0, 0, 0, 0, 0)]
set_option maxRecDepth 100000 in
theorem zk_197 : zt_197.all (zx_chk 197) = true := by decide +kernel
/-- NamesThatShrinkModel.group()Z -/
def zt_198 : List zx_En := [
  (0, 1, .aload_n 0, 0, 0, 0, 0, 0),
  (1, 3, .getfield 43, 0, 0, 1730, 12, 17),
  (4, 1, .iconst 4, 4, 0, 0, 0, 0),
  (5, 3, .if_icmp .eq 12, 0, 0, 0, 17, 0),
  (8, 1, .aload_n 0, 0, 0, 0, 0, 0),
  (9, 2, .bipush 40, 40, 0, 0, 0, 0),
  (11, 3, .invokevirtual 69, 0, 0, 1348, 0, 179),
  (14, 3, .ifCond .ne 5, 0, 0, 0, 19, 0),
  (17, 1, .iconst 0, 0, 0, 0, 0, 0),
  (18, 1, .ireturn, 0, 0, 0, 0, 0),
  (19, 1, .aload_n 0, 0, 0, 0, 0, 0),
  (20, 1, .dup, 0, 0, 0, 0, 0),
  (21, 3, .getfield 43, 0, 0, 1730, 12, 17),
  (24, 1, .iconst 1, 1, 0, 0, 0, 0),
  (25, 1, .iadd, 0, 0, 0, 0, 0),
  (26, 3, .putfield 43, 0, 0, 1730, 12, 17),
  (29, 1, .aload_n 0, 0, 0, 0, 0, 0),
  (30, 3, .invokevirtual 161, 0, 0, 1440, 0, 200),
  (33, 3, .ifCond .eq 12, 0, 0, 0, 45, 0),
  (36, 1, .aload_n 0, 0, 0, 0, 0, 0),
  (37, 2, .bipush 41, 41, 0, 0, 0, 0),
  (39, 3, .invokevirtual 69, 0, 0, 1348, 0, 179),
  (42, 3, .ifCond .ne 5, 0, 0, 0, 47, 0),
  (45, 1, .iconst 0, 0, 0, 0, 0, 0),
  (46, 1, .ireturn, 0, 0, 0, 0, 0),
  (47, 1, .aload_n 0, 0, 0, 0, 0, 0),
  (48, 1, .dup, 0, 0, 0, 0, 0),
  (49, 3, .getfield 43, 0, 0, 1730, 12, 17),
  (52, 1, .iconst 1, 1, 0, 0, 0, 0),
  (53, 1, .isub, 0, 0, 0, 0, 0),
  (54, 3, .putfield 43, 0, 0, 1730, 12, 17),
  (57, 1, .iconst 1, 1, 0, 0, 0, 0),
  (58, 1, .ireturn, 0, 0, 0, 0, 0)]
set_option maxRecDepth 100000 in
theorem zk_198 : zt_198.all (zx_chk 198) = true := by decide +kernel
/-- NamesThatShrinkModel.step()Z -/
def zt_199 : List zx_En := [
  (0, 1, .aload_n 0, 0, 0, 0, 0, 0),
  (1, 3, .invokevirtual 73, 0, 0, 1355, 0, 182),
  (4, 3, .ifCond .eq 18, 0, 0, 0, 22, 0),
  (7, 1, .aload_n 0, 0, 0, 0, 0, 0),
  (8, 1, .dup, 0, 0, 0, 0, 0),
  (9, 3, .getfield 40, 0, 0, 1728, 12, 15),
  (12, 1, .iconst 1, 1, 0, 0, 0, 0),
  (13, 1, .iadd, 0, 0, 0, 0, 0),
  (14, 3, .putfield 40, 0, 0, 1728, 12, 15),
  (17, 1, .aload_n 0, 0, 0, 0, 0, 0),
  (18, 3, .invokevirtual 164, 0, 0, 1448, 0, 198),
  (21, 1, .ireturn, 0, 0, 0, 0, 0),
  (22, 1, .aload_n 0, 0, 0, 0, 0, 0),
  (23, 2, .bipush 126, 126, 0, 0, 0, 0),
  (25, 3, .invokevirtual 69, 0, 0, 1348, 0, 179),
  (28, 3, .ifCond .eq 23, 0, 0, 0, 51, 0),
  (31, 1, .aload_n 0, 0, 0, 0, 0, 0),
  (32, 3, .invokevirtual 65, 0, 0, 1338, 0, 181),
  (35, 3, .ifCond .le 14, 0, 0, 0, 49, 0),
  (38, 1, .aload_n 0, 0, 0, 0, 0, 0),
  (39, 3, .invokevirtual 164, 0, 0, 1448, 0, 198),
  (42, 3, .ifCond .eq 7, 0, 0, 0, 49, 0),
  (45, 1, .iconst 1, 1, 0, 0, 0, 0),
  (46, 3, .goto 4, 0, 0, 0, 50, 0),
  (49, 1, .iconst 0, 0, 0, 0, 0, 0),
  (50, 1, .ireturn, 0, 0, 0, 0, 0),
  (51, 1, .aload_n 0, 0, 0, 0, 0, 0),
  (52, 2, .bipush 42, 42, 0, 0, 0, 0),
  (54, 3, .invokevirtual 69, 0, 0, 1348, 0, 179),
  (57, 3, .ifCond .eq 5, 0, 0, 0, 62, 0),
  (60, 1, .iconst 1, 1, 0, 0, 0, 0),
  (61, 1, .ireturn, 0, 0, 0, 0, 0),
  (62, 1, .aload_n 0, 0, 0, 0, 0, 0),
  (63, 3, .invokevirtual 65, 0, 0, 1338, 0, 181),
  (66, 3, .ifCond .ne 5, 0, 0, 0, 71, 0),
  (69, 1, .iconst 0, 0, 0, 0, 0, 0),
  (70, 1, .ireturn, 0, 0, 0, 0, 0),
  (71, 1, .aload_n 0, 0, 0, 0, 0, 0),
  (72, 2, .bipush 42, 42, 0, 0, 0, 0),
  (74, 3, .invokevirtual 69, 0, 0, 1348, 0, 179),
  (77, 1, .pop, 0, 0, 0, 0, 0),
  (78, 1, .iconst 1, 1, 0, 0, 0, 0),
  (79, 1, .ireturn, 0, 0, 0, 0, 0)]
set_option maxRecDepth 100000 in
theorem zk_199 : zt_199.all (zx_chk 199) = true := by decide +kernel
/-- NamesThatShrinkModel.steps()Z -/
def zt_200 : List zx_En := [
  (0, 1, .aload_n 0, 0, 0, 0, 0, 0),
  (1, 3, .invokevirtual 167, 0, 0, 1444, 0, 199),
  (4, 1, .istore_n 1, 0, 0, 0, 0, 0),
  (5, 1, .iload_n 1, 0, 0, 0, 0, 0),
  (6, 3, .ifCond .eq 20, 0, 0, 0, 26, 0),
  (9, 1, .aload_n 0, 0, 0, 0, 0, 0),
  (10, 2, .bipush 59, 59, 0, 0, 0, 0),
  (12, 3, .invokevirtual 69, 0, 0, 1348, 0, 179),
  (15, 3, .ifCond .eq 11, 0, 0, 0, 26, 0),
  (18, 1, .aload_n 0, 0, 0, 0, 0, 0),
  (19, 3, .invokevirtual 167, 0, 0, 1444, 0, 199),
  (22, 1, .istore_n 1, 0, 0, 0, 0, 0),
  (23, 3, .goto (-18), 0, 0, 0, 5, 0),
  (26, 1, .iload_n 1, 0, 0, 0, 0, 0),
  (27, 1, .ireturn, 0, 0, 0, 0, 0)]
set_option maxRecDepth 100000 in
theorem zk_200 : zt_200.all (zx_chk 200) = true := by decide +kernel
/-- NamesThatShrinkModel.made(I)V -/
def zt_201 : List zx_En := [
  (0, 1, .aload_n 0, 0, 0, 0, 0, 0),
  (1, 1, .aload_n 0, 0, 0, 0, 0, 0),
  (2, 3, .getfield 170, 0, 0, 1738, 12, 25),
  (5, 3, .ifCond .ne 13, 0, 0, 0, 18, 0),
  (8, 1, .aload_n 0, 0, 0, 0, 0, 0),
  (9, 3, .getfield 174, 0, 0, 1734, 12, 21),
  (12, 3, .sipush 300, 300, 0, 0, 0, 0),
  (15, 3, .if_icmp .ne 7, 0, 0, 0, 22, 0),
  (18, 1, .iconst 1, 1, 0, 0, 0, 0),
  (19, 3, .goto 4, 0, 0, 0, 23, 0),
  (22, 1, .iconst 0, 0, 0, 0, 0, 0),
  (23, 3, .putfield 170, 0, 0, 1738, 12, 25),
  (26, 1, .aload_n 0, 0, 0, 0, 0, 0),
  (27, 3, .getfield 170, 0, 0, 1738, 12, 25),
  (30, 3, .ifCond .eq 4, 0, 0, 0, 34, 0),
  (33, 1, .return_, 0, 0, 0, 0, 0),
  (34, 1, .aload_n 0, 0, 0, 0, 0, 0),
  (35, 1, .iload_n 1, 0, 0, 0, 0, 0),
  (36, 3, .invokevirtual 155, 0, 0, 1402, 0, 191),
  (39, 1, .istore_n 2, 0, 0, 0, 0, 0),
  (40, 1, .aload_n 0, 0, 0, 0, 0, 0),
  (41, 1, .dup, 0, 0, 0, 0, 0),
  (42, 3, .getfield 174, 0, 0, 1734, 12, 21),
  (45, 1, .iconst 1, 1, 0, 0, 0, 0),
  (46, 1, .iadd, 0, 0, 0, 0, 0),
  (47, 3, .putfield 174, 0, 0, 1734, 12, 21),
  (50, 1, .aload_n 0, 0, 0, 0, 0, 0),
  (51, 1, .dup, 0, 0, 0, 0, 0),
  (52, 3, .getfield 177, 0, 0, 1735, 12, 22),
  (55, 1, .iload_n 2, 0, 0, 0, 0, 0),
  (56, 3, .ifCond .le 7, 0, 0, 0, 63, 0),
  (59, 1, .iconst 1, 1, 0, 0, 0, 0),
  (60, 3, .goto 4, 0, 0, 0, 64, 0),
  (63, 1, .iconst 0, 0, 0, 0, 0, 0),
  (64, 3, .invokestatic 49, 0, 0, 1352, 2, 169),
  (67, 1, .iadd, 0, 0, 0, 0, 0),
  (68, 3, .putfield 177, 0, 0, 1735, 12, 22),
  (71, 1, .aload_n 0, 0, 0, 0, 0, 0),
  (72, 1, .dup, 0, 0, 0, 0, 0),
  (73, 3, .getfield 180, 0, 0, 1736, 12, 23),
  (76, 1, .iload_n 2, 0, 0, 0, 0, 0),
  (77, 3, .ifCond .le 10, 0, 0, 0, 87, 0),
  (80, 1, .iload_n 2, 0, 0, 0, 0, 0),
  (81, 3, .invokestatic 137, 0, 0, 1410, 2, 266),
  (84, 3, .goto 4, 0, 0, 0, 88, 0),
  (87, 1, .iconst 0, 0, 0, 0, 0, 0),
  (88, 1, .iadd, 0, 0, 0, 0, 0),
  (89, 3, .putfield 180, 0, 0, 1736, 12, 23),
  (92, 1, .return_, 0, 0, 0, 0, 0)]
set_option maxRecDepth 100000 in
theorem zk_201 : zt_201.all (zx_chk 201) = true := by decide +kernel
/-- NamesThatShrinkModel.madeAll(I)V -/
def zt_202 : List zx_En := [
  (0, 1, .aload_n 0, 0, 0, 0, 0, 0),
  (1, 1, .iload_n 1, 0, 0, 0, 0, 0),
  (2, 3, .invokevirtual 183, 0, 0, 1468, 0, 196),
  (5, 1, .istore_n 2, 0, 0, 0, 0, 0),
  (6, 1, .iconst 0, 0, 0, 0, 0, 0),
  (7, 1, .istore_n 3, 0, 0, 0, 0, 0),
  (8, 1, .iconst 0, 0, 0, 0, 0, 0),
  (9, 2, .istore 4, 0, 0, 0, 0, 0),
  (11, 1, .iconst 0, 0, 0, 0, 0, 0),
  (12, 2, .istore 5, 0, 0, 0, 0, 0),
  (14, 2, .iload 5, 0, 0, 0, 0, 0),
  (16, 1, .aload_n 0, 0, 0, 0, 0, 0),
  (17, 3, .getfield 27, 0, 0, 1716, 12, 3),
  (20, 3, .if_icmp .ge 102, 0, 0, 0, 122, 0),
  (23, 1, .iconst (-1), (-1), 0, 0, 0, 0),
  (24, 2, .istore 6, 0, 0, 0, 0, 0),
  (26, 1, .iconst 0, 0, 0, 0, 0, 0),
  (27, 2, .istore 7, 0, 0, 0, 0, 0),
  (29, 2, .iload 7, 0, 0, 0, 0, 0),
  (31, 1, .aload_n 0, 0, 0, 0, 0, 0),
  (32, 3, .getfield 27, 0, 0, 1716, 12, 3),
  (35, 3, .if_icmp .ge 61, 0, 0, 0, 96, 0),
  (38, 1, .iload_n 2, 0, 0, 0, 0, 0),
  (39, 2, .iload 7, 0, 0, 0, 0, 0),
  (41, 3, .invokestatic 130, 0, 0, 1415, 2, 168),
  (44, 3, .ifCond .eq 42, 0, 0, 0, 86, 0),
  (47, 1, .aload_n 0, 0, 0, 0, 0, 0),
  (48, 3, .getfield 98, 0, 0, 1717, 12, 4),
  (51, 2, .iload 7, 0, 0, 0, 0, 0),
  (53, 1, .iaload, 0, 0, 0, 0, 0),
  (54, 2, .iload 4, 0, 0, 0, 0, 0),
  (56, 3, .if_icmp .le 30, 0, 0, 0, 86, 0),
  (59, 2, .iload 6, 0, 0, 0, 0, 0),
  (61, 3, .ifCond .lt 15, 0, 0, 0, 76, 0),
  (64, 1, .aload_n 0, 0, 0, 0, 0, 0),
  (65, 3, .getfield 98, 0, 0, 1717, 12, 4),
  (68, 2, .iload 7, 0, 0, 0, 0, 0),
  (70, 1, .iaload, 0, 0, 0, 0, 0),
  (71, 2, .iload 6, 0, 0, 0, 0, 0),
  (73, 3, .if_icmp .ge 13, 0, 0, 0, 86, 0),
  (76, 1, .aload_n 0, 0, 0, 0, 0, 0),
  (77, 3, .getfield 98, 0, 0, 1717, 12, 4),
  (80, 2, .iload 7, 0, 0, 0, 0, 0),
  (82, 1, .iaload, 0, 0, 0, 0, 0),
  (83, 3, .goto 5, 0, 0, 0, 88, 0),
  (86, 2, .iload 6, 0, 0, 0, 0, 0),
  (88, 2, .istore 6, 0, 0, 0, 0, 0),
  (90, 3, .iinc 7 1, 1, 0, 0, 0, 0),
  (93, 3, .goto (-64), 0, 0, 0, 29, 0),
  (96, 2, .iload 6, 0, 0, 0, 0, 0),
  (98, 3, .ifCond .le 18, 0, 0, 0, 116, 0),
  (101, 1, .aload_n 0, 0, 0, 0, 0, 0),
  (102, 3, .getfield 186, 0, 0, 1739, 12, 26),
  (105, 1, .iload_n 3, 0, 0, 0, 0, 0),
  (106, 2, .iload 6, 0, 0, 0, 0, 0),
  (108, 1, .iastore, 0, 0, 0, 0, 0),
  (109, 3, .iinc 3 1, 1, 0, 0, 0, 0),
  (112, 2, .iload 6, 0, 0, 0, 0, 0),
  (114, 2, .istore 4, 0, 0, 0, 0, 0),
  (116, 3, .iinc 5 1, 1, 0, 0, 0, 0),
  (119, 3, .goto (-105), 0, 0, 0, 14, 0),
  (122, 1, .iconst 0, 0, 0, 0, 0, 0),
  (123, 2, .istore 5, 0, 0, 0, 0, 0),
  (125, 2, .iload 5, 0, 0, 0, 0, 0),
  (127, 1, .iload_n 3, 0, 0, 0, 0, 0),
  (128, 3, .if_icmp .ge 27, 0, 0, 0, 155, 0),
  (131, 1, .aload_n 0, 0, 0, 0, 0, 0),
  (132, 3, .getfield 170, 0, 0, 1738, 12, 25),
  (135, 3, .ifCond .ne 20, 0, 0, 0, 155, 0),
  (138, 1, .aload_n 0, 0, 0, 0, 0, 0),
  (139, 1, .aload_n 0, 0, 0, 0, 0, 0),
  (140, 3, .getfield 186, 0, 0, 1739, 12, 26),
  (143, 2, .iload 5, 0, 0, 0, 0, 0),
  (145, 1, .iaload, 0, 0, 0, 0, 0),
  (146, 3, .invokevirtual 189, 0, 0, 1469, 0, 201),
  (149, 3, .iinc 5 1, 1, 0, 0, 0, 0),
  (152, 3, .goto (-27), 0, 0, 0, 125, 0),
  (155, 1, .return_, 0, 0, 0, 0, 0)]
set_option maxRecDepth 100000 in
theorem zk_202 : zt_202.all (zx_chk 202) = true := by decide +kernel
/-- NamesThatShrinkModel.passes()V -/
def zt_203 : List zx_En := [
  (0, 1, .iconst 0, 0, 0, 0, 0, 0),
  (1, 1, .istore_n 1, 0, 0, 0, 0, 0),
  (2, 1, .iconst 1, 1, 0, 0, 0, 0),
  (3, 1, .istore_n 2, 0, 0, 0, 0, 0),
  (4, 1, .iload_n 2, 0, 0, 0, 0, 0),
  (5, 3, .ifCond .eq 74, 0, 0, 0, 79, 0),
  (8, 1, .iload_n 1, 0, 0, 0, 0, 0),
  (9, 1, .aload_n 0, 0, 0, 0, 0, 0),
  (10, 3, .getfield 37, 0, 0, 1726, 12, 13),
  (13, 1, .aload_n 0, 0, 0, 0, 0, 0),
  (14, 3, .getfield 40, 0, 0, 1728, 12, 15),
  (17, 1, .iaload, 0, 0, 0, 0, 0),
  (18, 2, .bipush 40, 40, 0, 0, 0, 0),
  (20, 3, .if_icmp .ne 7, 0, 0, 0, 27, 0),
  (23, 1, .iconst 1, 1, 0, 0, 0, 0),
  (24, 3, .goto 4, 0, 0, 0, 28, 0),
  (27, 1, .iconst 0, 0, 0, 0, 0, 0),
  (28, 3, .invokestatic 49, 0, 0, 1352, 2, 169),
  (31, 1, .aload_n 0, 0, 0, 0, 0, 0),
  (32, 3, .getfield 37, 0, 0, 1726, 12, 13),
  (35, 1, .aload_n 0, 0, 0, 0, 0, 0),
  (36, 3, .getfield 40, 0, 0, 1728, 12, 15),
  (39, 1, .iaload, 0, 0, 0, 0, 0),
  (40, 2, .bipush 41, 41, 0, 0, 0, 0),
  (42, 3, .if_icmp .ne 7, 0, 0, 0, 49, 0),
  (45, 1, .iconst 1, 1, 0, 0, 0, 0),
  (46, 3, .goto 4, 0, 0, 0, 50, 0),
  (49, 1, .iconst 0, 0, 0, 0, 0, 0),
  (50, 3, .invokestatic 49, 0, 0, 1352, 2, 169),
  (53, 1, .isub, 0, 0, 0, 0, 0),
  (54, 1, .iadd, 0, 0, 0, 0, 0),
  (55, 1, .istore_n 1, 0, 0, 0, 0, 0),
  (56, 1, .aload_n 0, 0, 0, 0, 0, 0),
  (57, 1, .dup, 0, 0, 0, 0, 0),
  (58, 3, .getfield 40, 0, 0, 1728, 12, 15),
  (61, 1, .iconst 1, 1, 0, 0, 0, 0),
  (62, 1, .iadd, 0, 0, 0, 0, 0),
  (63, 3, .putfield 40, 0, 0, 1728, 12, 15),
  (66, 1, .iload_n 1, 0, 0, 0, 0, 0),
  (67, 3, .ifCond .le 7, 0, 0, 0, 74, 0),
  (70, 1, .iconst 1, 1, 0, 0, 0, 0),
  (71, 3, .goto 4, 0, 0, 0, 75, 0),
  (74, 1, .iconst 0, 0, 0, 0, 0, 0),
  (75, 1, .istore_n 2, 0, 0, 0, 0, 0),
  (76, 3, .goto (-72), 0, 0, 0, 4, 0),
  (79, 1, .return_, 0, 0, 0, 0, 0)]
set_option maxRecDepth 100000 in
theorem zk_203 : zt_203.all (zx_chk 203) = true := by decide +kernel
/-- NamesThatShrinkModel.does()V -/
def zt_204 : List zx_En := [
  (0, 1, .aload_n 0, 0, 0, 0, 0, 0),
  (1, 3, .invokevirtual 73, 0, 0, 1355, 0, 182),
  (4, 3, .ifCond .eq 64, 0, 0, 0, 68, 0),
  (7, 1, .aload_n 0, 0, 0, 0, 0, 0),
  (8, 3, .getfield 37, 0, 0, 1726, 12, 13),
  (11, 1, .aload_n 0, 0, 0, 0, 0, 0),
  (12, 3, .getfield 40, 0, 0, 1728, 12, 15),
  (15, 1, .iaload, 0, 0, 0, 0, 0),
  (16, 2, .bipush 48, 48, 0, 0, 0, 0),
  (18, 1, .isub, 0, 0, 0, 0, 0),
  (19, 1, .istore_n 1, 0, 0, 0, 0, 0),
  (20, 1, .aload_n 0, 0, 0, 0, 0, 0),
  (21, 3, .getfield 40, 0, 0, 1728, 12, 15),
  (24, 1, .iconst 1, 1, 0, 0, 0, 0),
  (25, 1, .iadd, 0, 0, 0, 0, 0),
  (26, 1, .istore_n 2, 0, 0, 0, 0, 0),
  (27, 1, .iconst 0, 0, 0, 0, 0, 0),
  (28, 1, .istore_n 3, 0, 0, 0, 0, 0),
  (29, 1, .iload_n 3, 0, 0, 0, 0, 0),
  (30, 1, .iload_n 1, 0, 0, 0, 0, 0),
  (31, 3, .if_icmp .ge 27, 0, 0, 0, 58, 0),
  (34, 1, .aload_n 0, 0, 0, 0, 0, 0),
  (35, 3, .getfield 170, 0, 0, 1738, 12, 25),
  (38, 3, .ifCond .ne 20, 0, 0, 0, 58, 0),
  (41, 1, .aload_n 0, 0, 0, 0, 0, 0),
  (42, 1, .iload_n 2, 0, 0, 0, 0, 0),
  (43, 1, .iconst 1, 1, 0, 0, 0, 0),
  (44, 1, .iadd, 0, 0, 0, 0, 0),
  (45, 3, .putfield 40, 0, 0, 1728, 12, 15),
  (48, 1, .aload_n 0, 0, 0, 0, 0, 0),
  (49, 3, .invokevirtual 193, 0, 0, 1452, 0, 205),
  (52, 3, .iinc 3 1, 1, 0, 0, 0, 0),
  (55, 3, .goto (-26), 0, 0, 0, 29, 0),
  (58, 1, .aload_n 0, 0, 0, 0, 0, 0),
  (59, 1, .iload_n 2, 0, 0, 0, 0, 0),
  (60, 3, .putfield 40, 0, 0, 1728, 12, 15),
  (63, 1, .aload_n 0, 0, 0, 0, 0, 0),
  (64, 3, .invokevirtual 197, 0, 0, 1460, 0, 203),
  (67, 1, .return_, 0, 0, 0, 0, 0),
  (68, 1, .aload_n 0, 0, 0, 0, 0, 0),
  (69, 2, .bipush 126, 126, 0, 0, 0, 0),
  (71, 3, .invokevirtual 69, 0, 0, 1348, 0, 179),
  (74, 3, .ifCond .eq 88, 0, 0, 0, 162, 0),
  (77, 1, .aload_n 0, 0, 0, 0, 0, 0),
  (78, 3, .invokevirtual 65, 0, 0, 1338, 0, 181),
  (81, 1, .istore_n 1, 0, 0, 0, 0, 0),
  (82, 1, .aload_n 0, 0, 0, 0, 0, 0),
  (83, 3, .getfield 40, 0, 0, 1728, 12, 15),
  (86, 1, .istore_n 2, 0, 0, 0, 0, 0),
  (87, 1, .aload_n 0, 0, 0, 0, 0, 0),
  (88, 3, .getfield 170, 0, 0, 1738, 12, 25),
  (91, 3, .ifCond .ne 61, 0, 0, 0, 152, 0),
  (94, 1, .aload_n 0, 0, 0, 0, 0, 0),
  (95, 1, .iload_n 1, 0, 0, 0, 0, 0),
  (96, 3, .invokevirtual 134, 0, 0, 1406, 0, 189),
  (99, 3, .ifCond .eq 53, 0, 0, 0, 152, 0),
  (102, 1, .aload_n 0, 0, 0, 0, 0, 0),
  (103, 1, .aload_n 0, 0, 0, 0, 0, 0),
  (104, 3, .getfield 200, 0, 0, 1737, 12, 24),
  (107, 3, .sipush 300, 300, 0, 0, 0, 0),
  (110, 3, .if_icmp .ne 7, 0, 0, 0, 117, 0),
  (113, 1, .iconst 1, 1, 0, 0, 0, 0),
  (114, 3, .goto 4, 0, 0, 0, 118, 0),
  (117, 1, .iconst 0, 0, 0, 0, 0, 0),
  (118, 3, .putfield 170, 0, 0, 1738, 12, 25),
  (121, 1, .aload_n 0, 0, 0, 0, 0, 0),
  (122, 3, .getfield 170, 0, 0, 1738, 12, 25),
  (125, 3, .ifCond .ne (-38), 0, 0, 0, 87, 0),
  (128, 1, .aload_n 0, 0, 0, 0, 0, 0),
  (129, 1, .dup, 0, 0, 0, 0, 0),
  (130, 3, .getfield 200, 0, 0, 1737, 12, 24),
  (133, 1, .iconst 1, 1, 0, 0, 0, 0),
  (134, 1, .iadd, 0, 0, 0, 0, 0),
  (135, 3, .putfield 200, 0, 0, 1737, 12, 24),
  (138, 1, .aload_n 0, 0, 0, 0, 0, 0),
  (139, 1, .iload_n 2, 0, 0, 0, 0, 0),
  (140, 1, .iconst 1, 1, 0, 0, 0, 0),
  (141, 1, .iadd, 0, 0, 0, 0, 0),
  (142, 3, .putfield 40, 0, 0, 1728, 12, 15),
  (145, 1, .aload_n 0, 0, 0, 0, 0, 0),
  (146, 3, .invokevirtual 193, 0, 0, 1452, 0, 205),
  (149, 3, .goto (-62), 0, 0, 0, 87, 0),
  (152, 1, .aload_n 0, 0, 0, 0, 0, 0),
  (153, 1, .iload_n 2, 0, 0, 0, 0, 0),
  (154, 3, .putfield 40, 0, 0, 1728, 12, 15),
  (157, 1, .aload_n 0, 0, 0, 0, 0, 0),
  (158, 3, .invokevirtual 197, 0, 0, 1460, 0, 203),
  (161, 1, .return_, 0, 0, 0, 0, 0),
  (162, 1, .aload_n 0, 0, 0, 0, 0, 0),
  (163, 3, .invokevirtual 65, 0, 0, 1338, 0, 181),
  (166, 1, .istore_n 1, 0, 0, 0, 0, 0),
  (167, 1, .aload_n 0, 0, 0, 0, 0, 0),
  (168, 2, .bipush 42, 42, 0, 0, 0, 0),
  (170, 3, .invokevirtual 69, 0, 0, 1348, 0, 179),
  (173, 3, .ifCond .eq 11, 0, 0, 0, 184, 0),
  (176, 1, .aload_n 0, 0, 0, 0, 0, 0),
  (177, 1, .iload_n 1, 0, 0, 0, 0, 0),
  (178, 3, .invokevirtual 203, 0, 0, 1464, 0, 202),
  (181, 3, .goto 8, 0, 0, 0, 189, 0),
  (184, 1, .aload_n 0, 0, 0, 0, 0, 0),
  (185, 1, .iload_n 1, 0, 0, 0, 0, 0),
  (186, 3, .invokevirtual 189, 0, 0, 1469, 0, 201),
  (189, 1, .return_, 0, 0, 0, 0, 0)]
set_option maxRecDepth 100000 in
theorem zk_204 : zt_204.all (zx_chk 204) = true := by decide +kernel
/-- NamesThatShrinkModel.doesAll()V -/
def zt_205 : List zx_En := [
  (0, 1, .aload_n 0, 0, 0, 0, 0, 0),
  (1, 3, .invokevirtual 206, 0, 0, 1456, 0, 204),
  (4, 1, .aload_n 0, 0, 0, 0, 0, 0),
  (5, 3, .getfield 170, 0, 0, 1738, 12, 25),
  (8, 3, .ifCond .ne 19, 0, 0, 0, 27, 0),
  (11, 1, .aload_n 0, 0, 0, 0, 0, 0),
  (12, 2, .bipush 59, 59, 0, 0, 0, 0),
  (14, 3, .invokevirtual 69, 0, 0, 1348, 0, 179),
  (17, 3, .ifCond .eq 10, 0, 0, 0, 27, 0),
  (20, 1, .aload_n 0, 0, 0, 0, 0, 0),
  (21, 3, .invokevirtual 206, 0, 0, 1456, 0, 204),
  (24, 3, .goto (-20), 0, 0, 0, 4, 0),
  (27, 1, .return_, 0, 0, 0, 0, 0)]
set_option maxRecDepth 100000 in
theorem zk_205 : zt_205.all (zx_chk 205) = true := by decide +kernel
/-- NamesThatShrinkModel.order()I -/
def zt_206 : List zx_En := [
  (0, 1, .aload_n 0, 0, 0, 0, 0, 0),
  (1, 1, .iconst 0, 0, 0, 0, 0, 0),
  (2, 3, .putfield 3, 0, 0, 1713, 12, 0),
  (5, 1, .aload_n 0, 0, 0, 0, 0, 0),
  (6, 2, .bipush 60, 60, 0, 0, 0, 0),
  (8, 3, .invokevirtual 85, 0, 0, 1328, 0, 178),
  (11, 1, .istore_n 1, 0, 0, 0, 0, 0),
  (12, 1, .iload_n 1, 0, 0, 0, 0, 0),
  (13, 3, .ifCond .eq 10, 0, 0, 0, 23, 0),
  (16, 1, .aload_n 0, 0, 0, 0, 0, 0),
  (17, 3, .invokevirtual 161, 0, 0, 1440, 0, 200),
  (20, 3, .ifCond .eq 7, 0, 0, 0, 27, 0),
  (23, 1, .iconst 1, 1, 0, 0, 0, 0),
  (24, 3, .goto 4, 0, 0, 0, 28, 0),
  (27, 1, .iconst 0, 0, 0, 0, 0, 0),
  (28, 1, .istore_n 2, 0, 0, 0, 0, 0),
  (29, 1, .aload_n 0, 0, 0, 0, 0, 0),
  (30, 1, .iload_n 1, 0, 0, 0, 0, 0),
  (31, 2, .bipush 60, 60, 0, 0, 0, 0),
  (33, 1, .iload_n 2, 0, 0, 0, 0, 0),
  (34, 3, .invokevirtual 94, 0, 0, 1361, 0, 183),
  (37, 1, .istore_n 3, 0, 0, 0, 0, 0),
  (38, 1, .iload_n 3, 0, 0, 0, 0, 0),
  (39, 3, .ifCond .ge 5, 0, 0, 0, 44, 0),
  (42, 1, .iload_n 3, 0, 0, 0, 0, 0),
  (43, 1, .ireturn, 0, 0, 0, 0, 0),
  (44, 1, .aload_n 0, 0, 0, 0, 0, 0),
  (45, 1, .iconst 0, 0, 0, 0, 0, 0),
  (46, 3, .putfield 174, 0, 0, 1734, 12, 21),
  (49, 1, .aload_n 0, 0, 0, 0, 0, 0),
  (50, 1, .iconst 0, 0, 0, 0, 0, 0),
  (51, 3, .putfield 177, 0, 0, 1735, 12, 22),
  (54, 1, .aload_n 0, 0, 0, 0, 0, 0),
  (55, 1, .iconst 0, 0, 0, 0, 0, 0),
  (56, 3, .putfield 180, 0, 0, 1736, 12, 23),
  (59, 1, .aload_n 0, 0, 0, 0, 0, 0),
  (60, 1, .iconst 0, 0, 0, 0, 0, 0),
  (61, 3, .putfield 200, 0, 0, 1737, 12, 24),
  (64, 1, .aload_n 0, 0, 0, 0, 0, 0),
  (65, 1, .iconst 0, 0, 0, 0, 0, 0),
  (66, 3, .putfield 170, 0, 0, 1738, 12, 25),
  (69, 1, .aload_n 0, 0, 0, 0, 0, 0),
  (70, 1, .iconst 0, 0, 0, 0, 0, 0),
  (71, 3, .putfield 40, 0, 0, 1728, 12, 15),
  (74, 1, .iload_n 1, 0, 0, 0, 0, 0),
  (75, 3, .ifCond .le 7, 0, 0, 0, 82, 0),
  (78, 1, .aload_n 0, 0, 0, 0, 0, 0),
  (79, 3, .invokevirtual 193, 0, 0, 1452, 0, 205),
  (82, 1, .aload_n 0, 0, 0, 0, 0, 0),
  (83, 1, .iconst 0, 0, 0, 0, 0, 0),
  (84, 3, .putfield 11, 0, 0, 1714, 12, 1),
  (87, 1, .aload_n 0, 0, 0, 0, 0, 0),
  (88, 1, .aload_n 0, 0, 0, 0, 0, 0),
  (89, 3, .getfield 174, 0, 0, 1734, 12, 21),
  (92, 3, .invokevirtual 209, 0, 0, 1473, 0, 170),
  (95, 1, .aload_n 0, 0, 0, 0, 0, 0),
  (96, 1, .aload_n 0, 0, 0, 0, 0, 0),
  (97, 3, .getfield 180, 0, 0, 1736, 12, 23),
  (100, 3, .invokevirtual 209, 0, 0, 1473, 0, 170),
  (103, 1, .aload_n 0, 0, 0, 0, 0, 0),
  (104, 1, .aload_n 0, 0, 0, 0, 0, 0),
  (105, 3, .getfield 170, 0, 0, 1738, 12, 25),
  (108, 3, .invokestatic 49, 0, 0, 1352, 2, 169),
  (111, 3, .invokevirtual 209, 0, 0, 1473, 0, 170),
  (114, 1, .aload_n 0, 0, 0, 0, 0, 0),
  (115, 3, .getfield 177, 0, 0, 1735, 12, 22),
  (118, 1, .ireturn, 0, 0, 0, 0, 0)]
set_option maxRecDepth 100000 in
theorem zk_206 : zt_206.all (zx_chk 206) = true := by decide +kernel
/-- NamesThatShrinkModel.pass(II)I -/
def zt_207 : List zx_En := [
  (0, 1, .aload_n 0, 0, 0, 0, 0, 0),
  (1, 1, .iconst 0, 0, 0, 0, 0, 0),
  (2, 3, .putfield 3, 0, 0, 1713, 12, 0),
  (5, 1, .aload_n 0, 0, 0, 0, 0, 0),
  (6, 1, .iload_n 1, 0, 0, 0, 0, 0),
  (7, 3, .invokevirtual 115, 0, 0, 1380, 0, 175),
  (10, 3, .ifCond .eq 16, 0, 0, 0, 26, 0),
  (13, 1, .aload_n 0, 0, 0, 0, 0, 0),
  (14, 1, .iload_n 2, 0, 0, 0, 0, 0),
  (15, 3, .invokevirtual 115, 0, 0, 1380, 0, 175),
  (18, 3, .ifCond .eq 8, 0, 0, 0, 26, 0),
  (21, 1, .iload_n 1, 0, 0, 0, 0, 0),
  (22, 1, .iload_n 2, 0, 0, 0, 0, 0),
  (23, 3, .if_icmp .ne 5, 0, 0, 0, 28, 0),
  (26, 1, .iconst (-1), (-1), 0, 0, 0, 0),
  (27, 1, .ireturn, 0, 0, 0, 0, 0),
  (28, 1, .aload_n 0, 0, 0, 0, 0, 0),
  (29, 3, .getfield 98, 0, 0, 1717, 12, 4),
  (32, 1, .iload_n 1, 0, 0, 0, 0, 0),
  (33, 1, .iaload, 0, 0, 0, 0, 0),
  (34, 3, .ifCond .ne 6, 0, 0, 0, 40, 0),
  (37, 2, .bipush (-2), (-2), 0, 0, 0, 0),
  (39, 1, .ireturn, 0, 0, 0, 0, 0),
  (40, 1, .aload_n 0, 0, 0, 0, 0, 0),
  (41, 3, .getfield 98, 0, 0, 1717, 12, 4),
  (44, 1, .iload_n 2, 0, 0, 0, 0, 0),
  (45, 1, .iaload, 0, 0, 0, 0, 0),
  (46, 3, .invokestatic 14, 0, 0, 1373, 2, 171),
  (49, 2, .bipush 8, 8, 0, 0, 0, 0),
  (51, 3, .if_icmp .ne 6, 0, 0, 0, 57, 0),
  (54, 2, .bipush (-3), (-3), 0, 0, 0, 0),
  (56, 1, .ireturn, 0, 0, 0, 0, 0),
  (57, 1, .aload_n 0, 0, 0, 0, 0, 0),
  (58, 3, .getfield 98, 0, 0, 1717, 12, 4),
  (61, 1, .iload_n 2, 0, 0, 0, 0, 0),
  (62, 1, .aload_n 0, 0, 0, 0, 0, 0),
  (63, 3, .getfield 98, 0, 0, 1717, 12, 4),
  (66, 1, .iload_n 2, 0, 0, 0, 0, 0),
  (67, 1, .iaload, 0, 0, 0, 0, 0),
  (68, 2, .bipush 7, 7, 0, 0, 0, 0),
  (70, 1, .imul, 0, 0, 0, 0, 0),
  (71, 1, .aload_n 0, 0, 0, 0, 0, 0),
  (72, 3, .getfield 98, 0, 0, 1717, 12, 4),
  (75, 1, .iload_n 1, 0, 0, 0, 0, 0),
  (76, 1, .iaload, 0, 0, 0, 0, 0),
  (77, 2, .bipush 7, 7, 0, 0, 0, 0),
  (79, 1, .irem, 0, 0, 0, 0, 0),
  (80, 1, .iadd, 0, 0, 0, 0, 0),
  (81, 1, .iastore, 0, 0, 0, 0, 0),
  (82, 1, .aload_n 0, 0, 0, 0, 0, 0),
  (83, 3, .getfield 98, 0, 0, 1717, 12, 4),
  (86, 1, .iload_n 1, 0, 0, 0, 0, 0),
  (87, 1, .dup2, 0, 0, 0, 0, 0),
  (88, 1, .iaload, 0, 0, 0, 0, 0),
  (89, 2, .bipush 7, 7, 0, 0, 0, 0),
  (91, 1, .idiv, 0, 0, 0, 0, 0),
  (92, 1, .iastore, 0, 0, 0, 0, 0),
  (93, 1, .aload_n 0, 0, 0, 0, 0, 0),
  (94, 1, .iconst 0, 0, 0, 0, 0, 0),
  (95, 3, .putfield 107, 0, 0, 1723, 12, 10),
  (98, 1, .aload_n 0, 0, 0, 0, 0, 0),
  (99, 3, .getfield 98, 0, 0, 1717, 12, 4),
  (102, 1, .iload_n 2, 0, 0, 0, 0, 0),
  (103, 1, .iaload, 0, 0, 0, 0, 0),
  (104, 1, .ireturn, 0, 0, 0, 0, 0)]
set_option maxRecDepth 100000 in
theorem zk_207 : zt_207.all (zx_chk 207) = true := by decide +kernel
end
section
/-- NamesThatShrinkModel.priceOf(I)I -/
def zt_208 : List zx_En := [
  (0, 1, .iconst 0, 0, 0, 0, 0, 0),
  (1, 1, .istore_n 2, 0, 0, 0, 0, 0),
  (2, 1, .iload_n 1, 0, 0, 0, 0, 0),
  (3, 1, .istore_n 3, 0, 0, 0, 0, 0),
  (4, 1, .iload_n 3, 0, 0, 0, 0, 0),
  (5, 3, .ifCond .le 25, 0, 0, 0, 30, 0),
  (8, 1, .iload_n 2, 0, 0, 0, 0, 0),
  (9, 1, .aload_n 0, 0, 0, 0, 0, 0),
  (10, 3, .getfield 88, 0, 0, 1720, 12, 7),
  (13, 1, .iload_n 3, 0, 0, 0, 0, 0),
  (14, 2, .bipush 7, 7, 0, 0, 0, 0),
  (16, 1, .irem, 0, 0, 0, 0, 0),
  (17, 1, .iconst 1, 1, 0, 0, 0, 0),
  (18, 1, .isub, 0, 0, 0, 0, 0),
  (19, 1, .iaload, 0, 0, 0, 0, 0),
  (20, 1, .iadd, 0, 0, 0, 0, 0),
  (21, 1, .istore_n 2, 0, 0, 0, 0, 0),
  (22, 1, .iload_n 3, 0, 0, 0, 0, 0),
  (23, 2, .bipush 7, 7, 0, 0, 0, 0),
  (25, 1, .idiv, 0, 0, 0, 0, 0),
  (26, 1, .istore_n 3, 0, 0, 0, 0, 0),
  (27, 3, .goto (-23), 0, 0, 0, 4, 0),
  (30, 1, .iload_n 2, 0, 0, 0, 0, 0),
  (31, 1, .ireturn, 0, 0, 0, 0, 0)]
set_option maxRecDepth 100000 in
theorem zk_208 : zt_208.all (zx_chk 208) = true := by decide +kernel
/-- NamesThatShrinkModel.rename(II)I -/
def zt_209 : List zx_En := [
  (0, 1, .aload_n 0, 0, 0, 0, 0, 0),
  (1, 1, .iconst 0, 0, 0, 0, 0, 0),
  (2, 3, .putfield 3, 0, 0, 1713, 12, 0),
  (5, 1, .aload_n 0, 0, 0, 0, 0, 0),
  (6, 1, .iload_n 1, 0, 0, 0, 0, 0),
  (7, 3, .invokevirtual 115, 0, 0, 1380, 0, 175),
  (10, 3, .ifCond .eq 10, 0, 0, 0, 20, 0),
  (13, 1, .iload_n 2, 0, 0, 0, 0, 0),
  (14, 3, .invokestatic 112, 0, 0, 1370, 2, 172),
  (17, 3, .ifCond .ne 5, 0, 0, 0, 22, 0),
  (20, 1, .iconst (-1), (-1), 0, 0, 0, 0),
  (21, 1, .ireturn, 0, 0, 0, 0, 0),
  (22, 1, .aload_n 0, 0, 0, 0, 0, 0),
  (23, 3, .getfield 98, 0, 0, 1717, 12, 4),
  (26, 1, .iload_n 1, 0, 0, 0, 0, 0),
  (27, 1, .iload_n 2, 0, 0, 0, 0, 0),
  (28, 1, .iastore, 0, 0, 0, 0, 0),
  (29, 1, .aload_n 0, 0, 0, 0, 0, 0),
  (30, 1, .iconst 0, 0, 0, 0, 0, 0),
  (31, 3, .putfield 107, 0, 0, 1723, 12, 10),
  (34, 1, .aload_n 0, 0, 0, 0, 0, 0),
  (35, 1, .iload_n 2, 0, 0, 0, 0, 0),
  (36, 3, .invokevirtual 212, 0, 0, 1485, 0, 208),
  (39, 1, .ireturn, 0, 0, 0, 0, 0)]
set_option maxRecDepth 100000 in
theorem zk_209 : zt_209.all (zx_chk 209) = true := by decide +kernel
/-- NamesThatShrinkModel.draws(I)I -/
def zt_210 : List zx_En := [
  (0, 1, .aload_n 0, 0, 0, 0, 0, 0),
  (1, 1, .aload_n 0, 0, 0, 0, 0, 0),
  (2, 3, .getfield 215, 0, 0, 1722, 12, 9),
  (5, 2, .ldc 218, 1103515245, 0, 1502, 0, 0),
  (7, 1, .imul, 0, 0, 0, 0, 0),
  (8, 3, .sipush 12345, 12345, 0, 0, 0, 0),
  (11, 1, .iadd, 0, 0, 0, 0, 0),
  (12, 3, .putfield 215, 0, 0, 1722, 12, 9),
  (15, 1, .aload_n 0, 0, 0, 0, 0, 0),
  (16, 3, .getfield 215, 0, 0, 1722, 12, 9),
  (19, 2, .bipush 16, 16, 0, 0, 0, 0),
  (21, 1, .iushr, 0, 0, 0, 0, 0),
  (22, 1, .iload_n 1, 0, 0, 0, 0, 0),
  (23, 1, .irem, 0, 0, 0, 0, 0),
  (24, 1, .ireturn, 0, 0, 0, 0, 0)]
set_option maxRecDepth 100000 in
theorem zk_210 : zt_210.all (zx_chk 210) = true := by decide +kernel
/-- NamesThatShrinkModel.named()I -/
def zt_211 : List zx_En := [
  (0, 1, .iconst 1, 1, 0, 0, 0, 0),
  (1, 1, .aload_n 0, 0, 0, 0, 0, 0),
  (2, 3, .getfield 27, 0, 0, 1716, 12, 3),
  (5, 1, .ishl, 0, 0, 0, 0, 0),
  (6, 1, .iconst 1, 1, 0, 0, 0, 0),
  (7, 1, .isub, 0, 0, 0, 0, 0),
  (8, 1, .aload_n 0, 0, 0, 0, 0, 0),
  (9, 1, .iconst 0, 0, 0, 0, 0, 0),
  (10, 3, .invokevirtual 134, 0, 0, 1406, 0, 189),
  (13, 1, .iconst (-1), (-1), 0, 0, 0, 0),
  (14, 1, .ixor, 0, 0, 0, 0, 0),
  (15, 1, .iand, 0, 0, 0, 0, 0),
  (16, 1, .ireturn, 0, 0, 0, 0, 0)]
set_option maxRecDepth 100000 in
theorem zk_211 : zt_211.all (zx_chk 211) = true := by decide +kernel
/-- NamesThatShrinkModel.season(I)I -/
def zt_212 : List zx_En := [
  (0, 1, .aload_n 0, 0, 0, 0, 0, 0),
  (1, 1, .iconst 0, 0, 0, 0, 0, 0),
  (2, 3, .putfield 3, 0, 0, 1713, 12, 0),
  (5, 1, .iload_n 1, 0, 0, 0, 0, 0),
  (6, 1, .i2l, 0, 0, 0, 0, 0),
  (7, 1, .lconst 0, 0, 0, 0, 0, 0),
  (8, 3, .ldc2_w 219, 0, 200, 1493, 0, 0),
  (11, 3, .invokestatic 30, 0, 0, 1321, 2, 167),
  (14, 3, .ifCond .ne 5, 0, 0, 0, 19, 0),
  (17, 1, .iconst (-1), (-1), 0, 0, 0, 0),
  (18, 1, .ireturn, 0, 0, 0, 0, 0),
  (19, 1, .iconst 0, 0, 0, 0, 0, 0),
  (20, 1, .istore_n 2, 0, 0, 0, 0, 0),
  (21, 1, .iconst 0, 0, 0, 0, 0, 0),
  (22, 1, .istore_n 3, 0, 0, 0, 0, 0),
  (23, 1, .iload_n 2, 0, 0, 0, 0, 0),
  (24, 1, .iload_n 1, 0, 0, 0, 0, 0),
  (25, 3, .if_icmp .ge 81, 0, 0, 0, 106, 0),
  (28, 1, .aload_n 0, 0, 0, 0, 0, 0),
  (29, 3, .invokevirtual 221, 0, 0, 1494, 0, 211),
  (32, 3, .ifCond .eq 74, 0, 0, 0, 106, 0),
  (35, 1, .aload_n 0, 0, 0, 0, 0, 0),
  (36, 3, .invokevirtual 221, 0, 0, 1494, 0, 211),
  (39, 2, .istore 4, 0, 0, 0, 0, 0),
  (41, 1, .aload_n 0, 0, 0, 0, 0, 0),
  (42, 2, .iload 4, 0, 0, 0, 0, 0),
  (44, 3, .invokestatic 137, 0, 0, 1410, 2, 266),
  (47, 3, .invokevirtual 224, 0, 0, 1498, 0, 210),
  (50, 2, .istore 5, 0, 0, 0, 0, 0),
  (52, 2, .iload 5, 0, 0, 0, 0, 0),
  (54, 3, .ifCond .le 18, 0, 0, 0, 72, 0),
  (57, 2, .iload 4, 0, 0, 0, 0, 0),
  (59, 2, .iload 4, 0, 0, 0, 0, 0),
  (61, 1, .iconst 1, 1, 0, 0, 0, 0),
  (62, 1, .isub, 0, 0, 0, 0, 0),
  (63, 1, .iand, 0, 0, 0, 0, 0),
  (64, 2, .istore 4, 0, 0, 0, 0, 0),
  (66, 3, .iinc 5 (-1), (-1), 0, 0, 0, 0),
  (69, 3, .goto (-17), 0, 0, 0, 52, 0),
  (72, 1, .iload_n 3, 0, 0, 0, 0, 0),
  (73, 1, .aload_n 0, 0, 0, 0, 0, 0),
  (74, 1, .aload_n 0, 0, 0, 0, 0, 0),
  (75, 3, .getfield 98, 0, 0, 1717, 12, 4),
  (78, 2, .iload 4, 0, 0, 0, 0, 0),
  (80, 3, .invokestatic 227, 0, 0, 1503, 2, 265),
  (83, 1, .iaload, 0, 0, 0, 0, 0),
  (84, 3, .invokevirtual 155, 0, 0, 1402, 0, 191),
  (87, 3, .ifCond .ge 7, 0, 0, 0, 94, 0),
  (90, 1, .iconst 1, 1, 0, 0, 0, 0),
  (91, 3, .goto 4, 0, 0, 0, 95, 0),
  (94, 1, .iconst 0, 0, 0, 0, 0, 0),
  (95, 3, .invokestatic 49, 0, 0, 1352, 2, 169),
  (98, 1, .iadd, 0, 0, 0, 0, 0),
  (99, 1, .istore_n 3, 0, 0, 0, 0, 0),
  (100, 3, .iinc 2 1, 1, 0, 0, 0, 0),
  (103, 3, .goto (-80), 0, 0, 0, 23, 0),
  (106, 1, .aload_n 0, 0, 0, 0, 0, 0),
  (107, 1, .iconst 0, 0, 0, 0, 0, 0),
  (108, 3, .putfield 11, 0, 0, 1714, 12, 1),
  (111, 1, .aload_n 0, 0, 0, 0, 0, 0),
  (112, 1, .iload_n 3, 0, 0, 0, 0, 0),
  (113, 3, .invokevirtual 209, 0, 0, 1473, 0, 170),
  (116, 1, .aload_n 0, 0, 0, 0, 0, 0),
  (117, 1, .aload_n 0, 0, 0, 0, 0, 0),
  (118, 1, .iconst 0, 0, 0, 0, 0, 0),
  (119, 3, .invokevirtual 134, 0, 0, 1406, 0, 189),
  (122, 3, .invokevirtual 209, 0, 0, 1473, 0, 170),
  (125, 1, .iload_n 2, 0, 0, 0, 0, 0),
  (126, 1, .ireturn, 0, 0, 0, 0, 0)]
set_option maxRecDepth 100000 in
theorem zk_212 : zt_212.all (zx_chk 212) = true := by decide +kernel
/-- NamesThatShrinkModel.areTwo(II)Z -/
def zt_213 : List zx_En := [
  (0, 1, .aload_n 0, 0, 0, 0, 0, 0),
  (1, 1, .iload_n 1, 0, 0, 0, 0, 0),
  (2, 3, .invokevirtual 115, 0, 0, 1380, 0, 175),
  (5, 3, .ifCond .eq 20, 0, 0, 0, 25, 0),
  (8, 1, .aload_n 0, 0, 0, 0, 0, 0),
  (9, 1, .iload_n 2, 0, 0, 0, 0, 0),
  (10, 3, .invokevirtual 115, 0, 0, 1380, 0, 175),
  (13, 3, .ifCond .eq 12, 0, 0, 0, 25, 0),
  (16, 1, .iload_n 1, 0, 0, 0, 0, 0),
  (17, 1, .iload_n 2, 0, 0, 0, 0, 0),
  (18, 3, .if_icmp .eq 7, 0, 0, 0, 25, 0),
  (21, 1, .iconst 1, 1, 0, 0, 0, 0),
  (22, 3, .goto 4, 0, 0, 0, 26, 0),
  (25, 1, .iconst 0, 0, 0, 0, 0, 0),
  (26, 1, .ireturn, 0, 0, 0, 0, 0)]
set_option maxRecDepth 100000 in
theorem zk_213 : zt_213.all (zx_chk 213) = true := by decide +kernel
/-- NamesThatShrinkModel.common(II)I -/
def zt_214 : List zx_En := [
  (0, 1, .aload_n 0, 0, 0, 0, 0, 0),
  (1, 1, .iconst 0, 0, 0, 0, 0, 0),
  (2, 3, .putfield 3, 0, 0, 1713, 12, 0),
  (5, 1, .aload_n 0, 0, 0, 0, 0, 0),
  (6, 1, .iload_n 1, 0, 0, 0, 0, 0),
  (7, 1, .iload_n 2, 0, 0, 0, 0, 0),
  (8, 3, .invokevirtual 230, 0, 0, 1508, 0, 213),
  (11, 3, .ifCond .eq 30, 0, 0, 0, 41, 0),
  (14, 1, .aload_n 0, 0, 0, 0, 0, 0),
  (15, 3, .getfield 98, 0, 0, 1717, 12, 4),
  (18, 1, .iload_n 1, 0, 0, 0, 0, 0),
  (19, 1, .iaload, 0, 0, 0, 0, 0),
  (20, 1, .aload_n 0, 0, 0, 0, 0, 0),
  (21, 3, .getfield 98, 0, 0, 1717, 12, 4),
  (24, 1, .iload_n 1, 0, 0, 0, 0, 0),
  (25, 1, .iaload, 0, 0, 0, 0, 0),
  (26, 1, .aload_n 0, 0, 0, 0, 0, 0),
  (27, 3, .getfield 98, 0, 0, 1717, 12, 4),
  (30, 1, .iload_n 2, 0, 0, 0, 0, 0),
  (31, 1, .iaload, 0, 0, 0, 0, 0),
  (32, 3, .invokestatic 233, 0, 0, 1512, 2, 174),
  (35, 3, .invokestatic 24, 0, 0, 1429, 2, 173),
  (38, 3, .goto 4, 0, 0, 0, 42, 0),
  (41, 1, .iconst (-1), (-1), 0, 0, 0, 0),
  (42, 1, .ireturn, 0, 0, 0, 0, 0)]
set_option maxRecDepth 100000 in
theorem zk_214 : zt_214.all (zx_chk 214) = true := by decide +kernel
/-- NamesThatShrinkModel.meet(II)I -/
def zt_215 : List zx_En := [
  (0, 1, .aload_n 0, 0, 0, 0, 0, 0),
  (1, 1, .iconst 0, 0, 0, 0, 0, 0),
  (2, 3, .putfield 3, 0, 0, 1713, 12, 0),
  (5, 1, .aload_n 0, 0, 0, 0, 0, 0),
  (6, 1, .iload_n 1, 0, 0, 0, 0, 0),
  (7, 1, .iload_n 2, 0, 0, 0, 0, 0),
  (8, 3, .invokevirtual 230, 0, 0, 1508, 0, 213),
  (11, 3, .ifCond .ne 5, 0, 0, 0, 16, 0),
  (14, 1, .iconst (-1), (-1), 0, 0, 0, 0),
  (15, 1, .ireturn, 0, 0, 0, 0, 0),
  (16, 1, .aload_n 0, 0, 0, 0, 0, 0),
  (17, 3, .getfield 98, 0, 0, 1717, 12, 4),
  (20, 1, .iload_n 1, 0, 0, 0, 0, 0),
  (21, 1, .iaload, 0, 0, 0, 0, 0),
  (22, 1, .aload_n 0, 0, 0, 0, 0, 0),
  (23, 3, .getfield 98, 0, 0, 1717, 12, 4),
  (26, 1, .iload_n 2, 0, 0, 0, 0, 0),
  (27, 1, .iaload, 0, 0, 0, 0, 0),
  (28, 3, .invokestatic 233, 0, 0, 1512, 2, 174),
  (31, 1, .istore_n 3, 0, 0, 0, 0, 0),
  (32, 1, .iload_n 3, 0, 0, 0, 0, 0),
  (33, 3, .ifCond .ne 8, 0, 0, 0, 41, 0),
  (36, 2, .bipush (-2), (-2), 0, 0, 0, 0),
  (38, 3, .goto 26, 0, 0, 0, 64, 0),
  (41, 1, .aload_n 0, 0, 0, 0, 0, 0),
  (42, 3, .getfield 98, 0, 0, 1717, 12, 4),
  (45, 1, .iload_n 1, 0, 0, 0, 0, 0),
  (46, 1, .iaload, 0, 0, 0, 0, 0),
  (47, 3, .invokestatic 14, 0, 0, 1373, 2, 171),
  (50, 1, .aload_n 0, 0, 0, 0, 0, 0),
  (51, 3, .getfield 98, 0, 0, 1717, 12, 4),
  (54, 1, .iload_n 2, 0, 0, 0, 0, 0),
  (55, 1, .iaload, 0, 0, 0, 0, 0),
  (56, 3, .invokestatic 14, 0, 0, 1373, 2, 171),
  (59, 1, .iadd, 0, 0, 0, 0, 0),
  (60, 1, .iconst 2, 2, 0, 0, 0, 0),
  (61, 1, .iload_n 3, 0, 0, 0, 0, 0),
  (62, 1, .imul, 0, 0, 0, 0, 0),
  (63, 1, .isub, 0, 0, 0, 0, 0),
  (64, 1, .ireturn, 0, 0, 0, 0, 0)]
set_option maxRecDepth 100000 in
theorem zk_215 : zt_215.all (zx_chk 215) = true := by decide +kernel
/-- NamesThatShrinkModel.canMeet(III)Z -/
def zt_216 : List zx_En := [
  (0, 1, .iload_n 0, 0, 0, 0, 0, 0),
  (1, 1, .iload_n 1, 0, 0, 0, 0, 0),
  (2, 3, .invokestatic 233, 0, 0, 1512, 2, 174),
  (5, 1, .istore_n 3, 0, 0, 0, 0, 0),
  (6, 1, .iload_n 3, 0, 0, 0, 0, 0),
  (7, 3, .ifCond .le 27, 0, 0, 0, 34, 0),
  (10, 1, .iload_n 0, 0, 0, 0, 0, 0),
  (11, 3, .invokestatic 14, 0, 0, 1373, 2, 171),
  (14, 1, .iload_n 3, 0, 0, 0, 0, 0),
  (15, 1, .isub, 0, 0, 0, 0, 0),
  (16, 1, .iload_n 2, 0, 0, 0, 0, 0),
  (17, 3, .if_icmp .gt 17, 0, 0, 0, 34, 0),
  (20, 1, .iload_n 1, 0, 0, 0, 0, 0),
  (21, 3, .invokestatic 14, 0, 0, 1373, 2, 171),
  (24, 1, .iload_n 3, 0, 0, 0, 0, 0),
  (25, 1, .isub, 0, 0, 0, 0, 0),
  (26, 1, .iload_n 2, 0, 0, 0, 0, 0),
  (27, 3, .if_icmp .gt 7, 0, 0, 0, 34, 0),
  (30, 1, .iconst 1, 1, 0, 0, 0, 0),
  (31, 3, .goto 4, 0, 0, 0, 35, 0),
  (34, 1, .iconst 0, 0, 0, 0, 0, 0),
  (35, 1, .ireturn, 0, 0, 0, 0, 0)]
set_option maxRecDepth 100000 in
theorem zk_216 : zt_216.all (zx_chk 216) = true := by decide +kernel
/-- NamesThatShrinkModel.pairs(I)I -/
def zt_217 : List zx_En := [
  (0, 1, .aload_n 0, 0, 0, 0, 0, 0),
  (1, 1, .iconst 0, 0, 0, 0, 0, 0),
  (2, 3, .putfield 3, 0, 0, 1713, 12, 0),
  (5, 1, .iload_n 1, 0, 0, 0, 0, 0),
  (6, 1, .i2l, 0, 0, 0, 0, 0),
  (7, 1, .lconst 0, 0, 0, 0, 0, 0),
  (8, 3, .ldc2_w 236, 0, 8, 1523, 0, 0),
  (11, 3, .invokestatic 30, 0, 0, 1321, 2, 167),
  (14, 3, .ifCond .ne 5, 0, 0, 0, 19, 0),
  (17, 1, .iconst (-1), (-1), 0, 0, 0, 0),
  (18, 1, .ireturn, 0, 0, 0, 0, 0),
  (19, 1, .aload_n 0, 0, 0, 0, 0, 0),
  (20, 1, .iconst 0, 0, 0, 0, 0, 0),
  (21, 3, .putfield 11, 0, 0, 1714, 12, 1),
  (24, 1, .iconst 0, 0, 0, 0, 0, 0),
  (25, 1, .istore_n 2, 0, 0, 0, 0, 0),
  (26, 1, .iconst 0, 0, 0, 0, 0, 0),
  (27, 1, .istore_n 3, 0, 0, 0, 0, 0),
  (28, 1, .iload_n 3, 0, 0, 0, 0, 0),
  (29, 1, .aload_n 0, 0, 0, 0, 0, 0),
  (30, 3, .getfield 27, 0, 0, 1716, 12, 3),
  (33, 3, .if_icmp .ge 67, 0, 0, 0, 100, 0),
  (36, 1, .iload_n 3, 0, 0, 0, 0, 0),
  (37, 1, .iconst 1, 1, 0, 0, 0, 0),
  (38, 1, .iadd, 0, 0, 0, 0, 0),
  (39, 2, .istore 4, 0, 0, 0, 0, 0),
  (41, 2, .iload 4, 0, 0, 0, 0, 0),
  (43, 1, .aload_n 0, 0, 0, 0, 0, 0),
  (44, 3, .getfield 27, 0, 0, 1716, 12, 3),
  (47, 3, .if_icmp .ge 47, 0, 0, 0, 94, 0),
  (50, 1, .aload_n 0, 0, 0, 0, 0, 0),
  (51, 3, .getfield 98, 0, 0, 1717, 12, 4),
  (54, 1, .iload_n 3, 0, 0, 0, 0, 0),
  (55, 1, .iaload, 0, 0, 0, 0, 0),
  (56, 1, .aload_n 0, 0, 0, 0, 0, 0),
  (57, 3, .getfield 98, 0, 0, 1717, 12, 4),
  (60, 2, .iload 4, 0, 0, 0, 0, 0),
  (62, 1, .iaload, 0, 0, 0, 0, 0),
  (63, 1, .iload_n 1, 0, 0, 0, 0, 0),
  (64, 3, .invokestatic 238, 0, 0, 1524, 2, 216),
  (67, 3, .ifCond .eq 21, 0, 0, 0, 88, 0),
  (70, 1, .iload_n 2, 0, 0, 0, 0, 0),
  (71, 3, .ifCond .ne 14, 0, 0, 0, 85, 0),
  (74, 1, .aload_n 0, 0, 0, 0, 0, 0),
  (75, 1, .iload_n 3, 0, 0, 0, 0, 0),
  (76, 3, .invokevirtual 209, 0, 0, 1473, 0, 170),
  (79, 1, .aload_n 0, 0, 0, 0, 0, 0),
  (80, 2, .iload 4, 0, 0, 0, 0, 0),
  (82, 3, .invokevirtual 209, 0, 0, 1473, 0, 170),
  (85, 3, .iinc 2 1, 1, 0, 0, 0, 0),
  (88, 3, .iinc 4 1, 1, 0, 0, 0, 0),
  (91, 3, .goto (-50), 0, 0, 0, 41, 0),
  (94, 3, .iinc 3 1, 1, 0, 0, 0, 0),
  (97, 3, .goto (-69), 0, 0, 0, 28, 0),
  (100, 1, .iload_n 2, 0, 0, 0, 0, 0),
  (101, 1, .ireturn, 0, 0, 0, 0, 0)]
set_option maxRecDepth 100000 in
theorem zk_217 : zt_217.all (zx_chk 217) = true := by decide +kernel
/-- NamesThatShrinkModel.tree()I -/
def zt_218 : List zx_En := [
  (0, 1, .aload_n 0, 0, 0, 0, 0, 0),
  (1, 1, .iconst 0, 0, 0, 0, 0, 0),
  (2, 3, .putfield 3, 0, 0, 1713, 12, 0),
  (5, 1, .iconst 0, 0, 0, 0, 0, 0),
  (6, 1, .istore_n 1, 0, 0, 0, 0, 0),
  (7, 1, .iconst 0, 0, 0, 0, 0, 0),
  (8, 1, .istore_n 2, 0, 0, 0, 0, 0),
  (9, 1, .iconst 0, 0, 0, 0, 0, 0),
  (10, 1, .istore_n 3, 0, 0, 0, 0, 0),
  (11, 1, .iconst 0, 0, 0, 0, 0, 0),
  (12, 2, .istore 4, 0, 0, 0, 0, 0),
  (14, 2, .iload 4, 0, 0, 0, 0, 0),
  (16, 1, .aload_n 0, 0, 0, 0, 0, 0),
  (17, 3, .getfield 27, 0, 0, 1716, 12, 3),
  (20, 3, .if_icmp .ge 187, 0, 0, 0, 207, 0),
  (23, 1, .iconst 1, 1, 0, 0, 0, 0),
  (24, 2, .istore 5, 0, 0, 0, 0, 0),
  (26, 2, .iload 5, 0, 0, 0, 0, 0),
  (28, 1, .aload_n 0, 0, 0, 0, 0, 0),
  (29, 3, .getfield 98, 0, 0, 1717, 12, 4),
  (32, 2, .iload 4, 0, 0, 0, 0, 0),
  (34, 1, .iaload, 0, 0, 0, 0, 0),
  (35, 3, .invokestatic 14, 0, 0, 1373, 2, 171),
  (38, 3, .if_icmp .gt 163, 0, 0, 0, 201, 0),
  (41, 1, .aload_n 0, 0, 0, 0, 0, 0),
  (42, 3, .getfield 98, 0, 0, 1717, 12, 4),
  (45, 2, .iload 4, 0, 0, 0, 0, 0),
  (47, 1, .iaload, 0, 0, 0, 0, 0),
  (48, 2, .iload 5, 0, 0, 0, 0, 0),
  (50, 3, .invokestatic 24, 0, 0, 1429, 2, 173),
  (53, 2, .istore 6, 0, 0, 0, 0, 0),
  (55, 1, .iconst 1, 1, 0, 0, 0, 0),
  (56, 2, .istore 7, 0, 0, 0, 0, 0),
  (58, 1, .iconst 0, 0, 0, 0, 0, 0),
  (59, 2, .istore 8, 0, 0, 0, 0, 0),
  (61, 2, .iload 8, 0, 0, 0, 0, 0),
  (63, 1, .iload_n 1, 0, 0, 0, 0, 0),
  (64, 3, .if_icmp .ge 33, 0, 0, 0, 97, 0),
  (67, 2, .iload 7, 0, 0, 0, 0, 0),
  (69, 3, .ifCond .eq 19, 0, 0, 0, 88, 0),
  (72, 1, .aload_n 0, 0, 0, 0, 0, 0),
  (73, 3, .getfield 242, 0, 0, 1740, 12, 27),
  (76, 2, .iload 8, 0, 0, 0, 0, 0),
  (78, 1, .iaload, 0, 0, 0, 0, 0),
  (79, 2, .iload 6, 0, 0, 0, 0, 0),
  (81, 3, .if_icmp .eq 7, 0, 0, 0, 88, 0),
  (84, 1, .iconst 1, 1, 0, 0, 0, 0),
  (85, 3, .goto 4, 0, 0, 0, 89, 0),
  (88, 1, .iconst 0, 0, 0, 0, 0, 0),
  (89, 2, .istore 7, 0, 0, 0, 0, 0),
  (91, 3, .iinc 8 1, 1, 0, 0, 0, 0),
  (94, 3, .goto (-33), 0, 0, 0, 61, 0),
  (97, 2, .iload 7, 0, 0, 0, 0, 0),
  (99, 3, .ifCond .ne 6, 0, 0, 0, 105, 0),
  (102, 3, .goto 93, 0, 0, 0, 195, 0),
  (105, 1, .aload_n 0, 0, 0, 0, 0, 0),
  (106, 3, .getfield 242, 0, 0, 1740, 12, 27),
  (109, 1, .iload_n 1, 0, 0, 0, 0, 0),
  (110, 2, .iload 6, 0, 0, 0, 0, 0),
  (112, 1, .iastore, 0, 0, 0, 0, 0),
  (113, 3, .iinc 1 1, 1, 0, 0, 0, 0),
  (116, 1, .aload_n 0, 0, 0, 0, 0, 0),
  (117, 2, .iload 6, 0, 0, 0, 0, 0),
  (119, 3, .invokevirtual 183, 0, 0, 1468, 0, 196),
  (122, 3, .invokestatic 137, 0, 0, 1410, 2, 266),
  (125, 2, .istore 8, 0, 0, 0, 0, 0),
  (127, 2, .iload 5, 0, 0, 0, 0, 0),
  (129, 1, .iload_n 2, 0, 0, 0, 0, 0),
  (130, 3, .invokestatic 14, 0, 0, 1373, 2, 171),
  (133, 1, .isub, 0, 0, 0, 0, 0),
  (134, 2, .istore 9, 0, 0, 0, 0, 0),
  (136, 2, .iload 8, 0, 0, 0, 0, 0),
  (138, 1, .iload_n 3, 0, 0, 0, 0, 0),
  (139, 3, .if_icmp .gt 25, 0, 0, 0, 164, 0),
  (142, 2, .iload 8, 0, 0, 0, 0, 0),
  (144, 1, .iload_n 3, 0, 0, 0, 0, 0),
  (145, 3, .if_icmp .ne 23, 0, 0, 0, 168, 0),
  (148, 2, .iload 9, 0, 0, 0, 0, 0),
  (150, 3, .ifCond .gt 14, 0, 0, 0, 164, 0),
  (153, 2, .iload 9, 0, 0, 0, 0, 0),
  (155, 3, .ifCond .ne 13, 0, 0, 0, 168, 0),
  (158, 2, .iload 6, 0, 0, 0, 0, 0),
  (160, 1, .iload_n 2, 0, 0, 0, 0, 0),
  (161, 3, .if_icmp .ge 7, 0, 0, 0, 168, 0),
  (164, 1, .iconst 1, 1, 0, 0, 0, 0),
  (165, 3, .goto 4, 0, 0, 0, 169, 0),
  (168, 1, .iconst 0, 0, 0, 0, 0, 0),
  (169, 2, .istore 10, 0, 0, 0, 0, 0),
  (171, 2, .iload 10, 0, 0, 0, 0, 0),
  (173, 3, .ifCond .eq 8, 0, 0, 0, 181, 0),
  (176, 2, .iload 6, 0, 0, 0, 0, 0),
  (178, 3, .goto 4, 0, 0, 0, 182, 0),
  (181, 1, .iload_n 2, 0, 0, 0, 0, 0),
  (182, 1, .istore_n 2, 0, 0, 0, 0, 0),
  (183, 2, .iload 10, 0, 0, 0, 0, 0),
  (185, 3, .ifCond .eq 8, 0, 0, 0, 193, 0),
  (188, 2, .iload 8, 0, 0, 0, 0, 0),
  (190, 3, .goto 4, 0, 0, 0, 194, 0),
  (193, 1, .iload_n 3, 0, 0, 0, 0, 0),
  (194, 1, .istore_n 3, 0, 0, 0, 0, 0),
  (195, 3, .iinc 5 1, 1, 0, 0, 0, 0),
  (198, 3, .goto (-172), 0, 0, 0, 26, 0),
  (201, 3, .iinc 4 1, 1, 0, 0, 0, 0),
  (204, 3, .goto (-190), 0, 0, 0, 14, 0),
  (207, 1, .aload_n 0, 0, 0, 0, 0, 0),
  (208, 1, .iconst 0, 0, 0, 0, 0, 0),
  (209, 3, .putfield 11, 0, 0, 1714, 12, 1),
  (212, 1, .iload_n 1, 0, 0, 0, 0, 0),
  (213, 3, .ifCond .le 13, 0, 0, 0, 226, 0),
  (216, 1, .aload_n 0, 0, 0, 0, 0, 0),
  (217, 1, .iload_n 2, 0, 0, 0, 0, 0),
  (218, 3, .invokevirtual 209, 0, 0, 1473, 0, 170),
  (221, 1, .aload_n 0, 0, 0, 0, 0, 0),
  (222, 1, .iload_n 3, 0, 0, 0, 0, 0),
  (223, 3, .invokevirtual 209, 0, 0, 1473, 0, 170),
  (226, 1, .iload_n 1, 0, 0, 0, 0, 0),
  (227, 1, .ireturn, 0, 0, 0, 0, 0)]
set_option maxRecDepth 100000 in
theorem zk_218 : zt_218.all (zx_chk 218) = true := by decide +kernel
/-- NamesThatShrinkModel.leftOf(JI)I -/
def zt_219 : List zx_En := [
  (0, 1, .lload_n 0, 0, 0, 0, 0, 0),
  (1, 1, .iconst 4, 4, 0, 0, 0, 0),
  (2, 1, .iload_n 2, 0, 0, 0, 0, 0),
  (3, 1, .imul, 0, 0, 0, 0, 0),
  (4, 1, .lshr, 0, 0, 0, 0, 0),
  (5, 1, .l2i, 0, 0, 0, 0, 0),
  (6, 2, .bipush 15, 15, 0, 0, 0, 0),
  (8, 1, .iand, 0, 0, 0, 0, 0),
  (9, 1, .ireturn, 0, 0, 0, 0, 0)]
set_option maxRecDepth 100000 in
theorem zk_219 : zt_219.all (zx_chk 219) = true := by decide +kernel
/-- NamesThatShrinkModel.nameIn(JI)I -/
def zt_220 : List zx_En := [
  (0, 1, .aload_n 0, 0, 0, 0, 0, 0),
  (1, 3, .getfield 98, 0, 0, 1717, 12, 4),
  (4, 1, .iload_n 3, 0, 0, 0, 0, 0),
  (5, 1, .iaload, 0, 0, 0, 0, 0),
  (6, 1, .lload_n 1, 0, 0, 0, 0, 0),
  (7, 1, .iload_n 3, 0, 0, 0, 0, 0),
  (8, 3, .invokestatic 245, 0, 0, 1557, 2, 219),
  (11, 3, .invokestatic 24, 0, 0, 1429, 2, 173),
  (14, 1, .ireturn, 0, 0, 0, 0, 0)]
set_option maxRecDepth 100000 in
theorem zk_220 : zt_220.all (zx_chk 220) = true := by decide +kernel
/-- NamesThatShrinkModel.slotOf(J)I -/
def zt_221 : List zx_En := [
  (0, 1, .lload_n 1, 0, 0, 0, 0, 0),
  (1, 1, .lload_n 1, 0, 0, 0, 0, 0),
  (2, 2, .bipush 19, 19, 0, 0, 0, 0),
  (4, 1, .lshr, 0, 0, 0, 0, 0),
  (5, 1, .lxor, 0, 0, 0, 0, 0),
  (6, 3, .ldc2_w 249, 0, 65536, 1548, 0, 0),
  (9, 1, .lrem, 0, 0, 0, 0, 0),
  (10, 1, .l2i, 0, 0, 0, 0, 0),
  (11, 1, .istore_n 3, 0, 0, 0, 0, 0),
  (12, 1, .aload_n 0, 0, 0, 0, 0, 0),
  (13, 3, .getfield 251, 0, 0, 1744, 12, 31),
  (16, 1, .iload_n 3, 0, 0, 0, 0, 0),
  (17, 1, .iaload, 0, 0, 0, 0, 0),
  (18, 3, .ifCond .lt 30, 0, 0, 0, 48, 0),
  (21, 1, .aload_n 0, 0, 0, 0, 0, 0),
  (22, 3, .getfield 254, 0, 0, 1741, 12, 28),
  (25, 1, .aload_n 0, 0, 0, 0, 0, 0),
  (26, 3, .getfield 251, 0, 0, 1744, 12, 31),
  (29, 1, .iload_n 3, 0, 0, 0, 0, 0),
  (30, 1, .iaload, 0, 0, 0, 0, 0),
  (31, 1, .laload, 0, 0, 0, 0, 0),
  (32, 1, .lload_n 1, 0, 0, 0, 0, 0),
  (33, 1, .lcmp, 0, 0, 0, 0, 0),
  (34, 3, .ifCond .eq 14, 0, 0, 0, 48, 0),
  (37, 1, .iload_n 3, 0, 0, 0, 0, 0),
  (38, 1, .iconst 1, 1, 0, 0, 0, 0),
  (39, 1, .iadd, 0, 0, 0, 0, 0),
  (40, 3, .ldc_w 258, 65536, 0, 1539, 0, 0),
  (43, 1, .irem, 0, 0, 0, 0, 0),
  (44, 1, .istore_n 3, 0, 0, 0, 0, 0),
  (45, 3, .goto (-33), 0, 0, 0, 12, 0),
  (48, 1, .iload_n 3, 0, 0, 0, 0, 0),
  (49, 1, .ireturn, 0, 0, 0, 0, 0)]
set_option maxRecDepth 100000 in
theorem zk_221 : zt_221.all (zx_chk 221) = true := by decide +kernel
/-- NamesThatShrinkModel.answerTo(JI)I -/
def zt_222 : List zx_En := [
  (0, 1, .aload_n 0, 0, 0, 0, 0, 0),
  (1, 1, .lload_n 1, 0, 0, 0, 0, 0),
  (2, 1, .iload_n 3, 0, 0, 0, 0, 0),
  (3, 3, .invokevirtual 259, 0, 0, 1553, 0, 220),
  (6, 2, .istore 4, 0, 0, 0, 0, 0),
  (8, 1, .iconst 0, 0, 0, 0, 0, 0),
  (9, 2, .istore 5, 0, 0, 0, 0, 0),
  (11, 1, .iconst 0, 0, 0, 0, 0, 0),
  (12, 2, .istore 6, 0, 0, 0, 0, 0),
  (14, 2, .iload 6, 0, 0, 0, 0, 0),
  (16, 1, .aload_n 0, 0, 0, 0, 0, 0),
  (17, 3, .getfield 27, 0, 0, 1716, 12, 3),
  (20, 3, .if_icmp .ge 34, 0, 0, 0, 54, 0),
  (23, 2, .iload 5, 0, 0, 0, 0, 0),
  (25, 1, .aload_n 0, 0, 0, 0, 0, 0),
  (26, 1, .lload_n 1, 0, 0, 0, 0, 0),
  (27, 2, .iload 6, 0, 0, 0, 0, 0),
  (29, 3, .invokevirtual 259, 0, 0, 1553, 0, 220),
  (32, 2, .iload 4, 0, 0, 0, 0, 0),
  (34, 3, .if_icmp .ne 10, 0, 0, 0, 44, 0),
  (37, 1, .iconst 1, 1, 0, 0, 0, 0),
  (38, 2, .iload 6, 0, 0, 0, 0, 0),
  (40, 1, .ishl, 0, 0, 0, 0, 0),
  (41, 3, .goto 4, 0, 0, 0, 45, 0),
  (44, 1, .iconst 0, 0, 0, 0, 0, 0),
  (45, 1, .ior, 0, 0, 0, 0, 0),
  (46, 2, .istore 5, 0, 0, 0, 0, 0),
  (48, 3, .iinc 6 1, 1, 0, 0, 0, 0),
  (51, 3, .goto (-37), 0, 0, 0, 14, 0),
  (54, 2, .iload 5, 0, 0, 0, 0, 0),
  (56, 1, .ireturn, 0, 0, 0, 0, 0)]
set_option maxRecDepth 100000 in
theorem zk_222 : zt_222.all (zx_chk 222) = true := by decide +kernel
/-- NamesThatShrinkModel.behind(JI)J -/
def zt_223 : List zx_En := [
  (0, 1, .lload_n 1, 0, 0, 0, 0, 0),
  (1, 2, .lstore 4, 0, 0, 0, 0, 0),
  (3, 1, .iconst 0, 0, 0, 0, 0, 0),
  (4, 2, .istore 6, 0, 0, 0, 0, 0),
  (6, 2, .iload 6, 0, 0, 0, 0, 0),
  (8, 1, .aload_n 0, 0, 0, 0, 0, 0),
  (9, 3, .getfield 27, 0, 0, 1716, 12, 3),
  (12, 3, .if_icmp .ge 33, 0, 0, 0, 45, 0),
  (15, 2, .lload 4, 0, 0, 0, 0, 0),
  (17, 1, .iload_n 3, 0, 0, 0, 0, 0),
  (18, 2, .iload 6, 0, 0, 0, 0, 0),
  (20, 3, .invokestatic 130, 0, 0, 1415, 2, 168),
  (23, 3, .ifCond .eq 12, 0, 0, 0, 35, 0),
  (26, 1, .lconst 1, 0, 1, 0, 0, 0),
  (27, 1, .iconst 4, 4, 0, 0, 0, 0),
  (28, 2, .iload 6, 0, 0, 0, 0, 0),
  (30, 1, .imul, 0, 0, 0, 0, 0),
  (31, 1, .lshl, 0, 0, 0, 0, 0),
  (32, 3, .goto 4, 0, 0, 0, 36, 0),
  (35, 1, .lconst 0, 0, 0, 0, 0, 0),
  (36, 1, .lsub, 0, 0, 0, 0, 0),
  (37, 2, .lstore 4, 0, 0, 0, 0, 0),
  (39, 3, .iinc 6 1, 1, 0, 0, 0, 0),
  (42, 3, .goto (-36), 0, 0, 0, 6, 0),
  (45, 2, .lload 4, 0, 0, 0, 0, 0),
  (47, 1, .lreturn, 0, 0, 0, 0, 0)]
set_option maxRecDepth 100000 in
theorem zk_223 : zt_223.all (zx_chk 223) = true := by decide +kernel
/-- NamesThatShrinkModel.canCall(JII)Z -/
def zt_224 : List zx_En := [
  (0, 1, .lload_n 1, 0, 0, 0, 0, 0),
  (1, 1, .iload_n 3, 0, 0, 0, 0, 0),
  (2, 3, .invokestatic 245, 0, 0, 1557, 2, 219),
  (5, 3, .ifCond .le 28, 0, 0, 0, 33, 0),
  (8, 2, .iload 4, 0, 0, 0, 0, 0),
  (10, 3, .invokestatic 227, 0, 0, 1503, 2, 265),
  (13, 1, .iload_n 3, 0, 0, 0, 0, 0),
  (14, 3, .if_icmp .ne 19, 0, 0, 0, 33, 0),
  (17, 2, .iload 4, 0, 0, 0, 0, 0),
  (19, 3, .invokestatic 137, 0, 0, 1410, 2, 266),
  (22, 1, .aload_n 0, 0, 0, 0, 0, 0),
  (23, 3, .getfield 262, 0, 0, 1747, 12, 34),
  (26, 3, .if_icmp .gt 7, 0, 0, 0, 33, 0),
  (29, 1, .iconst 1, 1, 0, 0, 0, 0),
  (30, 3, .goto 4, 0, 0, 0, 34, 0),
  (33, 1, .iconst 0, 0, 0, 0, 0, 0),
  (34, 1, .ireturn, 0, 0, 0, 0, 0)]
set_option maxRecDepth 100000 in
theorem zk_224 : zt_224.all (zx_chk 224) = true := by decide +kernel
/-- NamesThatShrinkModel.stateNow()J -/
def zt_225 : List zx_En := [
  (0, 1, .lconst 0, 0, 0, 0, 0, 0),
  (1, 1, .lstore_n 1, 0, 0, 0, 0, 0),
  (2, 1, .iconst 0, 0, 0, 0, 0, 0),
  (3, 1, .istore_n 3, 0, 0, 0, 0, 0),
  (4, 1, .iload_n 3, 0, 0, 0, 0, 0),
  (5, 1, .aload_n 0, 0, 0, 0, 0, 0),
  (6, 3, .getfield 27, 0, 0, 1716, 12, 3),
  (9, 3, .if_icmp .ge 26, 0, 0, 0, 35, 0),
  (12, 1, .lload_n 1, 0, 0, 0, 0, 0),
  (13, 1, .aload_n 0, 0, 0, 0, 0, 0),
  (14, 3, .getfield 98, 0, 0, 1717, 12, 4),
  (17, 1, .iload_n 3, 0, 0, 0, 0, 0),
  (18, 1, .iaload, 0, 0, 0, 0, 0),
  (19, 3, .invokestatic 14, 0, 0, 1373, 2, 171),
  (22, 1, .i2l, 0, 0, 0, 0, 0),
  (23, 1, .iconst 4, 4, 0, 0, 0, 0),
  (24, 1, .iload_n 3, 0, 0, 0, 0, 0),
  (25, 1, .imul, 0, 0, 0, 0, 0),
  (26, 1, .lshl, 0, 0, 0, 0, 0),
  (27, 1, .lor, 0, 0, 0, 0, 0),
  (28, 1, .lstore_n 1, 0, 0, 0, 0, 0),
  (29, 3, .iinc 3 1, 1, 0, 0, 0, 0),
  (32, 3, .goto (-28), 0, 0, 0, 4, 0),
  (35, 1, .lload_n 1, 0, 0, 0, 0, 0),
  (36, 1, .lreturn, 0, 0, 0, 0, 0)]
set_option maxRecDepth 100000 in
theorem zk_225 : zt_225.all (zx_chk 225) = true := by decide +kernel
/-- NamesThatShrinkModel.explores(I)Z -/
def zt_226 : List zx_En := [
  (0, 1, .aload_n 0, 0, 0, 0, 0, 0),
  (1, 1, .iload_n 1, 0, 0, 0, 0, 0),
  (2, 3, .putfield 262, 0, 0, 1747, 12, 34),
  (5, 1, .iconst 0, 0, 0, 0, 0, 0),
  (6, 1, .istore_n 2, 0, 0, 0, 0, 0),
  (7, 1, .iload_n 2, 0, 0, 0, 0, 0),
  (8, 3, .ldc_w 258, 65536, 0, 1539, 0, 0),
  (11, 3, .if_icmp .ge 16, 0, 0, 0, 27, 0),
  (14, 1, .aload_n 0, 0, 0, 0, 0, 0),
  (15, 3, .getfield 251, 0, 0, 1744, 12, 31),
  (18, 1, .iload_n 2, 0, 0, 0, 0, 0),
  (19, 1, .iconst (-1), (-1), 0, 0, 0, 0),
  (20, 1, .iastore, 0, 0, 0, 0, 0),
  (21, 3, .iinc 2 1, 1, 0, 0, 0, 0),
  (24, 3, .goto (-17), 0, 0, 0, 7, 0),
  (27, 1, .aload_n 0, 0, 0, 0, 0, 0),
  (28, 3, .getfield 254, 0, 0, 1741, 12, 28),
  (31, 1, .iconst 0, 0, 0, 0, 0, 0),
  (32, 1, .aload_n 0, 0, 0, 0, 0, 0),
  (33, 3, .invokevirtual 265, 0, 0, 1540, 0, 225),
  (36, 1, .lastore, 0, 0, 0, 0, 0),
  (37, 1, .aload_n 0, 0, 0, 0, 0, 0),
  (38, 3, .getfield 269, 0, 0, 1742, 12, 29),
  (41, 1, .iconst 0, 0, 0, 0, 0, 0),
  (42, 1, .iconst 0, 0, 0, 0, 0, 0),
  (43, 1, .iastore, 0, 0, 0, 0, 0),
  (44, 1, .aload_n 0, 0, 0, 0, 0, 0),
  (45, 3, .getfield 272, 0, 0, 1743, 12, 30),
  (48, 1, .iconst 0, 0, 0, 0, 0, 0),
  (49, 1, .iconst 0, 0, 0, 0, 0, 0),
  (50, 1, .iastore, 0, 0, 0, 0, 0),
  (51, 1, .aload_n 0, 0, 0, 0, 0, 0),
  (52, 3, .getfield 251, 0, 0, 1744, 12, 31),
  (55, 1, .aload_n 0, 0, 0, 0, 0, 0),
  (56, 1, .aload_n 0, 0, 0, 0, 0, 0),
  (57, 3, .getfield 254, 0, 0, 1741, 12, 28),
  (60, 1, .iconst 0, 0, 0, 0, 0, 0),
  (61, 1, .laload, 0, 0, 0, 0, 0),
  (62, 3, .invokevirtual 275, 0, 0, 1544, 0, 221),
  (65, 1, .iconst 0, 0, 0, 0, 0, 0),
  (66, 1, .iastore, 0, 0, 0, 0, 0),
  (67, 1, .aload_n 0, 0, 0, 0, 0, 0),
  (68, 1, .iconst 1, 1, 0, 0, 0, 0),
  (69, 3, .putfield 279, 0, 0, 1746, 12, 33),
  (72, 1, .iconst 0, 0, 0, 0, 0, 0),
  (73, 1, .istore_n 2, 0, 0, 0, 0, 0),
  (74, 1, .iload_n 2, 0, 0, 0, 0, 0),
  (75, 1, .aload_n 0, 0, 0, 0, 0, 0),
  (76, 3, .getfield 279, 0, 0, 1746, 12, 33),
  (79, 3, .if_icmp .ge 174, 0, 0, 0, 253, 0),
  (82, 1, .iconst 0, 0, 0, 0, 0, 0),
  (83, 1, .istore_n 3, 0, 0, 0, 0, 0),
  (84, 1, .iload_n 3, 0, 0, 0, 0, 0),
  (85, 1, .aload_n 0, 0, 0, 0, 0, 0),
  (86, 3, .getfield 27, 0, 0, 1716, 12, 3),
  (89, 3, .if_icmp .ge 158, 0, 0, 0, 247, 0),
  (92, 1, .aload_n 0, 0, 0, 0, 0, 0),
  (93, 1, .aload_n 0, 0, 0, 0, 0, 0),
  (94, 3, .getfield 254, 0, 0, 1741, 12, 28),
  (97, 1, .iload_n 2, 0, 0, 0, 0, 0),
  (98, 1, .laload, 0, 0, 0, 0, 0),
  (99, 1, .iload_n 3, 0, 0, 0, 0, 0),
  (100, 3, .invokevirtual 282, 0, 0, 1549, 0, 222),
  (103, 2, .istore 4, 0, 0, 0, 0, 0),
  (105, 1, .aload_n 0, 0, 0, 0, 0, 0),
  (106, 1, .aload_n 0, 0, 0, 0, 0, 0),
  (107, 3, .getfield 254, 0, 0, 1741, 12, 28),
  (110, 1, .iload_n 2, 0, 0, 0, 0, 0),
  (111, 1, .laload, 0, 0, 0, 0, 0),
  (112, 1, .iload_n 3, 0, 0, 0, 0, 0),
  (113, 2, .iload 4, 0, 0, 0, 0, 0),
  (115, 3, .invokevirtual 285, 0, 0, 1560, 0, 224),
  (118, 3, .ifCond .ne 6, 0, 0, 0, 124, 0),
  (121, 3, .goto 120, 0, 0, 0, 241, 0),
  (124, 1, .aload_n 0, 0, 0, 0, 0, 0),
  (125, 1, .aload_n 0, 0, 0, 0, 0, 0),
  (126, 3, .getfield 254, 0, 0, 1741, 12, 28),
  (129, 1, .iload_n 2, 0, 0, 0, 0, 0),
  (130, 1, .laload, 0, 0, 0, 0, 0),
  (131, 2, .iload 4, 0, 0, 0, 0, 0),
  (133, 3, .invokevirtual 289, 0, 0, 1564, 0, 223),
  (136, 2, .lstore 5, 0, 0, 0, 0, 0),
  (138, 1, .aload_n 0, 0, 0, 0, 0, 0),
  (139, 2, .lload 5, 0, 0, 0, 0, 0),
  (141, 3, .invokevirtual 275, 0, 0, 1544, 0, 221),
  (144, 2, .istore 7, 0, 0, 0, 0, 0),
  (146, 1, .aload_n 0, 0, 0, 0, 0, 0),
  (147, 3, .getfield 251, 0, 0, 1744, 12, 31),
  (150, 2, .iload 7, 0, 0, 0, 0, 0),
  (152, 1, .iaload, 0, 0, 0, 0, 0),
  (153, 3, .ifCond .lt 6, 0, 0, 0, 159, 0),
  (156, 3, .goto 85, 0, 0, 0, 241, 0),
  (159, 1, .aload_n 0, 0, 0, 0, 0, 0),
  (160, 3, .getfield 279, 0, 0, 1746, 12, 33),
  (163, 3, .sipush 20000, 20000, 0, 0, 0, 0),
  (166, 3, .if_icmp .ne 5, 0, 0, 0, 171, 0),
  (169, 1, .iconst 0, 0, 0, 0, 0, 0),
  (170, 1, .ireturn, 0, 0, 0, 0, 0),
  (171, 1, .aload_n 0, 0, 0, 0, 0, 0),
  (172, 3, .getfield 254, 0, 0, 1741, 12, 28),
  (175, 1, .aload_n 0, 0, 0, 0, 0, 0),
  (176, 3, .getfield 279, 0, 0, 1746, 12, 33),
  (179, 2, .lload 5, 0, 0, 0, 0, 0),
  (181, 1, .lastore, 0, 0, 0, 0, 0),
  (182, 1, .aload_n 0, 0, 0, 0, 0, 0),
  (183, 3, .getfield 269, 0, 0, 1742, 12, 29),
  (186, 1, .aload_n 0, 0, 0, 0, 0, 0),
  (187, 3, .getfield 279, 0, 0, 1746, 12, 33),
  (190, 1, .aload_n 0, 0, 0, 0, 0, 0),
  (191, 3, .getfield 269, 0, 0, 1742, 12, 29),
  (194, 1, .iload_n 2, 0, 0, 0, 0, 0),
  (195, 1, .iaload, 0, 0, 0, 0, 0),
  (196, 1, .iconst 1, 1, 0, 0, 0, 0),
  (197, 1, .iadd, 0, 0, 0, 0, 0),
  (198, 1, .iastore, 0, 0, 0, 0, 0),
  (199, 1, .aload_n 0, 0, 0, 0, 0, 0),
  (200, 3, .getfield 272, 0, 0, 1743, 12, 30),
  (203, 1, .aload_n 0, 0, 0, 0, 0, 0),
  (204, 3, .getfield 279, 0, 0, 1746, 12, 33),
  (207, 1, .aload_n 0, 0, 0, 0, 0, 0),
  (208, 3, .getfield 272, 0, 0, 1743, 12, 30),
  (211, 1, .iload_n 2, 0, 0, 0, 0, 0),
  (212, 1, .iaload, 0, 0, 0, 0, 0),
  (213, 2, .iload 4, 0, 0, 0, 0, 0),
  (215, 3, .invokestatic 137, 0, 0, 1410, 2, 266),
  (218, 1, .iadd, 0, 0, 0, 0, 0),
  (219, 1, .iastore, 0, 0, 0, 0, 0),
  (220, 1, .aload_n 0, 0, 0, 0, 0, 0),
  (221, 3, .getfield 251, 0, 0, 1744, 12, 31),
  (224, 2, .iload 7, 0, 0, 0, 0, 0),
  (226, 1, .aload_n 0, 0, 0, 0, 0, 0),
  (227, 3, .getfield 279, 0, 0, 1746, 12, 33),
  (230, 1, .iastore, 0, 0, 0, 0, 0),
  (231, 1, .aload_n 0, 0, 0, 0, 0, 0),
  (232, 1, .dup, 0, 0, 0, 0, 0),
  (233, 3, .getfield 279, 0, 0, 1746, 12, 33),
  (236, 1, .iconst 1, 1, 0, 0, 0, 0),
  (237, 1, .iadd, 0, 0, 0, 0, 0),
  (238, 3, .putfield 279, 0, 0, 1746, 12, 33),
  (241, 3, .iinc 3 1, 1, 0, 0, 0, 0),
  (244, 3, .goto (-160), 0, 0, 0, 84, 0),
  (247, 3, .iinc 2 1, 1, 0, 0, 0, 0),
  (250, 3, .goto (-176), 0, 0, 0, 74, 0),
  (253, 1, .iconst 1, 1, 0, 0, 0, 0),
  (254, 1, .ireturn, 0, 0, 0, 0, 0)]
set_option maxRecDepth 100000 in
theorem zk_226 : zt_226.all (zx_chk 226) = true := by decide +kernel
/-- NamesThatShrinkModel.bestGood()I -/
def zt_227 : List zx_En := [
  (0, 1, .iconst (-1), (-1), 0, 0, 0, 0),
  (1, 1, .istore_n 1, 0, 0, 0, 0, 0),
  (2, 1, .iconst 0, 0, 0, 0, 0, 0),
  (3, 1, .istore_n 2, 0, 0, 0, 0, 0),
  (4, 1, .iload_n 2, 0, 0, 0, 0, 0),
  (5, 1, .aload_n 0, 0, 0, 0, 0, 0),
  (6, 3, .getfield 279, 0, 0, 1746, 12, 33),
  (9, 3, .if_icmp .ge 83, 0, 0, 0, 92, 0),
  (12, 1, .aload_n 0, 0, 0, 0, 0, 0),
  (13, 3, .getfield 293, 0, 0, 1745, 12, 32),
  (16, 1, .iload_n 2, 0, 0, 0, 0, 0),
  (17, 1, .baload, 0, 0, 0, 23, 0),
  (18, 3, .ifCond .eq 56, 0, 0, 0, 74, 0),
  (21, 1, .iload_n 1, 0, 0, 0, 0, 0),
  (22, 3, .ifCond .lt 48, 0, 0, 0, 70, 0),
  (25, 1, .aload_n 0, 0, 0, 0, 0, 0),
  (26, 3, .getfield 269, 0, 0, 1742, 12, 29),
  (29, 1, .iload_n 2, 0, 0, 0, 0, 0),
  (30, 1, .iaload, 0, 0, 0, 0, 0),
  (31, 1, .aload_n 0, 0, 0, 0, 0, 0),
  (32, 3, .getfield 269, 0, 0, 1742, 12, 29),
  (35, 1, .iload_n 1, 0, 0, 0, 0, 0),
  (36, 1, .iaload, 0, 0, 0, 0, 0),
  (37, 3, .if_icmp .lt 33, 0, 0, 0, 70, 0),
  (40, 1, .aload_n 0, 0, 0, 0, 0, 0),
  (41, 3, .getfield 269, 0, 0, 1742, 12, 29),
  (44, 1, .iload_n 2, 0, 0, 0, 0, 0),
  (45, 1, .iaload, 0, 0, 0, 0, 0),
  (46, 1, .aload_n 0, 0, 0, 0, 0, 0),
  (47, 3, .getfield 269, 0, 0, 1742, 12, 29),
  (50, 1, .iload_n 1, 0, 0, 0, 0, 0),
  (51, 1, .iaload, 0, 0, 0, 0, 0),
  (52, 3, .if_icmp .ne 22, 0, 0, 0, 74, 0),
  (55, 1, .aload_n 0, 0, 0, 0, 0, 0),
  (56, 3, .getfield 272, 0, 0, 1743, 12, 30),
  (59, 1, .iload_n 2, 0, 0, 0, 0, 0),
  (60, 1, .iaload, 0, 0, 0, 0, 0),
  (61, 1, .aload_n 0, 0, 0, 0, 0, 0),
  (62, 3, .getfield 272, 0, 0, 1743, 12, 30),
  (65, 1, .iload_n 1, 0, 0, 0, 0, 0),
  (66, 1, .iaload, 0, 0, 0, 0, 0),
  (67, 3, .if_icmp .ge 7, 0, 0, 0, 74, 0),
  (70, 1, .iconst 1, 1, 0, 0, 0, 0),
  (71, 3, .goto 4, 0, 0, 0, 75, 0),
  (74, 1, .iconst 0, 0, 0, 0, 0, 0),
  (75, 1, .istore_n 3, 0, 0, 0, 0, 0),
  (76, 1, .iload_n 3, 0, 0, 0, 0, 0),
  (77, 3, .ifCond .eq 7, 0, 0, 0, 84, 0),
  (80, 1, .iload_n 2, 0, 0, 0, 0, 0),
  (81, 3, .goto 4, 0, 0, 0, 85, 0),
  (84, 1, .iload_n 1, 0, 0, 0, 0, 0),
  (85, 1, .istore_n 1, 0, 0, 0, 0, 0),
  (86, 3, .iinc 2 1, 1, 0, 0, 0, 0),
  (89, 3, .goto (-85), 0, 0, 0, 4, 0),
  (92, 1, .iload_n 1, 0, 0, 0, 0, 0),
  (93, 1, .ireturn, 0, 0, 0, 0, 0)]
set_option maxRecDepth 100000 in
theorem zk_227 : zt_227.all (zx_chk 227) = true := by decide +kernel
/-- NamesThatShrinkModel.tellsWay(I)I -/
def zt_228 : List zx_En := [
  (0, 1, .aload_n 0, 0, 0, 0, 0, 0),
  (1, 3, .getfield 279, 0, 0, 1746, 12, 33),
  (4, 1, .iconst 1, 1, 0, 0, 0, 0),
  (5, 1, .isub, 0, 0, 0, 0, 0),
  (6, 1, .istore_n 2, 0, 0, 0, 0, 0),
  (7, 1, .iload_n 2, 0, 0, 0, 0, 0),
  (8, 3, .ifCond .lt 149, 0, 0, 0, 157, 0),
  (11, 1, .aload_n 0, 0, 0, 0, 0, 0),
  (12, 3, .getfield 293, 0, 0, 1745, 12, 32),
  (15, 1, .iload_n 2, 0, 0, 0, 0, 0),
  (16, 1, .aload_n 0, 0, 0, 0, 0, 0),
  (17, 3, .getfield 293, 0, 0, 1745, 12, 32),
  (20, 1, .iload_n 2, 0, 0, 0, 0, 0),
  (21, 1, .baload, 0, 0, 0, 23, 0),
  (22, 3, .ifCond .eq 37, 0, 0, 0, 59, 0),
  (25, 1, .aload_n 0, 0, 0, 0, 0, 0),
  (26, 3, .getfield 269, 0, 0, 1742, 12, 29),
  (29, 1, .iload_n 2, 0, 0, 0, 0, 0),
  (30, 1, .iaload, 0, 0, 0, 0, 0),
  (31, 1, .aload_n 0, 0, 0, 0, 0, 0),
  (32, 3, .getfield 269, 0, 0, 1742, 12, 29),
  (35, 1, .iload_n 1, 0, 0, 0, 0, 0),
  (36, 1, .iaload, 0, 0, 0, 0, 0),
  (37, 3, .if_icmp .ne 22, 0, 0, 0, 59, 0),
  (40, 1, .aload_n 0, 0, 0, 0, 0, 0),
  (41, 3, .getfield 272, 0, 0, 1743, 12, 30),
  (44, 1, .iload_n 2, 0, 0, 0, 0, 0),
  (45, 1, .iaload, 0, 0, 0, 0, 0),
  (46, 1, .aload_n 0, 0, 0, 0, 0, 0),
  (47, 3, .getfield 272, 0, 0, 1743, 12, 30),
  (50, 1, .iload_n 1, 0, 0, 0, 0, 0),
  (51, 1, .iaload, 0, 0, 0, 0, 0),
  (52, 3, .if_icmp .ne 7, 0, 0, 0, 59, 0),
  (55, 1, .iconst 1, 1, 0, 0, 0, 0),
  (56, 3, .goto 4, 0, 0, 0, 60, 0),
  (59, 1, .iconst 0, 0, 0, 0, 0, 0),
  (60, 1, .bastore, 0, 0, 0, 23, 0),
  (61, 1, .iconst 0, 0, 0, 0, 0, 0),
  (62, 1, .istore_n 3, 0, 0, 0, 0, 0),
  (63, 1, .iload_n 3, 0, 0, 0, 0, 0),
  (64, 1, .aload_n 0, 0, 0, 0, 0, 0),
  (65, 3, .getfield 27, 0, 0, 1716, 12, 3),
  (68, 3, .if_icmp .ge 83, 0, 0, 0, 151, 0),
  (71, 1, .aload_n 0, 0, 0, 0, 0, 0),
  (72, 3, .getfield 269, 0, 0, 1742, 12, 29),
  (75, 1, .iload_n 2, 0, 0, 0, 0, 0),
  (76, 1, .iaload, 0, 0, 0, 0, 0),
  (77, 1, .aload_n 0, 0, 0, 0, 0, 0),
  (78, 3, .getfield 269, 0, 0, 1742, 12, 29),
  (81, 1, .iload_n 1, 0, 0, 0, 0, 0),
  (82, 1, .iaload, 0, 0, 0, 0, 0),
  (83, 3, .if_icmp .ge 68, 0, 0, 0, 151, 0),
  (86, 1, .aload_n 0, 0, 0, 0, 0, 0),
  (87, 1, .aload_n 0, 0, 0, 0, 0, 0),
  (88, 3, .getfield 254, 0, 0, 1741, 12, 28),
  (91, 1, .iload_n 2, 0, 0, 0, 0, 0),
  (92, 1, .laload, 0, 0, 0, 0, 0),
  (93, 1, .iload_n 3, 0, 0, 0, 0, 0),
  (94, 3, .invokevirtual 282, 0, 0, 1549, 0, 222),
  (97, 2, .istore 4, 0, 0, 0, 0, 0),
  (99, 1, .aload_n 0, 0, 0, 0, 0, 0),
  (100, 3, .getfield 293, 0, 0, 1745, 12, 32),
  (103, 1, .iload_n 2, 0, 0, 0, 0, 0),
  (104, 1, .aload_n 0, 0, 0, 0, 0, 0),
  (105, 3, .getfield 293, 0, 0, 1745, 12, 32),
  (108, 1, .iload_n 2, 0, 0, 0, 0, 0),
  (109, 1, .baload, 0, 0, 0, 23, 0),
  (110, 3, .ifCond .ne 29, 0, 0, 0, 139, 0),
  (113, 1, .aload_n 0, 0, 0, 0, 0, 0),
  (114, 1, .aload_n 0, 0, 0, 0, 0, 0),
  (115, 3, .getfield 254, 0, 0, 1741, 12, 28),
  (118, 1, .iload_n 2, 0, 0, 0, 0, 0),
  (119, 1, .laload, 0, 0, 0, 0, 0),
  (120, 1, .iload_n 3, 0, 0, 0, 0, 0),
  (121, 2, .iload 4, 0, 0, 0, 0, 0),
  (123, 3, .invokevirtual 285, 0, 0, 1560, 0, 224),
  (126, 3, .ifCond .eq 17, 0, 0, 0, 143, 0),
  (129, 1, .aload_n 0, 0, 0, 0, 0, 0),
  (130, 1, .iload_n 2, 0, 0, 0, 0, 0),
  (131, 2, .iload 4, 0, 0, 0, 0, 0),
  (133, 3, .invokevirtual 297, 0, 0, 1595, 0, 229),
  (136, 3, .ifCond .eq 7, 0, 0, 0, 143, 0),
  (139, 1, .iconst 1, 1, 0, 0, 0, 0),
  (140, 3, .goto 4, 0, 0, 0, 144, 0),
  (143, 1, .iconst 0, 0, 0, 0, 0, 0),
  (144, 1, .bastore, 0, 0, 0, 23, 0),
  (145, 3, .iinc 3 1, 1, 0, 0, 0, 0),
  (148, 3, .goto (-85), 0, 0, 0, 63, 0),
  (151, 3, .iinc 2 (-1), (-1), 0, 0, 0, 0),
  (154, 3, .goto (-147), 0, 0, 0, 7, 0),
  (157, 1, .aload_n 0, 0, 0, 0, 0, 0),
  (158, 1, .iconst 0, 0, 0, 0, 0, 0),
  (159, 3, .putfield 11, 0, 0, 1714, 12, 1),
  (162, 1, .iconst 0, 0, 0, 0, 0, 0),
  (163, 1, .istore_n 2, 0, 0, 0, 0, 0),
  (164, 1, .iconst 0, 0, 0, 0, 0, 0),
  (165, 1, .istore_n 3, 0, 0, 0, 0, 0),
  (166, 1, .iload_n 3, 0, 0, 0, 0, 0),
  (167, 1, .aload_n 0, 0, 0, 0, 0, 0),
  (168, 3, .getfield 269, 0, 0, 1742, 12, 29),
  (171, 1, .iload_n 1, 0, 0, 0, 0, 0),
  (172, 1, .iaload, 0, 0, 0, 0, 0),
  (173, 3, .if_icmp .ge 142, 0, 0, 0, 315, 0),
  (176, 1, .iconst (-1), (-1), 0, 0, 0, 0),
  (177, 2, .istore 4, 0, 0, 0, 0, 0),
  (179, 1, .iconst 0, 0, 0, 0, 0, 0),
  (180, 2, .istore 5, 0, 0, 0, 0, 0),
  (182, 1, .iconst 0, 0, 0, 0, 0, 0),
  (183, 2, .istore 6, 0, 0, 0, 0, 0),
  (185, 2, .iload 6, 0, 0, 0, 0, 0),
  (187, 1, .aload_n 0, 0, 0, 0, 0, 0),
  (188, 3, .getfield 27, 0, 0, 1716, 12, 3),
  (191, 3, .if_icmp .ge 84, 0, 0, 0, 275, 0),
  (194, 1, .aload_n 0, 0, 0, 0, 0, 0),
  (195, 1, .aload_n 0, 0, 0, 0, 0, 0),
  (196, 3, .getfield 254, 0, 0, 1741, 12, 28),
  (199, 1, .iload_n 2, 0, 0, 0, 0, 0),
  (200, 1, .laload, 0, 0, 0, 0, 0),
  (201, 2, .iload 6, 0, 0, 0, 0, 0),
  (203, 3, .invokevirtual 282, 0, 0, 1549, 0, 222),
  (206, 2, .istore 7, 0, 0, 0, 0, 0),
  (208, 1, .aload_n 0, 0, 0, 0, 0, 0),
  (209, 1, .aload_n 0, 0, 0, 0, 0, 0),
  (210, 3, .getfield 254, 0, 0, 1741, 12, 28),
  (213, 1, .iload_n 2, 0, 0, 0, 0, 0),
  (214, 1, .laload, 0, 0, 0, 0, 0),
  (215, 2, .iload 6, 0, 0, 0, 0, 0),
  (217, 3, .invokevirtual 259, 0, 0, 1553, 0, 220),
  (220, 2, .istore 8, 0, 0, 0, 0, 0),
  (222, 1, .aload_n 0, 0, 0, 0, 0, 0),
  (223, 1, .aload_n 0, 0, 0, 0, 0, 0),
  (224, 3, .getfield 254, 0, 0, 1741, 12, 28),
  (227, 1, .iload_n 2, 0, 0, 0, 0, 0),
  (228, 1, .laload, 0, 0, 0, 0, 0),
  (229, 2, .iload 6, 0, 0, 0, 0, 0),
  (231, 2, .iload 7, 0, 0, 0, 0, 0),
  (233, 3, .invokevirtual 285, 0, 0, 1560, 0, 224),
  (236, 3, .ifCond .eq 33, 0, 0, 0, 269, 0),
  (239, 1, .aload_n 0, 0, 0, 0, 0, 0),
  (240, 1, .iload_n 2, 0, 0, 0, 0, 0),
  (241, 2, .iload 7, 0, 0, 0, 0, 0),
  (243, 3, .invokevirtual 297, 0, 0, 1595, 0, 229),
  (246, 3, .ifCond .eq 23, 0, 0, 0, 269, 0),
  (249, 2, .iload 4, 0, 0, 0, 0, 0),
  (251, 3, .ifCond .lt 10, 0, 0, 0, 261, 0),
  (254, 2, .iload 8, 0, 0, 0, 0, 0),
  (256, 2, .iload 4, 0, 0, 0, 0, 0),
  (258, 3, .if_icmp .ge 11, 0, 0, 0, 269, 0),
  (261, 2, .iload 8, 0, 0, 0, 0, 0),
  (263, 2, .istore 4, 0, 0, 0, 0, 0),
  (265, 2, .iload 7, 0, 0, 0, 0, 0),
  (267, 2, .istore 5, 0, 0, 0, 0, 0),
  (269, 3, .iinc 6 1, 1, 0, 0, 0, 0),
  (272, 3, .goto (-87), 0, 0, 0, 185, 0),
  (275, 1, .iload_n 3, 0, 0, 0, 0, 0),
  (276, 2, .bipush 12, 12, 0, 0, 0, 0),
  (278, 3, .if_icmp .ge 9, 0, 0, 0, 287, 0),
  (281, 1, .aload_n 0, 0, 0, 0, 0, 0),
  (282, 2, .iload 4, 0, 0, 0, 0, 0),
  (284, 3, .invokevirtual 209, 0, 0, 1473, 0, 170),
  (287, 1, .aload_n 0, 0, 0, 0, 0, 0),
  (288, 3, .getfield 251, 0, 0, 1744, 12, 31),
  (291, 1, .aload_n 0, 0, 0, 0, 0, 0),
  (292, 1, .aload_n 0, 0, 0, 0, 0, 0),
  (293, 1, .aload_n 0, 0, 0, 0, 0, 0),
  (294, 3, .getfield 254, 0, 0, 1741, 12, 28),
  (297, 1, .iload_n 2, 0, 0, 0, 0, 0),
  (298, 1, .laload, 0, 0, 0, 0, 0),
  (299, 2, .iload 5, 0, 0, 0, 0, 0),
  (301, 3, .invokevirtual 289, 0, 0, 1564, 0, 223),
  (304, 3, .invokevirtual 275, 0, 0, 1544, 0, 221),
  (307, 1, .iaload, 0, 0, 0, 0, 0),
  (308, 1, .istore_n 2, 0, 0, 0, 0, 0),
  (309, 3, .iinc 3 1, 1, 0, 0, 0, 0),
  (312, 3, .goto (-146), 0, 0, 0, 166, 0),
  (315, 1, .aload_n 0, 0, 0, 0, 0, 0),
  (316, 3, .getfield 269, 0, 0, 1742, 12, 29),
  (319, 1, .iload_n 1, 0, 0, 0, 0, 0),
  (320, 1, .iaload, 0, 0, 0, 0, 0),
  (321, 1, .ireturn, 0, 0, 0, 0, 0)]
set_option maxRecDepth 100000 in
theorem zk_228 : zt_228.all (zx_chk 228) = true := by decide +kernel
/-- NamesThatShrinkModel.isNextGood(II)Z -/
def zt_229 : List zx_En := [
  (0, 1, .aload_n 0, 0, 0, 0, 0, 0),
  (1, 3, .getfield 251, 0, 0, 1744, 12, 31),
  (4, 1, .aload_n 0, 0, 0, 0, 0, 0),
  (5, 1, .aload_n 0, 0, 0, 0, 0, 0),
  (6, 1, .aload_n 0, 0, 0, 0, 0, 0),
  (7, 3, .getfield 254, 0, 0, 1741, 12, 28),
  (10, 1, .iload_n 1, 0, 0, 0, 0, 0),
  (11, 1, .laload, 0, 0, 0, 0, 0),
  (12, 1, .iload_n 2, 0, 0, 0, 0, 0),
  (13, 3, .invokevirtual 289, 0, 0, 1564, 0, 223),
  (16, 3, .invokevirtual 275, 0, 0, 1544, 0, 221),
  (19, 1, .iaload, 0, 0, 0, 0, 0),
  (20, 1, .istore_n 3, 0, 0, 0, 0, 0),
  (21, 1, .aload_n 0, 0, 0, 0, 0, 0),
  (22, 3, .getfield 293, 0, 0, 1745, 12, 32),
  (25, 1, .iload_n 3, 0, 0, 0, 0, 0),
  (26, 1, .baload, 0, 0, 0, 23, 0),
  (27, 3, .ifCond .eq 24, 0, 0, 0, 51, 0),
  (30, 1, .aload_n 0, 0, 0, 0, 0, 0),
  (31, 3, .getfield 269, 0, 0, 1742, 12, 29),
  (34, 1, .iload_n 3, 0, 0, 0, 0, 0),
  (35, 1, .iaload, 0, 0, 0, 0, 0),
  (36, 1, .aload_n 0, 0, 0, 0, 0, 0),
  (37, 3, .getfield 269, 0, 0, 1742, 12, 29),
  (40, 1, .iload_n 1, 0, 0, 0, 0, 0),
  (41, 1, .iaload, 0, 0, 0, 0, 0),
  (42, 1, .iconst 1, 1, 0, 0, 0, 0),
  (43, 1, .iadd, 0, 0, 0, 0, 0),
  (44, 3, .if_icmp .ne 7, 0, 0, 0, 51, 0),
  (47, 1, .iconst 1, 1, 0, 0, 0, 0),
  (48, 3, .goto 4, 0, 0, 0, 52, 0),
  (51, 1, .iconst 0, 0, 0, 0, 0, 0),
  (52, 1, .ireturn, 0, 0, 0, 0, 0)]
set_option maxRecDepth 100000 in
theorem zk_229 : zt_229.all (zx_chk 229) = true := by decide +kernel
/-- NamesThatShrinkModel.most()I -/
def zt_230 : List zx_En := [
  (0, 1, .aload_n 0, 0, 0, 0, 0, 0),
  (1, 1, .iconst 0, 0, 0, 0, 0, 0),
  (2, 3, .putfield 3, 0, 0, 1713, 12, 0),
  (5, 1, .aload_n 0, 0, 0, 0, 0, 0),
  (6, 1, .aload_n 0, 0, 0, 0, 0, 0),
  (7, 3, .getfield 27, 0, 0, 1716, 12, 3),
  (10, 3, .invokevirtual 300, 0, 0, 1535, 0, 226),
  (13, 3, .ifCond .ne 6, 0, 0, 0, 19, 0),
  (16, 2, .bipush (-3), (-3), 0, 0, 0, 0),
  (18, 1, .ireturn, 0, 0, 0, 0, 0),
  (19, 1, .iconst 0, 0, 0, 0, 0, 0),
  (20, 1, .istore_n 1, 0, 0, 0, 0, 0),
  (21, 1, .iconst (-1), (-1), 0, 0, 0, 0),
  (22, 1, .istore_n 2, 0, 0, 0, 0, 0),
  (23, 1, .iconst 0, 0, 0, 0, 0, 0),
  (24, 1, .istore_n 3, 0, 0, 0, 0, 0),
  (25, 1, .iload_n 3, 0, 0, 0, 0, 0),
  (26, 1, .aload_n 0, 0, 0, 0, 0, 0),
  (27, 3, .getfield 279, 0, 0, 1746, 12, 33),
  (30, 3, .if_icmp .ge 35, 0, 0, 0, 65, 0),
  (33, 1, .aload_n 0, 0, 0, 0, 0, 0),
  (34, 3, .getfield 254, 0, 0, 1741, 12, 28),
  (37, 1, .iload_n 3, 0, 0, 0, 0, 0),
  (38, 1, .laload, 0, 0, 0, 0, 0),
  (39, 1, .lconst 0, 0, 0, 0, 0, 0),
  (40, 1, .lcmp, 0, 0, 0, 0, 0),
  (41, 3, .ifCond .ne 16, 0, 0, 0, 57, 0),
  (44, 1, .iload_n 2, 0, 0, 0, 0, 0),
  (45, 3, .ifCond .ge 12, 0, 0, 0, 57, 0),
  (48, 1, .aload_n 0, 0, 0, 0, 0, 0),
  (49, 3, .getfield 269, 0, 0, 1742, 12, 29),
  (52, 1, .iload_n 3, 0, 0, 0, 0, 0),
  (53, 1, .iaload, 0, 0, 0, 0, 0),
  (54, 3, .goto 4, 0, 0, 0, 58, 0),
  (57, 1, .iload_n 2, 0, 0, 0, 0, 0),
  (58, 1, .istore_n 2, 0, 0, 0, 0, 0),
  (59, 3, .iinc 3 1, 1, 0, 0, 0, 0),
  (62, 3, .goto (-37), 0, 0, 0, 25, 0),
  (65, 1, .iconst 0, 0, 0, 0, 0, 0),
  (66, 1, .istore_n 3, 0, 0, 0, 0, 0),
  (67, 1, .iload_n 3, 0, 0, 0, 0, 0),
  (68, 1, .aload_n 0, 0, 0, 0, 0, 0),
  (69, 3, .getfield 27, 0, 0, 1716, 12, 3),
  (72, 3, .if_icmp .ge 42, 0, 0, 0, 114, 0),
  (75, 1, .iload_n 1, 0, 0, 0, 0, 0),
  (76, 1, .aload_n 0, 0, 0, 0, 0, 0),
  (77, 1, .aload_n 0, 0, 0, 0, 0, 0),
  (78, 3, .getfield 98, 0, 0, 1717, 12, 4),
  (81, 1, .iload_n 3, 0, 0, 0, 0, 0),
  (82, 1, .iaload, 0, 0, 0, 0, 0),
  (83, 3, .invokevirtual 134, 0, 0, 1406, 0, 189),
  (86, 3, .invokestatic 227, 0, 0, 1503, 2, 265),
  (89, 1, .iload_n 3, 0, 0, 0, 0, 0),
  (90, 3, .if_icmp .ne 15, 0, 0, 0, 105, 0),
  (93, 1, .aload_n 0, 0, 0, 0, 0, 0),
  (94, 3, .getfield 98, 0, 0, 1717, 12, 4),
  (97, 1, .iload_n 3, 0, 0, 0, 0, 0),
  (98, 1, .iaload, 0, 0, 0, 0, 0),
  (99, 3, .invokestatic 14, 0, 0, 1373, 2, 171),
  (102, 3, .goto 4, 0, 0, 0, 106, 0),
  (105, 1, .iconst 0, 0, 0, 0, 0, 0),
  (106, 1, .iadd, 0, 0, 0, 0, 0),
  (107, 1, .istore_n 1, 0, 0, 0, 0, 0),
  (108, 3, .iinc 3 1, 1, 0, 0, 0, 0),
  (111, 3, .goto (-44), 0, 0, 0, 67, 0),
  (114, 1, .aload_n 0, 0, 0, 0, 0, 0),
  (115, 1, .iconst 0, 0, 0, 0, 0, 0),
  (116, 3, .putfield 11, 0, 0, 1714, 12, 1),
  (119, 1, .aload_n 0, 0, 0, 0, 0, 0),
  (120, 1, .iload_n 2, 0, 0, 0, 0, 0),
  (121, 3, .invokevirtual 209, 0, 0, 1473, 0, 170),
  (124, 1, .iload_n 1, 0, 0, 0, 0, 0),
  (125, 1, .ireturn, 0, 0, 0, 0, 0)]
set_option maxRecDepth 100000 in
theorem zk_230 : zt_230.all (zx_chk 230) = true := by decide +kernel
/-- NamesThatShrinkModel.dueOf(JI)I -/
def zt_231 : List zx_En := [
  (0, 1, .lload_n 0, 0, 0, 0, 0, 0),
  (1, 1, .iconst 4, 4, 0, 0, 0, 0),
  (2, 1, .iload_n 2, 0, 0, 0, 0, 0),
  (3, 1, .imul, 0, 0, 0, 0, 0),
  (4, 1, .lshr, 0, 0, 0, 0, 0),
  (5, 1, .l2i, 0, 0, 0, 0, 0),
  (6, 2, .bipush 15, 15, 0, 0, 0, 0),
  (8, 1, .iand, 0, 0, 0, 0, 0),
  (9, 1, .ireturn, 0, 0, 0, 0, 0)]
set_option maxRecDepth 100000 in
theorem zk_231 : zt_231.all (zx_chk 231) = true := by decide +kernel
/-- NamesThatShrinkModel.areDues(J)Z -/
def zt_232 : List zx_En := [
  (0, 1, .lload_n 1, 0, 0, 0, 0, 0),
  (1, 1, .lconst 0, 0, 0, 0, 0, 0),
  (2, 1, .lconst 1, 0, 1, 0, 0, 0),
  (3, 1, .iconst 4, 4, 0, 0, 0, 0),
  (4, 1, .aload_n 0, 0, 0, 0, 0, 0),
  (5, 3, .getfield 27, 0, 0, 1716, 12, 3),
  (8, 1, .imul, 0, 0, 0, 0, 0),
  (9, 1, .lshl, 0, 0, 0, 0, 0),
  (10, 1, .lconst 1, 0, 1, 0, 0, 0),
  (11, 1, .lsub, 0, 0, 0, 0, 0),
  (12, 3, .invokestatic 30, 0, 0, 1321, 2, 167),
  (15, 1, .ireturn, 0, 0, 0, 0, 0)]
set_option maxRecDepth 100000 in
theorem zk_232 : zt_232.all (zx_chk 232) = true := by decide +kernel
/-- NamesThatShrinkModel.lostBy(II)I -/
def zt_233 : List zx_En := [
  (0, 1, .aload_n 0, 0, 0, 0, 0, 0),
  (1, 3, .getfield 98, 0, 0, 1717, 12, 4),
  (4, 1, .iload_n 2, 0, 0, 0, 0, 0),
  (5, 1, .iaload, 0, 0, 0, 0, 0),
  (6, 3, .invokestatic 14, 0, 0, 1373, 2, 171),
  (9, 1, .aload_n 0, 0, 0, 0, 0, 0),
  (10, 3, .getfield 254, 0, 0, 1741, 12, 28),
  (13, 1, .iload_n 1, 0, 0, 0, 0, 0),
  (14, 1, .laload, 0, 0, 0, 0, 0),
  (15, 1, .iload_n 2, 0, 0, 0, 0, 0),
  (16, 3, .invokestatic 245, 0, 0, 1557, 2, 219),
  (19, 1, .isub, 0, 0, 0, 0, 0),
  (20, 1, .ireturn, 0, 0, 0, 0, 0)]
set_option maxRecDepth 100000 in
theorem zk_233 : zt_233.all (zx_chk 233) = true := by decide +kernel
/-- NamesThatShrinkModel.marksDues(J)V -/
def zt_234 : List zx_En := [
  (0, 1, .iconst 0, 0, 0, 0, 0, 0),
  (1, 1, .istore_n 3, 0, 0, 0, 0, 0),
  (2, 1, .iload_n 3, 0, 0, 0, 0, 0),
  (3, 1, .aload_n 0, 0, 0, 0, 0, 0),
  (4, 3, .getfield 279, 0, 0, 1746, 12, 33),
  (7, 3, .if_icmp .ge 70, 0, 0, 0, 77, 0),
  (10, 1, .aload_n 0, 0, 0, 0, 0, 0),
  (11, 3, .getfield 293, 0, 0, 1745, 12, 32),
  (14, 1, .iload_n 3, 0, 0, 0, 0, 0),
  (15, 1, .iconst 1, 1, 0, 0, 0, 0),
  (16, 1, .bastore, 0, 0, 0, 23, 0),
  (17, 1, .iconst 0, 0, 0, 0, 0, 0),
  (18, 2, .istore 4, 0, 0, 0, 0, 0),
  (20, 2, .iload 4, 0, 0, 0, 0, 0),
  (22, 1, .aload_n 0, 0, 0, 0, 0, 0),
  (23, 3, .getfield 27, 0, 0, 1716, 12, 3),
  (26, 3, .if_icmp .ge 45, 0, 0, 0, 71, 0),
  (29, 1, .aload_n 0, 0, 0, 0, 0, 0),
  (30, 3, .getfield 293, 0, 0, 1745, 12, 32),
  (33, 1, .iload_n 3, 0, 0, 0, 0, 0),
  (34, 1, .aload_n 0, 0, 0, 0, 0, 0),
  (35, 3, .getfield 293, 0, 0, 1745, 12, 32),
  (38, 1, .iload_n 3, 0, 0, 0, 0, 0),
  (39, 1, .baload, 0, 0, 0, 23, 0),
  (40, 3, .ifCond .eq 23, 0, 0, 0, 63, 0),
  (43, 1, .aload_n 0, 0, 0, 0, 0, 0),
  (44, 1, .iload_n 3, 0, 0, 0, 0, 0),
  (45, 2, .iload 4, 0, 0, 0, 0, 0),
  (47, 3, .invokevirtual 303, 0, 0, 1580, 0, 233),
  (50, 1, .lload_n 1, 0, 0, 0, 0, 0),
  (51, 2, .iload 4, 0, 0, 0, 0, 0),
  (53, 3, .invokestatic 306, 0, 0, 1584, 2, 231),
  (56, 3, .if_icmp .lt 7, 0, 0, 0, 63, 0),
  (59, 1, .iconst 1, 1, 0, 0, 0, 0),
  (60, 3, .goto 4, 0, 0, 0, 64, 0),
  (63, 1, .iconst 0, 0, 0, 0, 0, 0),
  (64, 1, .bastore, 0, 0, 0, 23, 0),
  (65, 3, .iinc 4 1, 1, 0, 0, 0, 0),
  (68, 3, .goto (-48), 0, 0, 0, 20, 0),
  (71, 3, .iinc 3 1, 1, 0, 0, 0, 0),
  (74, 3, .goto (-72), 0, 0, 0, 2, 0),
  (77, 1, .return_, 0, 0, 0, 0, 0)]
set_option maxRecDepth 100000 in
theorem zk_234 : zt_234.all (zx_chk 234) = true := by decide +kernel
/-- NamesThatShrinkModel.fewest(J)I -/
def zt_235 : List zx_En := [
  (0, 1, .aload_n 0, 0, 0, 0, 0, 0),
  (1, 1, .iconst 0, 0, 0, 0, 0, 0),
  (2, 3, .putfield 3, 0, 0, 1713, 12, 0),
  (5, 1, .aload_n 0, 0, 0, 0, 0, 0),
  (6, 1, .lload_n 1, 0, 0, 0, 0, 0),
  (7, 3, .invokevirtual 309, 0, 0, 1572, 0, 232),
  (10, 3, .ifCond .ne 5, 0, 0, 0, 15, 0),
  (13, 1, .iconst (-1), (-1), 0, 0, 0, 0),
  (14, 1, .ireturn, 0, 0, 0, 0, 0),
  (15, 1, .aload_n 0, 0, 0, 0, 0, 0),
  (16, 1, .aload_n 0, 0, 0, 0, 0, 0),
  (17, 3, .getfield 127, 0, 0, 1721, 12, 8),
  (20, 3, .invokevirtual 300, 0, 0, 1535, 0, 226),
  (23, 3, .ifCond .ne 6, 0, 0, 0, 29, 0),
  (26, 2, .bipush (-3), (-3), 0, 0, 0, 0),
  (28, 1, .ireturn, 0, 0, 0, 0, 0),
  (29, 1, .aload_n 0, 0, 0, 0, 0, 0),
  (30, 1, .lload_n 1, 0, 0, 0, 0, 0),
  (31, 3, .invokevirtual 313, 0, 0, 1576, 0, 234),
  (34, 1, .aload_n 0, 0, 0, 0, 0, 0),
  (35, 3, .invokevirtual 317, 0, 0, 1587, 0, 227),
  (38, 1, .istore_n 3, 0, 0, 0, 0, 0),
  (39, 1, .iload_n 3, 0, 0, 0, 0, 0),
  (40, 3, .ifCond .ge 8, 0, 0, 0, 48, 0),
  (43, 2, .bipush (-2), (-2), 0, 0, 0, 0),
  (45, 3, .goto 8, 0, 0, 0, 53, 0),
  (48, 1, .aload_n 0, 0, 0, 0, 0, 0),
  (49, 1, .iload_n 3, 0, 0, 0, 0, 0),
  (50, 3, .invokevirtual 320, 0, 0, 1591, 0, 228),
  (53, 1, .ireturn, 0, 0, 0, 0, 0)]
set_option maxRecDepth 100000 in
theorem zk_235 : zt_235.all (zx_chk 235) = true := by decide +kernel
/-- NamesThatShrinkModel.losses(J)I -/
def zt_236 : List zx_En := [
  (0, 1, .aload_n 0, 0, 0, 0, 0, 0),
  (1, 1, .iconst 0, 0, 0, 0, 0, 0),
  (2, 3, .putfield 3, 0, 0, 1713, 12, 0),
  (5, 1, .aload_n 0, 0, 0, 0, 0, 0),
  (6, 1, .lload_n 1, 0, 0, 0, 0, 0),
  (7, 3, .invokevirtual 309, 0, 0, 1572, 0, 232),
  (10, 3, .ifCond .ne 5, 0, 0, 0, 15, 0),
  (13, 1, .iconst (-1), (-1), 0, 0, 0, 0),
  (14, 1, .ireturn, 0, 0, 0, 0, 0),
  (15, 1, .aload_n 0, 0, 0, 0, 0, 0),
  (16, 1, .aload_n 0, 0, 0, 0, 0, 0),
  (17, 3, .getfield 127, 0, 0, 1721, 12, 8),
  (20, 3, .invokevirtual 300, 0, 0, 1535, 0, 226),
  (23, 3, .ifCond .ne 6, 0, 0, 0, 29, 0),
  (26, 2, .bipush (-3), (-3), 0, 0, 0, 0),
  (28, 1, .ireturn, 0, 0, 0, 0, 0),
  (29, 1, .aload_n 0, 0, 0, 0, 0, 0),
  (30, 1, .lload_n 1, 0, 0, 0, 0, 0),
  (31, 3, .invokevirtual 313, 0, 0, 1576, 0, 234),
  (34, 1, .iconst (-1), (-1), 0, 0, 0, 0),
  (35, 1, .istore_n 3, 0, 0, 0, 0, 0),
  (36, 1, .iconst 0, 0, 0, 0, 0, 0),
  (37, 2, .istore 4, 0, 0, 0, 0, 0),
  (39, 2, .iload 4, 0, 0, 0, 0, 0),
  (41, 1, .aload_n 0, 0, 0, 0, 0, 0),
  (42, 3, .getfield 279, 0, 0, 1746, 12, 33),
  (45, 3, .if_icmp .ge 78, 0, 0, 0, 123, 0),
  (48, 1, .aload_n 0, 0, 0, 0, 0, 0),
  (49, 3, .getfield 293, 0, 0, 1745, 12, 32),
  (52, 2, .iload 4, 0, 0, 0, 0, 0),
  (54, 1, .baload, 0, 0, 0, 23, 0),
  (55, 3, .ifCond .eq 60, 0, 0, 0, 115, 0),
  (58, 1, .iload_n 3, 0, 0, 0, 0, 0),
  (59, 3, .ifCond .lt 51, 0, 0, 0, 110, 0),
  (62, 1, .aload_n 0, 0, 0, 0, 0, 0),
  (63, 3, .getfield 272, 0, 0, 1743, 12, 30),
  (66, 2, .iload 4, 0, 0, 0, 0, 0),
  (68, 1, .iaload, 0, 0, 0, 0, 0),
  (69, 1, .aload_n 0, 0, 0, 0, 0, 0),
  (70, 3, .getfield 272, 0, 0, 1743, 12, 30),
  (73, 1, .iload_n 3, 0, 0, 0, 0, 0),
  (74, 1, .iaload, 0, 0, 0, 0, 0),
  (75, 3, .if_icmp .lt 35, 0, 0, 0, 110, 0),
  (78, 1, .aload_n 0, 0, 0, 0, 0, 0),
  (79, 3, .getfield 272, 0, 0, 1743, 12, 30),
  (82, 2, .iload 4, 0, 0, 0, 0, 0),
  (84, 1, .iaload, 0, 0, 0, 0, 0),
  (85, 1, .aload_n 0, 0, 0, 0, 0, 0),
  (86, 3, .getfield 272, 0, 0, 1743, 12, 30),
  (89, 1, .iload_n 3, 0, 0, 0, 0, 0),
  (90, 1, .iaload, 0, 0, 0, 0, 0),
  (91, 3, .if_icmp .ne 24, 0, 0, 0, 115, 0),
  (94, 1, .aload_n 0, 0, 0, 0, 0, 0),
  (95, 3, .getfield 269, 0, 0, 1742, 12, 29),
  (98, 2, .iload 4, 0, 0, 0, 0, 0),
  (100, 1, .iaload, 0, 0, 0, 0, 0),
  (101, 1, .aload_n 0, 0, 0, 0, 0, 0),
  (102, 3, .getfield 269, 0, 0, 1742, 12, 29),
  (105, 1, .iload_n 3, 0, 0, 0, 0, 0),
  (106, 1, .iaload, 0, 0, 0, 0, 0),
  (107, 3, .if_icmp .ge 8, 0, 0, 0, 115, 0),
  (110, 2, .iload 4, 0, 0, 0, 0, 0),
  (112, 3, .goto 4, 0, 0, 0, 116, 0),
  (115, 1, .iload_n 3, 0, 0, 0, 0, 0),
  (116, 1, .istore_n 3, 0, 0, 0, 0, 0),
  (117, 3, .iinc 4 1, 1, 0, 0, 0, 0),
  (120, 3, .goto (-81), 0, 0, 0, 39, 0),
  (123, 1, .iload_n 3, 0, 0, 0, 0, 0),
  (124, 3, .ifCond .ge 6, 0, 0, 0, 130, 0),
  (127, 2, .bipush (-2), (-2), 0, 0, 0, 0),
  (129, 1, .ireturn, 0, 0, 0, 0, 0),
  (130, 1, .aload_n 0, 0, 0, 0, 0, 0),
  (131, 1, .iconst 0, 0, 0, 0, 0, 0),
  (132, 3, .putfield 11, 0, 0, 1714, 12, 1),
  (135, 1, .aload_n 0, 0, 0, 0, 0, 0),
  (136, 1, .aload_n 0, 0, 0, 0, 0, 0),
  (137, 3, .getfield 269, 0, 0, 1742, 12, 29),
  (140, 1, .iload_n 3, 0, 0, 0, 0, 0),
  (141, 1, .iaload, 0, 0, 0, 0, 0),
  (142, 3, .invokevirtual 209, 0, 0, 1473, 0, 170),
  (145, 1, .aload_n 0, 0, 0, 0, 0, 0),
  (146, 3, .getfield 272, 0, 0, 1743, 12, 30),
  (149, 1, .iload_n 3, 0, 0, 0, 0, 0),
  (150, 1, .iaload, 0, 0, 0, 0, 0),
  (151, 1, .ireturn, 0, 0, 0, 0, 0)]
set_option maxRecDepth 100000 in
theorem zk_236 : zt_236.all (zx_chk 236) = true := by decide +kernel
/-- NamesThatShrinkModel.river()I -/
def zt_237 : List zx_En := [
  (0, 1, .aload_n 0, 0, 0, 0, 0, 0),
  (1, 1, .iconst 0, 0, 0, 0, 0, 0),
  (2, 3, .putfield 3, 0, 0, 1713, 12, 0),
  (5, 1, .aload_n 0, 0, 0, 0, 0, 0),
  (6, 1, .aload_n 0, 0, 0, 0, 0, 0),
  (7, 3, .getfield 127, 0, 0, 1721, 12, 8),
  (10, 3, .invokevirtual 300, 0, 0, 1535, 0, 226),
  (13, 3, .ifCond .ne 6, 0, 0, 0, 19, 0),
  (16, 2, .bipush (-3), (-3), 0, 0, 0, 0),
  (18, 1, .ireturn, 0, 0, 0, 0, 0),
  (19, 1, .iconst 0, 0, 0, 0, 0, 0),
  (20, 1, .istore_n 1, 0, 0, 0, 0, 0),
  (21, 1, .iload_n 1, 0, 0, 0, 0, 0),
  (22, 1, .aload_n 0, 0, 0, 0, 0, 0),
  (23, 3, .getfield 279, 0, 0, 1746, 12, 33),
  (26, 3, .if_icmp .ge 71, 0, 0, 0, 97, 0),
  (29, 1, .aload_n 0, 0, 0, 0, 0, 0),
  (30, 3, .getfield 293, 0, 0, 1745, 12, 32),
  (33, 1, .iload_n 1, 0, 0, 0, 0, 0),
  (34, 1, .iconst 1, 1, 0, 0, 0, 0),
  (35, 1, .bastore, 0, 0, 0, 23, 0),
  (36, 1, .iconst 0, 0, 0, 0, 0, 0),
  (37, 1, .istore_n 2, 0, 0, 0, 0, 0),
  (38, 1, .iload_n 2, 0, 0, 0, 0, 0),
  (39, 1, .aload_n 0, 0, 0, 0, 0, 0),
  (40, 3, .getfield 27, 0, 0, 1716, 12, 3),
  (43, 3, .if_icmp .ge 48, 0, 0, 0, 91, 0),
  (46, 1, .aload_n 0, 0, 0, 0, 0, 0),
  (47, 3, .getfield 293, 0, 0, 1745, 12, 32),
  (50, 1, .iload_n 1, 0, 0, 0, 0, 0),
  (51, 1, .aload_n 0, 0, 0, 0, 0, 0),
  (52, 3, .getfield 293, 0, 0, 1745, 12, 32),
  (55, 1, .iload_n 1, 0, 0, 0, 0, 0),
  (56, 1, .baload, 0, 0, 0, 23, 0),
  (57, 3, .ifCond .eq 26, 0, 0, 0, 83, 0),
  (60, 1, .aload_n 0, 0, 0, 0, 0, 0),
  (61, 3, .getfield 104, 0, 0, 1719, 12, 6),
  (64, 1, .iload_n 2, 0, 0, 0, 0, 0),
  (65, 1, .iaload, 0, 0, 0, 0, 0),
  (66, 1, .aload_n 0, 0, 0, 0, 0, 0),
  (67, 1, .iload_n 1, 0, 0, 0, 0, 0),
  (68, 1, .iload_n 2, 0, 0, 0, 0, 0),
  (69, 3, .invokevirtual 303, 0, 0, 1580, 0, 233),
  (72, 1, .iadd, 0, 0, 0, 0, 0),
  (73, 1, .iconst 2, 2, 0, 0, 0, 0),
  (74, 1, .irem, 0, 0, 0, 0, 0),
  (75, 1, .iconst 1, 1, 0, 0, 0, 0),
  (76, 3, .if_icmp .ne 7, 0, 0, 0, 83, 0),
  (79, 1, .iconst 1, 1, 0, 0, 0, 0),
  (80, 3, .goto 4, 0, 0, 0, 84, 0),
  (83, 1, .iconst 0, 0, 0, 0, 0, 0),
  (84, 1, .bastore, 0, 0, 0, 23, 0),
  (85, 3, .iinc 2 1, 1, 0, 0, 0, 0),
  (88, 3, .goto (-50), 0, 0, 0, 38, 0),
  (91, 3, .iinc 1 1, 1, 0, 0, 0, 0),
  (94, 3, .goto (-73), 0, 0, 0, 21, 0),
  (97, 1, .aload_n 0, 0, 0, 0, 0, 0),
  (98, 3, .invokevirtual 317, 0, 0, 1587, 0, 227),
  (101, 1, .istore_n 1, 0, 0, 0, 0, 0),
  (102, 1, .iload_n 1, 0, 0, 0, 0, 0),
  (103, 3, .ifCond .ge 8, 0, 0, 0, 111, 0),
  (106, 2, .bipush (-2), (-2), 0, 0, 0, 0),
  (108, 3, .goto 8, 0, 0, 0, 116, 0),
  (111, 1, .aload_n 0, 0, 0, 0, 0, 0),
  (112, 1, .iload_n 1, 0, 0, 0, 0, 0),
  (113, 3, .invokevirtual 320, 0, 0, 1591, 0, 228),
  (116, 1, .ireturn, 0, 0, 0, 0, 0)]
set_option maxRecDepth 100000 in
theorem zk_237 : zt_237.all (zx_chk 237) = true := by decide +kernel
/-- NamesThatShrinkModel.alone(II)I -/
def zt_238 : List zx_En := [
  (0, 1, .aload_n 0, 0, 0, 0, 0, 0),
  (1, 1, .iconst 0, 0, 0, 0, 0, 0),
  (2, 3, .putfield 3, 0, 0, 1713, 12, 0),
  (5, 1, .aload_n 0, 0, 0, 0, 0, 0),
  (6, 1, .iload_n 1, 0, 0, 0, 0, 0),
  (7, 3, .invokevirtual 115, 0, 0, 1380, 0, 175),
  (10, 3, .ifCond .eq 15, 0, 0, 0, 25, 0),
  (13, 1, .iload_n 2, 0, 0, 0, 0, 0),
  (14, 1, .i2l, 0, 0, 0, 0, 0),
  (15, 1, .lconst 1, 0, 1, 0, 0, 0),
  (16, 3, .ldc2_w 236, 0, 8, 1523, 0, 0),
  (19, 3, .invokestatic 30, 0, 0, 1321, 2, 167),
  (22, 3, .ifCond .ne 5, 0, 0, 0, 27, 0),
  (25, 1, .iconst (-1), (-1), 0, 0, 0, 0),
  (26, 1, .ireturn, 0, 0, 0, 0, 0),
  (27, 1, .aload_n 0, 0, 0, 0, 0, 0),
  (28, 1, .aload_n 0, 0, 0, 0, 0, 0),
  (29, 3, .getfield 127, 0, 0, 1721, 12, 8),
  (32, 3, .invokevirtual 300, 0, 0, 1535, 0, 226),
  (35, 3, .ifCond .ne 6, 0, 0, 0, 41, 0),
  (38, 2, .bipush (-3), (-3), 0, 0, 0, 0),
  (40, 1, .ireturn, 0, 0, 0, 0, 0),
  (41, 1, .iconst (-1), (-1), 0, 0, 0, 0),
  (42, 1, .istore_n 3, 0, 0, 0, 0, 0),
  (43, 1, .iconst 0, 0, 0, 0, 0, 0),
  (44, 2, .istore 4, 0, 0, 0, 0, 0),
  (46, 2, .iload 4, 0, 0, 0, 0, 0),
  (48, 1, .aload_n 0, 0, 0, 0, 0, 0),
  (49, 3, .getfield 279, 0, 0, 1746, 12, 33),
  (52, 3, .if_icmp .ge 91, 0, 0, 0, 143, 0),
  (55, 1, .aload_n 0, 0, 0, 0, 0, 0),
  (56, 2, .iload 4, 0, 0, 0, 0, 0),
  (58, 1, .iload_n 1, 0, 0, 0, 0, 0),
  (59, 3, .invokevirtual 303, 0, 0, 1580, 0, 233),
  (62, 1, .iload_n 2, 0, 0, 0, 0, 0),
  (63, 3, .if_icmp .ne 59, 0, 0, 0, 122, 0),
  (66, 1, .iload_n 3, 0, 0, 0, 0, 0),
  (67, 3, .ifCond .lt 51, 0, 0, 0, 118, 0),
  (70, 1, .aload_n 0, 0, 0, 0, 0, 0),
  (71, 3, .getfield 272, 0, 0, 1743, 12, 30),
  (74, 2, .iload 4, 0, 0, 0, 0, 0),
  (76, 1, .iaload, 0, 0, 0, 0, 0),
  (77, 1, .aload_n 0, 0, 0, 0, 0, 0),
  (78, 3, .getfield 272, 0, 0, 1743, 12, 30),
  (81, 1, .iload_n 3, 0, 0, 0, 0, 0),
  (82, 1, .iaload, 0, 0, 0, 0, 0),
  (83, 3, .if_icmp .lt 35, 0, 0, 0, 118, 0),
  (86, 1, .aload_n 0, 0, 0, 0, 0, 0),
  (87, 3, .getfield 272, 0, 0, 1743, 12, 30),
  (90, 2, .iload 4, 0, 0, 0, 0, 0),
  (92, 1, .iaload, 0, 0, 0, 0, 0),
  (93, 1, .aload_n 0, 0, 0, 0, 0, 0),
  (94, 3, .getfield 272, 0, 0, 1743, 12, 30),
  (97, 1, .iload_n 3, 0, 0, 0, 0, 0),
  (98, 1, .iaload, 0, 0, 0, 0, 0),
  (99, 3, .if_icmp .ne 23, 0, 0, 0, 122, 0),
  (102, 1, .aload_n 0, 0, 0, 0, 0, 0),
  (103, 3, .getfield 269, 0, 0, 1742, 12, 29),
  (106, 2, .iload 4, 0, 0, 0, 0, 0),
  (108, 1, .iaload, 0, 0, 0, 0, 0),
  (109, 1, .aload_n 0, 0, 0, 0, 0, 0),
  (110, 3, .getfield 269, 0, 0, 1742, 12, 29),
  (113, 1, .iload_n 3, 0, 0, 0, 0, 0),
  (114, 1, .iaload, 0, 0, 0, 0, 0),
  (115, 3, .if_icmp .ge 7, 0, 0, 0, 122, 0),
  (118, 1, .iconst 1, 1, 0, 0, 0, 0),
  (119, 3, .goto 4, 0, 0, 0, 123, 0),
  (122, 1, .iconst 0, 0, 0, 0, 0, 0),
  (123, 2, .istore 5, 0, 0, 0, 0, 0),
  (125, 2, .iload 5, 0, 0, 0, 0, 0),
  (127, 3, .ifCond .eq 8, 0, 0, 0, 135, 0),
  (130, 2, .iload 4, 0, 0, 0, 0, 0),
  (132, 3, .goto 4, 0, 0, 0, 136, 0),
  (135, 1, .iload_n 3, 0, 0, 0, 0, 0),
  (136, 1, .istore_n 3, 0, 0, 0, 0, 0),
  (137, 3, .iinc 4 1, 1, 0, 0, 0, 0),
  (140, 3, .goto (-94), 0, 0, 0, 46, 0),
  (143, 1, .iload_n 3, 0, 0, 0, 0, 0),
  (144, 3, .ifCond .ge 6, 0, 0, 0, 150, 0),
  (147, 2, .bipush (-2), (-2), 0, 0, 0, 0),
  (149, 1, .ireturn, 0, 0, 0, 0, 0),
  (150, 1, .aload_n 0, 0, 0, 0, 0, 0),
  (151, 1, .iconst 0, 0, 0, 0, 0, 0),
  (152, 3, .putfield 11, 0, 0, 1714, 12, 1),
  (155, 1, .aload_n 0, 0, 0, 0, 0, 0),
  (156, 1, .aload_n 0, 0, 0, 0, 0, 0),
  (157, 3, .getfield 269, 0, 0, 1742, 12, 29),
  (160, 1, .iload_n 3, 0, 0, 0, 0, 0),
  (161, 1, .iaload, 0, 0, 0, 0, 0),
  (162, 3, .invokevirtual 209, 0, 0, 1473, 0, 170),
  (165, 1, .aload_n 0, 0, 0, 0, 0, 0),
  (166, 3, .getfield 272, 0, 0, 1743, 12, 30),
  (169, 1, .iload_n 3, 0, 0, 0, 0, 0),
  (170, 1, .iaload, 0, 0, 0, 0, 0),
  (171, 1, .iload_n 2, 0, 0, 0, 0, 0),
  (172, 1, .isub, 0, 0, 0, 0, 0),
  (173, 1, .ireturn, 0, 0, 0, 0, 0)]
set_option maxRecDepth 100000 in
theorem zk_238 : zt_238.all (zx_chk 238) = true := by decide +kernel
end
section
/-- NamesThatShrinkModel.areUnlike(J)Z -/
def zt_239 : List zx_En := [
  (0, 1, .iconst 0, 0, 0, 0, 0, 0),
  (1, 1, .istore_n 3, 0, 0, 0, 0, 0),
  (2, 1, .iload_n 3, 0, 0, 0, 0, 0),
  (3, 1, .aload_n 0, 0, 0, 0, 0, 0),
  (4, 3, .getfield 27, 0, 0, 1716, 12, 3),
  (7, 3, .if_icmp .ge 32, 0, 0, 0, 39, 0),
  (10, 1, .lload_n 1, 0, 0, 0, 0, 0),
  (11, 1, .iload_n 3, 0, 0, 0, 0, 0),
  (12, 3, .invokestatic 245, 0, 0, 1557, 2, 219),
  (15, 3, .ifCond .le 18, 0, 0, 0, 33, 0),
  (18, 1, .aload_n 0, 0, 0, 0, 0, 0),
  (19, 1, .lload_n 1, 0, 0, 0, 0, 0),
  (20, 1, .iload_n 3, 0, 0, 0, 0, 0),
  (21, 3, .invokevirtual 282, 0, 0, 1549, 0, 222),
  (24, 3, .invokestatic 137, 0, 0, 1410, 2, 266),
  (27, 1, .iconst 1, 1, 0, 0, 0, 0),
  (28, 3, .if_icmp .le 5, 0, 0, 0, 33, 0),
  (31, 1, .iconst 0, 0, 0, 0, 0, 0),
  (32, 1, .ireturn, 0, 0, 0, 0, 0),
  (33, 3, .iinc 3 1, 1, 0, 0, 0, 0),
  (36, 3, .goto (-34), 0, 0, 0, 2, 0),
  (39, 1, .iconst 1, 1, 0, 0, 0, 0),
  (40, 1, .ireturn, 0, 0, 0, 0, 0)]
set_option maxRecDepth 100000 in
theorem zk_239 : zt_239.all (zx_chk 239) = true := by decide +kernel
/-- NamesThatShrinkModel.states()I -/
def zt_240 : List zx_En := [
  (0, 1, .aload_n 0, 0, 0, 0, 0, 0),
  (1, 1, .iconst 0, 0, 0, 0, 0, 0),
  (2, 3, .putfield 3, 0, 0, 1713, 12, 0),
  (5, 1, .aload_n 0, 0, 0, 0, 0, 0),
  (6, 1, .aload_n 0, 0, 0, 0, 0, 0),
  (7, 3, .getfield 127, 0, 0, 1721, 12, 8),
  (10, 3, .invokevirtual 300, 0, 0, 1535, 0, 226),
  (13, 3, .ifCond .ne 6, 0, 0, 0, 19, 0),
  (16, 2, .bipush (-3), (-3), 0, 0, 0, 0),
  (18, 1, .ireturn, 0, 0, 0, 0, 0),
  (19, 1, .iconst 0, 0, 0, 0, 0, 0),
  (20, 1, .istore_n 1, 0, 0, 0, 0, 0),
  (21, 1, .iconst 0, 0, 0, 0, 0, 0),
  (22, 1, .istore_n 2, 0, 0, 0, 0, 0),
  (23, 1, .iconst 0, 0, 0, 0, 0, 0),
  (24, 1, .istore_n 3, 0, 0, 0, 0, 0),
  (25, 1, .iload_n 3, 0, 0, 0, 0, 0),
  (26, 1, .aload_n 0, 0, 0, 0, 0, 0),
  (27, 3, .getfield 279, 0, 0, 1746, 12, 33),
  (30, 3, .if_icmp .ge 47, 0, 0, 0, 77, 0),
  (33, 1, .iload_n 1, 0, 0, 0, 0, 0),
  (34, 1, .aload_n 0, 0, 0, 0, 0, 0),
  (35, 1, .aload_n 0, 0, 0, 0, 0, 0),
  (36, 3, .getfield 254, 0, 0, 1741, 12, 28),
  (39, 1, .iload_n 3, 0, 0, 0, 0, 0),
  (40, 1, .laload, 0, 0, 0, 0, 0),
  (41, 3, .invokevirtual 323, 0, 0, 1615, 0, 239),
  (44, 3, .invokestatic 49, 0, 0, 1352, 2, 169),
  (47, 1, .iadd, 0, 0, 0, 0, 0),
  (48, 1, .istore_n 1, 0, 0, 0, 0, 0),
  (49, 1, .iload_n 2, 0, 0, 0, 0, 0),
  (50, 1, .aload_n 0, 0, 0, 0, 0, 0),
  (51, 3, .getfield 254, 0, 0, 1741, 12, 28),
  (54, 1, .iload_n 3, 0, 0, 0, 0, 0),
  (55, 1, .laload, 0, 0, 0, 0, 0),
  (56, 1, .lconst 0, 0, 0, 0, 0, 0),
  (57, 1, .lcmp, 0, 0, 0, 0, 0),
  (58, 3, .ifCond .ne 7, 0, 0, 0, 65, 0),
  (61, 1, .iconst 1, 1, 0, 0, 0, 0),
  (62, 3, .goto 4, 0, 0, 0, 66, 0),
  (65, 1, .iconst 0, 0, 0, 0, 0, 0),
  (66, 3, .invokestatic 49, 0, 0, 1352, 2, 169),
  (69, 1, .iadd, 0, 0, 0, 0, 0),
  (70, 1, .istore_n 2, 0, 0, 0, 0, 0),
  (71, 3, .iinc 3 1, 1, 0, 0, 0, 0),
  (74, 3, .goto (-49), 0, 0, 0, 25, 0),
  (77, 1, .aload_n 0, 0, 0, 0, 0, 0),
  (78, 1, .iconst 0, 0, 0, 0, 0, 0),
  (79, 3, .putfield 11, 0, 0, 1714, 12, 1),
  (82, 1, .aload_n 0, 0, 0, 0, 0, 0),
  (83, 1, .iload_n 1, 0, 0, 0, 0, 0),
  (84, 3, .invokevirtual 209, 0, 0, 1473, 0, 170),
  (87, 1, .aload_n 0, 0, 0, 0, 0, 0),
  (88, 1, .iload_n 2, 0, 0, 0, 0, 0),
  (89, 3, .invokevirtual 209, 0, 0, 1473, 0, 170),
  (92, 1, .aload_n 0, 0, 0, 0, 0, 0),
  (93, 3, .getfield 279, 0, 0, 1746, 12, 33),
  (96, 1, .ireturn, 0, 0, 0, 0, 0)]
set_option maxRecDepth 100000 in
theorem zk_240 : zt_240.all (zx_chk 240) = true := by decide +kernel
/-- NamesThatShrinkModel.comes(J)I -/
def zt_241 : List zx_En := [
  (0, 1, .aload_n 0, 0, 0, 0, 0, 0),
  (1, 1, .iconst 0, 0, 0, 0, 0, 0),
  (2, 3, .putfield 3, 0, 0, 1713, 12, 0),
  (5, 1, .aload_n 0, 0, 0, 0, 0, 0),
  (6, 1, .lload_n 1, 0, 0, 0, 0, 0),
  (7, 3, .invokevirtual 309, 0, 0, 1572, 0, 232),
  (10, 3, .ifCond .ne 5, 0, 0, 0, 15, 0),
  (13, 1, .iconst (-1), (-1), 0, 0, 0, 0),
  (14, 1, .ireturn, 0, 0, 0, 0, 0),
  (15, 1, .iconst 0, 0, 0, 0, 0, 0),
  (16, 1, .istore_n 3, 0, 0, 0, 0, 0),
  (17, 1, .iload_n 3, 0, 0, 0, 0, 0),
  (18, 1, .aload_n 0, 0, 0, 0, 0, 0),
  (19, 3, .getfield 27, 0, 0, 1716, 12, 3),
  (22, 3, .if_icmp .ge 28, 0, 0, 0, 50, 0),
  (25, 1, .lload_n 1, 0, 0, 0, 0, 0),
  (26, 1, .iload_n 3, 0, 0, 0, 0, 0),
  (27, 3, .invokestatic 245, 0, 0, 1557, 2, 219),
  (30, 1, .aload_n 0, 0, 0, 0, 0, 0),
  (31, 3, .getfield 98, 0, 0, 1717, 12, 4),
  (34, 1, .iload_n 3, 0, 0, 0, 0, 0),
  (35, 1, .iaload, 0, 0, 0, 0, 0),
  (36, 3, .invokestatic 14, 0, 0, 1373, 2, 171),
  (39, 3, .if_icmp .le 5, 0, 0, 0, 44, 0),
  (42, 1, .iconst (-1), (-1), 0, 0, 0, 0),
  (43, 1, .ireturn, 0, 0, 0, 0, 0),
  (44, 3, .iinc 3 1, 1, 0, 0, 0, 0),
  (47, 3, .goto (-30), 0, 0, 0, 17, 0),
  (50, 1, .aload_n 0, 0, 0, 0, 0, 0),
  (51, 1, .aload_n 0, 0, 0, 0, 0, 0),
  (52, 3, .getfield 127, 0, 0, 1721, 12, 8),
  (55, 3, .invokevirtual 300, 0, 0, 1535, 0, 226),
  (58, 3, .ifCond .ne 6, 0, 0, 0, 64, 0),
  (61, 2, .bipush (-3), (-3), 0, 0, 0, 0),
  (63, 1, .ireturn, 0, 0, 0, 0, 0),
  (64, 1, .aload_n 0, 0, 0, 0, 0, 0),
  (65, 3, .getfield 251, 0, 0, 1744, 12, 31),
  (68, 1, .aload_n 0, 0, 0, 0, 0, 0),
  (69, 1, .lload_n 1, 0, 0, 0, 0, 0),
  (70, 3, .invokevirtual 275, 0, 0, 1544, 0, 221),
  (73, 1, .iaload, 0, 0, 0, 0, 0),
  (74, 1, .istore_n 3, 0, 0, 0, 0, 0),
  (75, 1, .iload_n 3, 0, 0, 0, 0, 0),
  (76, 3, .ifCond .ge 8, 0, 0, 0, 84, 0),
  (79, 2, .bipush (-2), (-2), 0, 0, 0, 0),
  (81, 3, .goto 9, 0, 0, 0, 90, 0),
  (84, 1, .aload_n 0, 0, 0, 0, 0, 0),
  (85, 3, .getfield 269, 0, 0, 1742, 12, 29),
  (88, 1, .iload_n 3, 0, 0, 0, 0, 0),
  (89, 1, .iaload, 0, 0, 0, 0, 0),
  (90, 1, .ireturn, 0, 0, 0, 0, 0)]
set_option maxRecDepth 100000 in
theorem zk_241 : zt_241.all (zx_chk 241) = true := by decide +kernel
/-- NamesThatShrinkModel.countOf(I)I -/
def zt_242 : List zx_En := [
  (0, 1, .iconst 1, 1, 0, 0, 0, 0),
  (1, 1, .istore_n 1, 0, 0, 0, 0, 0),
  (2, 1, .iconst 0, 0, 0, 0, 0, 0),
  (3, 1, .istore_n 2, 0, 0, 0, 0, 0),
  (4, 1, .iload_n 2, 0, 0, 0, 0, 0),
  (5, 1, .iload_n 0, 0, 0, 0, 0, 0),
  (6, 3, .if_icmp .ge 14, 0, 0, 0, 20, 0),
  (9, 1, .iload_n 1, 0, 0, 0, 0, 0),
  (10, 2, .bipush 6, 6, 0, 0, 0, 0),
  (12, 1, .imul, 0, 0, 0, 0, 0),
  (13, 1, .istore_n 1, 0, 0, 0, 0, 0),
  (14, 3, .iinc 2 1, 1, 0, 0, 0, 0),
  (17, 3, .goto (-13), 0, 0, 0, 4, 0),
  (20, 1, .iload_n 1, 0, 0, 0, 0, 0),
  (21, 1, .ireturn, 0, 0, 0, 0, 0)]
set_option maxRecDepth 100000 in
theorem zk_242 : zt_242.all (zx_chk 242) = true := by decide +kernel
/-- NamesThatShrinkModel.nameAt(III)I -/
def zt_243 : List zx_En := [
  (0, 1, .iconst 0, 0, 0, 0, 0, 0),
  (1, 1, .istore_n 3, 0, 0, 0, 0, 0),
  (2, 1, .iconst 1, 1, 0, 0, 0, 0),
  (3, 2, .istore 4, 0, 0, 0, 0, 0),
  (5, 1, .iload_n 1, 0, 0, 0, 0, 0),
  (6, 2, .istore 5, 0, 0, 0, 0, 0),
  (8, 1, .iconst 0, 0, 0, 0, 0, 0),
  (9, 2, .istore 6, 0, 0, 0, 0, 0),
  (11, 2, .iload 6, 0, 0, 0, 0, 0),
  (13, 1, .iload_n 0, 0, 0, 0, 0, 0),
  (14, 3, .if_icmp .ge 34, 0, 0, 0, 48, 0),
  (17, 1, .iload_n 3, 0, 0, 0, 0, 0),
  (18, 2, .iload 5, 0, 0, 0, 0, 0),
  (20, 1, .iload_n 2, 0, 0, 0, 0, 0),
  (21, 1, .irem, 0, 0, 0, 0, 0),
  (22, 1, .iconst 1, 1, 0, 0, 0, 0),
  (23, 1, .iadd, 0, 0, 0, 0, 0),
  (24, 2, .iload 4, 0, 0, 0, 0, 0),
  (26, 1, .imul, 0, 0, 0, 0, 0),
  (27, 1, .iadd, 0, 0, 0, 0, 0),
  (28, 1, .istore_n 3, 0, 0, 0, 0, 0),
  (29, 2, .iload 4, 0, 0, 0, 0, 0),
  (31, 2, .bipush 7, 7, 0, 0, 0, 0),
  (33, 1, .imul, 0, 0, 0, 0, 0),
  (34, 2, .istore 4, 0, 0, 0, 0, 0),
  (36, 2, .iload 5, 0, 0, 0, 0, 0),
  (38, 1, .iload_n 2, 0, 0, 0, 0, 0),
  (39, 1, .idiv, 0, 0, 0, 0, 0),
  (40, 2, .istore 5, 0, 0, 0, 0, 0),
  (42, 3, .iinc 6 1, 1, 0, 0, 0, 0),
  (45, 3, .goto (-34), 0, 0, 0, 11, 0),
  (48, 1, .iload_n 3, 0, 0, 0, 0, 0),
  (49, 1, .ireturn, 0, 0, 0, 0, 0)]
set_option maxRecDepth 100000 in
theorem zk_243 : zt_243.all (zx_chk 243) = true := by decide +kernel
/-- NamesThatShrinkModel.isSafe(II)Z -/
def zt_244 : List zx_En := [
  (0, 1, .iconst 1, 1, 0, 0, 0, 0),
  (1, 1, .istore_n 3, 0, 0, 0, 0, 0),
  (2, 1, .iconst 0, 0, 0, 0, 0, 0),
  (3, 2, .istore 4, 0, 0, 0, 0, 0),
  (5, 2, .iload 4, 0, 0, 0, 0, 0),
  (7, 1, .aload_n 0, 0, 0, 0, 0, 0),
  (8, 3, .getfield 27, 0, 0, 1716, 12, 3),
  (11, 3, .if_icmp .ge 34, 0, 0, 0, 45, 0),
  (14, 1, .iload_n 3, 0, 0, 0, 0, 0),
  (15, 3, .ifCond .eq 22, 0, 0, 0, 37, 0),
  (18, 1, .iload_n 1, 0, 0, 0, 0, 0),
  (19, 1, .aload_n 0, 0, 0, 0, 0, 0),
  (20, 3, .getfield 98, 0, 0, 1717, 12, 4),
  (23, 2, .iload 4, 0, 0, 0, 0, 0),
  (25, 1, .iaload, 0, 0, 0, 0, 0),
  (26, 1, .iload_n 2, 0, 0, 0, 0, 0),
  (27, 3, .invokestatic 238, 0, 0, 1524, 2, 216),
  (30, 3, .ifCond .ne 7, 0, 0, 0, 37, 0),
  (33, 1, .iconst 1, 1, 0, 0, 0, 0),
  (34, 3, .goto 4, 0, 0, 0, 38, 0),
  (37, 1, .iconst 0, 0, 0, 0, 0, 0),
  (38, 1, .istore_n 3, 0, 0, 0, 0, 0),
  (39, 3, .iinc 4 1, 1, 0, 0, 0, 0),
  (42, 3, .goto (-37), 0, 0, 0, 5, 0),
  (45, 1, .iload_n 3, 0, 0, 0, 0, 0),
  (46, 1, .ireturn, 0, 0, 0, 0, 0)]
set_option maxRecDepth 100000 in
theorem zk_244 : zt_244.all (zx_chk 244) = true := by decide +kernel
/-- NamesThatShrinkModel.isNew(III)Z -/
def zt_245 : List zx_En := [
  (0, 1, .iconst 1, 1, 0, 0, 0, 0),
  (1, 2, .istore 4, 0, 0, 0, 0, 0),
  (3, 1, .iconst 0, 0, 0, 0, 0, 0),
  (4, 2, .istore 5, 0, 0, 0, 0, 0),
  (6, 2, .iload 5, 0, 0, 0, 0, 0),
  (8, 1, .iload_n 2, 0, 0, 0, 0, 0),
  (9, 3, .if_icmp .ge 47, 0, 0, 0, 56, 0),
  (12, 2, .iload 4, 0, 0, 0, 0, 0),
  (14, 3, .ifCond .eq 33, 0, 0, 0, 47, 0),
  (17, 1, .iload_n 1, 0, 0, 0, 0, 0),
  (18, 1, .aload_n 0, 0, 0, 0, 0, 0),
  (19, 3, .getfield 326, 0, 0, 1748, 12, 35),
  (22, 2, .iload 5, 0, 0, 0, 0, 0),
  (24, 1, .iaload, 0, 0, 0, 0, 0),
  (25, 3, .if_icmp .eq 22, 0, 0, 0, 47, 0),
  (28, 1, .iload_n 1, 0, 0, 0, 0, 0),
  (29, 1, .aload_n 0, 0, 0, 0, 0, 0),
  (30, 3, .getfield 326, 0, 0, 1748, 12, 35),
  (33, 2, .iload 5, 0, 0, 0, 0, 0),
  (35, 1, .iaload, 0, 0, 0, 0, 0),
  (36, 1, .iload_n 3, 0, 0, 0, 0, 0),
  (37, 3, .invokestatic 238, 0, 0, 1524, 2, 216),
  (40, 3, .ifCond .ne 7, 0, 0, 0, 47, 0),
  (43, 1, .iconst 1, 1, 0, 0, 0, 0),
  (44, 3, .goto 4, 0, 0, 0, 48, 0),
  (47, 1, .iconst 0, 0, 0, 0, 0, 0),
  (48, 2, .istore 4, 0, 0, 0, 0, 0),
  (50, 3, .iinc 5 1, 1, 0, 0, 0, 0),
  (53, 3, .goto (-47), 0, 0, 0, 6, 0),
  (56, 2, .iload 4, 0, 0, 0, 0, 0),
  (58, 1, .ireturn, 0, 0, 0, 0, 0)]
set_option maxRecDepth 100000 in
theorem zk_245 : zt_245.all (zx_chk 245) = true := by decide +kernel
/-- NamesThatShrinkModel.names(III)I -/
def zt_246 : List zx_En := [
  (0, 1, .aload_n 0, 0, 0, 0, 0, 0),
  (1, 1, .iconst 0, 0, 0, 0, 0, 0),
  (2, 3, .putfield 3, 0, 0, 1713, 12, 0),
  (5, 1, .iload_n 1, 0, 0, 0, 0, 0),
  (6, 1, .i2l, 0, 0, 0, 0, 0),
  (7, 1, .lconst 1, 0, 1, 0, 0, 0),
  (8, 3, .ldc2_w 329, 0, 6, 1627, 0, 0),
  (11, 3, .invokestatic 30, 0, 0, 1321, 2, 167),
  (14, 3, .ifCond .eq 27, 0, 0, 0, 41, 0),
  (17, 1, .iload_n 2, 0, 0, 0, 0, 0),
  (18, 1, .i2l, 0, 0, 0, 0, 0),
  (19, 1, .lconst 1, 0, 1, 0, 0, 0),
  (20, 3, .ldc2_w 121, 0, 5, 1392, 0, 0),
  (23, 3, .invokestatic 30, 0, 0, 1321, 2, 167),
  (26, 3, .ifCond .eq 15, 0, 0, 0, 41, 0),
  (29, 1, .iload_n 3, 0, 0, 0, 0, 0),
  (30, 1, .i2l, 0, 0, 0, 0, 0),
  (31, 1, .lconst 0, 0, 0, 0, 0, 0),
  (32, 3, .ldc2_w 236, 0, 8, 1523, 0, 0),
  (35, 3, .invokestatic 30, 0, 0, 1321, 2, 167),
  (38, 3, .ifCond .ne 5, 0, 0, 0, 43, 0),
  (41, 1, .iconst (-1), (-1), 0, 0, 0, 0),
  (42, 1, .ireturn, 0, 0, 0, 0, 0),
  (43, 1, .iconst 0, 0, 0, 0, 0, 0),
  (44, 2, .istore 4, 0, 0, 0, 0, 0),
  (46, 1, .iconst 0, 0, 0, 0, 0, 0),
  (47, 2, .istore 5, 0, 0, 0, 0, 0),
  (49, 2, .iload 5, 0, 0, 0, 0, 0),
  (51, 1, .iload_n 1, 0, 0, 0, 0, 0),
  (52, 3, .if_icmp .ge 114, 0, 0, 0, 166, 0),
  (55, 1, .iconst (-1), (-1), 0, 0, 0, 0),
  (56, 2, .istore 6, 0, 0, 0, 0, 0),
  (58, 1, .iconst 0, 0, 0, 0, 0, 0),
  (59, 2, .istore 7, 0, 0, 0, 0, 0),
  (61, 2, .iload 7, 0, 0, 0, 0, 0),
  (63, 1, .iload_n 2, 0, 0, 0, 0, 0),
  (64, 3, .invokestatic 331, 0, 0, 1628, 2, 242),
  (67, 3, .if_icmp .ge 65, 0, 0, 0, 132, 0),
  (70, 1, .iload_n 2, 0, 0, 0, 0, 0),
  (71, 2, .iload 7, 0, 0, 0, 0, 0),
  (73, 2, .bipush 6, 6, 0, 0, 0, 0),
  (75, 3, .invokestatic 334, 0, 0, 1631, 2, 243),
  (78, 2, .istore 8, 0, 0, 0, 0, 0),
  (80, 2, .iload 6, 0, 0, 0, 0, 0),
  (82, 3, .ifCond .lt 18, 0, 0, 0, 100, 0),
  (85, 1, .aload_n 0, 0, 0, 0, 0, 0),
  (86, 2, .iload 8, 0, 0, 0, 0, 0),
  (88, 3, .invokevirtual 212, 0, 0, 1485, 0, 208),
  (91, 1, .aload_n 0, 0, 0, 0, 0, 0),
  (92, 2, .iload 6, 0, 0, 0, 0, 0),
  (94, 3, .invokevirtual 212, 0, 0, 1485, 0, 208),
  (97, 3, .if_icmp .ge 29, 0, 0, 0, 126, 0),
  (100, 1, .aload_n 0, 0, 0, 0, 0, 0),
  (101, 2, .iload 8, 0, 0, 0, 0, 0),
  (103, 1, .iload_n 3, 0, 0, 0, 0, 0),
  (104, 3, .invokevirtual 338, 0, 0, 1634, 0, 244),
  (107, 3, .ifCond .eq 19, 0, 0, 0, 126, 0),
  (110, 1, .aload_n 0, 0, 0, 0, 0, 0),
  (111, 2, .iload 8, 0, 0, 0, 0, 0),
  (113, 2, .iload 5, 0, 0, 0, 0, 0),
  (115, 1, .iload_n 3, 0, 0, 0, 0, 0),
  (116, 3, .invokevirtual 341, 0, 0, 1638, 0, 245),
  (119, 3, .ifCond .eq 7, 0, 0, 0, 126, 0),
  (122, 2, .iload 8, 0, 0, 0, 0, 0),
  (124, 2, .istore 6, 0, 0, 0, 0, 0),
  (126, 3, .iinc 7 1, 1, 0, 0, 0, 0),
  (129, 3, .goto (-68), 0, 0, 0, 61, 0),
  (132, 2, .iload 6, 0, 0, 0, 0, 0),
  (134, 3, .ifCond .ge 6, 0, 0, 0, 140, 0),
  (137, 2, .bipush (-2), (-2), 0, 0, 0, 0),
  (139, 1, .ireturn, 0, 0, 0, 0, 0),
  (140, 1, .aload_n 0, 0, 0, 0, 0, 0),
  (141, 3, .getfield 326, 0, 0, 1748, 12, 35),
  (144, 2, .iload 5, 0, 0, 0, 0, 0),
  (146, 2, .iload 6, 0, 0, 0, 0, 0),
  (148, 1, .iastore, 0, 0, 0, 0, 0),
  (149, 2, .iload 4, 0, 0, 0, 0, 0),
  (151, 1, .aload_n 0, 0, 0, 0, 0, 0),
  (152, 2, .iload 6, 0, 0, 0, 0, 0),
  (154, 3, .invokevirtual 212, 0, 0, 1485, 0, 208),
  (157, 1, .iadd, 0, 0, 0, 0, 0),
  (158, 2, .istore 4, 0, 0, 0, 0, 0),
  (160, 3, .iinc 5 1, 1, 0, 0, 0, 0),
  (163, 3, .goto (-114), 0, 0, 0, 49, 0),
  (166, 1, .aload_n 0, 0, 0, 0, 0, 0),
  (167, 1, .iconst 0, 0, 0, 0, 0, 0),
  (168, 3, .putfield 11, 0, 0, 1714, 12, 1),
  (171, 1, .iconst 0, 0, 0, 0, 0, 0),
  (172, 2, .istore 5, 0, 0, 0, 0, 0),
  (174, 1, .iconst 0, 0, 0, 0, 0, 0),
  (175, 2, .istore 6, 0, 0, 0, 0, 0),
  (177, 2, .iload 6, 0, 0, 0, 0, 0),
  (179, 1, .iload_n 1, 0, 0, 0, 0, 0),
  (180, 3, .if_icmp .ge 80, 0, 0, 0, 260, 0),
  (183, 1, .iconst (-1), (-1), 0, 0, 0, 0),
  (184, 2, .istore 7, 0, 0, 0, 0, 0),
  (186, 1, .iconst 0, 0, 0, 0, 0, 0),
  (187, 2, .istore 8, 0, 0, 0, 0, 0),
  (189, 2, .iload 8, 0, 0, 0, 0, 0),
  (191, 1, .iload_n 1, 0, 0, 0, 0, 0),
  (192, 3, .if_icmp .ge 52, 0, 0, 0, 244, 0),
  (195, 1, .aload_n 0, 0, 0, 0, 0, 0),
  (196, 3, .getfield 326, 0, 0, 1748, 12, 35),
  (199, 2, .iload 8, 0, 0, 0, 0, 0),
  (201, 1, .iaload, 0, 0, 0, 0, 0),
  (202, 2, .iload 5, 0, 0, 0, 0, 0),
  (204, 3, .if_icmp .le 30, 0, 0, 0, 234, 0),
  (207, 2, .iload 7, 0, 0, 0, 0, 0),
  (209, 3, .ifCond .lt 15, 0, 0, 0, 224, 0),
  (212, 1, .aload_n 0, 0, 0, 0, 0, 0),
  (213, 3, .getfield 326, 0, 0, 1748, 12, 35),
  (216, 2, .iload 8, 0, 0, 0, 0, 0),
  (218, 1, .iaload, 0, 0, 0, 0, 0),
  (219, 2, .iload 7, 0, 0, 0, 0, 0),
  (221, 3, .if_icmp .ge 13, 0, 0, 0, 234, 0),
  (224, 1, .aload_n 0, 0, 0, 0, 0, 0),
  (225, 3, .getfield 326, 0, 0, 1748, 12, 35),
  (228, 2, .iload 8, 0, 0, 0, 0, 0),
  (230, 1, .iaload, 0, 0, 0, 0, 0),
  (231, 3, .goto 5, 0, 0, 0, 236, 0),
  (234, 2, .iload 7, 0, 0, 0, 0, 0),
  (236, 2, .istore 7, 0, 0, 0, 0, 0),
  (238, 3, .iinc 8 1, 1, 0, 0, 0, 0),
  (241, 3, .goto (-52), 0, 0, 0, 189, 0),
  (244, 1, .aload_n 0, 0, 0, 0, 0, 0),
  (245, 2, .iload 7, 0, 0, 0, 0, 0),
  (247, 3, .invokevirtual 209, 0, 0, 1473, 0, 170),
  (250, 2, .iload 7, 0, 0, 0, 0, 0),
  (252, 2, .istore 5, 0, 0, 0, 0, 0),
  (254, 3, .iinc 6 1, 1, 0, 0, 0, 0),
  (257, 3, .goto (-80), 0, 0, 0, 177, 0),
  (260, 2, .iload 4, 0, 0, 0, 0, 0),
  (262, 1, .ireturn, 0, 0, 0, 0, 0)]
set_option maxRecDepth 100000 in
theorem zk_246 : zt_246.all (zx_chk 246) = true := by decide +kernel
/-- NamesThatShrinkModel.safe(II)I -/
def zt_247 : List zx_En := [
  (0, 1, .aload_n 0, 0, 0, 0, 0, 0),
  (1, 1, .iconst 0, 0, 0, 0, 0, 0),
  (2, 3, .putfield 3, 0, 0, 1713, 12, 0),
  (5, 1, .iload_n 1, 0, 0, 0, 0, 0),
  (6, 1, .i2l, 0, 0, 0, 0, 0),
  (7, 1, .lconst 1, 0, 1, 0, 0, 0),
  (8, 3, .ldc2_w 121, 0, 5, 1392, 0, 0),
  (11, 3, .invokestatic 30, 0, 0, 1321, 2, 167),
  (14, 3, .ifCond .eq 15, 0, 0, 0, 29, 0),
  (17, 1, .iload_n 2, 0, 0, 0, 0, 0),
  (18, 1, .i2l, 0, 0, 0, 0, 0),
  (19, 1, .lconst 0, 0, 0, 0, 0, 0),
  (20, 3, .ldc2_w 236, 0, 8, 1523, 0, 0),
  (23, 3, .invokestatic 30, 0, 0, 1321, 2, 167),
  (26, 3, .ifCond .ne 5, 0, 0, 0, 31, 0),
  (29, 1, .iconst (-1), (-1), 0, 0, 0, 0),
  (30, 1, .ireturn, 0, 0, 0, 0, 0),
  (31, 1, .iconst 0, 0, 0, 0, 0, 0),
  (32, 1, .istore_n 3, 0, 0, 0, 0, 0),
  (33, 1, .iconst 0, 0, 0, 0, 0, 0),
  (34, 2, .istore 4, 0, 0, 0, 0, 0),
  (36, 1, .iconst 0, 0, 0, 0, 0, 0),
  (37, 2, .istore 5, 0, 0, 0, 0, 0),
  (39, 1, .iconst 0, 0, 0, 0, 0, 0),
  (40, 2, .istore 6, 0, 0, 0, 0, 0),
  (42, 2, .iload 6, 0, 0, 0, 0, 0),
  (44, 1, .iload_n 1, 0, 0, 0, 0, 0),
  (45, 3, .invokestatic 331, 0, 0, 1628, 2, 242),
  (48, 3, .if_icmp .ge 73, 0, 0, 0, 121, 0),
  (51, 1, .iload_n 1, 0, 0, 0, 0, 0),
  (52, 2, .iload 6, 0, 0, 0, 0, 0),
  (54, 2, .bipush 6, 6, 0, 0, 0, 0),
  (56, 3, .invokestatic 334, 0, 0, 1631, 2, 243),
  (59, 2, .istore 7, 0, 0, 0, 0, 0),
  (61, 1, .aload_n 0, 0, 0, 0, 0, 0),
  (62, 2, .iload 7, 0, 0, 0, 0, 0),
  (64, 1, .iload_n 2, 0, 0, 0, 0, 0),
  (65, 3, .invokevirtual 338, 0, 0, 1634, 0, 244),
  (68, 3, .ifCond .eq 47, 0, 0, 0, 115, 0),
  (71, 1, .iload_n 3, 0, 0, 0, 0, 0),
  (72, 3, .ifCond .ne 8, 0, 0, 0, 80, 0),
  (75, 2, .iload 7, 0, 0, 0, 0, 0),
  (77, 3, .goto 5, 0, 0, 0, 82, 0),
  (80, 2, .iload 4, 0, 0, 0, 0, 0),
  (82, 2, .istore 4, 0, 0, 0, 0, 0),
  (84, 1, .iload_n 3, 0, 0, 0, 0, 0),
  (85, 3, .ifCond .eq 18, 0, 0, 0, 103, 0),
  (88, 1, .aload_n 0, 0, 0, 0, 0, 0),
  (89, 2, .iload 7, 0, 0, 0, 0, 0),
  (91, 3, .invokevirtual 212, 0, 0, 1485, 0, 208),
  (94, 1, .aload_n 0, 0, 0, 0, 0, 0),
  (95, 2, .iload 5, 0, 0, 0, 0, 0),
  (97, 3, .invokevirtual 212, 0, 0, 1485, 0, 208),
  (100, 3, .if_icmp .ge 8, 0, 0, 0, 108, 0),
  (103, 2, .iload 7, 0, 0, 0, 0, 0),
  (105, 3, .goto 5, 0, 0, 0, 110, 0),
  (108, 2, .iload 5, 0, 0, 0, 0, 0),
  (110, 2, .istore 5, 0, 0, 0, 0, 0),
  (112, 3, .iinc 3 1, 1, 0, 0, 0, 0),
  (115, 3, .iinc 6 1, 1, 0, 0, 0, 0),
  (118, 3, .goto (-76), 0, 0, 0, 42, 0),
  (121, 1, .aload_n 0, 0, 0, 0, 0, 0),
  (122, 1, .iconst 0, 0, 0, 0, 0, 0),
  (123, 3, .putfield 11, 0, 0, 1714, 12, 1),
  (126, 1, .iload_n 3, 0, 0, 0, 0, 0),
  (127, 3, .ifCond .le 15, 0, 0, 0, 142, 0),
  (130, 1, .aload_n 0, 0, 0, 0, 0, 0),
  (131, 2, .iload 4, 0, 0, 0, 0, 0),
  (133, 3, .invokevirtual 209, 0, 0, 1473, 0, 170),
  (136, 1, .aload_n 0, 0, 0, 0, 0, 0),
  (137, 2, .iload 5, 0, 0, 0, 0, 0),
  (139, 3, .invokevirtual 209, 0, 0, 1473, 0, 170),
  (142, 1, .iload_n 3, 0, 0, 0, 0, 0),
  (143, 1, .ireturn, 0, 0, 0, 0, 0)]
set_option maxRecDepth 100000 in
theorem zk_247 : zt_247.all (zx_chk 247) = true := by decide +kernel
/-- NamesThatShrinkModel.heardBy(I)I -/
def zt_248 : List zx_En := [
  (0, 1, .iload_n 1, 0, 0, 0, 0, 0),
  (1, 1, .istore_n 2, 0, 0, 0, 0, 0),
  (2, 1, .iconst 0, 0, 0, 0, 0, 0),
  (3, 1, .istore_n 3, 0, 0, 0, 0, 0),
  (4, 1, .iload_n 3, 0, 0, 0, 0, 0),
  (5, 1, .aload_n 0, 0, 0, 0, 0, 0),
  (6, 3, .getfield 344, 0, 0, 1750, 12, 37),
  (9, 3, .if_icmp .ge 53, 0, 0, 0, 62, 0),
  (12, 1, .iload_n 2, 0, 0, 0, 0, 0),
  (13, 1, .aload_n 0, 0, 0, 0, 0, 0),
  (14, 3, .getfield 347, 0, 0, 1751, 12, 38),
  (17, 1, .iload_n 3, 0, 0, 0, 0, 0),
  (18, 1, .iaload, 0, 0, 0, 0, 0),
  (19, 3, .if_icmp .ne 7, 0, 0, 0, 26, 0),
  (22, 1, .iconst 1, 1, 0, 0, 0, 0),
  (23, 3, .goto 4, 0, 0, 0, 27, 0),
  (26, 1, .iconst 0, 0, 0, 0, 0, 0),
  (27, 2, .istore 4, 0, 0, 0, 0, 0),
  (29, 2, .iload 4, 0, 0, 0, 0, 0),
  (31, 1, .aload_n 0, 0, 0, 0, 0, 0),
  (32, 3, .getfield 350, 0, 0, 1752, 12, 39),
  (35, 1, .iload_n 3, 0, 0, 0, 0, 0),
  (36, 1, .baload, 0, 0, 0, 23, 0),
  (37, 3, .if_icmp .eq 5, 0, 0, 0, 42, 0),
  (40, 1, .iconst (-1), (-1), 0, 0, 0, 0),
  (41, 1, .ireturn, 0, 0, 0, 0, 0),
  (42, 2, .iload 4, 0, 0, 0, 0, 0),
  (44, 3, .ifCond .eq 10, 0, 0, 0, 54, 0),
  (47, 1, .iload_n 2, 0, 0, 0, 0, 0),
  (48, 2, .bipush 7, 7, 0, 0, 0, 0),
  (50, 1, .idiv, 0, 0, 0, 0, 0),
  (51, 3, .goto 4, 0, 0, 0, 55, 0),
  (54, 1, .iload_n 2, 0, 0, 0, 0, 0),
  (55, 1, .istore_n 2, 0, 0, 0, 0, 0),
  (56, 3, .iinc 3 1, 1, 0, 0, 0, 0),
  (59, 3, .goto (-55), 0, 0, 0, 4, 0),
  (62, 1, .iload_n 2, 0, 0, 0, 0, 0),
  (63, 1, .ireturn, 0, 0, 0, 0, 0)]
set_option maxRecDepth 100000 in
theorem zk_248 : zt_248.all (zx_chk 248) = true := by decide +kernel
/-- NamesThatShrinkModel.listens()V -/
def zt_249 : List zx_En := [
  (0, 1, .aload_n 0, 0, 0, 0, 0, 0),
  (1, 1, .iconst 0, 0, 0, 0, 0, 0),
  (2, 3, .putfield 353, 0, 0, 1757, 12, 44),
  (5, 1, .iconst 1, 1, 0, 0, 0, 0),
  (6, 1, .istore_n 1, 0, 0, 0, 0, 0),
  (7, 1, .iconst 1, 1, 0, 0, 0, 0),
  (8, 1, .istore_n 2, 0, 0, 0, 0, 0),
  (9, 1, .iload_n 2, 0, 0, 0, 0, 0),
  (10, 1, .iconst 5, 5, 0, 0, 0, 0),
  (11, 3, .if_icmp .gt 85, 0, 0, 0, 96, 0),
  (14, 1, .iload_n 1, 0, 0, 0, 0, 0),
  (15, 1, .aload_n 0, 0, 0, 0, 0, 0),
  (16, 3, .getfield 356, 0, 0, 1749, 12, 36),
  (19, 1, .imul, 0, 0, 0, 0, 0),
  (20, 1, .istore_n 1, 0, 0, 0, 0, 0),
  (21, 1, .iconst 0, 0, 0, 0, 0, 0),
  (22, 1, .istore_n 3, 0, 0, 0, 0, 0),
  (23, 1, .iload_n 3, 0, 0, 0, 0, 0),
  (24, 1, .iload_n 1, 0, 0, 0, 0, 0),
  (25, 3, .if_icmp .ge 65, 0, 0, 0, 90, 0),
  (28, 1, .iload_n 2, 0, 0, 0, 0, 0),
  (29, 1, .iload_n 3, 0, 0, 0, 0, 0),
  (30, 1, .aload_n 0, 0, 0, 0, 0, 0),
  (31, 3, .getfield 356, 0, 0, 1749, 12, 36),
  (34, 3, .invokestatic 334, 0, 0, 1631, 2, 243),
  (37, 2, .istore 4, 0, 0, 0, 0, 0),
  (39, 1, .aload_n 0, 0, 0, 0, 0, 0),
  (40, 2, .iload 4, 0, 0, 0, 0, 0),
  (42, 3, .invokevirtual 359, 0, 0, 1654, 0, 248),
  (45, 2, .istore 5, 0, 0, 0, 0, 0),
  (47, 2, .iload 5, 0, 0, 0, 0, 0),
  (49, 3, .ifCond .lt 35, 0, 0, 0, 84, 0),
  (52, 1, .aload_n 0, 0, 0, 0, 0, 0),
  (53, 3, .getfield 362, 0, 0, 1753, 12, 40),
  (56, 1, .aload_n 0, 0, 0, 0, 0, 0),
  (57, 3, .getfield 353, 0, 0, 1757, 12, 44),
  (60, 2, .iload 4, 0, 0, 0, 0, 0),
  (62, 1, .iastore, 0, 0, 0, 0, 0),
  (63, 1, .aload_n 0, 0, 0, 0, 0, 0),
  (64, 3, .getfield 365, 0, 0, 1754, 12, 41),
  (67, 1, .aload_n 0, 0, 0, 0, 0, 0),
  (68, 3, .getfield 353, 0, 0, 1757, 12, 44),
  (71, 2, .iload 5, 0, 0, 0, 0, 0),
  (73, 1, .iastore, 0, 0, 0, 0, 0),
  (74, 1, .aload_n 0, 0, 0, 0, 0, 0),
  (75, 1, .dup, 0, 0, 0, 0, 0),
  (76, 3, .getfield 353, 0, 0, 1757, 12, 44),
  (79, 1, .iconst 1, 1, 0, 0, 0, 0),
  (80, 1, .iadd, 0, 0, 0, 0, 0),
  (81, 3, .putfield 353, 0, 0, 1757, 12, 44),
  (84, 3, .iinc 3 1, 1, 0, 0, 0, 0),
  (87, 3, .goto (-64), 0, 0, 0, 23, 0),
  (90, 3, .iinc 2 1, 1, 0, 0, 0, 0),
  (93, 3, .goto (-84), 0, 0, 0, 9, 0),
  (96, 1, .return_, 0, 0, 0, 0, 0)]
set_option maxRecDepth 100000 in
theorem zk_249 : zt_249.all (zx_chk 249) = true := by decide +kernel
/-- NamesThatShrinkModel.sorts(II)V -/
def zt_250 : List zx_En := [
  (0, 1, .iload_n 2, 0, 0, 0, 0, 0),
  (1, 1, .iload_n 1, 0, 0, 0, 0, 0),
  (2, 1, .isub, 0, 0, 0, 0, 0),
  (3, 1, .iconst 2, 2, 0, 0, 0, 0),
  (4, 3, .if_icmp .ge 4, 0, 0, 0, 8, 0),
  (7, 1, .return_, 0, 0, 0, 0, 0),
  (8, 1, .iload_n 1, 0, 0, 0, 0, 0),
  (9, 1, .iload_n 2, 0, 0, 0, 0, 0),
  (10, 1, .iadd, 0, 0, 0, 0, 0),
  (11, 1, .iconst 2, 2, 0, 0, 0, 0),
  (12, 1, .idiv, 0, 0, 0, 0, 0),
  (13, 1, .istore_n 3, 0, 0, 0, 0, 0),
  (14, 1, .aload_n 0, 0, 0, 0, 0, 0),
  (15, 1, .iload_n 1, 0, 0, 0, 0, 0),
  (16, 1, .iload_n 3, 0, 0, 0, 0, 0),
  (17, 3, .invokevirtual 368, 0, 0, 1670, 0, 250),
  (20, 1, .aload_n 0, 0, 0, 0, 0, 0),
  (21, 1, .iload_n 3, 0, 0, 0, 0, 0),
  (22, 1, .iload_n 2, 0, 0, 0, 0, 0),
  (23, 3, .invokevirtual 368, 0, 0, 1670, 0, 250),
  (26, 1, .iload_n 1, 0, 0, 0, 0, 0),
  (27, 2, .istore 4, 0, 0, 0, 0, 0),
  (29, 1, .iload_n 3, 0, 0, 0, 0, 0),
  (30, 2, .istore 5, 0, 0, 0, 0, 0),
  (32, 1, .iload_n 1, 0, 0, 0, 0, 0),
  (33, 2, .istore 6, 0, 0, 0, 0, 0),
  (35, 2, .iload 6, 0, 0, 0, 0, 0),
  (37, 1, .iload_n 2, 0, 0, 0, 0, 0),
  (38, 3, .if_icmp .ge 102, 0, 0, 0, 140, 0),
  (41, 2, .iload 5, 0, 0, 0, 0, 0),
  (43, 1, .iload_n 2, 0, 0, 0, 0, 0),
  (44, 3, .if_icmp .eq 26, 0, 0, 0, 70, 0),
  (47, 2, .iload 4, 0, 0, 0, 0, 0),
  (49, 1, .iload_n 3, 0, 0, 0, 0, 0),
  (50, 3, .if_icmp .ge 24, 0, 0, 0, 74, 0),
  (53, 1, .aload_n 0, 0, 0, 0, 0, 0),
  (54, 3, .getfield 371, 0, 0, 1755, 12, 42),
  (57, 2, .iload 4, 0, 0, 0, 0, 0),
  (59, 1, .iaload, 0, 0, 0, 0, 0),
  (60, 1, .aload_n 0, 0, 0, 0, 0, 0),
  (61, 3, .getfield 371, 0, 0, 1755, 12, 42),
  (64, 2, .iload 5, 0, 0, 0, 0, 0),
  (66, 1, .iaload, 0, 0, 0, 0, 0),
  (67, 3, .if_icmp .gt 7, 0, 0, 0, 74, 0),
  (70, 1, .iconst 1, 1, 0, 0, 0, 0),
  (71, 3, .goto 4, 0, 0, 0, 75, 0),
  (74, 1, .iconst 0, 0, 0, 0, 0, 0),
  (75, 2, .istore 7, 0, 0, 0, 0, 0),
  (77, 1, .aload_n 0, 0, 0, 0, 0, 0),
  (78, 3, .getfield 374, 0, 0, 1756, 12, 43),
  (81, 2, .iload 6, 0, 0, 0, 0, 0),
  (83, 2, .iload 7, 0, 0, 0, 0, 0),
  (85, 3, .ifCond .eq 13, 0, 0, 0, 98, 0),
  (88, 1, .aload_n 0, 0, 0, 0, 0, 0),
  (89, 3, .getfield 371, 0, 0, 1755, 12, 42),
  (92, 2, .iload 4, 0, 0, 0, 0, 0),
  (94, 1, .iaload, 0, 0, 0, 0, 0),
  (95, 3, .goto 10, 0, 0, 0, 105, 0),
  (98, 1, .aload_n 0, 0, 0, 0, 0, 0),
  (99, 3, .getfield 371, 0, 0, 1755, 12, 42),
  (102, 2, .iload 5, 0, 0, 0, 0, 0),
  (104, 1, .iaload, 0, 0, 0, 0, 0),
  (105, 1, .iastore, 0, 0, 0, 0, 0),
  (106, 2, .iload 4, 0, 0, 0, 0, 0),
  (108, 2, .iload 7, 0, 0, 0, 0, 0),
  (110, 3, .invokestatic 49, 0, 0, 1352, 2, 169),
  (113, 1, .iadd, 0, 0, 0, 0, 0),
  (114, 2, .istore 4, 0, 0, 0, 0, 0),
  (116, 2, .iload 5, 0, 0, 0, 0, 0),
  (118, 2, .iload 7, 0, 0, 0, 0, 0),
  (120, 3, .ifCond .ne 7, 0, 0, 0, 127, 0),
  (123, 1, .iconst 1, 1, 0, 0, 0, 0),
  (124, 3, .goto 4, 0, 0, 0, 128, 0),
  (127, 1, .iconst 0, 0, 0, 0, 0, 0),
  (128, 3, .invokestatic 49, 0, 0, 1352, 2, 169),
  (131, 1, .iadd, 0, 0, 0, 0, 0),
  (132, 2, .istore 5, 0, 0, 0, 0, 0),
  (134, 3, .iinc 6 1, 1, 0, 0, 0, 0),
  (137, 3, .goto (-102), 0, 0, 0, 35, 0),
  (140, 1, .iload_n 1, 0, 0, 0, 0, 0),
  (141, 2, .istore 6, 0, 0, 0, 0, 0),
  (143, 2, .iload 6, 0, 0, 0, 0, 0),
  (145, 1, .iload_n 2, 0, 0, 0, 0, 0),
  (146, 3, .if_icmp .ge 23, 0, 0, 0, 169, 0),
  (149, 1, .aload_n 0, 0, 0, 0, 0, 0),
  (150, 3, .getfield 371, 0, 0, 1755, 12, 42),
  (153, 2, .iload 6, 0, 0, 0, 0, 0),
  (155, 1, .aload_n 0, 0, 0, 0, 0, 0),
  (156, 3, .getfield 374, 0, 0, 1756, 12, 43),
  (159, 2, .iload 6, 0, 0, 0, 0, 0),
  (161, 1, .iaload, 0, 0, 0, 0, 0),
  (162, 1, .iastore, 0, 0, 0, 0, 0),
  (163, 3, .iinc 6 1, 1, 0, 0, 0, 0),
  (166, 3, .goto (-23), 0, 0, 0, 143, 0),
  (169, 1, .return_, 0, 0, 0, 0, 0)]
set_option maxRecDepth 100000 in
theorem zk_250 : zt_250.all (zx_chk 250) = true := by decide +kernel
/-- NamesThatShrinkModel.listen(I)I -/
def zt_251 : List zx_En := [
  (0, 1, .aload_n 0, 0, 0, 0, 0, 0),
  (1, 1, .iconst 0, 0, 0, 0, 0, 0),
  (2, 3, .putfield 3, 0, 0, 1713, 12, 0),
  (5, 1, .iload_n 1, 0, 0, 0, 0, 0),
  (6, 1, .i2l, 0, 0, 0, 0, 0),
  (7, 1, .lconst 1, 0, 1, 0, 0, 0),
  (8, 3, .ldc2_w 329, 0, 6, 1627, 0, 0),
  (11, 3, .invokestatic 30, 0, 0, 1321, 2, 167),
  (14, 3, .ifCond .ne 5, 0, 0, 0, 19, 0),
  (17, 1, .iconst (-1), (-1), 0, 0, 0, 0),
  (18, 1, .ireturn, 0, 0, 0, 0, 0),
  (19, 1, .aload_n 0, 0, 0, 0, 0, 0),
  (20, 1, .iload_n 1, 0, 0, 0, 0, 0),
  (21, 3, .putfield 356, 0, 0, 1749, 12, 36),
  (24, 1, .aload_n 0, 0, 0, 0, 0, 0),
  (25, 1, .iconst 0, 0, 0, 0, 0, 0),
  (26, 3, .putfield 344, 0, 0, 1750, 12, 37),
  (29, 1, .aload_n 0, 0, 0, 0, 0, 0),
  (30, 3, .invokevirtual 377, 0, 0, 1650, 0, 249),
  (33, 1, .aload_n 0, 0, 0, 0, 0, 0),
  (34, 3, .getfield 353, 0, 0, 1757, 12, 44),
  (37, 1, .ireturn, 0, 0, 0, 0, 0)]
set_option maxRecDepth 100000 in
theorem zk_251 : zt_251.all (zx_chk 251) = true := by decide +kernel
/-- NamesThatShrinkModel.hears(IZ)I -/
def zt_252 : List zx_En := [
  (0, 1, .aload_n 0, 0, 0, 0, 0, 0),
  (1, 1, .iconst 0, 0, 0, 0, 0, 0),
  (2, 3, .putfield 3, 0, 0, 1713, 12, 0),
  (5, 1, .iload_n 1, 0, 0, 0, 0, 0),
  (6, 3, .invokestatic 152, 0, 0, 1399, 2, 192),
  (9, 3, .ifCond .ne 5, 0, 0, 0, 14, 0),
  (12, 1, .iconst (-1), (-1), 0, 0, 0, 0),
  (13, 1, .ireturn, 0, 0, 0, 0, 0),
  (14, 1, .aload_n 0, 0, 0, 0, 0, 0),
  (15, 3, .getfield 344, 0, 0, 1750, 12, 37),
  (18, 2, .bipush 40, 40, 0, 0, 0, 0),
  (20, 3, .if_icmp .ne 6, 0, 0, 0, 26, 0),
  (23, 2, .bipush (-2), (-2), 0, 0, 0, 0),
  (25, 1, .ireturn, 0, 0, 0, 0, 0),
  (26, 1, .aload_n 0, 0, 0, 0, 0, 0),
  (27, 3, .getfield 347, 0, 0, 1751, 12, 38),
  (30, 1, .aload_n 0, 0, 0, 0, 0, 0),
  (31, 3, .getfield 344, 0, 0, 1750, 12, 37),
  (34, 1, .iload_n 1, 0, 0, 0, 0, 0),
  (35, 1, .iastore, 0, 0, 0, 0, 0),
  (36, 1, .aload_n 0, 0, 0, 0, 0, 0),
  (37, 3, .getfield 350, 0, 0, 1752, 12, 39),
  (40, 1, .aload_n 0, 0, 0, 0, 0, 0),
  (41, 3, .getfield 344, 0, 0, 1750, 12, 37),
  (44, 1, .iload_n 2, 0, 0, 0, 0, 0),
  (45, 1, .bastore, 0, 0, 0, 23, 0),
  (46, 1, .aload_n 0, 0, 0, 0, 0, 0),
  (47, 1, .dup, 0, 0, 0, 0, 0),
  (48, 3, .getfield 344, 0, 0, 1750, 12, 37),
  (51, 1, .iconst 1, 1, 0, 0, 0, 0),
  (52, 1, .iadd, 0, 0, 0, 0, 0),
  (53, 3, .putfield 344, 0, 0, 1750, 12, 37),
  (56, 1, .aload_n 0, 0, 0, 0, 0, 0),
  (57, 3, .invokevirtual 377, 0, 0, 1650, 0, 249),
  (60, 1, .aload_n 0, 0, 0, 0, 0, 0),
  (61, 1, .iconst 0, 0, 0, 0, 0, 0),
  (62, 3, .putfield 11, 0, 0, 1714, 12, 1),
  (65, 1, .aload_n 0, 0, 0, 0, 0, 0),
  (66, 3, .getfield 353, 0, 0, 1757, 12, 44),
  (69, 3, .ifCond .le 13, 0, 0, 0, 82, 0),
  (72, 1, .aload_n 0, 0, 0, 0, 0, 0),
  (73, 1, .aload_n 0, 0, 0, 0, 0, 0),
  (74, 3, .getfield 362, 0, 0, 1753, 12, 40),
  (77, 1, .iconst 0, 0, 0, 0, 0, 0),
  (78, 1, .iaload, 0, 0, 0, 0, 0),
  (79, 3, .invokevirtual 209, 0, 0, 1473, 0, 170),
  (82, 1, .aload_n 0, 0, 0, 0, 0, 0),
  (83, 3, .getfield 353, 0, 0, 1757, 12, 44),
  (86, 1, .ireturn, 0, 0, 0, 0, 0)]
set_option maxRecDepth 100000 in
theorem zk_252 : zt_252.all (zx_chk 252) = true := by decide +kernel
/-- NamesThatShrinkModel.runs()I -/
def zt_253 : List zx_En := [
  (0, 1, .aload_n 0, 0, 0, 0, 0, 0),
  (1, 3, .invokevirtual 377, 0, 0, 1650, 0, 249),
  (4, 1, .iconst 0, 0, 0, 0, 0, 0),
  (5, 1, .istore_n 1, 0, 0, 0, 0, 0),
  (6, 1, .iload_n 1, 0, 0, 0, 0, 0),
  (7, 1, .aload_n 0, 0, 0, 0, 0, 0),
  (8, 3, .getfield 353, 0, 0, 1757, 12, 44),
  (11, 3, .if_icmp .ge 21, 0, 0, 0, 32, 0),
  (14, 1, .aload_n 0, 0, 0, 0, 0, 0),
  (15, 3, .getfield 371, 0, 0, 1755, 12, 42),
  (18, 1, .iload_n 1, 0, 0, 0, 0, 0),
  (19, 1, .aload_n 0, 0, 0, 0, 0, 0),
  (20, 3, .getfield 365, 0, 0, 1754, 12, 41),
  (23, 1, .iload_n 1, 0, 0, 0, 0, 0),
  (24, 1, .iaload, 0, 0, 0, 0, 0),
  (25, 1, .iastore, 0, 0, 0, 0, 0),
  (26, 3, .iinc 1 1, 1, 0, 0, 0, 0),
  (29, 3, .goto (-23), 0, 0, 0, 6, 0),
  (32, 1, .aload_n 0, 0, 0, 0, 0, 0),
  (33, 1, .iconst 0, 0, 0, 0, 0, 0),
  (34, 1, .aload_n 0, 0, 0, 0, 0, 0),
  (35, 3, .getfield 353, 0, 0, 1757, 12, 44),
  (38, 3, .invokevirtual 368, 0, 0, 1670, 0, 250),
  (41, 1, .iconst 0, 0, 0, 0, 0, 0),
  (42, 1, .istore_n 1, 0, 0, 0, 0, 0),
  (43, 1, .iconst 0, 0, 0, 0, 0, 0),
  (44, 1, .istore_n 2, 0, 0, 0, 0, 0),
  (45, 1, .aload_n 0, 0, 0, 0, 0, 0),
  (46, 1, .iconst 0, 0, 0, 0, 0, 0),
  (47, 3, .putfield 380, 0, 0, 1759, 12, 46),
  (50, 1, .iconst 0, 0, 0, 0, 0, 0),
  (51, 1, .istore_n 3, 0, 0, 0, 0, 0),
  (52, 1, .iload_n 3, 0, 0, 0, 0, 0),
  (53, 1, .aload_n 0, 0, 0, 0, 0, 0),
  (54, 3, .getfield 353, 0, 0, 1757, 12, 44),
  (57, 3, .if_icmp .ge 95, 0, 0, 0, 152, 0),
  (60, 1, .iload_n 3, 0, 0, 0, 0, 0),
  (61, 3, .ifCond .eq 20, 0, 0, 0, 81, 0),
  (64, 1, .aload_n 0, 0, 0, 0, 0, 0),
  (65, 3, .getfield 371, 0, 0, 1755, 12, 42),
  (68, 1, .iload_n 3, 0, 0, 0, 0, 0),
  (69, 1, .iaload, 0, 0, 0, 0, 0),
  (70, 1, .aload_n 0, 0, 0, 0, 0, 0),
  (71, 3, .getfield 371, 0, 0, 1755, 12, 42),
  (74, 1, .iload_n 3, 0, 0, 0, 0, 0),
  (75, 1, .iconst 1, 1, 0, 0, 0, 0),
  (76, 1, .isub, 0, 0, 0, 0, 0),
  (77, 1, .iaload, 0, 0, 0, 0, 0),
  (78, 3, .if_icmp .eq 7, 0, 0, 0, 85, 0),
  (81, 1, .iconst 1, 1, 0, 0, 0, 0),
  (82, 3, .goto 4, 0, 0, 0, 86, 0),
  (85, 1, .iconst 0, 0, 0, 0, 0, 0),
  (86, 2, .istore 4, 0, 0, 0, 0, 0),
  (88, 1, .iload_n 1, 0, 0, 0, 0, 0),
  (89, 2, .iload 4, 0, 0, 0, 0, 0),
  (91, 3, .invokestatic 49, 0, 0, 1352, 2, 169),
  (94, 1, .iadd, 0, 0, 0, 0, 0),
  (95, 1, .istore_n 1, 0, 0, 0, 0, 0),
  (96, 2, .iload 4, 0, 0, 0, 0, 0),
  (98, 3, .ifCond .eq 7, 0, 0, 0, 105, 0),
  (101, 1, .iconst 1, 1, 0, 0, 0, 0),
  (102, 3, .goto 6, 0, 0, 0, 108, 0),
  (105, 1, .iload_n 2, 0, 0, 0, 0, 0),
  (106, 1, .iconst 1, 1, 0, 0, 0, 0),
  (107, 1, .iadd, 0, 0, 0, 0, 0),
  (108, 1, .istore_n 2, 0, 0, 0, 0, 0),
  (109, 1, .aload_n 0, 0, 0, 0, 0, 0),
  (110, 1, .iload_n 2, 0, 0, 0, 0, 0),
  (111, 1, .aload_n 0, 0, 0, 0, 0, 0),
  (112, 3, .getfield 380, 0, 0, 1759, 12, 46),
  (115, 3, .if_icmp .le 12, 0, 0, 0, 127, 0),
  (118, 1, .aload_n 0, 0, 0, 0, 0, 0),
  (119, 3, .getfield 371, 0, 0, 1755, 12, 42),
  (122, 1, .iload_n 3, 0, 0, 0, 0, 0),
  (123, 1, .iaload, 0, 0, 0, 0, 0),
  (124, 3, .goto 7, 0, 0, 0, 131, 0),
  (127, 1, .aload_n 0, 0, 0, 0, 0, 0),
  (128, 3, .getfield 383, 0, 0, 1758, 12, 45),
  (131, 3, .putfield 383, 0, 0, 1758, 12, 45),
  (134, 1, .aload_n 0, 0, 0, 0, 0, 0),
  (135, 1, .aload_n 0, 0, 0, 0, 0, 0),
  (136, 3, .getfield 380, 0, 0, 1759, 12, 46),
  (139, 1, .iload_n 2, 0, 0, 0, 0, 0),
  (140, 3, .invokestatic 386, 0, 0, 1674, 7, 0),
  (143, 3, .putfield 380, 0, 0, 1759, 12, 46),
  (146, 3, .iinc 3 1, 1, 0, 0, 0, 0),
  (149, 3, .goto (-97), 0, 0, 0, 52, 0),
  (152, 1, .iload_n 1, 0, 0, 0, 0, 0),
  (153, 1, .ireturn, 0, 0, 0, 0, 0)]
set_option maxRecDepth 100000 in
theorem zk_253 : zt_253.all (zx_chk 253) = true := by decide +kernel
/-- NamesThatShrinkModel.knows()I -/
def zt_254 : List zx_En := [
  (0, 1, .aload_n 0, 0, 0, 0, 0, 0),
  (1, 1, .iconst 0, 0, 0, 0, 0, 0),
  (2, 3, .putfield 3, 0, 0, 1713, 12, 0),
  (5, 1, .aload_n 0, 0, 0, 0, 0, 0),
  (6, 3, .invokevirtual 389, 0, 0, 1666, 0, 253),
  (9, 1, .istore_n 1, 0, 0, 0, 0, 0),
  (10, 1, .iload_n 1, 0, 0, 0, 0, 0),
  (11, 3, .ifCond .ne 6, 0, 0, 0, 17, 0),
  (14, 2, .bipush (-2), (-2), 0, 0, 0, 0),
  (16, 1, .ireturn, 0, 0, 0, 0, 0),
  (17, 1, .aload_n 0, 0, 0, 0, 0, 0),
  (18, 1, .iconst 0, 0, 0, 0, 0, 0),
  (19, 3, .putfield 11, 0, 0, 1714, 12, 1),
  (22, 1, .aload_n 0, 0, 0, 0, 0, 0),
  (23, 1, .aload_n 0, 0, 0, 0, 0, 0),
  (24, 3, .getfield 383, 0, 0, 1758, 12, 45),
  (27, 3, .invokevirtual 209, 0, 0, 1473, 0, 170),
  (30, 1, .aload_n 0, 0, 0, 0, 0, 0),
  (31, 1, .aload_n 0, 0, 0, 0, 0, 0),
  (32, 3, .getfield 380, 0, 0, 1759, 12, 46),
  (35, 3, .invokevirtual 209, 0, 0, 1473, 0, 170),
  (38, 1, .iload_n 1, 0, 0, 0, 0, 0),
  (39, 1, .ireturn, 0, 0, 0, 0, 0)]
set_option maxRecDepth 100000 in
theorem zk_254 : zt_254.all (zx_chk 254) = true := by decide +kernel
/-- NamesThatShrinkModel.asks()I -/
def zt_255 : List zx_En := [
  (0, 1, .aload_n 0, 0, 0, 0, 0, 0),
  (1, 1, .iconst 0, 0, 0, 0, 0, 0),
  (2, 3, .putfield 3, 0, 0, 1713, 12, 0),
  (5, 1, .aload_n 0, 0, 0, 0, 0, 0),
  (6, 3, .invokevirtual 389, 0, 0, 1666, 0, 253),
  (9, 3, .ifCond .ne 6, 0, 0, 0, 15, 0),
  (12, 2, .bipush (-2), (-2), 0, 0, 0, 0),
  (14, 1, .ireturn, 0, 0, 0, 0, 0),
  (15, 1, .iconst 1, 1, 0, 0, 0, 0),
  (16, 1, .istore_n 1, 0, 0, 0, 0, 0),
  (17, 1, .aload_n 0, 0, 0, 0, 0, 0),
  (18, 3, .getfield 353, 0, 0, 1757, 12, 44),
  (21, 1, .istore_n 2, 0, 0, 0, 0, 0),
  (22, 1, .iconst 0, 0, 0, 0, 0, 0),
  (23, 1, .istore_n 3, 0, 0, 0, 0, 0),
  (24, 1, .iconst 0, 0, 0, 0, 0, 0),
  (25, 2, .istore 4, 0, 0, 0, 0, 0),
  (27, 2, .iload 4, 0, 0, 0, 0, 0),
  (29, 1, .aload_n 0, 0, 0, 0, 0, 0),
  (30, 3, .getfield 353, 0, 0, 1757, 12, 44),
  (33, 3, .if_icmp .ge 126, 0, 0, 0, 159, 0),
  (36, 2, .iload 4, 0, 0, 0, 0, 0),
  (38, 3, .ifCond .eq 22, 0, 0, 0, 60, 0),
  (41, 1, .aload_n 0, 0, 0, 0, 0, 0),
  (42, 3, .getfield 371, 0, 0, 1755, 12, 42),
  (45, 2, .iload 4, 0, 0, 0, 0, 0),
  (47, 1, .iaload, 0, 0, 0, 0, 0),
  (48, 1, .aload_n 0, 0, 0, 0, 0, 0),
  (49, 3, .getfield 371, 0, 0, 1755, 12, 42),
  (52, 2, .iload 4, 0, 0, 0, 0, 0),
  (54, 1, .iconst 1, 1, 0, 0, 0, 0),
  (55, 1, .isub, 0, 0, 0, 0, 0),
  (56, 1, .iaload, 0, 0, 0, 0, 0),
  (57, 3, .if_icmp .eq 7, 0, 0, 0, 64, 0),
  (60, 1, .iconst 1, 1, 0, 0, 0, 0),
  (61, 3, .goto 6, 0, 0, 0, 67, 0),
  (64, 1, .iload_n 3, 0, 0, 0, 0, 0),
  (65, 1, .iconst 1, 1, 0, 0, 0, 0),
  (66, 1, .iadd, 0, 0, 0, 0, 0),
  (67, 1, .istore_n 3, 0, 0, 0, 0, 0),
  (68, 2, .iload 4, 0, 0, 0, 0, 0),
  (70, 1, .aload_n 0, 0, 0, 0, 0, 0),
  (71, 3, .getfield 353, 0, 0, 1757, 12, 44),
  (74, 1, .iconst 1, 1, 0, 0, 0, 0),
  (75, 1, .isub, 0, 0, 0, 0, 0),
  (76, 3, .if_icmp .eq 22, 0, 0, 0, 98, 0),
  (79, 1, .aload_n 0, 0, 0, 0, 0, 0),
  (80, 3, .getfield 371, 0, 0, 1755, 12, 42),
  (83, 2, .iload 4, 0, 0, 0, 0, 0),
  (85, 1, .iconst 1, 1, 0, 0, 0, 0),
  (86, 1, .iadd, 0, 0, 0, 0, 0),
  (87, 1, .iaload, 0, 0, 0, 0, 0),
  (88, 1, .aload_n 0, 0, 0, 0, 0, 0),
  (89, 3, .getfield 371, 0, 0, 1755, 12, 42),
  (92, 2, .iload 4, 0, 0, 0, 0, 0),
  (94, 1, .iaload, 0, 0, 0, 0, 0),
  (95, 3, .if_icmp .eq 7, 0, 0, 0, 102, 0),
  (98, 1, .iconst 1, 1, 0, 0, 0, 0),
  (99, 3, .goto 4, 0, 0, 0, 103, 0),
  (102, 1, .iconst 0, 0, 0, 0, 0, 0),
  (103, 2, .istore 5, 0, 0, 0, 0, 0),
  (105, 2, .iload 5, 0, 0, 0, 0, 0),
  (107, 3, .ifCond .eq 46, 0, 0, 0, 153, 0),
  (110, 1, .aload_n 0, 0, 0, 0, 0, 0),
  (111, 3, .getfield 371, 0, 0, 1755, 12, 42),
  (114, 2, .iload 4, 0, 0, 0, 0, 0),
  (116, 1, .iaload, 0, 0, 0, 0, 0),
  (117, 3, .ifCond .le 36, 0, 0, 0, 153, 0),
  (120, 1, .iload_n 3, 0, 0, 0, 0, 0),
  (121, 1, .aload_n 0, 0, 0, 0, 0, 0),
  (122, 3, .getfield 353, 0, 0, 1757, 12, 44),
  (125, 1, .iload_n 3, 0, 0, 0, 0, 0),
  (126, 1, .isub, 0, 0, 0, 0, 0),
  (127, 3, .invokestatic 386, 0, 0, 1674, 7, 0),
  (130, 1, .iload_n 2, 0, 0, 0, 0, 0),
  (131, 3, .if_icmp .ge 22, 0, 0, 0, 153, 0),
  (134, 1, .aload_n 0, 0, 0, 0, 0, 0),
  (135, 3, .getfield 371, 0, 0, 1755, 12, 42),
  (138, 2, .iload 4, 0, 0, 0, 0, 0),
  (140, 1, .iaload, 0, 0, 0, 0, 0),
  (141, 1, .istore_n 1, 0, 0, 0, 0, 0),
  (142, 1, .iload_n 3, 0, 0, 0, 0, 0),
  (143, 1, .aload_n 0, 0, 0, 0, 0, 0),
  (144, 3, .getfield 353, 0, 0, 1757, 12, 44),
  (147, 1, .iload_n 3, 0, 0, 0, 0, 0),
  (148, 1, .isub, 0, 0, 0, 0, 0),
  (149, 3, .invokestatic 386, 0, 0, 1674, 7, 0),
  (152, 1, .istore_n 2, 0, 0, 0, 0, 0),
  (153, 3, .iinc 4 1, 1, 0, 0, 0, 0),
  (156, 3, .goto (-129), 0, 0, 0, 27, 0),
  (159, 1, .aload_n 0, 0, 0, 0, 0, 0),
  (160, 1, .iconst 0, 0, 0, 0, 0, 0),
  (161, 3, .putfield 11, 0, 0, 1714, 12, 1),
  (164, 1, .aload_n 0, 0, 0, 0, 0, 0),
  (165, 1, .iload_n 2, 0, 0, 0, 0, 0),
  (166, 3, .invokevirtual 209, 0, 0, 1473, 0, 170),
  (169, 1, .iload_n 1, 0, 0, 0, 0, 0),
  (170, 1, .ireturn, 0, 0, 0, 0, 0)]
set_option maxRecDepth 100000 in
theorem zk_255 : zt_255.all (zx_chk 255) = true := by decide +kernel
/-- NamesThatShrinkModel.forget()I -/
def zt_256 : List zx_En := [
  (0, 1, .aload_n 0, 0, 0, 0, 0, 0),
  (1, 1, .iconst 0, 0, 0, 0, 0, 0),
  (2, 3, .putfield 3, 0, 0, 1713, 12, 0),
  (5, 1, .aload_n 0, 0, 0, 0, 0, 0),
  (6, 3, .getfield 344, 0, 0, 1750, 12, 37),
  (9, 3, .ifCond .ne 5, 0, 0, 0, 14, 0),
  (12, 1, .iconst (-1), (-1), 0, 0, 0, 0),
  (13, 1, .ireturn, 0, 0, 0, 0, 0),
  (14, 1, .aload_n 0, 0, 0, 0, 0, 0),
  (15, 1, .dup, 0, 0, 0, 0, 0),
  (16, 3, .getfield 344, 0, 0, 1750, 12, 37),
  (19, 1, .iconst 1, 1, 0, 0, 0, 0),
  (20, 1, .isub, 0, 0, 0, 0, 0),
  (21, 3, .putfield 344, 0, 0, 1750, 12, 37),
  (24, 1, .aload_n 0, 0, 0, 0, 0, 0),
  (25, 3, .getfield 344, 0, 0, 1750, 12, 37),
  (28, 1, .ireturn, 0, 0, 0, 0, 0)]
set_option maxRecDepth 100000 in
theorem zk_256 : zt_256.all (zx_chk 256) = true := by decide +kernel
/-- NamesThatShrinkModel.seed(I)I -/
def zt_257 : List zx_En := [
  (0, 1, .aload_n 0, 0, 0, 0, 0, 0),
  (1, 1, .iconst 0, 0, 0, 0, 0, 0),
  (2, 3, .putfield 3, 0, 0, 1713, 12, 0),
  (5, 1, .aload_n 0, 0, 0, 0, 0, 0),
  (6, 3, .getfield 215, 0, 0, 1722, 12, 9),
  (9, 1, .istore_n 2, 0, 0, 0, 0, 0),
  (10, 1, .aload_n 0, 0, 0, 0, 0, 0),
  (11, 1, .iload_n 1, 0, 0, 0, 0, 0),
  (12, 3, .putfield 215, 0, 0, 1722, 12, 9),
  (15, 1, .iload_n 2, 0, 0, 0, 0, 0),
  (16, 1, .ireturn, 0, 0, 0, 0, 0)]
set_option maxRecDepth 100000 in
theorem zk_257 : zt_257.all (zx_chk 257) = true := by decide +kernel
/-- NamesThatShrinkModel.keep(I)Z -/
def zt_258 : List zx_En := [
  (0, 1, .aload_n 0, 0, 0, 0, 0, 0),
  (1, 1, .iconst 0, 0, 0, 0, 0, 0),
  (2, 3, .putfield 3, 0, 0, 1713, 12, 0),
  (5, 1, .iload_n 1, 0, 0, 0, 0, 0),
  (6, 1, .i2l, 0, 0, 0, 0, 0),
  (7, 1, .lconst 0, 0, 0, 0, 0, 0),
  (8, 3, .ldc2_w 392, 0, 2, 1691, 0, 0),
  (11, 3, .invokestatic 30, 0, 0, 1321, 2, 167),
  (14, 3, .ifCond .ne 5, 0, 0, 0, 19, 0),
  (17, 1, .iconst 0, 0, 0, 0, 0, 0),
  (18, 1, .ireturn, 0, 0, 0, 0, 0),
  (19, 1, .aload_n 0, 0, 0, 0, 0, 0),
  (20, 3, .getfield 394, 0, 0, 1760, 12, 47),
  (23, 1, .iload_n 1, 0, 0, 0, 0, 0),
  (24, 1, .iconst 1, 1, 0, 0, 0, 0),
  (25, 1, .bastore, 0, 0, 0, 23, 0),
  (26, 2, .bipush 31, 31, 0, 0, 0, 0),
  (28, 1, .iload_n 1, 0, 0, 0, 0, 0),
  (29, 1, .imul, 0, 0, 0, 0, 0),
  (30, 1, .istore_n 2, 0, 0, 0, 0, 0),
  (31, 1, .iconst 0, 0, 0, 0, 0, 0),
  (32, 1, .istore_n 3, 0, 0, 0, 0, 0),
  (33, 1, .iload_n 3, 0, 0, 0, 0, 0),
  (34, 2, .bipush 10, 10, 0, 0, 0, 0),
  (36, 3, .if_icmp .ge 93, 0, 0, 0, 129, 0),
  (39, 1, .aload_n 0, 0, 0, 0, 0, 0),
  (40, 3, .getfield 397, 0, 0, 1761, 12, 48),
  (43, 1, .iload_n 2, 0, 0, 0, 0, 0),
  (44, 1, .iload_n 3, 0, 0, 0, 0, 0),
  (45, 1, .iadd, 0, 0, 0, 0, 0),
  (46, 1, .iload_n 3, 0, 0, 0, 0, 0),
  (47, 1, .aload_n 0, 0, 0, 0, 0, 0),
  (48, 3, .getfield 27, 0, 0, 1716, 12, 3),
  (51, 3, .if_icmp .ge 12, 0, 0, 0, 63, 0),
  (54, 1, .aload_n 0, 0, 0, 0, 0, 0),
  (55, 3, .getfield 98, 0, 0, 1717, 12, 4),
  (58, 1, .iload_n 3, 0, 0, 0, 0, 0),
  (59, 1, .iaload, 0, 0, 0, 0, 0),
  (60, 3, .goto 4, 0, 0, 0, 64, 0),
  (63, 1, .iconst 0, 0, 0, 0, 0, 0),
  (64, 1, .iastore, 0, 0, 0, 0, 0),
  (65, 1, .aload_n 0, 0, 0, 0, 0, 0),
  (66, 3, .getfield 397, 0, 0, 1761, 12, 48),
  (69, 1, .iload_n 2, 0, 0, 0, 0, 0),
  (70, 2, .bipush 10, 10, 0, 0, 0, 0),
  (72, 1, .iadd, 0, 0, 0, 0, 0),
  (73, 1, .iload_n 3, 0, 0, 0, 0, 0),
  (74, 1, .iadd, 0, 0, 0, 0, 0),
  (75, 1, .iload_n 3, 0, 0, 0, 0, 0),
  (76, 1, .aload_n 0, 0, 0, 0, 0, 0),
  (77, 3, .getfield 27, 0, 0, 1716, 12, 3),
  (80, 3, .if_icmp .ge 12, 0, 0, 0, 92, 0),
  (83, 1, .aload_n 0, 0, 0, 0, 0, 0),
  (84, 3, .getfield 101, 0, 0, 1718, 12, 5),
  (87, 1, .iload_n 3, 0, 0, 0, 0, 0),
  (88, 1, .iaload, 0, 0, 0, 0, 0),
  (89, 3, .goto 4, 0, 0, 0, 93, 0),
  (92, 1, .iconst 0, 0, 0, 0, 0, 0),
  (93, 1, .iastore, 0, 0, 0, 0, 0),
  (94, 1, .aload_n 0, 0, 0, 0, 0, 0),
  (95, 3, .getfield 397, 0, 0, 1761, 12, 48),
  (98, 1, .iload_n 2, 0, 0, 0, 0, 0),
  (99, 2, .bipush 20, 20, 0, 0, 0, 0),
  (101, 1, .iadd, 0, 0, 0, 0, 0),
  (102, 1, .iload_n 3, 0, 0, 0, 0, 0),
  (103, 1, .iadd, 0, 0, 0, 0, 0),
  (104, 1, .iload_n 3, 0, 0, 0, 0, 0),
  (105, 1, .aload_n 0, 0, 0, 0, 0, 0),
  (106, 3, .getfield 27, 0, 0, 1716, 12, 3),
  (109, 3, .if_icmp .ge 12, 0, 0, 0, 121, 0),
  (112, 1, .aload_n 0, 0, 0, 0, 0, 0),
  (113, 3, .getfield 104, 0, 0, 1719, 12, 6),
  (116, 1, .iload_n 3, 0, 0, 0, 0, 0),
  (117, 1, .iaload, 0, 0, 0, 0, 0),
  (118, 3, .goto 4, 0, 0, 0, 122, 0),
  (121, 1, .iconst 0, 0, 0, 0, 0, 0),
  (122, 1, .iastore, 0, 0, 0, 0, 0),
  (123, 3, .iinc 3 1, 1, 0, 0, 0, 0),
  (126, 3, .goto (-93), 0, 0, 0, 33, 0),
  (129, 1, .aload_n 0, 0, 0, 0, 0, 0),
  (130, 3, .getfield 397, 0, 0, 1761, 12, 48),
  (133, 1, .iload_n 2, 0, 0, 0, 0, 0),
  (134, 2, .bipush 30, 30, 0, 0, 0, 0),
  (136, 1, .iadd, 0, 0, 0, 0, 0),
  (137, 1, .aload_n 0, 0, 0, 0, 0, 0),
  (138, 3, .getfield 215, 0, 0, 1722, 12, 9),
  (141, 1, .iastore, 0, 0, 0, 0, 0),
  (142, 1, .iconst 1, 1, 0, 0, 0, 0),
  (143, 1, .ireturn, 0, 0, 0, 0, 0)]
set_option maxRecDepth 100000 in
theorem zk_258 : zt_258.all (zx_chk 258) = true := by decide +kernel
/-- NamesThatShrinkModel.again(I)Z -/
def zt_259 : List zx_En := [
  (0, 1, .aload_n 0, 0, 0, 0, 0, 0),
  (1, 1, .iconst 0, 0, 0, 0, 0, 0),
  (2, 3, .putfield 3, 0, 0, 1713, 12, 0),
  (5, 1, .iload_n 1, 0, 0, 0, 0, 0),
  (6, 1, .i2l, 0, 0, 0, 0, 0),
  (7, 1, .lconst 0, 0, 0, 0, 0, 0),
  (8, 3, .ldc2_w 392, 0, 2, 1691, 0, 0),
  (11, 3, .invokestatic 30, 0, 0, 1321, 2, 167),
  (14, 3, .ifCond .eq 12, 0, 0, 0, 26, 0),
  (17, 1, .aload_n 0, 0, 0, 0, 0, 0),
  (18, 3, .getfield 394, 0, 0, 1760, 12, 47),
  (21, 1, .iload_n 1, 0, 0, 0, 0, 0),
  (22, 1, .baload, 0, 0, 0, 23, 0),
  (23, 3, .ifCond .ne 5, 0, 0, 0, 28, 0),
  (26, 1, .iconst 0, 0, 0, 0, 0, 0),
  (27, 1, .ireturn, 0, 0, 0, 0, 0),
  (28, 2, .bipush 31, 31, 0, 0, 0, 0),
  (30, 1, .iload_n 1, 0, 0, 0, 0, 0),
  (31, 1, .imul, 0, 0, 0, 0, 0),
  (32, 1, .istore_n 2, 0, 0, 0, 0, 0),
  (33, 1, .iconst 0, 0, 0, 0, 0, 0),
  (34, 1, .istore_n 3, 0, 0, 0, 0, 0),
  (35, 1, .iload_n 3, 0, 0, 0, 0, 0),
  (36, 1, .aload_n 0, 0, 0, 0, 0, 0),
  (37, 3, .getfield 27, 0, 0, 1716, 12, 3),
  (40, 3, .if_icmp .ge 57, 0, 0, 0, 97, 0),
  (43, 1, .aload_n 0, 0, 0, 0, 0, 0),
  (44, 3, .getfield 98, 0, 0, 1717, 12, 4),
  (47, 1, .iload_n 3, 0, 0, 0, 0, 0),
  (48, 1, .aload_n 0, 0, 0, 0, 0, 0),
  (49, 3, .getfield 397, 0, 0, 1761, 12, 48),
  (52, 1, .iload_n 2, 0, 0, 0, 0, 0),
  (53, 1, .iload_n 3, 0, 0, 0, 0, 0),
  (54, 1, .iadd, 0, 0, 0, 0, 0),
  (55, 1, .iaload, 0, 0, 0, 0, 0),
  (56, 1, .iastore, 0, 0, 0, 0, 0),
  (57, 1, .aload_n 0, 0, 0, 0, 0, 0),
  (58, 3, .getfield 101, 0, 0, 1718, 12, 5),
  (61, 1, .iload_n 3, 0, 0, 0, 0, 0),
  (62, 1, .aload_n 0, 0, 0, 0, 0, 0),
  (63, 3, .getfield 397, 0, 0, 1761, 12, 48),
  (66, 1, .iload_n 2, 0, 0, 0, 0, 0),
  (67, 2, .bipush 10, 10, 0, 0, 0, 0),
  (69, 1, .iadd, 0, 0, 0, 0, 0),
  (70, 1, .iload_n 3, 0, 0, 0, 0, 0),
  (71, 1, .iadd, 0, 0, 0, 0, 0),
  (72, 1, .iaload, 0, 0, 0, 0, 0),
  (73, 1, .iastore, 0, 0, 0, 0, 0),
  (74, 1, .aload_n 0, 0, 0, 0, 0, 0),
  (75, 3, .getfield 104, 0, 0, 1719, 12, 6),
  (78, 1, .iload_n 3, 0, 0, 0, 0, 0),
  (79, 1, .aload_n 0, 0, 0, 0, 0, 0),
  (80, 3, .getfield 397, 0, 0, 1761, 12, 48),
  (83, 1, .iload_n 2, 0, 0, 0, 0, 0),
  (84, 2, .bipush 20, 20, 0, 0, 0, 0),
  (86, 1, .iadd, 0, 0, 0, 0, 0),
  (87, 1, .iload_n 3, 0, 0, 0, 0, 0),
  (88, 1, .iadd, 0, 0, 0, 0, 0),
  (89, 1, .iaload, 0, 0, 0, 0, 0),
  (90, 1, .iastore, 0, 0, 0, 0, 0),
  (91, 3, .iinc 3 1, 1, 0, 0, 0, 0),
  (94, 3, .goto (-59), 0, 0, 0, 35, 0),
  (97, 1, .aload_n 0, 0, 0, 0, 0, 0),
  (98, 1, .aload_n 0, 0, 0, 0, 0, 0),
  (99, 3, .getfield 397, 0, 0, 1761, 12, 48),
  (102, 1, .iload_n 2, 0, 0, 0, 0, 0),
  (103, 2, .bipush 30, 30, 0, 0, 0, 0),
  (105, 1, .iadd, 0, 0, 0, 0, 0),
  (106, 1, .iaload, 0, 0, 0, 0, 0),
  (107, 3, .putfield 215, 0, 0, 1722, 12, 9),
  (110, 1, .aload_n 0, 0, 0, 0, 0, 0),
  (111, 1, .iconst 0, 0, 0, 0, 0, 0),
  (112, 3, .putfield 107, 0, 0, 1723, 12, 10),
  (115, 1, .iconst 1, 1, 0, 0, 0, 0),
  (116, 1, .ireturn, 0, 0, 0, 0, 0)]
set_option maxRecDepth 100000 in
theorem zk_259 : zt_259.all (zx_chk 259) = true := by decide +kernel
/-- NamesThatShrinkModel.sides()I -/
def zt_260 : List zx_En := [
  (0, 1, .iconst 0, 0, 0, 0, 0, 0),
  (1, 1, .istore_n 1, 0, 0, 0, 0, 0),
  (2, 1, .iconst 0, 0, 0, 0, 0, 0),
  (3, 1, .istore_n 2, 0, 0, 0, 0, 0),
  (4, 1, .iload_n 2, 0, 0, 0, 0, 0),
  (5, 1, .aload_n 0, 0, 0, 0, 0, 0),
  (6, 3, .getfield 27, 0, 0, 1716, 12, 3),
  (9, 3, .if_icmp .ge 20, 0, 0, 0, 29, 0),
  (12, 1, .iload_n 1, 0, 0, 0, 0, 0),
  (13, 1, .aload_n 0, 0, 0, 0, 0, 0),
  (14, 3, .getfield 104, 0, 0, 1719, 12, 6),
  (17, 1, .iload_n 2, 0, 0, 0, 0, 0),
  (18, 1, .iaload, 0, 0, 0, 0, 0),
  (19, 1, .iload_n 2, 0, 0, 0, 0, 0),
  (20, 1, .ishl, 0, 0, 0, 0, 0),
  (21, 1, .ior, 0, 0, 0, 0, 0),
  (22, 1, .istore_n 1, 0, 0, 0, 0, 0),
  (23, 3, .iinc 2 1, 1, 0, 0, 0, 0),
  (26, 3, .goto (-22), 0, 0, 0, 4, 0),
  (29, 1, .iload_n 1, 0, 0, 0, 0, 0),
  (30, 1, .ireturn, 0, 0, 0, 0, 0)]
set_option maxRecDepth 100000 in
theorem zk_260 : zt_260.all (zx_chk 260) = true := by decide +kernel
/-- NamesThatShrinkModel.answersOfAll()I -/
def zt_261 : List zx_En := [
  (0, 1, .iconst 0, 0, 0, 0, 0, 0),
  (1, 1, .istore_n 1, 0, 0, 0, 0, 0),
  (2, 1, .iconst 0, 0, 0, 0, 0, 0),
  (3, 1, .istore_n 2, 0, 0, 0, 0, 0),
  (4, 1, .iload_n 2, 0, 0, 0, 0, 0),
  (5, 1, .aload_n 0, 0, 0, 0, 0, 0),
  (6, 3, .getfield 27, 0, 0, 1716, 12, 3),
  (9, 3, .if_icmp .ge 18, 0, 0, 0, 27, 0),
  (12, 1, .iload_n 1, 0, 0, 0, 0, 0),
  (13, 1, .aload_n 0, 0, 0, 0, 0, 0),
  (14, 3, .getfield 101, 0, 0, 1718, 12, 5),
  (17, 1, .iload_n 2, 0, 0, 0, 0, 0),
  (18, 1, .iaload, 0, 0, 0, 0, 0),
  (19, 1, .iadd, 0, 0, 0, 0, 0),
  (20, 1, .istore_n 1, 0, 0, 0, 0, 0),
  (21, 3, .iinc 2 1, 1, 0, 0, 0, 0),
  (24, 3, .goto (-20), 0, 0, 0, 4, 0),
  (27, 1, .iload_n 1, 0, 0, 0, 0, 0),
  (28, 1, .ireturn, 0, 0, 0, 0, 0)]
set_option maxRecDepth 100000 in
theorem zk_261 : zt_261.all (zx_chk 261) = true := by decide +kernel
/-- NamesThatShrinkModel.count(I)I -/
def zt_262 : List zx_En := [
  (0, 1, .aload_n 0, 0, 0, 0, 0, 0),
  (1, 1, .iconst 0, 0, 0, 0, 0, 0),
  (2, 3, .putfield 3, 0, 0, 1713, 12, 0),
  (5, 1, .iload_n 1, 0, 0, 0, 0, 0),
  (6, 46, .tableswitch 86 0 7 #[46, 51, 56, 61, 66, 71, 76, 81], 0, 0, 0, 0, 0),
  (52, 1, .aload_n 0, 0, 0, 0, 0, 0),
  (53, 3, .getfield 27, 0, 0, 1716, 12, 3),
  (56, 1, .ireturn, 0, 0, 0, 0, 0),
  (57, 1, .aload_n 0, 0, 0, 0, 0, 0),
  (58, 3, .invokevirtual 221, 0, 0, 1494, 0, 211),
  (61, 1, .ireturn, 0, 0, 0, 0, 0),
  (62, 1, .aload_n 0, 0, 0, 0, 0, 0),
  (63, 3, .invokevirtual 400, 0, 0, 1700, 0, 260),
  (66, 1, .ireturn, 0, 0, 0, 0, 0),
  (67, 1, .aload_n 0, 0, 0, 0, 0, 0),
  (68, 3, .getfield 107, 0, 0, 1723, 12, 10),
  (71, 1, .ireturn, 0, 0, 0, 0, 0),
  (72, 1, .aload_n 0, 0, 0, 0, 0, 0),
  (73, 3, .getfield 344, 0, 0, 1750, 12, 37),
  (76, 1, .ireturn, 0, 0, 0, 0, 0),
  (77, 1, .aload_n 0, 0, 0, 0, 0, 0),
  (78, 3, .getfield 11, 0, 0, 1714, 12, 1),
  (81, 1, .ireturn, 0, 0, 0, 0, 0),
  (82, 1, .aload_n 0, 0, 0, 0, 0, 0),
  (83, 3, .getfield 34, 0, 0, 1727, 12, 14),
  (86, 1, .ireturn, 0, 0, 0, 0, 0),
  (87, 1, .aload_n 0, 0, 0, 0, 0, 0),
  (88, 3, .invokevirtual 403, 0, 0, 1704, 0, 261),
  (91, 1, .ireturn, 0, 0, 0, 0, 0),
  (92, 1, .iconst (-1), (-1), 0, 0, 0, 0),
  (93, 1, .ireturn, 0, 0, 0, 0, 0)]
set_option maxRecDepth 100000 in
theorem zk_262 : zt_262.all (zx_chk 262) = true := by decide +kernel
/-- NamesThatShrinkModel.<init>()V -/
def zt_263 : List zx_En := [
  (0, 1, .aload_n 0, 0, 0, 0, 0, 0),
  (1, 3, .invokespecial 406, 0, 0, 1712, 5, 0),
  (4, 1, .aload_n 0, 0, 0, 0, 0, 0),
  (5, 2, .bipush 16, 16, 0, 0, 0, 0),
  (7, 2, .newarray .int, 0, 0, 158, 20, 0),
  (9, 3, .putfield 7, 0, 0, 1715, 12, 2),
  (12, 1, .aload_n 0, 0, 0, 0, 0, 0),
  (13, 2, .bipush 10, 10, 0, 0, 0, 0),
  (15, 2, .newarray .int, 0, 0, 158, 20, 0),
  (17, 3, .putfield 98, 0, 0, 1717, 12, 4),
  (20, 1, .aload_n 0, 0, 0, 0, 0, 0),
  (21, 2, .bipush 10, 10, 0, 0, 0, 0),
  (23, 2, .newarray .int, 0, 0, 158, 20, 0),
  (25, 3, .putfield 101, 0, 0, 1718, 12, 5),
  (28, 1, .aload_n 0, 0, 0, 0, 0, 0),
  (29, 2, .bipush 10, 10, 0, 0, 0, 0),
  (31, 2, .newarray .int, 0, 0, 158, 20, 0),
  (33, 3, .putfield 104, 0, 0, 1719, 12, 6),
  (36, 1, .aload_n 0, 0, 0, 0, 0, 0),
  (37, 2, .bipush 6, 6, 0, 0, 0, 0),
  (39, 2, .newarray .int, 0, 0, 158, 20, 0),
  (41, 1, .dup, 0, 0, 0, 0, 0),
  (42, 1, .iconst 0, 0, 0, 0, 0, 0),
  (43, 1, .iconst 1, 1, 0, 0, 0, 0),
  (44, 1, .iastore, 0, 0, 0, 0, 0),
  (45, 1, .dup, 0, 0, 0, 0, 0),
  (46, 1, .iconst 1, 1, 0, 0, 0, 0),
  (47, 1, .iconst 1, 1, 0, 0, 0, 0),
  (48, 1, .iastore, 0, 0, 0, 0, 0),
  (49, 1, .dup, 0, 0, 0, 0, 0),
  (50, 1, .iconst 2, 2, 0, 0, 0, 0),
  (51, 1, .iconst 1, 1, 0, 0, 0, 0),
  (52, 1, .iastore, 0, 0, 0, 0, 0),
  (53, 1, .dup, 0, 0, 0, 0, 0),
  (54, 1, .iconst 3, 3, 0, 0, 0, 0),
  (55, 1, .iconst 1, 1, 0, 0, 0, 0),
  (56, 1, .iastore, 0, 0, 0, 0, 0),
  (57, 1, .dup, 0, 0, 0, 0, 0),
  (58, 1, .iconst 4, 4, 0, 0, 0, 0),
  (59, 1, .iconst 1, 1, 0, 0, 0, 0),
  (60, 1, .iastore, 0, 0, 0, 0, 0),
  (61, 1, .dup, 0, 0, 0, 0, 0),
  (62, 1, .iconst 5, 5, 0, 0, 0, 0),
  (63, 1, .iconst 1, 1, 0, 0, 0, 0),
  (64, 1, .iastore, 0, 0, 0, 0, 0),
  (65, 3, .putfield 88, 0, 0, 1720, 12, 7),
  (68, 1, .aload_n 0, 0, 0, 0, 0, 0),
  (69, 2, .bipush 10, 10, 0, 0, 0, 0),
  (71, 3, .putfield 127, 0, 0, 1721, 12, 8),
  (74, 1, .aload_n 0, 0, 0, 0, 0, 0),
  (75, 1, .iconst 1, 1, 0, 0, 0, 0),
  (76, 3, .putfield 215, 0, 0, 1722, 12, 9),
  (79, 1, .aload_n 0, 0, 0, 0, 0, 0),
  (80, 2, .bipush 60, 60, 0, 0, 0, 0),
  (82, 2, .newarray .int, 0, 0, 158, 20, 0),
  (84, 3, .putfield 146, 0, 0, 1724, 12, 11),
  (87, 1, .aload_n 0, 0, 0, 0, 0, 0),
  (88, 2, .bipush 60, 60, 0, 0, 0, 0),
  (90, 2, .newarray .int, 0, 0, 158, 20, 0),
  (92, 3, .putfield 149, 0, 0, 1725, 12, 12),
  (95, 1, .aload_n 0, 0, 0, 0, 0, 0),
  (96, 2, .bipush 80, 80, 0, 0, 0, 0),
  (98, 2, .newarray .int, 0, 0, 158, 20, 0),
  (100, 3, .putfield 37, 0, 0, 1726, 12, 13),
  (103, 1, .aload_n 0, 0, 0, 0, 0, 0),
  (104, 2, .bipush 10, 10, 0, 0, 0, 0),
  (106, 2, .newarray .int, 0, 0, 158, 20, 0),
  (108, 3, .putfield 82, 0, 0, 1731, 12, 18),
  (111, 1, .aload_n 0, 0, 0, 0, 0, 0),
  (112, 2, .bipush 6, 6, 0, 0, 0, 0),
  (114, 2, .newarray .int, 0, 0, 158, 20, 0),
  (116, 3, .putfield 76, 0, 0, 1732, 12, 19),
  (119, 1, .aload_n 0, 0, 0, 0, 0, 0),
  (120, 2, .bipush 10, 10, 0, 0, 0, 0),
  (122, 2, .newarray .int, 0, 0, 158, 20, 0),
  (124, 3, .putfield 186, 0, 0, 1739, 12, 26),
  (127, 1, .aload_n 0, 0, 0, 0, 0, 0),
  (128, 2, .bipush 80, 80, 0, 0, 0, 0),
  (130, 2, .newarray .int, 0, 0, 158, 20, 0),
  (132, 3, .putfield 242, 0, 0, 1740, 12, 27),
  (135, 1, .aload_n 0, 0, 0, 0, 0, 0),
  (136, 3, .sipush 20000, 20000, 0, 0, 0, 0),
  (139, 2, .newarray .long, 0, 0, 359, 21, 0),
  (141, 3, .putfield 254, 0, 0, 1741, 12, 28),
  (144, 1, .aload_n 0, 0, 0, 0, 0, 0),
  (145, 3, .sipush 20000, 20000, 0, 0, 0, 0),
  (148, 2, .newarray .int, 0, 0, 158, 20, 0),
  (150, 3, .putfield 269, 0, 0, 1742, 12, 29),
  (153, 1, .aload_n 0, 0, 0, 0, 0, 0),
  (154, 3, .sipush 20000, 20000, 0, 0, 0, 0),
  (157, 2, .newarray .int, 0, 0, 158, 20, 0),
  (159, 3, .putfield 272, 0, 0, 1743, 12, 30),
  (162, 1, .aload_n 0, 0, 0, 0, 0, 0),
  (163, 3, .ldc_w 258, 65536, 0, 1539, 0, 0),
  (166, 2, .newarray .int, 0, 0, 158, 20, 0),
  (168, 3, .putfield 251, 0, 0, 1744, 12, 31),
  (171, 1, .aload_n 0, 0, 0, 0, 0, 0),
  (172, 3, .sipush 20000, 20000, 0, 0, 0, 0),
  (175, 2, .newarray .boolean, 0, 0, 505, 23, 0),
  (177, 3, .putfield 293, 0, 0, 1745, 12, 32),
  (180, 1, .aload_n 0, 0, 0, 0, 0, 0),
  (181, 2, .bipush 6, 6, 0, 0, 0, 0),
  (183, 2, .newarray .int, 0, 0, 158, 20, 0),
  (185, 3, .putfield 326, 0, 0, 1748, 12, 35),
  (188, 1, .aload_n 0, 0, 0, 0, 0, 0),
  (189, 1, .iconst 3, 3, 0, 0, 0, 0),
  (190, 3, .putfield 356, 0, 0, 1749, 12, 36),
  (193, 1, .aload_n 0, 0, 0, 0, 0, 0),
  (194, 2, .bipush 40, 40, 0, 0, 0, 0),
  (196, 2, .newarray .int, 0, 0, 158, 20, 0),
  (198, 3, .putfield 347, 0, 0, 1751, 12, 38),
  (201, 1, .aload_n 0, 0, 0, 0, 0, 0),
  (202, 2, .bipush 40, 40, 0, 0, 0, 0),
  (204, 2, .newarray .boolean, 0, 0, 505, 23, 0),
  (206, 3, .putfield 350, 0, 0, 1752, 12, 39),
  (209, 1, .aload_n 0, 0, 0, 0, 0, 0),
  (210, 3, .sipush 9331, 9331, 0, 0, 0, 0),
  (213, 2, .newarray .int, 0, 0, 158, 20, 0),
  (215, 3, .putfield 362, 0, 0, 1753, 12, 40),
  (218, 1, .aload_n 0, 0, 0, 0, 0, 0),
  (219, 3, .sipush 9331, 9331, 0, 0, 0, 0),
  (222, 2, .newarray .int, 0, 0, 158, 20, 0),
  (224, 3, .putfield 365, 0, 0, 1754, 12, 41),
  (227, 1, .aload_n 0, 0, 0, 0, 0, 0),
  (228, 3, .sipush 9331, 9331, 0, 0, 0, 0),
  (231, 2, .newarray .int, 0, 0, 158, 20, 0),
  (233, 3, .putfield 371, 0, 0, 1755, 12, 42),
  (236, 1, .aload_n 0, 0, 0, 0, 0, 0),
  (237, 3, .sipush 9331, 9331, 0, 0, 0, 0),
  (240, 2, .newarray .int, 0, 0, 158, 20, 0),
  (242, 3, .putfield 374, 0, 0, 1756, 12, 43),
  (245, 1, .aload_n 0, 0, 0, 0, 0, 0),
  (246, 1, .iconst 3, 3, 0, 0, 0, 0),
  (247, 2, .newarray .boolean, 0, 0, 505, 23, 0),
  (249, 3, .putfield 394, 0, 0, 1760, 12, 47),
  (252, 1, .aload_n 0, 0, 0, 0, 0, 0),
  (253, 2, .bipush 93, 93, 0, 0, 0, 0),
  (255, 2, .newarray .int, 0, 0, 158, 20, 0),
  (257, 3, .putfield 397, 0, 0, 1761, 12, 48),
  (260, 1, .return_, 0, 0, 0, 0, 0)]
set_option maxRecDepth 100000 in
theorem zk_263 : zt_263.all (zx_chk 263) = true := by decide +kernel
/-- NamesThatShrinkModel.row(I)I -/
def zt_264 : List zx_En := [
  (0, 1, .aload_n 0, 0, 0, 0, 0, 0),
  (1, 1, .iconst 0, 0, 0, 0, 0, 0),
  (2, 3, .putfield 3, 0, 0, 1713, 12, 0),
  (5, 1, .iload_n 1, 0, 0, 0, 0, 0),
  (6, 1, .i2l, 0, 0, 0, 0, 0),
  (7, 1, .lconst 0, 0, 0, 0, 0, 0),
  (8, 1, .aload_n 0, 0, 0, 0, 0, 0),
  (9, 3, .getfield 11, 0, 0, 1714, 12, 1),
  (12, 1, .iconst 1, 1, 0, 0, 0, 0),
  (13, 1, .isub, 0, 0, 0, 0, 0),
  (14, 1, .i2l, 0, 0, 0, 0, 0),
  (15, 3, .invokestatic 30, 0, 0, 1321, 2, 167),
  (18, 3, .ifCond .ne 10, 0, 0, 0, 28, 0),
  (21, 1, .aload_n 0, 0, 0, 0, 0, 0),
  (22, 1, .iconst 1, 1, 0, 0, 0, 0),
  (23, 3, .putfield 3, 0, 0, 1713, 12, 0),
  (26, 1, .iconst 0, 0, 0, 0, 0, 0),
  (27, 1, .ireturn, 0, 0, 0, 0, 0),
  (28, 1, .aload_n 0, 0, 0, 0, 0, 0),
  (29, 3, .getfield 7, 0, 0, 1715, 12, 2),
  (32, 1, .iload_n 1, 0, 0, 0, 0, 0),
  (33, 1, .iaload, 0, 0, 0, 0, 0),
  (34, 1, .ireturn, 0, 0, 0, 0, 0)]
set_option maxRecDepth 100000 in
theorem zk_264 : zt_264.all (zx_chk 264) = true := by decide +kernel
/-- java/lang/Integer.numberOfTrailingZeros(I)I -/
def zt_265 : List zx_En := [
  (0, 1, .iload_n 0, 0, 0, 0, 0, 0),
  (1, 1, .iconst (-1), (-1), 0, 0, 0, 0),
  (2, 1, .ixor, 0, 0, 0, 0, 0),
  (3, 1, .iload_n 0, 0, 0, 0, 0, 0),
  (4, 1, .iconst 1, 1, 0, 0, 0, 0),
  (5, 1, .isub, 0, 0, 0, 0, 0),
  (6, 1, .iand, 0, 0, 0, 0, 0),
  (7, 1, .istore_n 0, 0, 0, 0, 0, 0),
  (8, 1, .iload_n 0, 0, 0, 0, 0, 0),
  (9, 3, .ifCond .gt 8, 0, 0, 0, 17, 0),
  (12, 1, .iload_n 0, 0, 0, 0, 0, 0),
  (13, 2, .bipush 32, 32, 0, 0, 0, 0),
  (15, 1, .iand, 0, 0, 0, 0, 0),
  (16, 1, .ireturn, 0, 0, 0, 0, 0),
  (17, 1, .iconst 1, 1, 0, 0, 0, 0),
  (18, 1, .istore_n 1, 0, 0, 0, 0, 0),
  (19, 1, .iload_n 0, 0, 0, 0, 0, 0),
  (20, 3, .ldc_w 264, 65536, 0, 836, 0, 0),
  (23, 3, .if_icmp .le 11, 0, 0, 0, 34, 0),
  (26, 3, .iinc 1 16, 16, 0, 0, 0, 0),
  (29, 1, .iload_n 0, 0, 0, 0, 0, 0),
  (30, 2, .bipush 16, 16, 0, 0, 0, 0),
  (32, 1, .iushr, 0, 0, 0, 0, 0),
  (33, 1, .istore_n 0, 0, 0, 0, 0, 0),
  (34, 1, .iload_n 0, 0, 0, 0, 0, 0),
  (35, 3, .sipush 256, 256, 0, 0, 0, 0),
  (38, 3, .if_icmp .le 11, 0, 0, 0, 49, 0),
  (41, 3, .iinc 1 8, 8, 0, 0, 0, 0),
  (44, 1, .iload_n 0, 0, 0, 0, 0, 0),
  (45, 2, .bipush 8, 8, 0, 0, 0, 0),
  (47, 1, .iushr, 0, 0, 0, 0, 0),
  (48, 1, .istore_n 0, 0, 0, 0, 0, 0),
  (49, 1, .iload_n 0, 0, 0, 0, 0, 0),
  (50, 2, .bipush 16, 16, 0, 0, 0, 0),
  (52, 3, .if_icmp .le 10, 0, 0, 0, 62, 0),
  (55, 3, .iinc 1 4, 4, 0, 0, 0, 0),
  (58, 1, .iload_n 0, 0, 0, 0, 0, 0),
  (59, 1, .iconst 4, 4, 0, 0, 0, 0),
  (60, 1, .iushr, 0, 0, 0, 0, 0),
  (61, 1, .istore_n 0, 0, 0, 0, 0, 0),
  (62, 1, .iload_n 0, 0, 0, 0, 0, 0),
  (63, 1, .iconst 4, 4, 0, 0, 0, 0),
  (64, 3, .if_icmp .le 10, 0, 0, 0, 74, 0),
  (67, 3, .iinc 1 2, 2, 0, 0, 0, 0),
  (70, 1, .iload_n 0, 0, 0, 0, 0, 0),
  (71, 1, .iconst 2, 2, 0, 0, 0, 0),
  (72, 1, .iushr, 0, 0, 0, 0, 0),
  (73, 1, .istore_n 0, 0, 0, 0, 0, 0),
  (74, 1, .iload_n 1, 0, 0, 0, 0, 0),
  (75, 1, .iload_n 0, 0, 0, 0, 0, 0),
  (76, 1, .iconst 1, 1, 0, 0, 0, 0),
  (77, 1, .iushr, 0, 0, 0, 0, 0),
  (78, 1, .iadd, 0, 0, 0, 0, 0),
  (79, 1, .ireturn, 0, 0, 0, 0, 0)]
set_option maxRecDepth 100000 in
theorem zk_265 : zt_265.all (zx_chk 265) = true := by decide +kernel
/-- java/lang/Integer.bitCount(I)I -/
def zt_266 : List zx_En := [
  (0, 1, .iload_n 0, 0, 0, 0, 0, 0),
  (1, 1, .iload_n 0, 0, 0, 0, 0, 0),
  (2, 1, .iconst 1, 1, 0, 0, 0, 0),
  (3, 1, .iushr, 0, 0, 0, 0, 0),
  (4, 3, .ldc_w 265, 1431655765, 0, 641, 0, 0),
  (7, 1, .iand, 0, 0, 0, 0, 0),
  (8, 1, .isub, 0, 0, 0, 0, 0),
  (9, 1, .istore_n 0, 0, 0, 0, 0, 0),
  (10, 1, .iload_n 0, 0, 0, 0, 0, 0),
  (11, 3, .ldc_w 266, 858993459, 0, 642, 0, 0),
  (14, 1, .iand, 0, 0, 0, 0, 0),
  (15, 1, .iload_n 0, 0, 0, 0, 0, 0),
  (16, 1, .iconst 2, 2, 0, 0, 0, 0),
  (17, 1, .iushr, 0, 0, 0, 0, 0),
  (18, 3, .ldc_w 266, 858993459, 0, 642, 0, 0),
  (21, 1, .iand, 0, 0, 0, 0, 0),
  (22, 1, .iadd, 0, 0, 0, 0, 0),
  (23, 1, .istore_n 0, 0, 0, 0, 0, 0),
  (24, 1, .iload_n 0, 0, 0, 0, 0, 0),
  (25, 1, .iload_n 0, 0, 0, 0, 0, 0),
  (26, 1, .iconst 4, 4, 0, 0, 0, 0),
  (27, 1, .iushr, 0, 0, 0, 0, 0),
  (28, 1, .iadd, 0, 0, 0, 0, 0),
  (29, 3, .ldc_w 267, 252645135, 0, 643, 0, 0),
  (32, 1, .iand, 0, 0, 0, 0, 0),
  (33, 1, .istore_n 0, 0, 0, 0, 0, 0),
  (34, 1, .iload_n 0, 0, 0, 0, 0, 0),
  (35, 1, .iload_n 0, 0, 0, 0, 0, 0),
  (36, 2, .bipush 8, 8, 0, 0, 0, 0),
  (38, 1, .iushr, 0, 0, 0, 0, 0),
  (39, 1, .iadd, 0, 0, 0, 0, 0),
  (40, 1, .istore_n 0, 0, 0, 0, 0, 0),
  (41, 1, .iload_n 0, 0, 0, 0, 0, 0),
  (42, 1, .iload_n 0, 0, 0, 0, 0, 0),
  (43, 2, .bipush 16, 16, 0, 0, 0, 0),
  (45, 1, .iushr, 0, 0, 0, 0, 0),
  (46, 1, .iadd, 0, 0, 0, 0, 0),
  (47, 1, .istore_n 0, 0, 0, 0, 0, 0),
  (48, 1, .iload_n 0, 0, 0, 0, 0, 0),
  (49, 2, .bipush 63, 63, 0, 0, 0, 0),
  (51, 1, .iand, 0, 0, 0, 0, 0),
  (52, 1, .ireturn, 0, 0, 0, 0, 0)]
set_option maxRecDepth 100000 in
theorem zk_266 : zt_266.all (zx_chk 266) = true := by decide +kernel
end
section
/-- java/lang/Long.numberOfTrailingZeros(J)I -/
def zt_267 : List zx_En := [
  (0, 1, .lload_n 0, 0, 0, 0, 0, 0),
  (1, 1, .l2i, 0, 0, 0, 0, 0),
  (2, 1, .istore_n 2, 0, 0, 0, 0, 0),
  (3, 1, .iload_n 2, 0, 0, 0, 0, 0),
  (4, 3, .ifCond .ne 17, 0, 0, 0, 21, 0),
  (7, 2, .bipush 32, 32, 0, 0, 0, 0),
  (9, 1, .lload_n 0, 0, 0, 0, 0, 0),
  (10, 2, .bipush 32, 32, 0, 0, 0, 0),
  (12, 1, .lushr, 0, 0, 0, 0, 0),
  (13, 1, .l2i, 0, 0, 0, 0, 0),
  (14, 3, .invokestatic 311, 0, 0, 970, 2, 265),
  (17, 1, .iadd, 0, 0, 0, 0, 0),
  (18, 3, .goto 7, 0, 0, 0, 25, 0),
  (21, 1, .iload_n 2, 0, 0, 0, 0, 0),
  (22, 3, .invokestatic 311, 0, 0, 970, 2, 265),
  (25, 1, .ireturn, 0, 0, 0, 0, 0)]
set_option maxRecDepth 100000 in
theorem zk_267 : zt_267.all (zx_chk 267) = true := by decide +kernel
/-- java/lang/Long.bitCount(J)I -/
def zt_268 : List zx_En := [
  (0, 1, .lload_n 0, 0, 0, 0, 0, 0),
  (1, 1, .lload_n 0, 0, 0, 0, 0, 0),
  (2, 1, .iconst 1, 1, 0, 0, 0, 0),
  (3, 1, .lushr, 0, 0, 0, 0, 0),
  (4, 3, .ldc2_w 314, 0, 6148914691236517205, 974, 0, 0),
  (7, 1, .land, 0, 0, 0, 0, 0),
  (8, 1, .lsub, 0, 0, 0, 0, 0),
  (9, 1, .lstore_n 0, 0, 0, 0, 0, 0),
  (10, 1, .lload_n 0, 0, 0, 0, 0, 0),
  (11, 3, .ldc2_w 316, 0, 3689348814741910323, 975, 0, 0),
  (14, 1, .land, 0, 0, 0, 0, 0),
  (15, 1, .lload_n 0, 0, 0, 0, 0, 0),
  (16, 1, .iconst 2, 2, 0, 0, 0, 0),
  (17, 1, .lushr, 0, 0, 0, 0, 0),
  (18, 3, .ldc2_w 316, 0, 3689348814741910323, 975, 0, 0),
  (21, 1, .land, 0, 0, 0, 0, 0),
  (22, 1, .ladd, 0, 0, 0, 0, 0),
  (23, 1, .lstore_n 0, 0, 0, 0, 0, 0),
  (24, 1, .lload_n 0, 0, 0, 0, 0, 0),
  (25, 1, .lload_n 0, 0, 0, 0, 0, 0),
  (26, 1, .iconst 4, 4, 0, 0, 0, 0),
  (27, 1, .lushr, 0, 0, 0, 0, 0),
  (28, 1, .ladd, 0, 0, 0, 0, 0),
  (29, 3, .ldc2_w 318, 0, 1085102592571150095, 976, 0, 0),
  (32, 1, .land, 0, 0, 0, 0, 0),
  (33, 1, .lstore_n 0, 0, 0, 0, 0, 0),
  (34, 1, .lload_n 0, 0, 0, 0, 0, 0),
  (35, 1, .lload_n 0, 0, 0, 0, 0, 0),
  (36, 2, .bipush 8, 8, 0, 0, 0, 0),
  (38, 1, .lushr, 0, 0, 0, 0, 0),
  (39, 1, .ladd, 0, 0, 0, 0, 0),
  (40, 1, .lstore_n 0, 0, 0, 0, 0, 0),
  (41, 1, .lload_n 0, 0, 0, 0, 0, 0),
  (42, 1, .lload_n 0, 0, 0, 0, 0, 0),
  (43, 2, .bipush 16, 16, 0, 0, 0, 0),
  (45, 1, .lushr, 0, 0, 0, 0, 0),
  (46, 1, .ladd, 0, 0, 0, 0, 0),
  (47, 1, .lstore_n 0, 0, 0, 0, 0, 0),
  (48, 1, .lload_n 0, 0, 0, 0, 0, 0),
  (49, 1, .lload_n 0, 0, 0, 0, 0, 0),
  (50, 2, .bipush 32, 32, 0, 0, 0, 0),
  (52, 1, .lushr, 0, 0, 0, 0, 0),
  (53, 1, .ladd, 0, 0, 0, 0, 0),
  (54, 1, .lstore_n 0, 0, 0, 0, 0, 0),
  (55, 1, .lload_n 0, 0, 0, 0, 0, 0),
  (56, 1, .l2i, 0, 0, 0, 0, 0),
  (57, 2, .bipush 127, 127, 0, 0, 0, 0),
  (59, 1, .iand, 0, 0, 0, 0, 0),
  (60, 1, .ireturn, 0, 0, 0, 0, 0)]
set_option maxRecDepth 100000 in
theorem zk_268 : zt_268.all (zx_chk 268) = true := by decide +kernel
/-- java/util/Arrays.fill([II)V -/
def zt_271 : List zx_En := [
  (0, 1, .iconst 0, 0, 0, 0, 0, 0),
  (1, 1, .istore_n 2, 0, 0, 0, 0, 0),
  (2, 1, .aload_n 0, 0, 0, 0, 0, 0),
  (3, 1, .arraylength, 0, 0, 0, 0, 0),
  (4, 1, .istore_n 3, 0, 0, 0, 0, 0),
  (5, 1, .iload_n 2, 0, 0, 0, 0, 0),
  (6, 1, .iload_n 3, 0, 0, 0, 0, 0),
  (7, 3, .if_icmp .ge 13, 0, 0, 0, 20, 0),
  (10, 1, .aload_n 0, 0, 0, 0, 0, 0),
  (11, 1, .iload_n 2, 0, 0, 0, 0, 0),
  (12, 1, .iload_n 1, 0, 0, 0, 0, 0),
  (13, 1, .iastore, 0, 0, 0, 0, 0),
  (14, 3, .iinc 2 1, 1, 0, 0, 0, 0),
  (17, 3, .goto (-12), 0, 0, 0, 5, 0),
  (20, 1, .return_, 0, 0, 0, 0, 0)]
set_option maxRecDepth 100000 in
theorem zk_271 : zt_271.all (zx_chk 271) = true := by decide +kernel
end
section
/-! ===== the flat machine: memory, its picture in the heap ===== -/
/-- ints, longs, references by cell and place; a cell's kind and length; how many cells, how many slots were made -/
abbrev zx_M : Type := (Nat → Nat → Int32) × (Nat → Nat → Int64) × (Nat → Nat → Option Nat) × (Nat → Nat) × (Nat → Nat) × Nat × Nat
def zx_kd (M : zx_M) (i : Nat) : Nat := M.2.2.2.1 i
def zx_ln (M : zx_M) (i : Nat) : Nat := M.2.2.2.2.1 i
def zx_n (M : zx_M) : Nat := M.2.2.2.2.2.1
def zx_sl (M : zx_M) : Nat := M.2.2.2.2.2.2
def zx_u2 {α : Type} (f : Nat → Nat → α) (i k : Nat) (v : α) : Nat → Nat → α := fun x y => if x = i ∧ y = k then v else f x y
def zx_u1 {α : Type} (f : Nat → α) (i : Nat) (v : α) : Nat → α := fun x => if x = i then v else f x
def zx_ur {α : Type} (f : Nat → Nat → α) (i : Nat) (g : Nat → α) : Nat → Nat → α := fun x => if x = i then g else f x
def zx_pi (M : zx_M) (i k : Nat) (v : Int32) : zx_M := (zx_u2 M.1 i k v, M.2)
def zx_pl (M : zx_M) (i k : Nat) (v : Int64) : zx_M := (M.1, zx_u2 M.2.1 i k v, M.2.2)
def zx_pr (M : zx_M) (i k : Nat) (v : Option Nat) : zx_M := (M.1, M.2.1, zx_u2 M.2.2.1 i k v, M.2.2.2)
/-- a new cell of a kind, a length; its places are 0 or null; z slots -/
def zx_nw (M : zx_M) (kd ln z : Nat) : zx_M := (zx_ur M.1 (zx_n M) (fun _ => 0), zx_ur M.2.1 (zx_n M) (fun _ => 0), zx_ur M.2.2.1 (zx_n M) (fun _ => none), zx_u1 M.2.2.2.1 (zx_n M) kd, zx_u1 M.2.2.2.2.1 (zx_n M) ln, zx_n M + 1, zx_sl M + z)
/-- where the cells lie: the first new one, the script, the two static rows; the classes' numbers and slots, the arrays' classes -/
abbrev zx_E : Type := (Nat × Nat × Nat × Nat) × va_G × (Nat → ClassId)
def zx_rho (E : zx_E) (i : Nat) : Nat := match i with
  | 0 => E.1.2.1
  | 1 => E.1.2.2.1
  | 2 => E.1.2.2.2
  | j + 3 => E.1.1 + j
def zx_v (E : zx_E) (v : Value) : Value := match v with
  | .ref i => .ref (zx_rho E i)
  | w => w
/-- 0 an int, 1 a long, 2 a reference -/
def zx_tc (t : FieldType) : Nat := match t with
  | .long => 1
  | .object _ => 2
  | .array _ => 2
  | _ => 0
def zx_cv (M : zx_M) (t i k : Nat) : Value := match t with
  | 0 => .int (M.1 i k)
  | 1 => .long (M.2.1 i k)
  | _ => va_rf (M.2.2.1 i k)
def zx_A (E : zx_E) : Nat → Prop := fun q => E.1.1 ≤ q
def zx_cell (E : zx_E) (M : zx_M) (i : Nat) (H : Heap) : Prop :=
  (zx_kd M i < 13 → t_OB (zx_rho E i) (E.2.1.1 (zx_kd M i)) (zx_N (zx_kd M i)) (E.2.1.2 (zx_kd M i)) H (fun k => zx_v E (zx_cv M (zx_tc (zx_ty (zx_kd M i) k)) i k))) ∧
  (20 ≤ zx_kd M i → zx_kd M i ≤ 26 → H[zx_rho E i]? = some (arrV (E.2.2 (zx_kd M i)) (zx_ln M i) (fun j => zx_v E (zx_cv M (zx_tc (zx_at (zx_kd M i))) i j))))
def zx_ext (E : zx_E) (M : zx_M) (U : State) (H : Heap) : Prop :=
  (∀ i, i < 3 → zx_kd M i = 30 ∧ va_T .int (zx_rho E i) (zx_ln M i) (fun j => .int (M.1 i j)) (zx_A E) U H) ∧
  va_Z "NamesThatShrink$NewNames" "SEVENS" "[I" (.ref (zx_rho E 1)) (zx_A E) U H ∧ va_Z "NamesThatShrink$NewNames" "SIXES" "[I" (.ref (zx_rho E 2)) (zx_A E) U H
def zx_R (E : zx_E) (M : zx_M) (U : State) (H : Heap) : Prop :=
  3 ≤ zx_n M ∧ H.size + 3 = E.1.1 + zx_n M ∧ zx_ext E M U H ∧ ∀ i, 3 ≤ i → i < zx_n M → zx_cell E M i H
def zx_tys (E : zx_E) : List (ClassId × FieldType) := [(E.2.2 20, .int), (E.2.2 21, .long), (E.2.2 22, .byte), (E.2.2 23, .boolean), (E.2.2 24, .array .int), (E.2.2 25, .array .long), (E.2.2 26, .object "NamesThatShrink$Picks")]
def zx_nest : List Jvm.Cond := lw_tbl.filter (fun w => match w with
  | .methodLinkNest .. => true
  | .arrayOver (.object _) => true
  | .arrayOver (.array _) => true
  | _ => false)
def zx_K (E : zx_E) (U : State) : Prop := va_K E.2.1 zx_cl (zx_tys E) U ∧ ∀ w ∈ zx_nest, va_Nw w U
theorem zx_rho_ge {E : zx_E} {i : Nat} (h : 3 ≤ i) : zx_rho E i = E.1.1 + (i - 3) := by
  match i, h with
  | j + 3, _ => simp [zx_rho]
theorem zx_rho_in {E : zx_E} {i : Nat} (h : 3 ≤ i) : zx_A E (zx_rho E i) := by
  rw [zx_rho_ge h]; exact Nat.le_add_right _ _
theorem zx_rho_inj {E : zx_E} {i j : Nat} (hi : 3 ≤ i) (hj : 3 ≤ j) (h : zx_rho E i = zx_rho E j) : i = j := by
  rw [zx_rho_ge hi, zx_rho_ge hj] at h; omega
theorem zx_cell.kept {E : zx_E} {M : zx_M} {i : Nat} {H H1 : Heap} (h : zx_cell E M i H) (hq : H1[zx_rho E i]? = H[zx_rho E i]?) : zx_cell E M i H1 :=
  ⟨fun a => (h.1 a).kept hq, fun a b => by rw [hq]; exact h.2 a b⟩
theorem zx_cell.cong {E : zx_E} {M M1 : zx_M} {i : Nat} {H : Heap} (h : zx_cell E M i H) (hk : zx_kd M1 i = zx_kd M i) (hl : zx_ln M1 i = zx_ln M i) (h1 : M1.1 i = M.1 i) (h2 : M1.2.1 i = M.2.1 i) (h3 : M1.2.2.1 i = M.2.2.1 i) : zx_cell E M1 i H := by
  unfold zx_cell zx_cv at *
  rw [hk, hl, h1, h2, h3]
  exact h
theorem zx_ext.kept {E : zx_E} {M : zx_M} {U : State} {H H1 : Heap} (h : zx_ext E M U H) (hq : ∀ a : Nat, a < H.size → ¬ zx_A E a → H1[a]? = H[a]?) : zx_ext E M U H1 :=
  ⟨fun i hi => ⟨(h.1 i hi).1, va_T.kept (h.1 i hi).2 hq⟩, va_Z.kept h.2.1 hq, va_Z.kept h.2.2 hq⟩
theorem zx_ext.moved {E : zx_E} {M : zx_M} {u U : State} {H : Heap} (hvm : u.vm.Alike U.vm) (h : zx_ext E M u H) : zx_ext E M U H :=
  ⟨fun i hi => ⟨(h.1 i hi).1, va_T.moved hvm (h.1 i hi).2⟩, va_Z.moved hvm h.2.1, va_Z.moved hvm h.2.2⟩
theorem zx_ext.cong {E : zx_E} {M M1 : zx_M} {U : State} {H : Heap} (h : zx_ext E M U H) (hk : ∀ i, i < 3 → zx_kd M1 i = zx_kd M i) (hl : ∀ i, i < 3 → zx_ln M1 i = zx_ln M i) (h1 : ∀ i, i < 3 → M1.1 i = M.1 i) : zx_ext E M1 U H :=
  ⟨fun i hi => by rw [hk i hi, hl i hi, h1 i hi]; exact h.1 i hi, h.2⟩
theorem zx_R.moved {E : zx_E} {M : zx_M} {u U : State} {H : Heap} (hvm : u.vm.Alike U.vm) (h : zx_R E M u H) : zx_R E M U H := ⟨h.1, h.2.1, h.2.2.1.moved hvm, h.2.2.2⟩
theorem zx_R.ltH {E : zx_E} {M : zx_M} {U : State} {H : Heap} (h : zx_R E M U H) {i : Nat} (h3 : 3 ≤ i) (hi : i < zx_n M) : zx_rho E i < H.size := by
  have := h.2.1
  rw [zx_rho_ge h3]; omega
/-- one cell is written: the others stay as they were -/
theorem zx_R.put {E : zx_E} {M M1 : zx_M} {U : State} {H H1 : Heap} (h : zx_R E M U H) {i : Nat} (hi3 : 3 ≤ i)
    (hn : zx_n M1 = zx_n M) (hk : ∀ j, zx_kd M1 j = zx_kd M j) (hl : ∀ j, zx_ln M1 j = zx_ln M j) (h1 : ∀ j, j ≠ i → M1.1 j = M.1 j) (h2 : ∀ j, j ≠ i → M1.2.1 j = M.2.1 j) (h3 : ∀ j, j ≠ i → M1.2.2.1 j = M.2.2.1 j)
    (hz : H1.size = H.size) (oq : ∀ q : Nat, q ≠ zx_rho E i → H1[q]? = H[q]?) (hc : zx_cell E M1 i H1) : zx_R E M1 U H1 := by
  refine ⟨by rw [hn]; exact h.1, by rw [hn, hz]; exact h.2.1, ?_, fun j hj3 hj => ?_⟩
  · refine (h.2.2.1.kept (fun a _ ha => oq a (fun e => ha (by rw [e]; exact zx_rho_in hi3)))).cong (fun j _ => hk j) (fun j _ => hl j) (fun j hj => h1 j (by omega))
  · by_cases e : j = i
    · subst e; exact hc
    · rw [hn] at hj
      exact ((h.2.2.2 j hj3 hj).kept (oq _ (fun q => e (zx_rho_inj hj3 hi3 q)))).cong (hk j) (hl j) (h1 j e) (h2 j e) (h3 j e)
/-- a new cell -/
theorem zx_R.push {E : zx_E} {M : zx_M} {U : State} {H H1 : Heap} {kd ln z : Nat} (h : zx_R E M U H) (hz : H1.size = H.size + 1) (oq : ∀ q : Nat, q < H.size → H1[q]? = H[q]?) (hc : zx_cell E (zx_nw M kd ln z) (zx_n M) H1) : zx_R E (zx_nw M kd ln z) U H1 := by
  have e0 := h.1
  have e1 := h.2.1
  have en : zx_n (zx_nw M kd ln z) = zx_n M + 1 := rfl
  refine ⟨by omega, by omega, ?_, fun j hj3 hj => ?_⟩
  · refine (h.2.2.1.kept (fun a ha _ => oq a ha)).cong ?_ ?_ ?_ <;> intro j hj <;> have hne : j ≠ zx_n M := by omega
    · simp [zx_kd, zx_nw, zx_u1, hne]
    · simp [zx_ln, zx_nw, zx_u1, hne]
    · simp [zx_nw, zx_ur, hne]
  · by_cases e : j = zx_n M
    · subst e; exact hc
    · have hj' : j < zx_n M := by omega
      refine ((h.2.2.2 j hj3 hj').kept (oq _ (h.ltH hj3 hj'))).cong ?_ ?_ ?_ ?_ ?_ <;> simp [zx_kd, zx_ln, zx_nw, zx_u1, zx_ur, e]
theorem zx_R.at {E : zx_E} {M : zx_M} {U : State} {H : Heap} (h : zx_R E M U H) : H.size = zx_rho E (zx_n M) := by
  rw [zx_rho_ge h.1]; have := h.1; have := h.2.1; omega
/-! ===== locals ===== -/
def zx_L (E : zx_E) (nL : Nat) (ls : List (Option Value)) (la : Array Slot) : Prop := la.size = nL ∧ lv_wf la ∧ ∀ (i : Nat) (v : Value), ls[i]? = some (some v) → la[i]? = some (.val (zx_v E v))
def zx_lv (E : zx_E) (ls : List (Option Value)) : List (Nat × Value) := (List.range ls.length).filterMap (fun i => match ls[i]? with
  | some (some v) => some (i, zx_v E v)
  | _ => none)
theorem zx_lv_mem {E : zx_E} {ls : List (Option Value)} {i : Nat} {v : Value} (h : ls[i]? = some (some v)) : (i, zx_v E v) ∈ zx_lv E ls := by
  refine List.mem_filterMap.mpr ⟨i, List.mem_range.mpr (List.getElem?_eq_some_iff.mp h).1, ?_⟩
  rw [h]
theorem zx_L.has {E : zx_E} {nL : Nat} {ls : List (Option Value)} {la : Array Slot} (h : zx_L E nL ls la) : lv_has la nL (zx_lv E ls) := by
  refine ⟨h.1, h.2.1, fun q hq => ?_⟩
  obtain ⟨i, -, hi⟩ := List.mem_filterMap.mp hq
  split at hi
  · rename_i v hv
    cases hi
    exact h.2.2 i v hv
  · cases hi
theorem zx_cat (E : zx_E) (v : Value) : (zx_v E v).category = v.category := by cases v <;> rfl
/-- a store of one slot, of two slots -/
def zx_s1 (ls : List (Option Value)) (i : Nat) (v : Value) : List (Option Value) := match i with
  | 0 => ls.set 0 (some v)
  | j + 1 => match ls[j]? with
    | some (some (.long _)) => (ls.set j none).set (j + 1) (some v)
    | some (some (.double _)) => (ls.set j none).set (j + 1) (some v)
    | _ => ls.set (j + 1) (some v)
def zx_s2 (ls : List (Option Value)) (i : Nat) (v : Value) : List (Option Value) := (zx_s1 ls i v).set (i + 1) none
theorem zx_s1_get {ls : List (Option Value)} {i j : Nat} {v w : Value} (h : (zx_s1 ls i v)[j]? = some (some w)) : (j = i ∧ w = v) ∨ (j ≠ i ∧ ls[j]? = some (some w) ∧ ¬ (j + 1 = i ∧ w.category = 2)) := by
  have key : ∀ ls' : List (Option Value), (ls'.set i (some v))[j]? = some (some w) → (j = i ∧ w = v) ∨ (j ≠ i ∧ ls'[j]? = some (some w)) := by
    intro ls' h
    by_cases e : j = i
    · subst e
      rw [List.getElem?_set] at h
      simp only [if_pos] at h
      split at h
      · cases h; exact Or.inl ⟨rfl, rfl⟩
      · cases h
    · rw [List.getElem?_set_ne (Ne.symm e)] at h
      exact Or.inr ⟨e, h⟩
  have key2 : ∀ jj, (ls.set jj none)[j]? = some (some w) → j ≠ jj ∧ ls[j]? = some (some w) := by
    intro jj h
    by_cases e : j = jj
    · subst e
      rw [List.getElem?_set] at h
      simp only [if_pos] at h
      split at h <;> cases h
    · rw [List.getElem?_set_ne (Ne.symm e)] at h
      exact ⟨e, h⟩
  match i with
  | 0 =>
    rcases key ls h with g | ⟨g1, g2⟩
    · exact Or.inl g
    · exact Or.inr ⟨g1, g2, fun q => by omega⟩
  | jj + 1 =>
    simp only [zx_s1] at h
    split at h
    · rcases key _ h with g | ⟨g1, g2⟩
      · exact Or.inl g
      · obtain ⟨g3, g4⟩ := key2 jj g2
        exact Or.inr ⟨g1, g4, fun q => g3 (by omega)⟩
    · rcases key _ h with g | ⟨g1, g2⟩
      · exact Or.inl g
      · obtain ⟨g3, g4⟩ := key2 jj g2
        exact Or.inr ⟨g1, g4, fun q => g3 (by omega)⟩
    · rename_i n1 n2
      rcases key _ h with g | ⟨g1, g2⟩
      · exact Or.inl g
      · refine Or.inr ⟨g1, g2, fun q => ?_⟩
        have e : j = jj := by omega
        subst e
        cases w with
        | long x => exact n1 x g2
        | double x => exact n2 x g2
        | _ => simp [Value.category] at q
theorem zx_L.s1 {E : zx_E} {nL : Nat} {ls : List (Option Value)} {la : Array Slot} {i : Nat} {v : Value} (h : lv_has la nL ((i, zx_v E v) :: (zx_lv E ls).filter (fun q => !(q.1 == i) && !(q.1 + 1 == i && q.2.category == 2)))) : zx_L E nL (zx_s1 ls i v) la := by
  refine ⟨h.1, h.2.1, fun j w hj => ?_⟩
  rcases zx_s1_get hj with ⟨rfl, rfl⟩ | ⟨h1, h2, h3⟩
  · exact h.2.2 (j, zx_v E w) List.mem_cons_self
  · refine h.2.2 (j, zx_v E w) (List.mem_cons_of_mem _ (List.mem_filter.mpr ⟨zx_lv_mem h2, ?_⟩))
    simp only [zx_cat, Bool.and_eq_true, Bool.not_eq_true', beq_eq_false_iff_ne, ne_eq, Bool.and_eq_false_iff]
    refine ⟨h1, ?_⟩
    by_cases e : j + 1 = i
    · exact Or.inr (fun q => h3 ⟨e, q⟩)
    · exact Or.inl e
theorem zx_L.s2 {E : zx_E} {nL : Nat} {ls : List (Option Value)} {la : Array Slot} {i : Nat} {v : Value} (h : lv_has la nL ((i, zx_v E v) :: (zx_lv E ls).filter (fun q => !(q.1 == i) && (!(q.1 == i + 1) && !(q.1 + 1 == i && q.2.category == 2))))) : zx_L E nL (zx_s2 ls i v) la := by
  refine ⟨h.1, h.2.1, fun j w hj => ?_⟩
  have hj2 : j ≠ i + 1 ∧ (zx_s1 ls i v)[j]? = some (some w) := by
    unfold zx_s2 at hj
    by_cases e : j = i + 1
    · subst e
      rw [List.getElem?_set] at hj
      simp only [if_pos] at hj
      split at hj <;> cases hj
    · rw [List.getElem?_set_ne (Ne.symm e)] at hj
      exact ⟨e, hj⟩
  rcases zx_s1_get hj2.2 with ⟨rfl, rfl⟩ | ⟨h1, h2, h3⟩
  · exact h.2.2 (j, zx_v E w) List.mem_cons_self
  · refine h.2.2 (j, zx_v E w) (List.mem_cons_of_mem _ (List.mem_filter.mpr ⟨zx_lv_mem h2, ?_⟩))
    simp only [zx_cat, Bool.and_eq_true, Bool.not_eq_true', beq_eq_false_iff_ne, ne_eq, Bool.and_eq_false_iff]
    refine ⟨h1, hj2.1, ?_⟩
    by_cases e : j + 1 = i
    · exact Or.inr (fun q => h3 ⟨e, q⟩)
    · exact Or.inl e
end
section
/-! ===== one method's run: from a state to its return ===== -/
def zx_F (E : zx_E) (d k : Nat) (p : Program) (R : Room) (s : State) (m : MethodId) (args : Array Value) (meth : Method) (c : Code) : Prop :=
  p.tables.exec = Jvm.exec ∧ c.code = zx_b k ∧ c.maxLocals = zx_mL k ∧ s.vm.findClass (zx_own k) = some m.cls ∧ (∀ w ∈ zx_good, w.before args s = true) ∧ zx_K E s ∧ d ≤ R.frames ∧ 64 * d ≤ R.locals ∧ meth.name = (zx_y k).name
def zx_B (E : zx_E) (locs : List Loc) : Prop := ∀ q ∈ locs, zx_A E q.base
def zx_ri (r : Option Value) : Instr := match r with
  | some (.int _) => .ireturn
  | some (.long _) => .lreturn
  | _ => .return_
def zx_Z (l : Launch) (E : zx_E) (d k pc : Nat) (ls : List (Option Value)) (st : List Value) (M : zx_M) (r : Option Value) (M' : zx_M) : Prop :=
  zx_n M ≤ zx_n M' ∧ zx_sl M ≤ zx_sl M' ∧
  ∀ (p : Program) (e : Env) (R : Room) (s : State) (m : MethodId) (args : Array Value) (below : List Frame) (meth : Method) (c : Code), zx_F E d k p R s m args meth c →
  ∀ (Q : State → Prop) (CF SF : Nat), CF ≤ R.cells → SF ≤ R.slots →
  (∀ (pc' : Nat) (la' : Array Slot) (H' : Heap) (locs' : List Loc), decode (zx_b k) pc' = .ok (zx_ri r, 1) → zx_R E M' s H' → zx_B E locs' → W p l e R s m args below meth c H' locs' CF SF Q (F0 m pc' la' (r.map (zx_v E)).toList)) →
  ∀ (H : Heap) (locs : List Loc) (cells slots : Nat) (la : Array Slot), zx_R E M s H → zx_L E (zx_mL k) ls la → zx_B E locs → cells + (zx_n M' - zx_n M) = CF → slots + (zx_sl M' - zx_sl M) = SF →
  W p l e R s m args below meth c H locs cells slots Q (F0 m pc la (st.map (zx_v E)))
/-- what may be returned -/
def zx_rok (k : Nat) (r : Option Value) : Prop := match r with
  | none => zx_rt k = none
  | some (.int v) => ∃ ty, zx_rt k = some ty ∧ narrow ty (.int v) = .int v
  | some (.long _) => zx_rt k = some .long
  | _ => False
/-- from this state the method returns, with an answer and a memory of this sort -/
def zx_To (l : Launch) (E : zx_E) (d k pc : Nat) (ls : List (Option Value)) (st : List Value) (M : zx_M) (Q : Option Value → zx_M → Prop) : Prop := ∃ r M', Q r M' ∧ zx_rok k r ∧ zx_Z l E d k pc ls st M r M'
section ZS
variable {l : Launch} {E : zx_E} {d k pc pc1 : Nat} {ls ls1 : List (Option Value)} {st st1 : List Value} {M M1 : zx_M} {r : Option Value} {M' : zx_M} {Qo : Option Value → zx_M → Prop}
/-- a step that makes no cell -/
theorem zx_Zs (hn : zx_n M1 = zx_n M) (hs : zx_sl M1 = zx_sl M)
    (hW : ∀ (p : Program) (e : Env) (R : Room) (s : State) (m : MethodId) (args : Array Value) (below : List Frame) (meth : Method) (c : Code), zx_F E d k p R s m args meth c →
      ∀ (Q : State → Prop) (H : Heap) (locs : List Loc) (cells slots : Nat) (la : Array Slot), cells ≤ R.cells → slots ≤ R.slots → zx_R E M s H → zx_L E (zx_mL k) ls la → zx_B E locs →
      (∀ (H1 : Heap) (locs1 : List Loc) (la1 : Array Slot), zx_R E M1 s H1 → zx_L E (zx_mL k) ls1 la1 → zx_B E locs1 → W p l e R s m args below meth c H1 locs1 cells slots Q (F0 m pc1 la1 (st1.map (zx_v E)))) →
      W p l e R s m args below meth c H locs cells slots Q (F0 m pc la (st.map (zx_v E))))
    (hz : zx_To l E d k pc1 ls1 st1 M1 Qo) : zx_To l E d k pc ls st M Qo := by
  obtain ⟨r, M', hq, ho, h1, h2, h3⟩ := hz
  refine ⟨r, M', hq, ho, by omega, by omega, fun p e R s m args below meth c hF Q CF SF hC hS hret H locs cells slots la hR hL hB e1 e2 => ?_⟩
  refine hW p e R s m args below meth c hF Q H locs cells slots la (by omega) (by omega) hR hL hB (fun H1 locs1 la1 hR1 hL1 hB1 => ?_)
  exact h3 p e R s m args below meth c hF Q CF SF hC hS hret H1 locs1 cells slots la1 hR1 hL1 hB1 (by omega) (by omega)
/-- a step that changes the stack alone -/
theorem zx_Za (hW : ∀ (p : Program) (e : Env) (R : Room) (s : State) (m : MethodId) (args : Array Value) (below : List Frame) (meth : Method) (c : Code), zx_F E d k p R s m args meth c →
      ∀ (Q : State → Prop) (H : Heap) (locs : List Loc) (cells slots : Nat) (la : Array Slot), zx_L E (zx_mL k) ls la → 
      W p l e R s m args below meth c H locs cells slots Q (F0 m pc1 la (st1.map (zx_v E))) →
      W p l e R s m args below meth c H locs cells slots Q (F0 m pc la (st.map (zx_v E))))
    (hz : zx_To l E d k pc1 ls st1 M Qo) : zx_To l E d k pc ls st M Qo :=
  zx_Zs rfl rfl (fun p e R s m args below meth c hF Q H locs cells slots la _ _ hR hL hB kk => hW p e R s m args below meth c hF Q H locs cells slots la hL (kk H locs la hR hL hB)) hz
/-- a jump that goes one of two ways -/
theorem zx_Zb {pc2 : Nat} {c0 : Prop} [Decidable c0] (hW : ∀ (p : Program) (e : Env) (R : Room) (s : State) (m : MethodId) (args : Array Value) (below : List Frame) (meth : Method) (c : Code), zx_F E d k p R s m args meth c →
      ∀ (Q : State → Prop) (H : Heap) (locs : List Loc) (cells slots : Nat) (la : Array Slot),
      (c0 → W p l e R s m args below meth c H locs cells slots Q (F0 m pc1 la (st1.map (zx_v E)))) → (¬ c0 → W p l e R s m args below meth c H locs cells slots Q (F0 m pc2 la (st1.map (zx_v E)))) →
      W p l e R s m args below meth c H locs cells slots Q (F0 m pc la (st.map (zx_v E))))
    (h1 : c0 → zx_To l E d k pc1 ls st1 M Qo) (h2 : ¬ c0 → zx_To l E d k pc2 ls st1 M Qo) : zx_To l E d k pc ls st M Qo := by
  by_cases hc : c0
  · exact zx_Za (fun p e R s m args below meth c hF Q H locs cells slots la _ kk => hW p e R s m args below meth c hF Q H locs cells slots la (fun _ => kk) (fun n => absurd hc n)) (h1 hc)
  · exact zx_Za (fun p e R s m args below meth c hF Q H locs cells slots la _ kk => hW p e R s m args below meth c hF Q H locs cells slots la (fun n => absurd n hc) (fun _ => kk)) (h2 hc)
end ZS
/-! ===== the instructions that change the stack alone ===== -/
def zx_alu (ins : Instr) (v : Int32) (w : Int64) (st : List Value) : Option (Option Prop × List Value) := match ins with
  | .iconst _ => some (none, .int v :: st)
  | .bipush _ => some (none, .int v :: st)
  | .sipush _ => some (none, .int v :: st)
  | .ldc _ => some (none, .int v :: st)
  | .ldc_w _ => some (none, .int v :: st)
  | .lconst _ => some (none, .long w :: st)
  | .ldc2_w _ => some (none, .long w :: st)
  | .iadd => match st with
    | .int y :: .int x :: st => some (none, .int (x + y) :: st)
    | _ => none
  | .isub => match st with
    | .int y :: .int x :: st => some (none, .int (x - y) :: st)
    | _ => none
  | .imul => match st with
    | .int y :: .int x :: st => some (none, .int (x * y) :: st)
    | _ => none
  | .idiv => match st with
    | .int y :: .int x :: st => some (some (¬ y = 0), .int (x / y) :: st)
    | _ => none
  | .irem => match st with
    | .int y :: .int x :: st => some (some (¬ y = 0), .int (x - x / y * y) :: st)
    | _ => none
  | .iand => match st with
    | .int y :: .int x :: st => some (none, .int (x &&& y) :: st)
    | _ => none
  | .ior => match st with
    | .int y :: .int x :: st => some (none, .int (x ||| y) :: st)
    | _ => none
  | .ixor => match st with
    | .int y :: .int x :: st => some (none, .int (x ^^^ y) :: st)
    | _ => none
  | .ishl => match st with
    | .int y :: .int x :: st => some (none, .int (x <<< (y &&& 31)) :: st)
    | _ => none
  | .ishr => match st with
    | .int y :: .int x :: st => some (none, .int (x >>> (y &&& 31)) :: st)
    | _ => none
  | .iushr => match st with
    | .int y :: .int x :: st => some (none, .int (x.toUInt32 >>> (y.toUInt32 &&& Int32.toUInt32 31)).toInt32 :: st)
    | _ => none
  | .ladd => match st with
    | .long y :: .long x :: st => some (none, .long (x + y) :: st)
    | _ => none
  | .lsub => match st with
    | .long y :: .long x :: st => some (none, .long (x - y) :: st)
    | _ => none
  | .lmul => match st with
    | .long y :: .long x :: st => some (none, .long (x * y) :: st)
    | _ => none
  | .lrem => match st with
    | .long y :: .long x :: st => some (some (¬ y = 0), .long (x - x / y * y) :: st)
    | _ => none
  | .land => match st with
    | .long y :: .long x :: st => some (none, .long (x &&& y) :: st)
    | _ => none
  | .lor => match st with
    | .long y :: .long x :: st => some (none, .long (x ||| y) :: st)
    | _ => none
  | .lxor => match st with
    | .long y :: .long x :: st => some (none, .long (x ^^^ y) :: st)
    | _ => none
  | .lshl => match st with
    | .int y :: .long x :: st => some (none, .long (x <<< (y.toInt64 &&& 63)) :: st)
    | _ => none
  | .lshr => match st with
    | .int y :: .long x :: st => some (none, .long (x >>> (y.toInt64 &&& 63)) :: st)
    | _ => none
  | .lushr => match st with
    | .int y :: .long x :: st => some (none, .long (x.toUInt64 >>> (y.toInt64.toUInt64 &&& Int64.toUInt64 63)).toInt64 :: st)
    | _ => none
  | .lcmp => match st with
    | .long y :: .long x :: st => some (none, .int (lg_cmp x y) :: st)
    | _ => none
  | .i2l => match st with
    | .int x :: st => some (none, .long x.toInt64 :: st)
    | _ => none
  | .l2i => match st with
    | .long x :: st => some (none, .int x.toInt32 :: st)
    | _ => none
  | .i2b => match st with
    | .int x :: st => some (none, .int x.toInt8.toInt32 :: st)
    | _ => none
  | .i2s => match st with
    | .int x :: st => some (none, .int x.toInt16.toInt32 :: st)
    | _ => none
  | .dup => match st with
    | .int x :: st => some (none, .int x :: .int x :: st)
    | .ref x :: st => some (none, .ref x :: .ref x :: st)
    | _ => none
  | .dup2 => match st with
    | .int y :: .ref x :: st => some (none, .int y :: .ref x :: .int y :: .ref x :: st)
    | .int y :: .int x :: st => some (none, .int y :: .int x :: .int y :: .int x :: st)
    | _ => none
  | .pop => match st with
    | .int _ :: st => some (none, st)
    | .ref _ :: st => some (none, st)
    | _ => none
  | _ => none
def zx_oc (c : Option Prop) : Prop := match c with
  | none => True
  | some q => q
theorem zx_chk_opr {k pc len p a b : Nat} {ins : Instr} {v : Int32} {w : Int64} (h : zx_chk k (pc, len, ins, v, w, p, a, b) = true) : zx_opr k pc ins v w p a b = true := by
  simp only [zx_chk, Bool.and_eq_true] at h
  exact h.2
theorem zx_chk_dec {k pc len p a b : Nat} {ins : Instr} {v : Int32} {w : Int64} (h : zx_chk k (pc, len, ins, v, w, p, a, b) = true) : decode (zx_b k) pc = .ok (ins, len) ∧ (zx_len ins = 0 ∨ len = zx_len ins) := by
  simp only [zx_chk, Bool.and_eq_true, decide_eq_true_eq] at h
  obtain ⟨⟨h1, h2⟩, -⟩ := h
  refine ⟨?_, h2⟩
  split at h1
  · rename_i q hq
    rw [hq, of_decide_eq_true h1]
  · cases h1
set_option maxHeartbeats 2000000 in
theorem zx_alu_ok {l : Launch} {E : zx_E} {d k pc len p a b : Nat} {ins : Instr} {v : Int32} {w : Int64} {ls : List (Option Value)} {st st1 : List Value} {M : zx_M} {c0 : Option Prop} {Qo : Option Value → zx_M → Prop} (hc : zx_chk k (pc, len, ins, v, w, p, a, b) = true) (ha : zx_alu ins v w st = some (c0, st1)) (hp : zx_oc c0)
    (hz : zx_To l E d k (pc + len) ls st1 M Qo) : zx_To l E d k pc ls st M Qo := by
  obtain ⟨hd, hl⟩ := zx_chk_dec hc
  have hk := zx_chk_opr hc
  cases ins with
  | iadd =>
    simp only [zx_len] at hl
    simp only [zx_alu] at ha
    split at ha
    · cases ha; rcases hl with hl | hl <;> first | (cases hl; done) | subst hl
      refine zx_Za (fun p e R s m args below meth c hF Q H locs cells slots la hL kk => ?_) hz
      obtain ⟨hx, hb, -, hown, hts, -⟩ := hF
      exact lv_iadd hx hb hd kk
    · cases ha
  | isub =>
    simp only [zx_len] at hl
    simp only [zx_alu] at ha
    split at ha
    · cases ha; rcases hl with hl | hl <;> first | (cases hl; done) | subst hl
      refine zx_Za (fun p e R s m args below meth c hF Q H locs cells slots la hL kk => ?_) hz
      obtain ⟨hx, hb, -, hown, hts, -⟩ := hF
      exact lv_isub hx hb hd kk
    · cases ha
  | imul =>
    simp only [zx_len] at hl
    simp only [zx_alu] at ha
    split at ha
    · cases ha; rcases hl with hl | hl <;> first | (cases hl; done) | subst hl
      refine zx_Za (fun p e R s m args below meth c hF Q H locs cells slots la hL kk => ?_) hz
      obtain ⟨hx, hb, -, hown, hts, -⟩ := hF
      exact lv_imul hx hb hd kk
    · cases ha
  | iand =>
    simp only [zx_len] at hl
    simp only [zx_alu] at ha
    split at ha
    · cases ha; rcases hl with hl | hl <;> first | (cases hl; done) | subst hl
      refine zx_Za (fun p e R s m args below meth c hF Q H locs cells slots la hL kk => ?_) hz
      obtain ⟨hx, hb, -, hown, hts, -⟩ := hF
      exact lv_iand hx hb hd kk
    · cases ha
  | ior =>
    simp only [zx_len] at hl
    simp only [zx_alu] at ha
    split at ha
    · cases ha; rcases hl with hl | hl <;> first | (cases hl; done) | subst hl
      refine zx_Za (fun p e R s m args below meth c hF Q H locs cells slots la hL kk => ?_) hz
      obtain ⟨hx, hb, -, hown, hts, -⟩ := hF
      exact lv_ior hx hb hd kk
    · cases ha
  | ixor =>
    simp only [zx_len] at hl
    simp only [zx_alu] at ha
    split at ha
    · cases ha; rcases hl with hl | hl <;> first | (cases hl; done) | subst hl
      refine zx_Za (fun p e R s m args below meth c hF Q H locs cells slots la hL kk => ?_) hz
      obtain ⟨hx, hb, -, hown, hts, -⟩ := hF
      exact lv_ixor hx hb hd kk
    · cases ha
  | ishl =>
    simp only [zx_len] at hl
    simp only [zx_alu] at ha
    split at ha
    · cases ha; rcases hl with hl | hl <;> first | (cases hl; done) | subst hl
      refine zx_Za (fun p e R s m args below meth c hF Q H locs cells slots la hL kk => ?_) hz
      obtain ⟨hx, hb, -, hown, hts, -⟩ := hF
      exact lv_ishl hx hb hd kk
    · cases ha
  | ishr =>
    simp only [zx_len] at hl
    simp only [zx_alu] at ha
    split at ha
    · cases ha; rcases hl with hl | hl <;> first | (cases hl; done) | subst hl
      refine zx_Za (fun p e R s m args below meth c hF Q H locs cells slots la hL kk => ?_) hz
      obtain ⟨hx, hb, -, hown, hts, -⟩ := hF
      exact lv_ishr hx hb hd kk
    · cases ha
  | ladd =>
    simp only [zx_len] at hl
    simp only [zx_alu] at ha
    split at ha
    · cases ha; rcases hl with hl | hl <;> first | (cases hl; done) | subst hl
      refine zx_Za (fun p e R s m args below meth c hF Q H locs cells slots la hL kk => ?_) hz
      obtain ⟨hx, hb, -, hown, hts, -⟩ := hF
      exact lv_ladd hx hb hd kk
    · cases ha
  | lsub =>
    simp only [zx_len] at hl
    simp only [zx_alu] at ha
    split at ha
    · cases ha; rcases hl with hl | hl <;> first | (cases hl; done) | subst hl
      refine zx_Za (fun p e R s m args below meth c hF Q H locs cells slots la hL kk => ?_) hz
      obtain ⟨hx, hb, -, hown, hts, -⟩ := hF
      exact lv_lsub hx hb hd kk
    · cases ha
  | lmul =>
    simp only [zx_len] at hl
    simp only [zx_alu] at ha
    split at ha
    · cases ha; rcases hl with hl | hl <;> first | (cases hl; done) | subst hl
      refine zx_Za (fun p e R s m args below meth c hF Q H locs cells slots la hL kk => ?_) hz
      obtain ⟨hx, hb, -, hown, hts, -⟩ := hF
      exact lv_lmul hx hb hd kk
    · cases ha
  | land =>
    simp only [zx_len] at hl
    simp only [zx_alu] at ha
    split at ha
    · cases ha; rcases hl with hl | hl <;> first | (cases hl; done) | subst hl
      refine zx_Za (fun p e R s m args below meth c hF Q H locs cells slots la hL kk => ?_) hz
      obtain ⟨hx, hb, -, hown, hts, -⟩ := hF
      exact lv_land hx hb hd kk
    · cases ha
  | lor =>
    simp only [zx_len] at hl
    simp only [zx_alu] at ha
    split at ha
    · cases ha; rcases hl with hl | hl <;> first | (cases hl; done) | subst hl
      refine zx_Za (fun p e R s m args below meth c hF Q H locs cells slots la hL kk => ?_) hz
      obtain ⟨hx, hb, -, hown, hts, -⟩ := hF
      exact lv_lor hx hb hd kk
    · cases ha
  | lxor =>
    simp only [zx_len] at hl
    simp only [zx_alu] at ha
    split at ha
    · cases ha; rcases hl with hl | hl <;> first | (cases hl; done) | subst hl
      refine zx_Za (fun p e R s m args below meth c hF Q H locs cells slots la hL kk => ?_) hz
      obtain ⟨hx, hb, -, hown, hts, -⟩ := hF
      exact lv_lxor hx hb hd kk
    · cases ha
  | idiv =>
    simp only [zx_len] at hl
    simp only [zx_alu] at ha
    split at ha
    · cases ha; rcases hl with hl | hl <;> first | (cases hl; done) | subst hl
      refine zx_Za (fun p e R s m args below meth c hF Q H locs cells slots la hL kk => ?_) hz
      obtain ⟨hx, hb, -, hown, hts, -⟩ := hF
      exact lv_idiv hx hb hd hp kk
    · cases ha
  | irem =>
    simp only [zx_len] at hl
    simp only [zx_alu] at ha
    split at ha
    · cases ha; rcases hl with hl | hl <;> first | (cases hl; done) | subst hl
      refine zx_Za (fun p e R s m args below meth c hF Q H locs cells slots la hL kk => ?_) hz
      obtain ⟨hx, hb, -, hown, hts, -⟩ := hF
      exact lv_irem hx hb hd hp kk
    · cases ha
  | lrem =>
    simp only [zx_len] at hl
    simp only [zx_alu] at ha
    split at ha
    · cases ha; rcases hl with hl | hl <;> first | (cases hl; done) | subst hl
      refine zx_Za (fun p e R s m args below meth c hF Q H locs cells slots la hL kk => ?_) hz
      obtain ⟨hx, hb, -, hown, hts, -⟩ := hF
      exact lv_lrem hx hb hd hp kk
    · cases ha
  | iushr =>
    simp only [zx_len] at hl
    simp only [zx_alu] at ha
    split at ha
    · cases ha; rcases hl with hl | hl <;> first | (cases hl; done) | subst hl
      refine zx_Za (fun p e R s m args below meth c hF Q H locs cells slots la hL kk => ?_) hz
      obtain ⟨hx, hb, -, hown, hts, -⟩ := hF
      exact lv_iushr hx hb hd rfl kk
    · cases ha
  | lshl =>
    simp only [zx_len] at hl
    simp only [zx_alu] at ha
    split at ha
    · cases ha; rcases hl with hl | hl <;> first | (cases hl; done) | subst hl
      refine zx_Za (fun p e R s m args below meth c hF Q H locs cells slots la hL kk => ?_) hz
      obtain ⟨hx, hb, -, hown, hts, -⟩ := hF
      exact lv_lshl hx hb hd rfl kk
    · cases ha
  | lshr =>
    simp only [zx_len] at hl
    simp only [zx_alu] at ha
    split at ha
    · cases ha; rcases hl with hl | hl <;> first | (cases hl; done) | subst hl
      refine zx_Za (fun p e R s m args below meth c hF Q H locs cells slots la hL kk => ?_) hz
      obtain ⟨hx, hb, -, hown, hts, -⟩ := hF
      exact lv_lshr hx hb hd rfl kk
    · cases ha
  | lushr =>
    simp only [zx_len] at hl
    simp only [zx_alu] at ha
    split at ha
    · cases ha; rcases hl with hl | hl <;> first | (cases hl; done) | subst hl
      refine zx_Za (fun p e R s m args below meth c hF Q H locs cells slots la hL kk => ?_) hz
      obtain ⟨hx, hb, -, hown, hts, -⟩ := hF
      exact lv_lushr hx hb hd rfl kk
    · cases ha
  | i2l =>
    simp only [zx_len] at hl
    simp only [zx_alu] at ha
    split at ha
    · cases ha; rcases hl with hl | hl <;> first | (cases hl; done) | subst hl
      refine zx_Za (fun p e R s m args below meth c hF Q H locs cells slots la hL kk => ?_) hz
      obtain ⟨hx, hb, -, hown, hts, -⟩ := hF
      exact lv_i2l hx hb hd rfl kk
    · cases ha
  | l2i =>
    simp only [zx_len] at hl
    simp only [zx_alu] at ha
    split at ha
    · cases ha; rcases hl with hl | hl <;> first | (cases hl; done) | subst hl
      refine zx_Za (fun p e R s m args below meth c hF Q H locs cells slots la hL kk => ?_) hz
      obtain ⟨hx, hb, -, hown, hts, -⟩ := hF
      exact lv_l2i hx hb hd rfl kk
    · cases ha
  | i2b =>
    simp only [zx_len] at hl
    simp only [zx_alu] at ha
    split at ha
    · cases ha; rcases hl with hl | hl <;> first | (cases hl; done) | subst hl
      refine zx_Za (fun p e R s m args below meth c hF Q H locs cells slots la hL kk => ?_) hz
      obtain ⟨hx, hb, -, hown, hts, -⟩ := hF
      exact lv_i2b hx hb hd rfl kk
    · cases ha
  | i2s =>
    simp only [zx_len] at hl
    simp only [zx_alu] at ha
    split at ha
    · cases ha; rcases hl with hl | hl <;> first | (cases hl; done) | subst hl
      refine zx_Za (fun p e R s m args below meth c hF Q H locs cells slots la hL kk => ?_) hz
      obtain ⟨hx, hb, -, hown, hts, -⟩ := hF
      exact lv_i2s hx hb hd rfl kk
    · cases ha
  | lcmp =>
    simp only [zx_len] at hl
    simp only [zx_alu] at ha
    split at ha
    · cases ha; rcases hl with hl | hl <;> first | (cases hl; done) | subst hl
      refine zx_Za (fun p e R s m args below meth c hF Q H locs cells slots la hL kk => ?_) hz
      obtain ⟨hx, hb, -, hown, hts, -⟩ := hF
      exact W.lcmp hx hb hd kk
    · cases ha
  | dup =>
    simp only [zx_len] at hl
    simp only [zx_alu] at ha
    split at ha
    · cases ha; rcases hl with hl | hl <;> first | (cases hl; done) | subst hl
      refine zx_Za (fun p e R s m args below meth c hF Q H locs cells slots la hL kk => ?_) hz
      obtain ⟨hx, hb, -, hown, hts, -⟩ := hF
      exact lv_dup hx hb hd rfl kk
    · cases ha; rcases hl with hl | hl <;> first | (cases hl; done) | subst hl
      refine zx_Za (fun p e R s m args below meth c hF Q H locs cells slots la hL kk => ?_) hz
      obtain ⟨hx, hb, -, hown, hts, -⟩ := hF
      exact lv_dup hx hb hd rfl kk
    · cases ha
  | dup2 =>
    simp only [zx_len] at hl
    simp only [zx_alu] at ha
    split at ha
    · cases ha; rcases hl with hl | hl <;> first | (cases hl; done) | subst hl
      refine zx_Za (fun p e R s m args below meth c hF Q H locs cells slots la hL kk => ?_) hz
      obtain ⟨hx, hb, -, hown, hts, -⟩ := hF
      exact lv_dup2_11 hx hb hd rfl rfl kk
    · cases ha; rcases hl with hl | hl <;> first | (cases hl; done) | subst hl
      refine zx_Za (fun p e R s m args below meth c hF Q H locs cells slots la hL kk => ?_) hz
      obtain ⟨hx, hb, -, hown, hts, -⟩ := hF
      exact lv_dup2_11 hx hb hd rfl rfl kk
    · cases ha
  | pop =>
    simp only [zx_len] at hl
    simp only [zx_alu] at ha
    split at ha
    · cases ha; rcases hl with hl | hl <;> first | (cases hl; done) | subst hl
      refine zx_Za (fun p e R s m args below meth c hF Q H locs cells slots la hL kk => ?_) hz
      obtain ⟨hx, hb, -, hown, hts, -⟩ := hF
      exact lv_pop hx hb hd rfl kk
    · cases ha; rcases hl with hl | hl <;> first | (cases hl; done) | subst hl
      refine zx_Za (fun p e R s m args below meth c hF Q H locs cells slots la hL kk => ?_) hz
      obtain ⟨hx, hb, -, hown, hts, -⟩ := hF
      exact lv_pop hx hb hd rfl kk
    · cases ha
  | iconst n =>
    simp only [zx_len] at hl
    simp only [zx_alu] at ha
    cases ha; rcases hl with hl | hl <;> first | (cases hl; done) | subst hl
    refine zx_Za (fun p e R s m args below meth c hF Q H locs cells slots la hL kk => ?_) hz
    obtain ⟨hx, hb, -, hown, hts, -⟩ := hF
    exact lv_iconst hx hb hd (of_decide_eq_true hk) kk
  | bipush n =>
    simp only [zx_len] at hl
    simp only [zx_alu] at ha
    cases ha; rcases hl with hl | hl <;> first | (cases hl; done) | subst hl
    refine zx_Za (fun p e R s m args below meth c hF Q H locs cells slots la hL kk => ?_) hz
    obtain ⟨hx, hb, -, hown, hts, -⟩ := hF
    exact lv_bipush hx hb hd (of_decide_eq_true hk) kk
  | sipush n =>
    simp only [zx_len] at hl
    simp only [zx_alu] at ha
    cases ha; rcases hl with hl | hl <;> first | (cases hl; done) | subst hl
    refine zx_Za (fun p e R s m args below meth c hF Q H locs cells slots la hL kk => ?_) hz
    obtain ⟨hx, hb, -, hown, hts, -⟩ := hF
    exact lv_sipush hx hb hd (of_decide_eq_true hk) kk
  | lconst n =>
    simp only [zx_len] at hl
    simp only [zx_alu] at ha
    cases ha; rcases hl with hl | hl <;> first | (cases hl; done) | subst hl
    refine zx_Za (fun p e R s m args below meth c hF Q H locs cells slots la hL kk => ?_) hz
    obtain ⟨hx, hb, -, hown, hts, -⟩ := hF
    exact lv_lconst hx hb hd (of_decide_eq_true hk) kk
  | ldc n =>
    simp only [zx_len] at hl
    simp only [zx_alu] at ha
    cases ha; rcases hl with hl | hl <;> first | (cases hl; done) | subst hl
    refine zx_Za (fun p e R s m args below meth c hF Q H locs cells slots la hL kk => ?_) hz
    obtain ⟨hx, hb, -, hown, hts, -⟩ := hF
    exact lv_ldc hx hb hown (hts _ (zx_w_mem hk)) hd kk
  | ldc_w n =>
    simp only [zx_len] at hl
    simp only [zx_alu] at ha
    cases ha; rcases hl with hl | hl <;> first | (cases hl; done) | subst hl
    refine zx_Za (fun p e R s m args below meth c hF Q H locs cells slots la hL kk => ?_) hz
    obtain ⟨hx, hb, -, hown, hts, -⟩ := hF
    exact lv_ldcw hx hb hown (hts _ (zx_w_mem hk)) hd kk
  | ldc2_w n =>
    simp only [zx_len] at hl
    simp only [zx_alu] at ha
    cases ha; rcases hl with hl | hl <;> first | (cases hl; done) | subst hl
    refine zx_Za (fun p e R s m args below meth c hF Q H locs cells slots la hL kk => ?_) hz
    obtain ⟨hx, hb, -, hown, hts, -⟩ := hF
    exact lv_ldc2 hx hb hown (hts _ (zx_w_mem hk)) hd kk
  | _ => simp only [zx_alu] at ha; cases ha
end
section
/-! ===== loads, stores, jumps ===== -/
section ZM
variable {l : Launch} {E : zx_E} {d k pc len p0 a b : Nat} {v0 : Int32} {w0 : Int64} {ls : List (Option Value)} {st : List Value} {M : zx_M} {Qo : Option Value → zx_M → Prop}
theorem zx_iload_ok {i : Nat} {x : Int32} {ins : Instr} (hc : zx_chk k (pc, len, ins, v0, w0, p0, a, b) = true) (hi : ins = .iload i ∨ ∃ n : Fin 4, ins = .iload_n n ∧ (n : Nat) = i) (hv : ls[i]? = some (some (.int x)))
    (hz : zx_To l E d k (pc + len) ls (.int x :: st) M Qo) : zx_To l E d k pc ls st M Qo := by
  obtain ⟨hd, hl⟩ := zx_chk_dec hc
  refine zx_Za (fun p e R s m args below meth c hF Q H locs cells slots la hL kk => ?_) hz
  obtain ⟨hx, hb, -⟩ := hF
  have hg := hL.2.2 i _ hv
  rcases hi with rfl | ⟨n, rfl, hn⟩ <;> rcases hl with hl | hl <;> first | (cases hl; done) | skip
  · rw [hl] at hd kk; exact lv_iload hx hb hd hg kk
  · rw [hl] at hd kk; exact lv_iload_n hx hb hd hn hg kk
theorem zx_lload_ok {i : Nat} {x : Int64} {ins : Instr} (hc : zx_chk k (pc, len, ins, v0, w0, p0, a, b) = true) (hi : ins = .lload i ∨ ∃ n : Fin 4, ins = .lload_n n ∧ (n : Nat) = i) (hv : ls[i]? = some (some (.long x)))
    (hz : zx_To l E d k (pc + len) ls (.long x :: st) M Qo) : zx_To l E d k pc ls st M Qo := by
  obtain ⟨hd, hl⟩ := zx_chk_dec hc
  refine zx_Za (fun p e R s m args below meth c hF Q H locs cells slots la hL kk => ?_) hz
  obtain ⟨hx, hb, -⟩ := hF
  have hg := hL.2.2 i _ hv
  rcases hi with rfl | ⟨n, rfl, hn⟩ <;> rcases hl with hl | hl <;> first | (cases hl; done) | skip
  · rw [hl] at hd kk; exact lv_lload hx hb hd hg kk
  · rw [hl] at hd kk; exact lv_lload_n hx hb hd hn hg kk
theorem zx_aload_ok {i : Nat} {x : Nat} {ins : Instr} (hc : zx_chk k (pc, len, ins, v0, w0, p0, a, b) = true) (hi : ins = .aload i ∨ ∃ n : Fin 4, ins = .aload_n n ∧ (n : Nat) = i) (hv : ls[i]? = some (some (.ref x)))
    (hz : zx_To l E d k (pc + len) ls (.ref x :: st) M Qo) : zx_To l E d k pc ls st M Qo := by
  obtain ⟨hd, hl⟩ := zx_chk_dec hc
  refine zx_Za (fun p e R s m args below meth c hF Q H locs cells slots la hL kk => ?_) hz
  obtain ⟨hx, hb, -⟩ := hF
  have hg := hL.2.2 i _ hv
  rcases hi with rfl | ⟨n, rfl, hn⟩ <;> rcases hl with hl | hl <;> first | (cases hl; done) | skip
  · rw [hl] at hd kk; exact lv_aload hx hb hd hg kk
  · rw [hl] at hd kk; exact lv_aload_n hx hb hd hn hg kk
theorem zx_istore_ok {i : Nat} {x : Int32} {ins : Instr} (hc : zx_chk k (pc, len, ins, v0, w0, p0, a, b) = true) (hi : ins = .istore i ∨ ∃ n : Fin 4, ins = .istore_n n ∧ (n : Nat) = i)
    (hz : zx_To l E d k (pc + len) (zx_s1 ls i (.int x)) st M Qo) : zx_To l E d k pc ls (.int x :: st) M Qo := by
  obtain ⟨hd, hl⟩ := zx_chk_dec hc
  have ho := zx_chk_opr hc
  refine zx_Zs rfl rfl (fun p e R s m args below meth c hF Q H locs cells slots la _ _ hR hL hB kk => ?_) hz
  obtain ⟨hx, hb, -⟩ := hF
  rcases hi with rfl | ⟨n, rfl, hn⟩ <;> rcases hl with hl | hl <;> first | (cases hl; done) | skip
  · rw [hl] at hd kk; exact lv_istore hx hb hd hL.has (of_decide_eq_true ho) rfl (fun la1 h1 => kk H locs la1 hR (zx_L.s1 (v := .int x) h1) hB)
  · rw [hl] at hd kk; exact lv_istore_n hx hb hd hn hL.has (by rw [← hn]; exact of_decide_eq_true ho) rfl (fun la1 h1 => kk H locs la1 hR (zx_L.s1 (v := .int _) h1) hB)
theorem zx_astore_ok {i : Nat} {x : Nat} {ins : Instr} (hc : zx_chk k (pc, len, ins, v0, w0, p0, a, b) = true) (hi : ins = .astore i ∨ ∃ n : Fin 4, ins = .astore_n n ∧ (n : Nat) = i)
    (hz : zx_To l E d k (pc + len) (zx_s1 ls i (.ref x)) st M Qo) : zx_To l E d k pc ls (.ref x :: st) M Qo := by
  obtain ⟨hd, hl⟩ := zx_chk_dec hc
  have ho := zx_chk_opr hc
  refine zx_Zs rfl rfl (fun p e R s m args below meth c hF Q H locs cells slots la _ _ hR hL hB kk => ?_) hz
  obtain ⟨hx, hb, -⟩ := hF
  rcases hi with rfl | ⟨n, rfl, hn⟩ <;> rcases hl with hl | hl <;> first | (cases hl; done) | skip
  · rw [hl] at hd kk; exact lv_astore hx hb hd hL.has (of_decide_eq_true ho) rfl (fun la1 h1 => kk H locs la1 hR (zx_L.s1 (v := .ref x) h1) hB)
  · rw [hl] at hd kk; exact lv_astore_n hx hb hd hn hL.has (by rw [← hn]; exact of_decide_eq_true ho) rfl (fun la1 h1 => kk H locs la1 hR (zx_L.s1 (v := .ref x) h1) hB)
theorem zx_lstore_ok {i : Nat} {x : Int64} {ins : Instr} (hc : zx_chk k (pc, len, ins, v0, w0, p0, a, b) = true) (hi : ins = .lstore i ∨ ∃ n : Fin 4, ins = .lstore_n n ∧ (n : Nat) = i)
    (hz : zx_To l E d k (pc + len) (zx_s2 ls i (.long x)) st M Qo) : zx_To l E d k pc ls (.long x :: st) M Qo := by
  obtain ⟨hd, hl⟩ := zx_chk_dec hc
  have ho := zx_chk_opr hc
  refine zx_Zs rfl rfl (fun p e R s m args below meth c hF Q H locs cells slots la _ _ hR hL hB kk => ?_) hz
  obtain ⟨hx, hb, -⟩ := hF
  rcases hi with rfl | ⟨n, rfl, hn⟩ <;> rcases hl with hl | hl <;> first | (cases hl; done) | skip
  · rw [hl] at hd kk; exact lv_lstore hx hb hd hL.has (of_decide_eq_true ho) rfl (fun la1 h1 => kk H locs la1 hR (zx_L.s2 (v := .long x) h1) hB)
  · rw [hl] at hd kk; exact lv_lstore_n hx hb hd hn hL.has (by rw [← hn]; exact of_decide_eq_true ho) rfl (fun la1 h1 => kk H locs la1 hR (zx_L.s2 (v := .long x) h1) hB)
theorem zx_iinc_ok {i : Nat} {n : Int} {x : Int32} (hc : zx_chk k (pc, len, .iinc i n, v0, w0, p0, a, b) = true) (hv : ls[i]? = some (some (.int x)))
    (hz : zx_To l E d k (pc + len) (zx_s1 ls i (.int (x + v0))) st M Qo) : zx_To l E d k pc ls st M Qo := by
  obtain ⟨hd, hl⟩ := zx_chk_dec hc
  have ho := zx_chk_opr hc
  simp only [zx_opr, Bool.and_eq_true, decide_eq_true_eq] at ho
  refine zx_Zs rfl rfl (fun p e R s m args below meth c hF Q H locs cells slots la _ _ hR hL hB kk => ?_) hz
  obtain ⟨hx, hb, -⟩ := hF
  rcases hl with hl | hl <;> first | (cases hl; done) | skip
  obtain ⟨j, hj⟩ := List.getElem?_of_mem (zx_lv_mem (E := E) hv)
  rw [hl] at hd kk
  exact lv_iinc (v := x + v0) hx hb hd hL.has hj (by rw [ho.1]) ho.2 rfl (fun la1 h1 => kk H locs la1 hR (zx_L.s1 (v := .int _) h1) hB)
def zx_cp (c : ClassFile.Cond) (x y : Int32) : Prop := match c with
  | .eq => x = y
  | .ne => ¬ x = y
  | .lt => x < y
  | .ge => y ≤ x
  | .gt => y < x
  | .le => x ≤ y
def zx_co (c : ClassFile.Cond) (x y : Int32) : Prop := match c with
  | .eq => ¬ x = y
  | .ne => x = y
  | .lt => ¬ x < y
  | .ge => ¬ y ≤ x
  | .gt => ¬ y < x
  | .le => ¬ x ≤ y
theorem zx_cpn (c : ClassFile.Cond) (x y : Int32) : (zx_cp c x y ∧ ¬ zx_co c x y) ∨ (zx_co c x y ∧ ¬ zx_cp c x y) := by
  cases c <;> simp only [zx_cp, zx_co] <;> first | (rcases Classical.em (x = y) with h | h <;> simp [h]; done) | (rcases Classical.em (x < y) with h | h <;> simp [h]; done) | (rcases Classical.em (y ≤ x) with h | h <;> simp [h]; done) | (rcases Classical.em (y < x) with h | h <;> simp [h]; done) | (rcases Classical.em (x ≤ y) with h | h <;> simp [h]; done)
theorem zx_icmp_ok {cn : ClassFile.Cond} {off : Int} {x y : Int32} (hc : zx_chk k (pc, len, .if_icmp cn off, v0, w0, p0, a, b) = true)
    (h1 : zx_cp cn x y → zx_To l E d k a ls st M Qo) (h2 : zx_co cn x y → zx_To l E d k (pc + len) ls st M Qo) : zx_To l E d k pc ls (.int y :: .int x :: st) M Qo := by
  obtain ⟨hd, hl⟩ := zx_chk_dec hc
  have ho := zx_chk_opr hc
  simp only [zx_opr, decide_eq_true_eq] at ho
  rcases hl with hl | hl <;> first | (cases hl; done) | skip
  rw [hl] at hd h2
  have key : ∀ (pc1 : Nat), (zx_cp cn x y → pc1 = a) → (zx_co cn x y → pc1 = pc + 3) → zx_To l E d k pc1 ls st M Qo → zx_To l E d k pc ls (.int y :: .int x :: st) M Qo := by
    intro pc1 e1 e2 hz
    refine zx_Za (fun p e R s m args below meth c hF Q H locs cells slots la hL kk => ?_) hz
    obtain ⟨hx, hb, -⟩ := hF
    cases cn
    · exact lv_icmp_eq hx hb hd ho (fun q => e1 q ▸ kk) (fun q => e2 q ▸ kk)
    · exact lv_icmp_ne hx hb hd ho (fun q => e1 q ▸ kk) (fun q => e2 q ▸ kk)
    · exact lv_icmp_lt hx hb hd ho (fun q => e1 q ▸ kk) (fun q => e2 q ▸ kk)
    · exact lv_icmp_ge hx hb hd ho (fun q => e1 q ▸ kk) (fun q => e2 q ▸ kk)
    · exact lv_icmp_gt hx hb hd ho (fun q => e1 q ▸ kk) (fun q => e2 q ▸ kk)
    · exact lv_icmp_le hx hb hd ho (fun q => e1 q ▸ kk) (fun q => e2 q ▸ kk)
  rcases zx_cpn cn x y with ⟨q, q'⟩ | ⟨q, q'⟩
  · exact key a (fun _ => rfl) (fun z => absurd z q') (h1 q)
  · exact key (pc + 3) (fun z => absurd z q') (fun _ => rfl) (h2 q)
theorem zx_if_ok {cn : ClassFile.Cond} {off : Int} {x : Int32} (hc : zx_chk k (pc, len, .ifCond cn off, v0, w0, p0, a, b) = true)
    (h1 : zx_cp cn x 0 → zx_To l E d k a ls st M Qo) (h2 : zx_co cn x 0 → zx_To l E d k (pc + len) ls st M Qo) : zx_To l E d k pc ls (.int x :: st) M Qo := by
  obtain ⟨hd, hl⟩ := zx_chk_dec hc
  have ho := zx_chk_opr hc
  simp only [zx_opr, decide_eq_true_eq] at ho
  rcases hl with hl | hl <;> first | (cases hl; done) | skip
  rw [hl] at hd h2
  have key : ∀ (pc1 : Nat), (zx_cp cn x 0 → pc1 = a) → (zx_co cn x 0 → pc1 = pc + 3) → zx_To l E d k pc1 ls st M Qo → zx_To l E d k pc ls (.int x :: st) M Qo := by
    intro pc1 e1 e2 hz
    refine zx_Za (fun p e R s m args below meth c hF Q H locs cells slots la hL kk => ?_) hz
    obtain ⟨hx, hb, -⟩ := hF
    cases cn
    · exact lv_if_eq hx hb hd ho (fun q => e1 q ▸ kk) (fun q => e2 q ▸ kk)
    · exact lv_if_ne hx hb hd ho (fun q => e1 q ▸ kk) (fun q => e2 q ▸ kk)
    · exact lv_if_lt hx hb hd ho (fun q => e1 q ▸ kk) (fun q => e2 q ▸ kk)
    · exact lv_if_ge hx hb hd ho (fun q => e1 q ▸ kk) (fun q => e2 q ▸ kk)
    · exact lv_if_gt hx hb hd ho (fun q => e1 q ▸ kk) (fun q => e2 q ▸ kk)
    · exact lv_if_le hx hb hd ho (fun q => e1 q ▸ kk) (fun q => e2 q ▸ kk)
  rcases zx_cpn cn x 0 with ⟨q, q'⟩ | ⟨q, q'⟩
  · exact key a (fun _ => rfl) (fun z => absurd z q') (h1 q)
  · exact key (pc + 3) (fun z => absurd z q') (fun _ => rfl) (h2 q)
theorem zx_goto_ok {off : Int} (hc : zx_chk k (pc, len, .goto off, v0, w0, p0, a, b) = true) (hz : zx_To l E d k a ls st M Qo) : zx_To l E d k pc ls st M Qo := by
  obtain ⟨hd, hl⟩ := zx_chk_dec hc
  have ho := zx_chk_opr hc
  simp only [zx_opr, decide_eq_true_eq] at ho
  rcases hl with hl | hl <;> first | (cases hl; done) | skip
  rw [hl] at hd
  refine zx_Za (fun p e R s m args below meth c hF Q H locs cells slots la hL kk => ?_) hz
  obtain ⟨hx, hb, -⟩ := hF
  exact lv_goto hx hb hd ho kk
/-- a switch: by the offsets, the first of them for lo -/
def zx_sw (pc : Nat) (x : Int32) (go : Nat → Prop) : Int → List Int → Prop
  | _, [] => True
  | lo, o :: os => (x.toInt = lo → go ((pc : Int) + o).toNat) ∧ zx_sw pc x go (lo + 1) os
theorem zx_sw_at {pc : Nat} {x : Int32} {go : Nat → Prop} : ∀ (os : List Int) (lo : Int) (j : Nat) (o : Int), zx_sw pc x go lo os → os[j]? = some o → x.toInt = lo + j → go ((pc : Int) + o).toNat
  | [], _, _, _, _, h, _ => by simp at h
  | q :: os, lo, 0, o, h, hj, e => by
    simp at hj
    subst hj
    exact h.1 (by simpa using e)
  | q :: os, lo, j + 1, o, h, hj, e => zx_sw_at os (lo + 1) j o h.2 (by simpa using hj) (by rw [e]; push_cast; omega)
theorem zx_switch_ok {df lo hi : Int} {os : Array Int} {x : Int32} (hc : zx_chk k (pc, len, .tableswitch df lo hi os, v0, w0, p0, a, b) = true) (hn : hi + 1 = lo + os.size)
    (h1 : (x.toInt < lo ∨ hi < x.toInt) → zx_To l E d k ((pc : Int) + df).toNat ls st M Qo) (h2 : zx_sw pc x (fun t => zx_To l E d k t ls st M Qo) lo os.toList) : zx_To l E d k pc ls (.int x :: st) M Qo := by
  obtain ⟨hd, -⟩ := zx_chk_dec hc
  have ho := zx_chk_opr hc
  simp only [zx_opr, Bool.and_eq_true, decide_eq_true_eq] at ho
  rcases Classical.em (x.toInt < lo ∨ hi < x.toInt) with g | g
  · refine zx_Za (fun p e R s m args below meth c hF Q H locs cells slots la hL kk => ?_) (h1 g)
    obtain ⟨hx, hb, -⟩ := hF
    exact lv_tableOut hx hb hd g (Int.toNat_of_nonneg ho.1).symm kk
  · have g1 : ¬ x.toInt < lo := fun q => g (Or.inl q)
    have g2 : ¬ hi < x.toInt := fun q => g (Or.inr q)
    have hlt : (x.toInt - lo).toNat < os.size := by omega
    have hget : os[(x.toInt - lo).toNat]? = some os[(x.toInt - lo).toNat] := Array.getElem?_eq_getElem hlt
    have hz := zx_sw_at os.toList lo (x.toInt - lo).toNat _ h2 (by rw [Array.getElem?_toList]; exact hget) (by omega)
    have hpos : 0 ≤ (pc : Int) + os[(x.toInt - lo).toNat] := by
      have h3 := ho.2
      rw [Array.all_eq_true] at h3
      exact of_decide_eq_true (h3 _ hlt)
    refine zx_Za (fun p e R s m args below meth c hF Q H locs cells slots la hL kk => ?_) hz
    obtain ⟨hx, hb, -⟩ := hF
    exact lv_tableIn hx hb hd g1 g2 hget (Int.toNat_of_nonneg hpos).symm kk
end ZM
end
section
/-! ===== fields and arrays ===== -/
theorem zx_cl_at {a : Nat} (h : a < 13) : zx_cl[a]? = some (zx_C a, zx_T a, zx_N a) := by
  match a, h with
  | 0, _ | 1, _ | 2, _ | 3, _ | 4, _ | 5, _ | 6, _ | 7, _ | 8, _ | 9, _ | 10, _ | 11, _ | 12, _ => rfl
set_option maxRecDepth 100000 in
theorem zx_lay_all : ((List.range 13).all fun a => (u_ws (zx_C a) (zx_T a) (zx_N a)).all fun w => decide (w ∈ lw_tbl) && goodWord w) = true := by decide +kernel
theorem zx_lays_in {a : Nat} (h : a < 13) : ∀ w ∈ u_ws (zx_C a) (zx_T a) (zx_N a), w ∈ zx_good := by
  intro w hw
  have h1 := List.all_eq_true.mp (List.all_eq_true.mp zx_lay_all a (List.mem_range.mpr h)) w hw
  simp only [Bool.and_eq_true, decide_eq_true_eq] at h1
  exact List.mem_filter.mpr h1
theorem zx_ty_all : ((List.range 13).all fun a => (List.range (zx_N a)).all fun k => decide (parseFieldDescriptor (zx_T a k).2.2.1 = some (zx_ty a k))) = true := by decide +kernel
theorem zx_ty_ok {a : Nat} (h : a < 13) : ∀ k, k < zx_N a → parseFieldDescriptor (zx_T a k).2.2.1 = some (zx_ty a k) := fun k hk =>
  of_decide_eq_true (List.all_eq_true.mp (List.all_eq_true.mp zx_ty_all a (List.mem_range.mpr h)) k (List.mem_range.mpr hk))
theorem zx_nm_all : ((List.range 13).all fun a => (List.range (zx_N a)).all fun x => (List.range (zx_N a)).all fun y => decide (x = y ∨ (zx_T a x).2.1 ≠ (zx_T a y).2.1)) = true := by decide +kernel
theorem zx_nm_ok {a : Nat} (h : a < 13) : ∀ x, x < zx_N a → ∀ y, y < zx_N a → x ≠ y → (zx_T a x).2.1 ≠ (zx_T a y).2.1 := fun x hx y hy hne =>
  (of_decide_eq_true (List.all_eq_true.mp (List.all_eq_true.mp (List.all_eq_true.mp zx_nm_all a (List.mem_range.mpr h)) x (List.mem_range.mpr hx)) y (List.mem_range.mpr hy))).resolve_left hne
theorem zx_nf_all : ((List.range 13).all fun a => (List.range (zx_N a)).all fun k => decide (zx_ty a k ≠ .float ∧ zx_ty a k ≠ .double)) = true := by decide +kernel
theorem zx_nfl {a : Nat} (h : a < 13) {k : Nat} (hk : k < zx_N a) : zx_ty a k ≠ .float ∧ zx_ty a k ≠ .double :=
  of_decide_eq_true (List.all_eq_true.mp (List.all_eq_true.mp zx_nf_all a (List.mem_range.mpr h)) k (List.mem_range.mpr hk))
end
section
/-- a cell of ours, of this kind -/
def zx_is (M : zx_M) (i kd : Nat) : Prop := 3 ≤ i ∧ i < zx_n M ∧ zx_kd M i = kd
section ZC
variable {l : Launch} {E : zx_E} {d k pc len p0 a b : Nat} {v0 : Int32} {w0 : Int64} {ls : List (Option Value)} {st : List Value} {M : zx_M} {Qo : Option Value → zx_M → Prop}
theorem zx_ob {U : State} {H : Heap} {i : Nat} (hR : zx_R E M U H) (hi : zx_is M i a) (ha : a < 13) : t_OB (zx_rho E i) (E.2.1.1 a) (zx_N a) (E.2.1.2 a) H (fun k => zx_v E (zx_cv M (zx_tc (zx_ty a k)) i k)) := by
  obtain ⟨h3, hn, hk⟩ := hi
  have h := (hR.2.2.2 i h3 hn).1 (by rw [hk]; exact ha)
  rw [hk] at h
  exact h
theorem zx_ar {U : State} {H : Heap} {i : Nat} (hR : zx_R E M U H) (hi : zx_is M i a) (ha : 20 ≤ a) (ha2 : a ≤ 26) : H[zx_rho E i]? = some (arrV (E.2.2 a) (zx_ln M i) (fun j => zx_v E (zx_cv M (zx_tc (zx_at a)) i j))) := by
  obtain ⟨h3, hn, hk⟩ := hi
  have h := (hR.2.2.2 i h3 hn).2 (by rw [hk]; exact ha) (by rw [hk]; exact ha2)
  rw [hk] at h
  exact h
theorem zx_tys_at (E : zx_E) {a : Nat} (h : 20 ≤ a) (h2 : a ≤ 26) : (zx_tys E)[a - 20]? = some (E.2.2 a, zx_at a) := by
  rcases (show a = 20 ∨ a = 21 ∨ a = 22 ∨ a = 23 ∨ a = 24 ∨ a = 25 ∨ a = 26 by omega) with rfl | rfl | rfl | rfl | rfl | rfl | rfl <;> rfl
theorem zx_arr {U : State} (hK : zx_K E U) (ha : 20 ≤ a) (ha2 : a ≤ 26) : ArrOfT U (E.2.2 a) (zx_at a) ∧ va_RA U (E.2.2 a) (zx_at a) := hK.1.2 (a - 20) _ (zx_tys_at E ha ha2)
theorem zx_getfield_ok {idx i : Nat} {v : Value} (hc : zx_chk k (pc, len, .getfield idx, v0, w0, p0, a, b) = true) (hi : zx_is M i a) (hv : zx_cv M (zx_tc (zx_ty a b)) i b = v)
    (hz : zx_To l E d k (pc + len) ls (v :: st) M Qo) : zx_To l E d k pc ls (.ref i :: st) M Qo := by
  obtain ⟨hd, hl⟩ := zx_chk_dec hc
  have ho := zx_chk_opr hc
  simp only [zx_opr, Bool.and_eq_true, decide_eq_true_eq] at ho
  obtain ⟨⟨ha, hbN⟩, hw⟩ := ho
  rcases hl with hl | hl <;> first | (cases hl; done) | skip
  rw [hl] at hd hz
  refine zx_Zs rfl rfl (fun p e R s m args below meth c hF Q H locs cells slots la _ _ hR hL hB kk => ?_) hz
  obtain ⟨hx, hb, -, hown, hts, hK, -⟩ := hF
  obtain ⟨cell, q1, q2, q3, q4⟩ := zx_ob hR hi ha
  obtain ⟨hS, hfc, kC, hkC, hkind⟩ := hK.1.1 a _ (zx_cl_at ha)
  obtain ⟨cf, kf, fi, f, hfi, hsl⟩ := hS b hbN
  refine W.getf hx hb hown (hts _ (zx_w_mem hw)) hfi (u_facts hfc hkC (u_lays hts (zx_lays_in ha) hbN) hfi).1 q1 (by rw [q3]; exact fun h => by cases h) (v := zx_v E v) ?_ rfl rfl hd (kk H locs la hR hL hB)
  rw [hsl, q4 b hbN]
  show some (zx_v E (zx_cv M (zx_tc (zx_ty a b)) i b)) = _
  rw [hv]
/-- what an int may be to stand in a field -/
def zx_nf (ty : FieldType) (x : Int32) : Option Prop := match ty with
  | .int => none
  | .boolean => some (x = 0 ∨ x = 1)
  | _ => some False
theorem zx_nf_ok {ty : FieldType} {x : Int32} (h : zx_oc (zx_nf ty x)) : narrow ty (.int x) = .int x ∧ fits ty (.int x) = true := by
  cases ty <;> first | exact ⟨rfl, rfl⟩ | exact h.elim | skip
  rcases h with rfl | rfl <;> exact ⟨by decide, by decide⟩
theorem zx_ap {U : State} {args : Array Value} (hts : ∀ w ∈ zx_good, w.before args U = true) (hK : zx_K E U) (ha : a < 13) : ∀ x y, x < zx_N a → y < zx_N a → x ≠ y → E.2.1.2 a x ≠ E.2.1.2 a y := by
  intro x y hx hy hne
  obtain ⟨hS, -⟩ := hK.1.1 a _ (zx_cl_at ha)
  obtain ⟨_, _, _, fa, hia, ea⟩ := hS x hx
  obtain ⟨_, _, _, fb, hib, eb⟩ := hS y hy
  show E.2.1.2 a x ≠ E.2.1.2 a y
  rw [← ea, ← eb]
  refine u_apart (u_lays hts (zx_lays_in ha) hx) (u_lays hts (zx_lays_in ha) hy) hia hib ?_
  rw [(State.fieldFound?_type hia (zx_ty_ok ha x hx)).1, (State.fieldFound?_type hib (zx_ty_ok ha y hy)).1]
  exact zx_nm_ok ha x hx y hy hne
/-- a write to a field, of whatever type -/
theorem zx_put_gen {idx i : Nat} {v : Value} {M1 : zx_M} (hc : zx_chk k (pc, len, .putfield idx, v0, w0, p0, a, b) = true) (hi : zx_is M i a) (hnar : narrow (zx_ty a b) (zx_v E v) = zx_v E v) (hfit : fits (zx_ty a b) (zx_v E v) = true)
    (hn : zx_n M1 = zx_n M) (hs : zx_sl M1 = zx_sl M) (hk : ∀ j, zx_kd M1 j = zx_kd M j) (hl1 : ∀ j, zx_ln M1 j = zx_ln M j) (h1 : ∀ j, j ≠ i → M1.1 j = M.1 j) (h2 : ∀ j, j ≠ i → M1.2.1 j = M.2.1 j) (h3 : ∀ j, j ≠ i → M1.2.2.1 j = M.2.2.1 j)
    (hnew : zx_cv M1 (zx_tc (zx_ty a b)) i b = v) (hold : ∀ t y, y ≠ b → zx_cv M1 t i y = zx_cv M t i y)
    (hz : zx_To l E d k (pc + len) ls st M1 Qo) : zx_To l E d k pc ls (v :: .ref i :: st) M Qo := by
  obtain ⟨hd, hl⟩ := zx_chk_dec hc
  have ho := zx_chk_opr hc
  simp only [zx_opr, Bool.and_eq_true, decide_eq_true_eq, Bool.or_eq_true, Bool.not_eq_true'] at ho
  obtain ⟨⟨⟨ha, hbN⟩, hw⟩, hfin⟩ := ho
  rcases hl with hl | hl <;> first | (cases hl; done) | skip
  rw [hl] at hd hz
  refine zx_Zs hn hs (fun p e R s m args below meth c hF Q H locs cells slots la _ _ hR hL hB kk => ?_) hz
  obtain ⟨hx, hb, -, hown, hts, hK, -, -, hmn⟩ := hF
  obtain ⟨cell, q1, q2, q3, q4⟩ := zx_ob hR hi ha
  obtain ⟨hS, hfc, kC, hkC, hkind⟩ := hK.1.1 a _ (zx_cl_at ha)
  obtain ⟨cf, kf, fi, f, hfi, hsl⟩ := hS b hbN
  have hap := zx_ap hts hK ha
  have hlays := u_lays hts (zx_lays_in ha) hbN
  have hst := (u_facts hfc hkC hlays hfi).1
  have hlay := hts _ (zx_lays_in ha _ (u_in_lay hbN))
  have fin : ∀ (H' : Heap) (e1 : H'[zx_rho E i]? = some (cell.setSlot (E.2.1.2 a b) (zx_v E v))) (e2 : H'.size = H.size) (e3 : ∀ q, q ≠ zx_rho E i → H'[q]? = H[q]?), zx_R E M1 s H' := by
    intro H' e1 e2 e3
    refine hR.put hi.1 hn hk hl1 h1 h2 h3 e2 e3 ⟨fun hlt => ?_, fun g1 g2 => ?_⟩
    · rw [hk, hi.2.2]
      refine t_OB.to (V := updV (fun k => zx_v E (zx_cv M (zx_tc (zx_ty a k)) i k)) b (zx_v E v)) ⟨_, e1, q2, q3, t_set q4 hap hbN _⟩ (fun j hj => ?_)
      by_cases e : j = b
      · subst e
        simp only [updV, if_pos]
        rw [hnew]
      · simp only [updV, if_neg e]
        rw [hold _ _ e]
    · rw [hk, hi.2.2] at g1
      omega
  have hlt : f.slot < cell.slots.size := by rw [hsl]; exact k2_hasslot (q4 b hbN)
  have hBs : zx_B E (locs ++ [⟨zx_rho E i, f.slot⟩]) := fun q hq => by
    rcases List.mem_append.mp hq with h | h
    · exact hB q h
    · rw [List.mem_singleton.mp h]; exact zx_rho_in hi.1
  unfold u_lay at hlay
  split at hlay
  · rename_i hf
    rcases hfin with hfin | ⟨hin2, hdecl⟩
    · rw [hf] at hfin; cases hfin
    · have hcf : m.cls = cf := by
        obtain ⟨_, _, c', _, _, _, -, -, hf', -, -, -, hown2, -⟩ := Cond.laysFinal_spec hlay
        have e1 : c' = cf := by have := hfi.symm.trans hf'; simp at this; exact this.1.symm
        rw [hdecl] at hown2
        rw [← e1]; exact Option.some.inj (hown.symm.trans hown2)
      have h6 := u_fits hfc hkC hkind (Or.inr hlay) hfi (zx_ty_ok ha b hbN) hnar hfit
      refine W.putFinK hx hb hown (hts _ (zx_w_mem hw)) hfi hst hcf (by rw [hmn]; exact hin2) (by rw [q2]; exact h6) q1 q3 hlt rfl rfl hd fun H' e1 e2 e3 => ?_
      rw [hsl] at e1
      exact kk H' _ la (fin H' e1 e2 e3) hL hBs
  · have h6 := u_store hfc hkC hkind hlay hfi (zx_ty_ok ha b hbN) hnar hfit
    refine W.putK hx hb (f := f) ⟨hown, hts _ (zx_w_mem hw), ⟨_, _, _, hfi⟩, hst⟩ (by rw [q2]; exact h6) q1 q3 hlt rfl rfl hd fun H' e1 e2 e3 => ?_
    rw [hsl] at e1
    exact kk H' _ la (fin H' e1 e2 e3) hL hBs
theorem zx_puti_ok {idx i : Nat} {x : Int32} (hc : zx_chk k (pc, len, .putfield idx, v0, w0, p0, a, b) = true) (hi : zx_is M i a) (ht : zx_tc (zx_ty a b) = 0) (hx : zx_oc (zx_nf (zx_ty a b) x))
    (hz : zx_To l E d k (pc + len) ls st (zx_pi M i b x) Qo) : zx_To l E d k pc ls (.int x :: .ref i :: st) M Qo := by
  have hf := zx_nf_ok hx
  refine zx_put_gen (M1 := zx_pi M i b x) hc hi hf.1 hf.2 rfl rfl (fun _ => rfl) (fun _ => rfl) (fun j hj => ?_) (fun _ _ => rfl) (fun _ _ => rfl) ?_ (fun t y hy => ?_) hz
  · funext y; simp [zx_pi, zx_u2, hj]
  · rw [ht]; simp [zx_cv, zx_pi, zx_u2]
  · unfold zx_cv; split <;> simp [zx_pi, zx_u2, hy]
theorem zx_putl_ok {idx i : Nat} {x : Int64} (hc : zx_chk k (pc, len, .putfield idx, v0, w0, p0, a, b) = true) (hi : zx_is M i a) (ht : zx_ty a b = .long)
    (hz : zx_To l E d k (pc + len) ls st (zx_pl M i b x) Qo) : zx_To l E d k pc ls (.long x :: .ref i :: st) M Qo := by
  refine zx_put_gen (M1 := zx_pl M i b x) hc hi (by rw [ht]; rfl) (by rw [ht]; rfl) rfl rfl (fun _ => rfl) (fun _ => rfl) (fun _ _ => rfl) (fun j hj => ?_) (fun _ _ => rfl) ?_ (fun t y hy => ?_) hz
  · funext y; simp [zx_pl, zx_u2, hj]
  · rw [ht]; simp [zx_cv, zx_pl, zx_u2, zx_tc]
  · unfold zx_cv; split <;> simp [zx_pl, zx_u2, hy]
theorem zx_putr_ok {idx i j : Nat} (hc : zx_chk k (pc, len, .putfield idx, v0, w0, p0, a, b) = true) (hi : zx_is M i a) (ht : zx_tc (zx_ty a b) = 2)
    (hz : zx_To l E d k (pc + len) ls st (zx_pr M i b (some j)) Qo) : zx_To l E d k pc ls (.ref j :: .ref i :: st) M Qo := by
  refine zx_put_gen (M1 := zx_pr M i b (some j)) hc hi ?_ ?_ rfl rfl (fun _ => rfl) (fun _ => rfl) (fun _ _ => rfl) (fun _ _ => rfl) (fun j hj => ?_) ?_ (fun t y hy => ?_) hz
  · show narrow (zx_ty a b) (.ref _) = .ref _
    cases h : zx_ty a b <;> rfl
  · show fits (zx_ty a b) (.ref _) = true
    cases h : zx_ty a b <;> first | rfl | (rw [h] at ht; cases ht)
  · funext y; simp [zx_pr, zx_u2, hj]
  · rw [ht]; simp [zx_cv, zx_pr, zx_u2, va_rf]
  · unfold zx_cv; split <;> simp [zx_pr, zx_u2, hy]
theorem zx_getstatic_ok {idx : Nat} (hc : zx_chk k (pc, len, .getstatic idx, v0, w0, p0, a, b) = true)
    (hz : zx_To l E d k (pc + len) ls (.ref a :: st) M Qo) : zx_To l E d k pc ls st M Qo := by
  obtain ⟨hd, hl⟩ := zx_chk_dec hc
  have ho := zx_chk_opr hc
  simp only [zx_opr, Bool.and_eq_true, decide_eq_true_eq] at ho
  obtain ⟨hw, ha⟩ := ho
  rcases hl with hl | hl <;> first | (cases hl; done) | skip
  rw [hl] at hd hz
  refine zx_Zs rfl rfl (fun p e R s m args below meth c hF Q H locs cells slots la _ _ hR hL hB kk => ?_) hz
  obtain ⟨hx, hb, -, hown, hts, hK, -⟩ := hF
  have hlink := hts _ (zx_w_mem hw)
  have hZ : va_Z "NamesThatShrink$NewNames" (if a = 1 then "SEVENS" else "SIXES") "[I" (.ref (zx_rho E a)) (zx_A E) s H := by
    rcases ha with rfl | rfl
    · exact hR.2.2.1.2.1
    · exact hR.2.2.1.2.2
  obtain ⟨cf, kf, fi, f, q, cell, h1, h2, h3, h4, h5, h6, h7, h8⟩ := hZ
  exact W.gets hx hb hown hlink h1 h2 h3 h4 h5 (fun e => by rw [e] at h6; cases h6) h7 rfl hd (kk H locs la hR hL hB)
/-- an int row: one of ours, or the script, or a static one -/
def zx_ia (M : zx_M) (i : Nat) : Prop := zx_is M i 20 ∨ i < 3
theorem zx_iaload_ok {i : Nat} {j : Int32} (hc : zx_chk k (pc, len, .iaload, v0, w0, p0, a, b) = true) (hi : zx_ia M i) (hj : vp_in j (zx_ln M i))
    (hz : zx_To l E d k (pc + len) ls (.int (M.1 i j.toNatClampNeg) :: st) M Qo) : zx_To l E d k pc ls (.int j :: .ref i :: st) M Qo := by
  obtain ⟨hd, hl⟩ := zx_chk_dec hc
  rcases hl with hl | hl <;> first | (cases hl; done) | skip
  rw [hl] at hd hz
  refine zx_Zs rfl rfl (fun p e R s m args below meth c hF Q H locs cells slots la _ _ hR hL hB kk => ?_) hz
  obtain ⟨hx, hb, -, hown, hts, hK, -⟩ := hF
  have hlt : j.toNatClampNeg < zx_ln M i := Nat.not_le.mp fun q => hj (Or.inr q)
  rcases hi with hi | hi
  · exact W.iald hx hb (zx_ar hR hi (by omega) (by omega)) ((zx_arr hK (a := 20) (by omega) (by omega)).1 _ _) (fun q => by cases q) (by rw [arrV_size]; exact hj) (by rw [arrV_read _ _ hlt]; rfl) rfl rfl hd (kk H locs la hR hL hB)
  · obtain ⟨cell, h1, h2, h3, h4, h5, h6, h7⟩ := (hR.2.2.1.1 i hi).2
    exact W.iald hx hb h1 h2 h3 (fun q => hj (q.elim Or.inl (fun q => Or.inr (by omega)))) (h6 _ hlt) rfl rfl hd (kk H locs la hR hL hB)
theorem zx_laload_ok {i : Nat} {j : Int32} (hc : zx_chk k (pc, len, .laload, v0, w0, p0, a, b) = true) (hi : zx_is M i 21) (hj : vp_in j (zx_ln M i))
    (hz : zx_To l E d k (pc + len) ls (.long (M.2.1 i j.toNatClampNeg) :: st) M Qo) : zx_To l E d k pc ls (.int j :: .ref i :: st) M Qo := by
  obtain ⟨hd, hl⟩ := zx_chk_dec hc
  rcases hl with hl | hl <;> first | (cases hl; done) | skip
  rw [hl] at hd hz
  refine zx_Zs rfl rfl (fun p e R s m args below meth c hF Q H locs cells slots la _ _ hR hL hB kk => ?_) hz
  obtain ⟨hx, hb, -, hown, hts, hK, -⟩ := hF
  have hlt : j.toNatClampNeg < zx_ln M i := Nat.not_le.mp fun q => hj (Or.inr q)
  exact W.lald hx hb (zx_ar hR hi (by omega) (by omega)) ((zx_arr hK (a := 21) (by omega) (by omega)).1 _ _) (fun q => by cases q) (by rw [arrV_size]; exact hj) (by rw [arrV_read _ _ hlt]; rfl) rfl rfl hd (kk H locs la hR hL hB)
theorem zx_baload_ok {i : Nat} {j : Int32} (hc : zx_chk k (pc, len, .baload, v0, w0, p0, a, b) = true) (ha : a = 22 ∨ a = 23) (hi : zx_is M i a) (hj : vp_in j (zx_ln M i))
    (hz : zx_To l E d k (pc + len) ls (.int (M.1 i j.toNatClampNeg) :: st) M Qo) : zx_To l E d k pc ls (.int j :: .ref i :: st) M Qo := by
  obtain ⟨hd, hl⟩ := zx_chk_dec hc
  rcases hl with hl | hl <;> first | (cases hl; done) | skip
  rw [hl] at hd hz
  refine zx_Zs rfl rfl (fun p e R s m args below meth c hF Q H locs cells slots la _ _ hR hL hB kk => ?_) hz
  obtain ⟨hx, hb, -, hown, hts, hK, -⟩ := hF
  have hlt : j.toNatClampNeg < zx_ln M i := Nat.not_le.mp fun q => hj (Or.inr q)
  rcases ha with rfl | rfl
  · exact W.bald hx hb (zx_ar hR hi (by omega) (by omega)) ((zx_arr hK (a := 22) (by omega) (by omega)).1 _ _) (fun q => by cases q) (by rw [arrV_size]; exact hj) (by rw [arrV_read _ _ hlt]; rfl) rfl rfl hd (kk H locs la hR hL hB)
  · exact W.zald hx hb (zx_ar hR hi (by omega) (by omega)) ((zx_arr hK (a := 23) (by omega) (by omega)).1 _ _) (fun q => by cases q) (by rw [arrV_size]; exact hj) (by rw [arrV_read _ _ hlt]; rfl) rfl rfl hd (kk H locs la hR hL hB)
theorem zx_aaload_ok {i x : Nat} {j : Int32} (hc : zx_chk k (pc, len, .aaload, v0, w0, p0, a, b) = true) {kd : Nat} (hi : zx_is M i kd) (h24 : 24 ≤ kd) (h26 : kd ≤ 26) (hj : vp_in j (zx_ln M i)) (hx0 : M.2.2.1 i j.toNatClampNeg = some x)
    (hz : zx_To l E d k (pc + len) ls (.ref x :: st) M Qo) : zx_To l E d k pc ls (.int j :: .ref i :: st) M Qo := by
  obtain ⟨hd, hl⟩ := zx_chk_dec hc
  rcases hl with hl | hl <;> first | (cases hl; done) | skip
  rw [hl] at hd hz
  refine zx_Zs rfl rfl (fun p e R s m args below meth c hF Q H locs cells slots la _ _ hR hL hB kk => ?_) hz
  obtain ⟨hx, hb, -, hown, hts, hK, -⟩ := hF
  have hlt : j.toNatClampNeg < zx_ln M i := Nat.not_le.mp fun q => hj (Or.inr q)
  have hr : (zx_at kd).isReference = true ∧ zx_tc (zx_at kd) = 2 := by
    rcases (show kd = 24 ∨ kd = 25 ∨ kd = 26 by omega) with rfl | rfl | rfl <;> exact ⟨rfl, rfl⟩
  refine W.aald (v := zx_v E (.ref x)) hx hb (zx_ar hR hi (by omega) h26) ((zx_arr hK (a := kd) (by omega) h26).1 _ _) hr.1 (fun q => by cases q) (by rw [arrV_size]; exact hj) ?_ rfl rfl hd (kk H locs la hR hL hB)
  rw [arrV_read _ _ hlt, hr.2]
  simp only [zx_cv]
  rw [hx0]
  rfl
/-- a write to an array -/
theorem zx_ast_R {U : State} {H H' : Heap} {M1 : zx_M} {i j : Nat} {v : Value} {kd : Nat} (hR : zx_R E M U H) (hi : zx_is M i kd) (h20 : 20 ≤ kd) (h26 : kd ≤ 26)
    (hn : zx_n M1 = zx_n M) (hk : ∀ j, zx_kd M1 j = zx_kd M j) (hl1 : ∀ j, zx_ln M1 j = zx_ln M j) (h1 : ∀ j, j ≠ i → M1.1 j = M.1 j) (h2 : ∀ j, j ≠ i → M1.2.1 j = M.2.1 j) (h3 : ∀ j, j ≠ i → M1.2.2.1 j = M.2.2.1 j)
    (hnew : zx_v E (zx_cv M1 (zx_tc (zx_at kd)) i j) = v) (hold : ∀ y, y ≠ j → zx_cv M1 (zx_tc (zx_at kd)) i y = zx_cv M (zx_tc (zx_at kd)) i y)
    (e1 : H'[zx_rho E i]? = some ((arrV (E.2.2 kd) (zx_ln M i) (fun j => zx_v E (zx_cv M (zx_tc (zx_at kd)) i j))).setSlot j v)) (e2 : H'.size = H.size) (e3 : ∀ q, q ≠ zx_rho E i → H'[q]? = H[q]?) : zx_R E M1 U H' := by
  refine hR.put hi.1 hn hk hl1 h1 h2 h3 e2 e3 ⟨fun hlt => ?_, fun g1 g2 => ?_⟩
  · rw [hk, hi.2.2] at hlt; omega
  · rw [hk, hi.2.2, hl1, e1, arrV_store]
    congr 2
    funext y
    by_cases e : y = j
    · subst e
      simp only [updV, if_pos]
      rw [hnew]
    · simp only [updV, if_neg e]
      rw [hold _ e]
theorem zx_B.add {locs : List Loc} {i s0 : Nat} (hB : zx_B E locs) (hi : 3 ≤ i) : zx_B E (locs ++ [⟨zx_rho E i, s0⟩]) := fun q hq => by
  rcases List.mem_append.mp hq with h | h
  · exact hB q h
  · rw [List.mem_singleton.mp h]; exact zx_rho_in hi
theorem zx_iastore_ok {i : Nat} {j x : Int32} (hc : zx_chk k (pc, len, .iastore, v0, w0, p0, a, b) = true) (hi : zx_is M i 20) (hj : vp_in j (zx_ln M i))
    (hz : zx_To l E d k (pc + len) ls st (zx_pi M i j.toNatClampNeg x) Qo) : zx_To l E d k pc ls (.int x :: .int j :: .ref i :: st) M Qo := by
  obtain ⟨hd, hl⟩ := zx_chk_dec hc
  rcases hl with hl | hl <;> first | (cases hl; done) | skip
  rw [hl] at hd hz
  refine zx_Zs (M1 := zx_pi M i j.toNatClampNeg x) rfl rfl (fun p e R s m args below meth c hF Q H locs cells slots la _ _ hR hL hB kk => ?_) hz
  obtain ⟨hx, hb, -, hown, hts, hK, -⟩ := hF
  refine W.iast hx hb (zx_ar hR hi (by omega) (by omega)) ((zx_arr hK (a := 20) (by omega) (by omega)).1 _ _) (fun q => by cases q) (by rw [arrV_size]; exact hj) rfl rfl hd fun H' e1 e2 e3 => ?_
  refine kk H' _ la (zx_ast_R (M1 := zx_pi M i j.toNatClampNeg x) hR hi (by omega) (by omega) rfl (fun _ => rfl) (fun _ => rfl) (fun q hq => ?_) (fun _ _ => rfl) (fun _ _ => rfl) ?_ (fun y hy => ?_) e1 e2 e3) hL (hB.add hi.1)
  · funext y; simp [zx_pi, zx_u2, hq]
  · simp [zx_cv, zx_pi, zx_u2, zx_tc, zx_at, zx_v]
  · simp [zx_cv, zx_pi, zx_u2, zx_tc, zx_at, hy]
theorem zx_bastore_ok {i : Nat} {j x : Int32} (hc : zx_chk k (pc, len, .bastore, v0, w0, p0, a, b) = true) (ha : a = 22 ∨ a = 23) (hi : zx_is M i a) (hj : vp_in j (zx_ln M i))
    (hz : zx_To l E d k (pc + len) ls st (zx_pi M i j.toNatClampNeg (vp_nar (zx_at a) x)) Qo) : zx_To l E d k pc ls (.int x :: .int j :: .ref i :: st) M Qo := by
  obtain ⟨hd, hl⟩ := zx_chk_dec hc
  rcases hl with hl | hl <;> first | (cases hl; done) | skip
  rw [hl] at hd hz
  refine zx_Zs (M1 := zx_pi M i j.toNatClampNeg (vp_nar (zx_at a) x)) rfl rfl (fun p e R s m args below meth c hF Q H locs cells slots la _ _ hR hL hB kk => ?_) hz
  obtain ⟨hx, hb, -, hown, hts, hK, -⟩ := hF
  rcases ha with rfl | rfl
  · refine W.bast hx hb (zx_ar hR hi (by omega) (by omega)) ((zx_arr hK (a := 22) (by omega) (by omega)).1 _ _) (fun q => by cases q) (by rw [arrV_size]; exact hj) rfl rfl hd fun H' e1 e2 e3 => ?_
    refine kk H' _ la (zx_ast_R (M1 := zx_pi M i j.toNatClampNeg (vp_nar (zx_at 22) x)) hR hi (by omega) (by omega) rfl (fun _ => rfl) (fun _ => rfl) (fun q hq => ?_) (fun _ _ => rfl) (fun _ _ => rfl) ?_ (fun y hy => ?_) e1 e2 e3) hL (hB.add hi.1)
    · funext y; simp [zx_pi, zx_u2, hq]
    · simp [zx_cv, zx_pi, zx_u2, zx_tc, zx_at, zx_v, vp_nar, narrow]
    · simp [zx_cv, zx_pi, zx_u2, zx_tc, zx_at, hy]
  · refine W.zast hx hb (zx_ar hR hi (by omega) (by omega)) ((zx_arr hK (a := 23) (by omega) (by omega)).1 _ _) (fun q => by cases q) (by rw [arrV_size]; exact hj) rfl rfl hd fun H' e1 e2 e3 => ?_
    refine kk H' _ la (zx_ast_R (M1 := zx_pi M i j.toNatClampNeg (vp_nar (zx_at 23) x)) hR hi (by omega) (by omega) rfl (fun _ => rfl) (fun _ => rfl) (fun q hq => ?_) (fun _ _ => rfl) (fun _ _ => rfl) ?_ (fun y hy => ?_) e1 e2 e3) hL (hB.add hi.1)
    · funext y; simp [zx_pi, zx_u2, hq]
    · simp [zx_cv, zx_pi, zx_u2, zx_tc, zx_at, zx_v, vp_nar, narrow]
    · simp [zx_cv, zx_pi, zx_u2, zx_tc, zx_at, hy]
theorem zx_lastore_ok {i : Nat} {j : Int32} {x : Int64} (hc : zx_chk k (pc, len, .lastore, v0, w0, p0, a, b) = true) (hi : zx_is M i 21) (hj : vp_in j (zx_ln M i))
    (hz : zx_To l E d k (pc + len) ls st (zx_pl M i j.toNatClampNeg x) Qo) : zx_To l E d k pc ls (.long x :: .int j :: .ref i :: st) M Qo := by
  obtain ⟨hd, hl⟩ := zx_chk_dec hc
  rcases hl with hl | hl <;> first | (cases hl; done) | skip
  rw [hl] at hd hz
  refine zx_Zs (M1 := zx_pl M i j.toNatClampNeg x) rfl rfl (fun p e R s m args below meth c hF Q H locs cells slots la _ _ hR hL hB kk => ?_) hz
  obtain ⟨hx, hb, -, hown, hts, hK, -⟩ := hF
  refine W.last hx hb (zx_ar hR hi (by omega) (by omega)) ((zx_arr hK (a := 21) (by omega) (by omega)).1 _ _) (fun q => by cases q) (by rw [arrV_size]; exact hj) rfl rfl hd fun H' e1 e2 e3 => ?_
  refine kk H' _ la (zx_ast_R (M1 := zx_pl M i j.toNatClampNeg x) hR hi (by omega) (by omega) rfl (fun _ => rfl) (fun _ => rfl) (fun _ _ => rfl) (fun q hq => ?_) (fun _ _ => rfl) ?_ (fun y hy => ?_) e1 e2 e3) hL (hB.add hi.1)
  · funext y; simp [zx_pl, zx_u2, hq]
  · simp [zx_cv, zx_pl, zx_u2, zx_tc, zx_at, zx_v]
  · simp [zx_cv, zx_pl, zx_u2, zx_tc, zx_at, hy]
theorem zx_alen_ok {i : Nat} (hc : zx_chk k (pc, len, .arraylength, v0, w0, p0, a, b) = true) {kd : Nat} (hi : (zx_is M i kd ∧ 20 ≤ kd ∧ kd ≤ 26) ∨ i < 3)
    (hz : zx_To l E d k (pc + len) ls (.int (Int32.ofNat (zx_ln M i)) :: st) M Qo) : zx_To l E d k pc ls (.ref i :: st) M Qo := by
  obtain ⟨hd, hl⟩ := zx_chk_dec hc
  rcases hl with hl | hl <;> first | (cases hl; done) | skip
  rw [hl] at hd hz
  refine zx_Zs rfl rfl (fun p e R s m args below meth c hF Q H locs cells slots la _ _ hR hL hB kk => ?_) hz
  obtain ⟨hx, hb, -, hown, hts, hK, -⟩ := hF
  rcases hi with ⟨hi, h1, h2⟩ | hi
  · exact W.alen hx hb (zx_ar hR hi h1 h2) ((zx_arr hK (a := kd) h1 h2).1 _ _) (by rw [arrV_size] <;> rfl) rfl rfl hd (kk H locs la hR hL hB)
  · obtain ⟨cell, h1, h2, h3, h4, h5, h6, h7⟩ := (hR.2.2.1.1 i hi).2
    exact W.alen hx hb h1 h2 h5 rfl rfl hd (kk H locs la hR hL hB)
end ZC
end
section
/-! ===== new cells ===== -/
section ZN
variable {l : Launch} {E : zx_E} {d k pc pc1 len p0 a b : Nat} {v0 : Int32} {w0 : Int64} {ls : List (Option Value)} {st st1 : List Value} {M M1 : zx_M} {Qo : Option Value → zx_M → Prop}
/-- a step that makes cells -/
theorem zx_Zn (hn : zx_n M ≤ zx_n M1) (hs : zx_sl M ≤ zx_sl M1)
    (hW : ∀ (p : Program) (e : Env) (R : Room) (s : State) (m : MethodId) (args : Array Value) (below : List Frame) (meth : Method) (c : Code), zx_F E d k p R s m args meth c →
      ∀ (Q : State → Prop) (H : Heap) (locs : List Loc) (cells slots : Nat) (la : Array Slot), cells + (zx_n M1 - zx_n M) ≤ R.cells → slots + (zx_sl M1 - zx_sl M) ≤ R.slots → zx_R E M s H → zx_L E (zx_mL k) ls la → zx_B E locs →
      (∀ (H1 : Heap) (locs1 : List Loc) (la1 : Array Slot), zx_R E M1 s H1 → zx_L E (zx_mL k) ls la1 → zx_B E locs1 → W p l e R s m args below meth c H1 locs1 (cells + (zx_n M1 - zx_n M)) (slots + (zx_sl M1 - zx_sl M)) Q (F0 m pc1 la1 (st1.map (zx_v E)))) →
      W p l e R s m args below meth c H locs cells slots Q (F0 m pc la (st.map (zx_v E))))
    (hz : zx_To l E d k pc1 ls st1 M1 Qo) : zx_To l E d k pc ls st M Qo := by
  obtain ⟨r, M', hq, ho, h1, h2, h3⟩ := hz
  refine ⟨r, M', hq, ho, by omega, by omega, fun p e R s m args below meth c hF Q CF SF hC hS hret H locs cells slots la hR hL hB e1 e2 => ?_⟩
  refine hW p e R s m args below meth c hF Q H locs cells slots la (by omega) (by omega) hR hL hB (fun H1 locs1 la1 hR1 hL1 hB1 => ?_)
  exact h3 p e R s m args below meth c hF Q CF SF hC hS hret H1 locs1 _ _ la1 hR1 hL1 hB1 (by omega) (by omega)
theorem zx_nw_n {kd ln z : Nat} : zx_n (zx_nw M kd ln z) - zx_n M = 1 := by show zx_n M + 1 - zx_n M = 1; omega
theorem zx_nw_s {kd ln z : Nat} : zx_sl (zx_nw M kd ln z) - zx_sl M = z := by show zx_sl M + z - zx_sl M = z; omega
theorem zx_nw_cv {kd ln z t j : Nat} : zx_cv (zx_nw M kd ln z) t (zx_n M) j = (match t with
    | 0 => .int 0
    | 1 => .long 0
    | _ => .null) := by
  unfold zx_cv
  split <;> simp [zx_nw, zx_ur, va_rf]
theorem zx_newarray_ok {t : ArrayType} {n : Int32} (hc : zx_chk k (pc, len, .newarray t, v0, w0, p0, a, b) = true) (hn : ¬ n < 0) (hN : n.toNatClampNeg ≤ 65536)
    (hz : zx_To l E d k (pc + len) ls (.ref (zx_n M) :: st) (zx_nw M a n.toNatClampNeg n.toNatClampNeg) Qo) : zx_To l E d k pc ls (.int n :: st) M Qo := by
  obtain ⟨hd, hl⟩ := zx_chk_dec hc
  have ho := zx_chk_opr hc
  simp only [zx_opr, Bool.and_eq_true, decide_eq_true_eq] at ho
  obtain ⟨⟨ht, ha, ha2⟩, hw⟩ := ho
  rcases hl with hl | hl <;> first | (cases hl; done) | skip
  rw [hl] at hd hz
  refine zx_Zn (M1 := zx_nw M a n.toNatClampNeg n.toNatClampNeg) (Nat.le_succ _) (Nat.le_add_right _ _) (fun p e R s m args below meth c hF Q H locs cells slots la hC hS hR hL hB kk => ?_) hz
  rw [zx_nw_n] at hC kk
  rw [zx_nw_s] at hS kk
  obtain ⟨hx, hb, -, hown, hts, hK, -⟩ := hF
  have hA := zx_arr hK ha (by omega)
  refine va_newaK hx hb (by rw [ht]; exact hts _ (zx_w_mem hw)) rfl hd rfl hn rfl ?_ hC hS rfl fun H' cA e1 z1 o1 hAr hNm => ?_
  · rw [ht]
    rcases (show a = 20 ∨ a = 21 ∨ a = 22 ∨ a = 23 by omega) with rfl | rfl | rfl | rfl <;> simp only [zx_at, componentBytes] <;> omega
  · have hcA : cA = E.2.2 a := by
      have h2 := hA.2
      rw [ht] at hNm
      rcases (show a = 20 ∨ a = 21 ∨ a = 22 ∨ a = 23 by omega) with rfl | rfl | rfl | rfl <;> exact Option.some.inj (hNm.symm.trans h2)
    subst hcA
    have key := kk H' locs la (hR.push z1 (fun q hq => o1 q hq) ⟨fun hlt => ?_, fun g1 g2 => ?_⟩) hL hB
    · rw [hR.at]
      exact key
    · simp [zx_kd, zx_nw, zx_u1] at hlt; omega
    · rw [← hR.at, e1]
      have hk : zx_kd (zx_nw M a n.toNatClampNeg n.toNatClampNeg) (zx_n M) = a := by simp [zx_kd, zx_nw, zx_u1]
      have hln : zx_ln (zx_nw M a n.toNatClampNeg n.toNatClampNeg) (zx_n M) = n.toNatClampNeg := by simp [zx_ln, zx_nw, zx_u1]
      rw [hk, hln]
      congr 2
      funext j
      rw [zx_nw_cv, ht]
      rcases (show a = 20 ∨ a = 21 ∨ a = 22 ∨ a = 23 by omega) with rfl | rfl | rfl | rfl <;> rfl
theorem zx_new_all : ((List.range 13).all fun a => decide (Jvm.Cond.instantiable (zx_C a) (zx_N a) ∈ lw_tbl ∧ Jvm.Cond.initialized (zx_C a) ∈ lw_tbl) && goodWord (.instantiable (zx_C a) (zx_N a)) && goodWord (.initialized (zx_C a))) = true := by decide +kernel
theorem zx_new_ok {idx : Nat} (hc : zx_chk k (pc, len, .new idx, v0, w0, p0, a, b) = true) (h99 : ¬ a = 99)
    (hz : zx_To l E d k (pc + len) ls (.ref (zx_n M) :: st) (zx_nw M a 0 (zx_N a)) Qo) : zx_To l E d k pc ls st M Qo := by
  obtain ⟨hd, hl⟩ := zx_chk_dec hc
  have ho := zx_chk_opr hc
  simp only [zx_opr, Bool.and_eq_true, decide_eq_true_eq, Bool.or_eq_true] at ho
  obtain ⟨ha, hw⟩ := ho.resolve_left h99
  rcases hl with hl | hl <;> first | (cases hl; done) | skip
  rw [hl] at hd hz
  have h0 := List.all_eq_true.mp zx_new_all a (List.mem_range.mpr ha)
  simp only [Bool.and_eq_true, decide_eq_true_eq] at h0
  obtain ⟨⟨⟨m1, m2⟩, g1⟩, g2⟩ := h0
  refine zx_Zn (M1 := zx_nw M a 0 (zx_N a)) (Nat.le_succ _) (Nat.le_add_right _ _) (fun p e R s m args below meth c hF Q H locs cells slots la hC hS hR hL hB kk => ?_) hz
  rw [zx_nw_n] at hC kk
  rw [zx_nw_s] at hS kk
  obtain ⟨hx, hb, -, hown, hts, hK, -⟩ := hF
  have hKn := hK.1.1 a _ (zx_cl_at ha)
  refine W.newcK hx hb hown (hts _ (zx_w_mem hw)) (hts _ (List.mem_filter.mpr ⟨m1, g1⟩)) (hts _ (List.mem_filter.mpr ⟨m2, g2⟩)) rfl hd hC hS hKn.2.1 rfl fun H1 kC hkC e1 z1 o1 => ?_
  have key := kk H1 locs la (hR.push z1 (fun q hq => o1 q hq) ⟨fun hlt => ?_, fun g1 g2 => ?_⟩) hL hB
  · have e : H.size = zx_rho E (zx_n M) := hR.at
    rw [e]
    exact key
  · have hk : zx_kd (zx_nw M a 0 (zx_N a)) (zx_n M) = a := by simp [zx_kd, zx_nw, zx_u1]
    rw [hk, ← hR.at]
    refine (u_born (zx_ty a) hts (zx_lays_in ha) hKn hkC e1 (zx_ty_ok ha)).to (fun j hj => ?_)
    rw [zx_nw_cv]
    have hnf := zx_nfl ha hj
    generalize zx_ty a j = ty at hnf ⊢
    cases ty <;> first | rfl | (exact absurd rfl hnf.1) | (exact absurd rfl hnf.2)
  · simp [zx_kd, zx_nw, zx_u1] at g1; omega
theorem zx_over {U : State} (hK : zx_K E U) {ty : FieldType} (h : Jvm.Cond.arrayOver ty ∈ lw_tbl) (ht : ty.isReference = true) : va_Nw (.arrayOver ty) U := hK.2 _ (List.mem_filter.mpr ⟨h, by cases ty <;> first | rfl | cases ht⟩)
theorem zx_over_all : Jvm.Cond.arrayOver (.object "NamesThatShrink$Picks") ∈ lw_tbl ∧ Jvm.Cond.arrayOver (.array .int) ∈ lw_tbl ∧ Jvm.Cond.arrayOver (.array .long) ∈ lw_tbl := by decide +kernel
theorem zx_anewarray_ok {idx : Nat} {n : Int32} (hc : zx_chk k (pc, len, .anewarray idx, v0, w0, p0, a, b) = true) (hn : ¬ n < 0) (hN : n.toNatClampNeg ≤ 65536)
    (hz : zx_To l E d k (pc + len) ls (.ref (zx_n M) :: st) (zx_nw M 26 n.toNatClampNeg n.toNatClampNeg) Qo) : zx_To l E d k pc ls (.int n :: st) M Qo := by
  obtain ⟨hd, hl⟩ := zx_chk_dec hc
  have ho := zx_chk_opr hc
  simp only [zx_opr, Bool.and_eq_true, decide_eq_true_eq] at ho
  obtain ⟨ha, hw⟩ := ho
  rcases hl with hl | hl <;> first | (cases hl; done) | skip
  rw [hl] at hd hz
  refine zx_Zn (M1 := zx_nw M 26 n.toNatClampNeg n.toNatClampNeg) (Nat.le_succ _) (Nat.le_add_right _ _) (fun p e R s m args below meth c hF Q H locs cells slots la hC hS hR hL hB kk => ?_) hz
  rw [zx_nw_n] at hC kk
  rw [zx_nw_s] at hS kk
  obtain ⟨hx, hb, -, hown, hts, hK, -⟩ := hF
  have hA := zx_arr hK (a := 26) (by omega) (by omega)
  refine W.anew hx hb hown (hts _ (zx_w_mem hw)) (va_AO.use (zx_over hK zx_over_all.1 rfl)) rfl hd rfl hn (by omega) hC hS fun cA kA comp f1 f2 f3 f4 => ?_
  have hcA : cA = E.2.2 26 := by
    obtain ⟨kA', comp', k1, k2, k3, k4⟩ := hA.2
    exact Option.some.inj (f1.symm.trans k4)
  subst hcA
  have key := kk (H.push { cls := E.2.2 26, slots := Array.replicate n.toNatClampNeg .null, vm := .none }) locs la (hR.push (by rw [Array.size_push]) (fun q hq => by rw [Array.getElem?_push, if_neg (Nat.ne_of_lt hq)]) ⟨fun hlt => ?_, fun g1 g2 => ?_⟩) hL hB
  · have e : H.size = zx_rho E (zx_n M) := hR.at
    rw [e]
    exact key
  · simp [zx_kd, zx_nw, zx_u1] at hlt
  · have hk : zx_kd (zx_nw M 26 n.toNatClampNeg n.toNatClampNeg) (zx_n M) = 26 := by simp [zx_kd, zx_nw, zx_u1]
    have hln : zx_ln (zx_nw M 26 n.toNatClampNeg n.toNatClampNeg) (zx_n M) = n.toNatClampNeg := by simp [zx_ln, zx_nw, zx_u1]
    rw [hk, hln, ← hR.at, Array.getElem?_push_size, arrV_new]
    congr 2
    funext j
    rw [zx_nw_cv]
    rfl
/-- Picks into a row of them -/
theorem zx_aastore_ok {i x : Nat} {j : Int32} (hc : zx_chk k (pc, len, .aastore, v0, w0, p0, a, b) = true) (hi : zx_is M i 26) (hj : vp_in j (zx_ln M i)) (hx7 : zx_is M x 7)
    (hz : zx_To l E d k (pc + len) ls st (zx_pr M i j.toNatClampNeg (some x)) Qo) : zx_To l E d k pc ls (.ref x :: .int j :: .ref i :: st) M Qo := by
  obtain ⟨hd, hl⟩ := zx_chk_dec hc
  rcases hl with hl | hl <;> first | (cases hl; done) | skip
  rw [hl] at hd hz
  refine zx_Zs (M1 := zx_pr M i j.toNatClampNeg (some x)) rfl rfl (fun p e R s m args below meth c hF Q H locs cells slots la _ _ hR hL hB kk => ?_) hz
  obtain ⟨hx, hb, -, hown, hts, hK, -⟩ := hF
  have hlt : j.toNatClampNeg < zx_ln M i := Nat.not_le.mp fun q => hj (Or.inr q)
  have h0 : ¬ j < 0 := fun q => hj (Or.inl q)
  obtain ⟨cellV, g1, g2, g3, -⟩ := zx_ob hR hx7 (by omega)
  have hcls := (hK.1.1 7 _ (zx_cl_at (by omega))).2
  obtain ⟨kA, comp, k1, k2, k3, -⟩ := (zx_arr hK (a := 26) (by omega) (by omega)).2
  have hcomp : comp = E.2.1.1 7 := Option.some.inj (k3.symm.trans hcls.1)
  subst hcomp
  obtain ⟨kC, hkC, -⟩ := id hcls.2
  refine W.aast hx hb (zx_ar hR hi (by omega) (by omega)) (fun q h => by cases h) (fun h => by cases h) k1 k2 rfl hkC ⟨h0, by rw [arrV_size]; exact hlt⟩ g1 (fun q h => by rw [g3] at h; cases h) (by rw [g2]; exact hkC) (by rw [g2]; exact va_assign hcls) rfl rfl hd fun H' e1 e2 e3 => ?_
  refine kk H' _ la (zx_ast_R (M1 := zx_pr M i j.toNatClampNeg (some x)) hR hi (by omega) (by omega) rfl (fun _ => rfl) (fun _ => rfl) (fun _ _ => rfl) (fun _ _ => rfl) (fun q hq => ?_) ?_ (fun y hy => ?_) e1 e2 e3) hL (hB.add hi.1)
  · funext y; simp [zx_pr, zx_u2, hq]
  · simp [zx_cv, zx_pr, zx_u2, zx_tc, zx_at, zx_v, va_rf]
  · simp [zx_cv, zx_pr, zx_u2, zx_tc, zx_at, hy]
end ZN
end
section
/-! ===== rows of rows, copies, Math, Object.<init> ===== -/
theorem zx_jdk_all : ([Jvm.Cond.native arraycopyName, .static arraycopyName, .initialized "java/lang/System", .static Lib.Math.max.name, .static Lib.Math.min.name, .initialized "java/lang/Math", .code Lib.Math.max.name Lib.Math.max.code 2 (some .int), .code Lib.Math.min.name Lib.Math.min.code 2 (some .int), .instanceMethod Lib.objectInit, .code Lib.objectInit ⟨#[0xb1]⟩ 1 none, .arrayClass .int, .arrayClass .long].all fun w => decide (w ∈ lw_tbl) && goodWord w) = true := by decide +kernel
theorem zx_jdk {w : Jvm.Cond} (h : w ∈ [Jvm.Cond.native arraycopyName, .static arraycopyName, .initialized "java/lang/System", .static Lib.Math.max.name, .static Lib.Math.min.name, .initialized "java/lang/Math", .code Lib.Math.max.name Lib.Math.max.code 2 (some .int), .code Lib.Math.min.name Lib.Math.min.code 2 (some .int), .instanceMethod Lib.objectInit, .code Lib.objectInit ⟨#[0xb1]⟩ 1 none, .arrayClass .int, .arrayClass .long]) : w ∈ zx_good := by
  have h1 := List.all_eq_true.mp zx_jdk_all w h
  simp only [Bool.and_eq_true, decide_eq_true_eq] at h1
  exact List.mem_filter.mpr h1
/-- how many words a stack takes -/
def zx_sw8 (st : List Value) : Nat := (st.map fun v => v.category).sum
theorem zx_sw8_map (E : zx_E) (st : List Value) : ((st.map (zx_v E)).map fun v => v.category).sum = zx_sw8 st := by
  unfold zx_sw8
  rw [List.map_map]
  congr 1
  exact List.map_congr_left (fun v _ => zx_cat E v)
section ZO
variable {l : Launch} {E : zx_E} {d k pc pc1 len p0 a b : Nat} {v0 : Int32} {w0 : Int64} {ls : List (Option Value)} {st st1 : List Value} {M M1 : zx_M} {Qo : Option Value → zx_M → Prop}
theorem zx_objinit_ok {idx i : Nat} (hc : zx_chk k (pc, len, .invokespecial idx, v0, w0, p0, 5, b) = true) (hst : zx_sw8 st ≤ 8) (hd1 : 1 ≤ d)
    (hz : zx_To l E d k (pc + len) ls st M Qo) : zx_To l E d k pc ls (.ref i :: st) M Qo := by
  obtain ⟨hd, hl⟩ := zx_chk_dec hc
  have ho := zx_chk_opr hc
  simp [zx_opr] at ho
  rcases hl with hl | hl <;> first | (cases hl; done) | skip
  rw [hl] at hd hz
  refine zx_Zs rfl rfl (fun p e R s m args below meth c hF Q H locs cells slots la _ _ hR hL hB kk => ?_) hz
  obtain ⟨hx, hb, hml, hown, hts, hK, hfr, hlo, -⟩ := hF
  refine W.objInit hx hb hown (hts _ (zx_w_mem ho)) (hts _ (zx_jdk (by simp))) (hts _ (zx_jdk (by simp))) rfl (by rw [hml]; exact hL.1) rfl hd (by omega) ?_ (kk H locs la hR hL hB)
  rw [zx_sw8_map]
  show 2 * 0 + _ + 12 ≤ _
  omega
theorem zx_max_ok {idx : Nat} {x y : Int32} (hc : zx_chk k (pc, len, .invokestatic idx, v0, w0, p0, 7, b) = true) (hst : zx_sw8 st ≤ 8) (hd1 : 1 ≤ d)
    (hz : zx_To l E d k (pc + len) ls (.int (if x < y then y else x) :: st) M Qo) : zx_To l E d k pc ls (.int y :: .int x :: st) M Qo := by
  obtain ⟨hd, hl⟩ := zx_chk_dec hc
  have ho := zx_chk_opr hc
  simp [zx_opr] at ho
  rcases hl with hl | hl <;> first | (cases hl; done) | skip
  rw [hl] at hd hz
  refine zx_Zs rfl rfl (fun p e R s m args below meth c hF Q H locs cells slots la hC hS hR hL hB kk => ?_) hz
  obtain ⟨hx, hb, hml, hown, hts, hK, hfr, hlo, -⟩ := hF
  refine va_mmax hx hb (by rw [hml]; exact hL.1.symm) hown (hts _ (zx_w_mem ho)) (hts _ (zx_jdk (by simp))) (hts _ (zx_jdk (by simp))) (hts _ (zx_jdk (by simp))) (by omega) ?_ hC hS hd (kk H locs la hR hL hB)
  have := zx_sw8_map E st
  omega
theorem zx_min_ok {idx : Nat} {x y : Int32} (hc : zx_chk k (pc, len, .invokestatic idx, v0, w0, p0, 8, b) = true) (hst : zx_sw8 st ≤ 8) (hd1 : 1 ≤ d)
    (hz : zx_To l E d k (pc + len) ls (.int (if y < x then y else x) :: st) M Qo) : zx_To l E d k pc ls (.int y :: .int x :: st) M Qo := by
  obtain ⟨hd, hl⟩ := zx_chk_dec hc
  have ho := zx_chk_opr hc
  simp [zx_opr] at ho
  rcases hl with hl | hl <;> first | (cases hl; done) | skip
  rw [hl] at hd hz
  refine zx_Zs rfl rfl (fun p e R s m args below meth c hF Q H locs cells slots la hC hS hR hL hB kk => ?_) hz
  obtain ⟨hx, hb, hml, hown, hts, hK, hfr, hlo, -⟩ := hF
  refine va_mmin hx hb (by rw [hml]; exact hL.1.symm) hown (hts _ (zx_w_mem ho)) (hts _ (zx_jdk (by simp))) (hts _ (zx_jdk (by simp))) (hts _ (zx_jdk (by simp))) (by omega) ?_ hC hS hd (kk H locs la hR hL hB)
  have := zx_sw8_map E st
  omega
/-- a row of ints copied -/
def zx_cpy (M : zx_M) (src dst sp dp n : Nat) : zx_M := (zx_ur M.1 dst (va_cpy (M.1 src) (M.1 dst) sp dp n), M.2)
theorem zx_copy_ok {idx i0 i1 : Nat} {sp dp n : Int32} (hc : zx_chk k (pc, len, .invokestatic idx, v0, w0, p0, 6, b) = true) (hst : zx_sw8 st ≤ 8) (hd1 : 1 ≤ d) (hi0 : zx_is M i0 20) (hi1 : zx_is M i1 20)
    (h1 : ¬ sp < 0) (h2 : ¬ dp < 0) (h3 : ¬ n < 0) (h4 : sp.toNatClampNeg + n.toNatClampNeg ≤ zx_ln M i0) (h5 : dp.toNatClampNeg + n.toNatClampNeg ≤ zx_ln M i1)
    (hz : zx_To l E d k (pc + len) ls st (zx_cpy M i0 i1 sp.toNatClampNeg dp.toNatClampNeg n.toNatClampNeg) Qo) : zx_To l E d k pc ls (.int n :: .int dp :: .ref i1 :: .int sp :: .ref i0 :: st) M Qo := by
  obtain ⟨hd, hl⟩ := zx_chk_dec hc
  have ho := zx_chk_opr hc
  simp [zx_opr] at ho
  rcases hl with hl | hl <;> first | (cases hl; done) | skip
  rw [hl] at hd hz
  refine zx_Zs (M1 := zx_cpy M i0 i1 sp.toNatClampNeg dp.toNatClampNeg n.toNatClampNeg) rfl rfl (fun p e R s m args below meth c hF Q H locs cells slots la hC hS hR hL hB kk => ?_) hz
  obtain ⟨hx, hb, hml, hown, hts, hK, hfr, hlo, -⟩ := hF
  have nn : ∀ z : Int32, ¬ z < 0 → z.toInt = (z.toNatClampNeg : Int) := by
    intro z hz
    have hz0 : (0 : Int) ≤ z.toInt := by
      have := Int32.not_lt.mp hz
      simpa using Int32.le_iff_toInt_le.mp this
    show z.toInt = ((z.toInt.toNat : Nat) : Int)
    omega
  intro T hT X
  have hc0 : H[zx_rho E i0]? = some (arrV (E.2.2 20) (zx_ln M i0) (fun j => .int (M.1 i0 j))) := zx_ar hR hi0 (by omega) (by omega)
  have hc1 : H[zx_rho E i1]? = some (arrV (E.2.2 20) (zx_ln M i1) (fun j => .int (M.1 i1 j))) := zx_ar hR hi1 (by omega) (by omega)
  obtain ⟨-, k0, hk0, cm0, hkk0⟩ := (zx_arr hK (a := 20) (by omega) (by omega)).1 0 (fun _ => .null)
  obtain ⟨vm', X', step⟩ := X.arraycopy hx hown (hts _ (zx_w_mem ho)) (hts _ (zx_jdk (by simp))) (hts _ (zx_jdk (by simp))) (hts _ (zx_jdk (by simp))) (src := zx_rho E i0) (dst := zx_rho E i1) (cs := arrV (E.2.2 20) (zx_ln M i0) (fun j => .int (M.1 i0 j))) (cd := arrV (E.2.2 20) (zx_ln M i1) (fun j => .int (M.1 i1 j))) (srcPos := sp) (destPos := dp) (n := n) (by rw [hT]; exact hc0) (by rw [hT]; exact hc1)
    (fun _ h => by cases h) (fun _ h => by cases h) (fun h => by cases h) (fun h => by cases h) hk0 hk0 hkk0 hkk0 (by simp [zx_at, refKind]) h1 h2 h3
    (by rw [nn sp h1, nn n h3, arrV_size]; omega)
    (by rw [nn dp h2, nn n h3, arrV_size]; omega)
    (fun vm₁ _ i hi => by
      have e : (arrV (E.2.2 20) (zx_ln M i0) (fun j => .int (M.1 i0 j))).slots.getD (sp.toNatClampNeg + i) .null = .int (M.1 i0 (sp.toNatClampNeg + i)) := by
        rw [Array.getD_eq_getD_getElem?, arrV_read _ _ (by omega)]
        rfl
      refine ⟨?_, ?_⟩
      · rw [e]
        rfl
      · rw [e]
        exact trivial)
    (g := F0 m pc la (.int n :: .int dp :: .ref (zx_rho E i1) :: .int sp :: .ref (zx_rho E i0) :: st.map (zx_v E))) rfl (by rw [hml]; exact hL.1) (rest := st.map (zx_v E)) rfl (by rw [hb]; exact hd) (by omega)
    (by
      have := zx_sw8_map E st
      show 2 * 0 + _ + (nativeFrameWords "java/lang/System" "arraycopy" 5 + 11) ≤ _
      have e7 : nativeFrameWords "java/lang/System" "arraycopy" 5 = 7 := by decide
      omega)
  have e1 : copied (arrV (E.2.2 20) (zx_ln M i0) (fun j => .int (M.1 i0 j))) (arrV (E.2.2 20) (zx_ln M i1) (fun j => .int (M.1 i1 j))) sp dp n = arrV (E.2.2 20) (zx_ln M i1) (fun j => .int (va_cpy (M.1 i0) (M.1 i1) sp.toNatClampNeg dp.toNatClampNeg n.toNatClampNeg j)) := va_copied (fun z => .int z) _ _ _ _ h4
  rw [e1] at X' step
  have hl : zx_rho E i1 < H.size := (Array.getElem?_eq_some_iff.mp hc1).1
  generalize hnew : arrV (E.2.2 20) (zx_ln M i1) (fun j => Value.int (va_cpy (M.1 i0) (M.1 i1) sp.toNatClampNeg dp.toNatClampNeg n.toNatClampNeg j)) = cN at X' step
  have hheap : ((T.setVm vm').setCell (zx_rho E i1) cN).heap = H.setIfInBounds (zx_rho E i1) cN := by rw [← hT]; rfl
  have oq : ∀ q : Nat, q ≠ zx_rho E i1 → (H.setIfInBounds (zx_rho E i1) cN)[q]? = H[q]? := fun q hq => by simp [Array.getElem?_setIfInBounds, Ne.symm hq]
  have hR1 : zx_R E (zx_cpy M i0 i1 sp.toNatClampNeg dp.toNatClampNeg n.toNatClampNeg) s (H.setIfInBounds (zx_rho E i1) cN) := by
    refine hR.put hi1.1 rfl (fun _ => rfl) (fun _ => rfl) (fun j hj => ?_) (fun _ _ => rfl) (fun _ _ => rfl) (by simp) oq ⟨fun hlt => ?_, fun g1 g2 => ?_⟩
    · simp [zx_cpy, zx_ur, hj]
    · have : zx_kd M i1 < 13 := hlt
      rw [hi1.2.2] at this; omega
    · have hk : zx_kd (zx_cpy M i0 i1 sp.toNatClampNeg dp.toNatClampNeg n.toNatClampNeg) i1 = 20 := hi1.2.2
      rw [hk]
      simp only [Array.getElem?_setIfInBounds, if_pos hl, if_true]
      rw [← hnew]
      simp [zx_cv, zx_cpy, zx_ur, zx_tc, zx_at, zx_v, zx_ln]
  obtain ⟨t, a1, b1⟩ := kk _ _ la hR1 hL (fun q hq => by
      rcases List.mem_append.mp hq with h | h
      · exact hB q h
      · obtain ⟨z, -, hz⟩ := List.mem_map.mp h
        rw [← hz]
        exact zx_rho_in hi1.1) _ hheap X'
  exact ⟨t, step t a1, b1⟩
/-- new T[n][m] -/
def zx_mn (M : zx_M) (kd n1 n2 : Nat) : zx_M := (fun x => if zx_n M ≤ x then fun _ => 0 else M.1 x, fun x => if zx_n M ≤ x then fun _ => 0 else M.2.1 x, fun x => if x = zx_n M then (fun j => if j < n1 then some (zx_n M + 1 + j) else none) else if zx_n M < x then fun _ => none else M.2.2.1 x,
  fun x => if x = zx_n M then kd else if zx_n M < x then kd - 4 else M.2.2.2.1 x, fun x => if x = zx_n M then n1 else if zx_n M < x then n2 else M.2.2.2.2.1 x, zx_n M + 1 + n1, zx_sl M + (n1 + n1 * n2))
theorem zx_outer (E : zx_E) (c : ClassId) (N h0 : Nat) : ∀ i : Nat, Jvm.Free.Multi.outerC c N h0 i = arrV c N (fun j => if j < i then .ref (h0 + 1 + j) else .null)
  | 0 => by
    show ({ cls := c, slots := Array.replicate N .null, vm := .none } : Cell) = _
    rw [arrV_new]
    refine congrArg (arrV c N) (funext fun j => ?_)
    simp
  | i + 1 => by
    show (Jvm.Free.Multi.outerC c N h0 i).setSlot i (.ref (h0 + 1 + i)) = _
    rw [zx_outer E c N h0 i, arrV_store]
    refine congrArg (arrV c N) (funext fun j => ?_)
    by_cases e : j = i
    · subst e
      simp [updV]
    · by_cases h : j < i
      · simp [updV, e, h, Nat.lt_succ_of_lt h]
      · simp [updV, e, h, show ¬ j < i + 1 by omega]
theorem zx_mna_ok {idx : Nat} {n1 n2 : Int32} (hc : zx_chk k (pc, len, .multianewarray idx 2, v0, w0, p0, a, b) = true) (hn1 : ¬ n1 < 0) (hn2 : ¬ n2 < 0) (hN1 : n1.toNatClampNeg ≤ 65536) (hN2 : n2.toNatClampNeg ≤ 65536)
    (hz : zx_To l E d k (pc + len) ls (.ref (zx_n M) :: st) (zx_mn M a n1.toNatClampNeg n2.toNatClampNeg) Qo) : zx_To l E d k pc ls (.int n2 :: .int n1 :: st) M Qo := by
  obtain ⟨hd, hl⟩ := zx_chk_dec hc
  have ho := zx_chk_opr hc
  simp only [zx_opr, Bool.and_eq_true, decide_eq_true_eq] at ho
  obtain ⟨⟨-, ha⟩, hw⟩ := ho
  rcases hl with hl | hl <;> first | (cases hl; done) | skip
  rw [hl] at hd hz
  refine zx_Zn (M1 := zx_mn M a n1.toNatClampNeg n2.toNatClampNeg) (by show _ ≤ zx_n M + 1 + _; omega) (Nat.le_add_right _ _) (fun p e R s m args below meth c hF Q H locs cells slots la hC hS hR hL hB kk => ?_) hz
  have hcn : zx_n (zx_mn M a n1.toNatClampNeg n2.toNatClampNeg) - zx_n M = 1 + n1.toNatClampNeg := by show zx_n M + 1 + _ - zx_n M = _; omega
  have hcs : zx_sl (zx_mn M a n1.toNatClampNeg n2.toNatClampNeg) - zx_sl M = n1.toNatClampNeg + n1.toNatClampNeg * n2.toNatClampNeg := by show zx_sl M + _ - zx_sl M = _; omega
  rw [hcn] at hC kk
  rw [hcs] at hS kk
  obtain ⟨hx, hb, -, hown, hts, hK, -⟩ := hF
  have hA := zx_arr hK (a := a) (by omega) (by omega)
  have hA4 := zx_arr hK (a := a - 4) (by omega) (by omega)
  obtain ⟨ty, hty, hat4⟩ : ∃ ty, zx_at a = .array ty ∧ zx_at (a - 4) = ty := by
    rcases ha with rfl | rfl
    · exact ⟨_, rfl, rfl⟩
    · exact ⟨_, rfl, rfl⟩
  have hover : (Jvm.Cond.arrayOver (.array ty)).before args s = true := by
    rcases ha with rfl | rfl <;> cases hty
    · exact zx_over hK zx_over_all.2.1 rfl
    · exact zx_over hK zx_over_all.2.2 rfl
  have hcls : (Jvm.Cond.arrayClass ty).before args s = true := by
    rcases ha with rfl | rfl <;> cases hty <;> exact hts _ (zx_jdk (by simp))
  have hclink : (Jvm.Cond.classLink (zx_own k) idx ("[" ++ (FieldType.array ty).toString)).before args s = true := by
    have h9 := hts _ (zx_w_mem hw)
    rcases ha with rfl | rfl <;> cases hty <;> exact h9
  intro T hT Xs
  have hby : n2.toNatClampNeg * componentBytes ty ≤ 536870912 := by
    rcases ha with rfl | rfl <;> cases hty <;> simp only [componentBytes] <;> omega
  have hdf : fits ty (defaultValue ty) = true ∧ (defaultValue ty).isDefault = true := by
    rcases ha with rfl | rfl <;> cases hty <;> exact ⟨by decide, by decide⟩
  obtain ⟨vm₁, cA, comp, -, fA, fC, hO, -, X', step⟩ := Xs.multianewarray2F hx hown hclink hover hcls (g := F0 m pc la (.int n2 :: .int n1 :: st.map (zx_v E))) rfl (by rw [hb]; exact hd) rfl hn1 hn2 (by omega) hby (by omega) hdf.1 hdf.2 hC hS
  have ecA : cA = E.2.2 a := by
    have h2 := hA.2
    rcases ha with rfl | rfl <;> cases hty <;> exact Option.some.inj (fA.symm.trans h2)
  have ecc : comp = E.2.2 (a - 4) := by
    have h2 := hA4.2
    rcases ha with rfl | rfl <;> cases hty <;> exact Option.some.inj (fC.symm.trans h2)
  subst ecA
  subst ecc
  generalize hF : Jvm.Free.Multi.fill (T.setVm vm₁) (E.2.2 a) (E.2.2 (a - 4)) n1.toNatClampNeg n2.toNatClampNeg (defaultValue ty) n1.toNatClampNeg = F at X' step
  have hTh : (T.setVm vm₁).heap = H := hT
  obtain ⟨f1, f2, -, -⟩ := Jvm.Free.Multi.fill_facts (T.setVm vm₁) (E.2.2 a) (E.2.2 (a - 4)) n1.toNatClampNeg n2.toNatClampNeg (defaultValue ty) n1.toNatClampNeg
  rw [hF, hTh] at f1 f2
  have hold : ∀ x : Nat, x < H.size → F.heap[x]? = H[x]? := fun x hx => by
    have := Jvm.Free.Multi.fill_old (T.setVm vm₁) (E.2.2 a) (E.2.2 (a - 4)) n1.toNatClampNeg n2.toNatClampNeg (defaultValue ty) (a := x) (by rw [hTh]; exact hx) n1.toNatClampNeg
    rw [hF, hTh] at this
    exact this
  have hrow : ∀ j : Nat, j < n1.toNatClampNeg → F.heap[H.size + 1 + j]? = some (arrV (E.2.2 (a - 4)) n2.toNatClampNeg (fun _ => defaultValue ty)) := fun j hj => by
    have := Jvm.Free.Multi.fill_inner (T.setVm vm₁) (E.2.2 a) (E.2.2 (a - 4)) n1.toNatClampNeg n2.toNatClampNeg (defaultValue ty) n1.toNatClampNeg j hj
    rw [hF, hTh] at this
    rw [this]
    exact congrArg some (arrV_new _ _ _)
  rw [zx_outer E] at f2
  have h3 := hR.1
  have hsz := hR.2.1
  have hR1 : zx_R E (zx_mn M a n1.toNatClampNeg n2.toNatClampNeg) s F.heap := by
    refine ⟨by show 3 ≤ zx_n M + 1 + _; omega, by rw [f1]; show _ = E.1.1 + (zx_n M + 1 + _); omega, ?_, fun j hj3 hj => ?_⟩
    · refine (hR.2.2.1.kept (fun a ha _ => hold a ha)).cong ?_ ?_ ?_ <;> intro j hj
      · simp [zx_kd, zx_mn, show j ≠ zx_n M by omega, show ¬ zx_n M < j by omega]
      · simp [zx_ln, zx_mn, show j ≠ zx_n M by omega, show ¬ zx_n M < j by omega]
      · simp [zx_mn, show ¬ zx_n M ≤ j by omega]
    · have hj' : j < zx_n M + 1 + n1.toNatClampNeg := hj
      rcases Nat.lt_trichotomy j (zx_n M) with hlt | heq | hgt
      · refine ((hR.2.2.2 j hj3 hlt).kept (hold _ (hR.ltH hj3 hlt))).cong ?_ ?_ ?_ ?_ ?_ <;> simp [zx_kd, zx_ln, zx_mn, show j ≠ zx_n M by omega, show ¬ zx_n M < j by omega, show ¬ zx_n M ≤ j by omega]
      · subst heq
        have hk : zx_kd (zx_mn M a n1.toNatClampNeg n2.toNatClampNeg) (zx_n M) = a := by simp [zx_kd, zx_mn]
        have hln : zx_ln (zx_mn M a n1.toNatClampNeg n2.toNatClampNeg) (zx_n M) = n1.toNatClampNeg := by simp [zx_ln, zx_mn]
        refine ⟨fun hlt => ?_, fun g1 g2 => ?_⟩
        · rw [hk] at hlt; omega
        · rw [hk, hln, ← hR.at, f2]
          congr 2
          funext j
          have htc : zx_tc (zx_at a) = 2 := by rw [hty]; rfl
          rw [htc]
          simp only [zx_cv, zx_mn, if_true]
          by_cases hjn : j < n1.toNatClampNeg
          · simp only [hjn, if_true, va_rf, zx_v]
            have e8 : zx_rho E (zx_n M + 1 + j) = H.size + 1 + j := by rw [zx_rho_ge (by omega)]; omega
            rw [e8]
          · simp [hjn, va_rf, zx_v]
      · have hk : zx_kd (zx_mn M a n1.toNatClampNeg n2.toNatClampNeg) j = a - 4 := by simp [zx_kd, zx_mn, show j ≠ zx_n M by omega, hgt]
        have hln : zx_ln (zx_mn M a n1.toNatClampNeg n2.toNatClampNeg) j = n2.toNatClampNeg := by simp [zx_ln, zx_mn, show j ≠ zx_n M by omega, hgt]
        refine ⟨fun hlt => ?_, fun g1 g2 => ?_⟩
        · rw [hk] at hlt; omega
        · rw [hk, hln]
          have e9 := hrow (j - zx_n M - 1) (by omega)
          rw [show H.size + 1 + (j - zx_n M - 1) = zx_rho E j by rw [zx_rho_ge hj3]; omega] at e9
          rw [e9]
          congr 2
          funext y
          rw [hat4]
          rcases ha with rfl | rfl <;> cases hty <;> simp [zx_cv, zx_mn, zx_tc, zx_v, defaultValue, show zx_n M ≤ j by omega]
  obtain ⟨t, a1, b1⟩ := kk F.heap locs la hR1 hL hB F rfl (by rw [show cells + (1 + n1.toNatClampNeg) = cells + 1 + n1.toNatClampNeg by omega, show slots + (n1.toNatClampNeg + n1.toNatClampNeg * n2.toNatClampNeg) = slots + n1.toNatClampNeg + n1.toNatClampNeg * n2.toNatClampNeg by omega]; exact X')
  refine ⟨t, step t ?_, b1⟩
  have e0 : T.heap.size = zx_rho E (zx_n M) := by rw [hT]; exact hR.at
  rw [e0]
  exact a1
end ZO
end
section
/-! ===== a method's contract out of its run; calls ===== -/
theorem zx_nest_alike {w : Jvm.Cond} (hw : w ∈ zx_nest) {s U : State} (h : (∀ (a : String) (i : Nat) (x : MethodName) (b : String), w = .methodLinkNest a i x b → va_Nw w s → va_Nw w U)) (hal : s.vm.Alike U.vm) (hZ : va_Nw w s) : va_Nw w U := by
  have h2 := (List.mem_filter.mp hw).2
  cases w <;> first | (exact h _ _ _ _ rfl hZ) | (simp at h2; done) | skip
  rename_i ty
  cases ty <;> first | (exact va_AO.moved hal hZ) | (exact Jvm.Stand.arrayOver_alikeB hal hZ) | (simp at h2; done)
theorem zx_K.warm {E : zx_E} {s U : State} (hW : s.WarmedH U.vm) (h : zx_K E s) : zx_K E U :=
  ⟨va_K.moved hW.alike h.1, fun w hw => zx_nest_alike hw (fun _ _ _ _ e q => by subst e; exact va_Nw.warmM hW q) hW.alike (h.2 w hw)⟩
theorem zx_K.same {E : zx_E} {s U : State} (hv : s.vm = U.vm) (h : zx_K E s) : zx_K E U := by
  have hal : s.vm.Alike U.vm := by rw [hv]; exact Vm.Alike.refl U.vm
  exact ⟨va_K.moved hal h.1, fun w hw => zx_nest_alike hw (fun _ _ _ _ e q => by subst e; exact va_Nw.same rfl hv q) hal (h.2 w hw)⟩
def zx_ws (k : Nat) : List Jvm.Cond := .code (zx_y k) (zx_b k) (zx_mL k) (zx_rt k) :: zx_good
def zx_Pc (E : zx_E) (as : List Value) (M : zx_M) : Array Value → State → Prop := va_Pc (as.map (zx_v E)) (fun U => zx_R E M U U.heap ∧ zx_K E U)
def zx_Qc (E : zx_E) (r : Option Value) (M' : zx_M) : Array Value → State → Outcome → State → Prop := fun _ _ o t => o = .returned (r.map (zx_v E)) ∧ zx_R E M' t t.heap
/-- the locals at the entry -/
def zx_en (as : List Value) : List (Option Value) := match as with
  | [] => []
  | v :: vs => match v with
    | .long x => some (.long x) :: none :: zx_en vs
    | .double x => some (.double x) :: none :: zx_en vs
    | w => some w :: zx_en vs
def zx_ent (as : List Value) (n : Nat) : List (Option Value) := zx_en as ++ List.replicate (n - (zx_en as).length) none
theorem zx_en_len (E : zx_E) : ∀ as : List Value, (lg_sl (as.map (zx_v E))).length = (zx_en as).length
  | [] => rfl
  | v :: vs => by
    have ih := zx_en_len E vs
    unfold lg_sl at ih ⊢
    simp only [List.map_cons, List.flatMap_cons, List.length_append, ih, zx_cat]
    cases v <;> simp [zx_en, Value.category] <;> omega
theorem zx_en_mem (E : zx_E) : ∀ (as : List Value) (j i : Nat) (v : Value), (zx_en as)[i]? = some (some v) → (j + i, zx_v E v) ∈ lv_args j (as.map (zx_v E))
  | [], _, _, _, h => by simp [zx_en] at h
  | w :: vs, j, i, v, h => by
    simp only [List.map_cons, lv_args, zx_cat]
    have one : (∀ x, w ≠ .long x) → (∀ x, w ≠ .double x) → (j + i, zx_v E v) ∈ (j, zx_v E w) :: lv_args (if w.category = 2 then j + 2 else j + 1) (vs.map (zx_v E)) := by
      intro n1 n2
      have e : zx_en (w :: vs) = some w :: zx_en vs := by cases w <;> first | rfl | exact absurd rfl (n1 _) | exact absurd rfl (n2 _)
      have hc : ¬ w.category = 2 := by cases w <;> first | (simp [Value.category]; done) | exact absurd rfl (n1 _) | exact absurd rfl (n2 _)
      rw [e] at h
      rw [if_neg hc]
      cases i with
      | zero => simp at h; subst h; exact List.mem_cons_self
      | succ i =>
        simp at h
        have := zx_en_mem E vs (j + 1) i v h
        rw [show j + 1 + i = j + (i + 1) by omega] at this
        exact List.mem_cons_of_mem _ this
    have two : w.category = 2 → (∀ us, zx_en (w :: us) = some w :: none :: zx_en us) → (j + i, zx_v E v) ∈ (j, zx_v E w) :: lv_args (if w.category = 2 then j + 2 else j + 1) (vs.map (zx_v E)) := by
      intro hc e
      rw [e] at h
      rw [if_pos hc]
      match i, h with
      | 0, h => simp at h; subst h; exact List.mem_cons_self
      | 1, h => simp at h
      | i + 2, h =>
        simp at h
        have := zx_en_mem E vs (j + 2) i v h
        rw [show j + 2 + i = j + (i + 2) by omega] at this
        exact List.mem_cons_of_mem _ this
    cases w with
    | long x => exact two rfl (fun _ => rfl)
    | double x => exact two rfl (fun _ => rfl)
    | _ => exact one (fun _ h => by cases h) (fun _ h => by cases h)
theorem zx_ent_L {E : zx_E} {as : List Value} {n : Nat} {la : Array Slot} (h : lv_has la n (lv_args 0 (as.map (zx_v E)))) : zx_L E n (zx_ent as n) la := by
  refine ⟨h.1, h.2.1, fun i v hi => ?_⟩
  have h2 : (zx_en as)[i]? = some (some v) := by
    unfold zx_ent at hi
    by_cases hl : i < (zx_en as).length
    · rw [List.getElem?_append_left hl] at hi; exact hi
    · rw [List.getElem?_append_right (by omega), List.getElem?_replicate] at hi
      split at hi <;> cases hi
  have := zx_en_mem E as 0 i v h2
  rw [Nat.zero_add] at this
  exact h.2.2 _ this
theorem zx_mok_code {k : Nat} (h : zx_mok k = true) : Jvm.Cond.code (zx_y k) (zx_b k) (zx_mL k) (zx_rt k) ∈ zx_good ∧ Jvm.Cond.initialized (zx_y k).cls ∈ zx_good ∧ ((zx_y k).cls ≠ "java/lang/invoke/MethodHandle" ∧ (zx_y k).cls ≠ "java/lang/invoke/VarHandle" ∧ (parseMethodDescriptor (zx_y k).desc).map (fun d => d.parameters.length) = some (zx_np k)) ∧ zx_mL k ≤ 45 ∧ plainName (zx_y k).cls = true ∧
    (zx_st k = true → Jvm.Cond.static (zx_y k) ∈ zx_good) ∧ (zx_st k = false → Jvm.Cond.instanceMethod (zx_y k) ∈ zx_good ∧ ((zx_y k).name = "<init>" ∨ Jvm.Cond.selects (zx_y k).cls (zx_y k) (zx_y k) ∈ zx_good) ∧ zx_mc k < 13 ∧ zx_C (zx_mc k) = (zx_y k).cls) := by
  simp only [zx_mok, Bool.and_eq_true, decide_eq_true_eq, Bool.or_eq_true] at h
  obtain ⟨⟨⟨⟨⟨⟨h1, h2⟩, h3⟩, h4⟩, h5⟩, h6⟩, h7⟩ := h
  refine ⟨zx_w_mem h1, zx_w_mem h3, h4, h5, h6, fun hs => ?_, fun hs => ?_⟩
  · rw [hs] at h2
    exact zx_w_mem h2
  · rw [hs] at h2 h7
    simp only [Bool.and_eq_true, Bool.or_eq_true, decide_eq_true_eq, Bool.false_eq_true, if_false, false_or] at h2 h7
    exact ⟨zx_w_mem h2.1, h2.2.imp id zx_w_mem, h7⟩
theorem zx_met {l : Launch} {E : zx_E} {d k : Nat} {as : List Value} {M M' : zx_M} {r : Option Value} (hk : zx_mok k = true) (hlen : (zx_en as).length ≤ zx_mL k) (hrok : zx_rok k r) (hZ : zx_Z l E d k 0 (zx_ent as (zx_mL k)) [] M r M') :
    Met l (zx_y k) (zx_ws k) ({ frames := d, cells := zx_n M' - zx_n M, slots := zx_sl M' - zx_sl M, locals := 64 * d }) (zx_Pc E as M) (zx_Qc E r M') (zx_n M' - zx_n M) (zx_sl M' - zx_sl M) (zx_A E) := by
  have hm := zx_mok_code hk
  refine Met.ofW (cc := zx_b k) (maxL := zx_mL k) (ret := zx_rt k) hm.2.2.2.2.1 rfl ?_
  intro p e s m args below meth c s₁ B hml hv
  obtain ⟨rfl, hR, hK⟩ := hv
  have hx := B.exec
  have hb := B.bytes
  have hr := B.returns
  have hts := atoms_spec (ws := zx_ws k) B.pre
  have hown : s.vm.findClass (zx_y k).cls = some m.cls := findClass_of_methodNamed B.named
  have hlocks := B.notSynchronized
  have hl := lv_entry (as.map (zx_v E)) (n := zx_mL k) (by rw [zx_en_len]; exact hlen)
  rw [lg_entry_eq]
  generalize (lg_sl (as.map (zx_v E)) ++ List.replicate (zx_mL k - (lg_sl (as.map (zx_v E))).length) Slot.unset).toArray = la at hl ⊢
  refine hZ.2.2 p e _ s m _ below meth c ⟨hx, hb, hml, hown, fun w hw => hts w (List.mem_cons_of_mem _ hw), hK, Nat.le_refl _, Nat.le_refl _, (name_of_methodNamed B.named B.method).1⟩ _ _ _ (Nat.le_refl _) (Nat.le_refl _) (fun pc' la' H' locs' hd hR' hB' => ?_) s.heap [] 0 0 la hR (zx_ent_L hl) (fun _ h => by cases h) (Nat.zero_add _) (Nat.zero_add _)
  have hQ : ∀ t : State, t.heap = H' → s.WarmedH t.vm → zx_R E M' t t.heap := fun t ht hW => by rw [ht]; exact hR'.moved hW.alike
  match r, hrok, hd with
  | none, ho, hd => exact W.vret hx hb (by rw [hr]; exact ho) (fun t ht hW => ⟨rfl, hQ t ht hW⟩) hB' hd
  | some (.int v), ho, hd =>
    obtain ⟨ty, ht, hn⟩ := ho
    exact W.zret hx hb (by rw [hr]; exact ht) hn (fun t ht hW => ⟨rfl, hQ t ht hW⟩) hB' hd
  | some (.long v), ho, hd => exact W.lret hx hb (by rw [hr]; exact ho) (fun t ht hW => ⟨rfl, hQ t ht hW⟩) hB' hd
def zx_Ci (l : Launch) (E : zx_E) (d b : Nat) (as : List Value) (M : zx_M) (Q : Int32 → zx_M → Prop) : Prop := zx_To l E d b 0 (zx_ent as (zx_mL b)) [] M (fun r M' => ∃ v, r = some (.int v) ∧ Q v M')
def zx_Cl (l : Launch) (E : zx_E) (d b : Nat) (as : List Value) (M : zx_M) (Q : Int64 → zx_M → Prop) : Prop := zx_To l E d b 0 (zx_ent as (zx_mL b)) [] M (fun r M' => ∃ v, r = some (.long v) ∧ Q v M')
def zx_Cv (l : Launch) (E : zx_E) (d b : Nat) (as : List Value) (M : zx_M) (Q : zx_M → Prop) : Prop := zx_To l E d b 0 (zx_ent as (zx_mL b)) [] M (fun r M' => r = none ∧ Q M')
theorem zx_gi {ws : List Jvm.Cond} (h : ∀ w ∈ ws, w ∈ zx_good) : GoodIn zx_good ws := fun w hw => ⟨h w hw, good_of_word (List.mem_filter.mp (h w hw)).2⟩
theorem zx_blind {E : zx_E} {as : List Value} {M : zx_M} : FrameBlind (zx_Pc E as M) := fun a U g mk q => ⟨q.1, zx_R.moved (u := U) (Vm.Alike.refl U.vm) q.2.1, zx_K.same (s := U) (U := U.calling g mk a) rfl q.2.2⟩
theorem zx_pre {E : zx_E} {as : List Value} {M : zx_M} {s : State} {H : Heap} (hR : zx_R E M s H) (hK : zx_K E s) : ∀ U : State, U.heap = H → s.WarmedH U.vm → zx_Pc E as M (as.map (zx_v E)).toArray U := fun U hU hW => ⟨rfl, by rw [hU]; exact hR.moved hW.alike, hK.warm hW⟩
section ZR
variable {p : Program} {l : Launch} {e : Env} {R : Room} {s : State} {m : MethodId} {args : Array Value} {below : List Frame} {meth : Method} {c : Code} {H : Heap} {locs : List Loc} {cells slots mc ms : Nat} {Q : State → Prop}
theorem zx_run {E : zx_E} {M1 : zx_M} {r1 : Option Value} {a : Array Value} {pc : Nat} {la : Array Slot} {st0 rest : List Value} (hr : va_Run p l e R s m args below meth c H locs cells slots mc ms (F0 m pc la st0) rest (zx_Qc E r1 M1 a) (zx_A E)) (hB : zx_B E locs)
    (kk : ∀ (H1 : Heap) (locs1 : List Loc), zx_R E M1 s H1 → zx_B E locs1 → W p l e R s m args below meth c H1 locs1 (cells + mc) (slots + ms) Q (F0 m (pc + 3) la ((r1.map (zx_v E)).toList ++ rest))) : W p l e R s m args below meth c H locs cells slots Q (F0 m pc la st0) := by
  intro T hT X
  obtain ⟨v, st₀, t, T', L, h0, X', hL, e1, e2, ⟨hv, hR1⟩, st⟩ := hr T hT X
  cases hv
  obtain ⟨t2, a1, b1⟩ := kk T'.heap (locs ++ L) (by rw [e1]; exact hR1.moved (by rw [← e2]; exact X'.warmed.alike.symm)) (fun q hq => by
    rcases List.mem_append.mp hq with h | h
    · exact hB q h
    · exact hL q h) T' rfl X'
  exact ⟨t2, st t2 a1, b1⟩
end ZR
section ZL
variable {l : Launch} {E : zx_E} {d k pc len p0 a b : Nat} {v0 : Int32} {w0 : Int64} {ls : List (Option Value)} {st as : List Value} {M : zx_M} {Qo : Option Value → zx_M → Prop}
/-- behind a call -/
theorem zx_call_gen {st0 : List Value} {Qr : Option Value → zx_M → Prop} (hk : zx_mok b = true) (hlen : (zx_en as).length ≤ zx_mL b) (hz : zx_To l E d b 0 (zx_ent as (zx_mL b)) [] M Qr) (hq : ∀ r1 M1, Qr r1 M1 → zx_To l E (d + 1) k (pc + 3) ls (r1.toList ++ st) M1 Qo)
    (hrun : ∀ (r1 : Option Value) (M1 : zx_M), Met l (zx_y b) (zx_ws b) ({ frames := d, cells := zx_n M1 - zx_n M, slots := zx_sl M1 - zx_sl M, locals := 64 * d }) (zx_Pc E as M) (zx_Qc E r1 M1) (zx_n M1 - zx_n M) (zx_sl M1 - zx_sl M) (zx_A E) →
      ∀ (p : Program) (e : Env) (R : Room) (s : State) (m : MethodId) (args : Array Value) (below : List Frame) (meth : Method) (c : Code), zx_F E (d + 1) k p R s m args meth c → ∀ (H : Heap) (locs : List Loc) (cells slots : Nat) (la : Array Slot), zx_R E M s H → zx_L E (zx_mL k) ls la →
      cells + (zx_n M1 - zx_n M) ≤ R.cells → slots + (zx_sl M1 - zx_sl M) ≤ R.slots →
      ∃ a0, va_Run p l e R s m args below meth c H locs cells slots (zx_n M1 - zx_n M) (zx_sl M1 - zx_sl M) (F0 m pc la (st0.map (zx_v E))) (st.map (zx_v E)) (zx_Qc E r1 M1 a0) (zx_A E)) :
    zx_To l E (d + 1) k pc ls st0 M Qo := by
  obtain ⟨r1, M1, hq1, hrok, hZ⟩ := hz
  obtain ⟨r, M', hQ, ho, h1, h2, h3⟩ := hq r1 M1 hq1
  have hM := zx_met hk hlen hrok hZ
  have n1 := hZ.1
  have s1 := hZ.2.1
  refine ⟨r, M', hQ, ho, by omega, by omega, fun p e R s m args below meth c hF Q CF SF hC hS hret H locs cells slots la hR hL hB e1 e2 => ?_⟩
  obtain ⟨a0, hr⟩ := hrun r1 M1 hM p e R s m args below meth c hF H locs cells slots la hR hL (by omega) (by omega)
  refine zx_run hr hB (fun H1 locs1 hR1 hB1 => ?_)
  have := h3 p e R s m args below meth c hF Q CF SF hC hS hret H1 locs1 (cells + (zx_n M1 - zx_n M)) (slots + (zx_sl M1 - zx_sl M)) la hR1 hL hB1 (by omega) (by omega)
  cases r1 <;> exact this
theorem zx_mapr (E : zx_E) (as st : List Value) (i : Nat) : (as.reverse ++ .ref i :: st).map (zx_v E) = (as.map (zx_v E)).reverse ++ .ref (zx_rho E i) :: st.map (zx_v E) := by
  rw [List.map_append, List.map_reverse]; rfl
theorem zx_maps (E : zx_E) (as st : List Value) : (as.reverse ++ st).map (zx_v E) = (as.map (zx_v E)).reverse ++ st.map (zx_v E) := by
  rw [List.map_append, List.map_reverse]
theorem zx_virt_ok {idx i : Nat} {Qr : Option Value → zx_M → Prop} (hc : zx_chk k (pc, len, .invokevirtual idx, v0, w0, p0, a, b) = true) (hi : zx_is M i (zx_mc b)) (hn : as.length = zx_np b) (hst : zx_sw8 st ≤ 8) (hlen : (zx_en (.ref i :: as)).length ≤ zx_mL b)
    (hz : zx_To l E d b 0 (zx_ent (.ref i :: as) (zx_mL b)) [] M Qr) (hq : ∀ r1 M1, Qr r1 M1 → zx_To l E (d + 1) k (pc + len) ls (r1.toList ++ st) M1 Qo) : zx_To l E (d + 1) k pc ls (as.reverse ++ .ref i :: st) M Qo := by
  obtain ⟨hd, hl⟩ := zx_chk_dec hc
  have ho := zx_chk_opr hc
  simp only [zx_opr, Bool.and_eq_true, decide_eq_true_eq, Bool.not_eq_true'] at ho
  obtain ⟨⟨⟨⟨-, hs0⟩, hmk⟩, hw⟩, hne⟩ := ho
  rcases hl with hl | hl <;> first | (cases hl; done) | skip
  rw [hl] at hd hq
  have hm := zx_mok_code hmk
  obtain ⟨hinst, hsel, hc13, hcn⟩ := hm.2.2.2.2.2.2 hs0
  refine zx_call_gen hmk hlen hz hq (fun r1 M1 hM p e R s m args below meth c hF H locs cells slots la hR hL hC hS => ?_)
  obtain ⟨hx, hb, hml, hown, hts, hK, hfr, hlo, -⟩ := hF
  rw [zx_mapr]
  refine ⟨_, va_runV (As := as.map (zx_v E)) (rest := st.map (zx_v E)) (n := zx_np b) ⟨hx, hb, hml, hown, hts⟩ hM (cwV (zx_np b) hts (zx_gi (fun w h => ?_)) rfl rfl rfl ⟨rfl, hm.2.2.1⟩ ⟨hfr, by have := hm.2.2.2.1; show 8 + (zx_mL b + 11) + 64 * d ≤ _; omega⟩) ⟨zx_blind, ?_, zx_pre (as := .ref i :: as) hR hK⟩ rfl (by rw [List.length_map]; exact hn) hL.1 rfl (lv_room (by rw [zx_sw8_map]; exact hst)) hd ⟨hC, hS⟩⟩
  · simp only [wsV, List.mem_append, List.mem_cons, List.not_mem_nil, or_false] at h
    rcases h with (h | h | h | h) | h
    · rw [h]; exact zx_w_mem hw
    · rw [h]; exact hinst
    · rw [h]; exact hsel.resolve_left hne
    · rw [h]; exact hm.2.1
    · rcases List.mem_cons.mp h with h | h
      · rw [h]; exact hm.1
      · exact h
  · obtain ⟨cell, g1, g2, g3, -⟩ := zx_ob hR hi hc13
    exact ⟨cell, g1, by rw [g3]; rfl, by rw [g2, ← hcn]; exact (hK.1.1 _ _ (zx_cl_at hc13)).2.1⟩
theorem zx_stat_ok {idx : Nat} {Qr : Option Value → zx_M → Prop} (hc : zx_chk k (pc, len, .invokestatic idx, v0, w0, p0, a, b) = true) (ha : a = 2 ∨ a = 4) (hn : as.length = zx_np b) (hst : zx_sw8 st ≤ 8) (hlen : (zx_en as).length ≤ zx_mL b)
    (hz : zx_To l E d b 0 (zx_ent as (zx_mL b)) [] M Qr) (hq : ∀ r1 M1, Qr r1 M1 → zx_To l E (d + 1) k (pc + len) ls (r1.toList ++ st) M1 Qo) : zx_To l E (d + 1) k pc ls (as.reverse ++ st) M Qo := by
  obtain ⟨hd, hl⟩ := zx_chk_dec hc
  have ho := zx_chk_opr hc
  have hsm : zx_st b = true ∧ zx_mok b = true ∧ (a = 2 → zx_w p0 (.methodLink (zx_own k) idx (zx_y b)) = true) ∧ (a = 4 → zx_wn p0 (.methodLinkNest (zx_own k) idx (zx_y b) "NamesThatShrink") = true) := by
    rcases ha with rfl | rfl <;> simp [zx_opr] at ho <;> simp [ho]
  obtain ⟨hs0, hmk, hw2, hw4⟩ := hsm
  rcases hl with hl | hl <;> first | (cases hl; done) | skip
  rw [hl] at hd hq
  have hm := zx_mok_code hmk
  refine zx_call_gen hmk hlen hz hq (fun r1 M1 hM p e R s m args below meth c hF H locs cells slots la hR hL hC hS => ?_)
  obtain ⟨hx, hb, hml, hown, hts, hK, hfr, hlo, -⟩ := hF
  rw [zx_maps]
  have hroom : d + 1 ≤ R.frames ∧ 8 + (zx_mL b + 11) + 64 * d ≤ R.locals := ⟨hfr, by have := hm.2.2.2.1; omega⟩
  have hgw : ∀ w ∈ zx_ws b, w ∈ zx_good := fun w h => by
    rcases List.mem_cons.mp h with h | h
    · rw [h]; exact hm.1
    · exact h
  rcases ha with rfl | rfl
  · refine ⟨_, va_runS (As := as.map (zx_v E)) (rest := st.map (zx_v E)) (n := zx_np b) ⟨hx, hb, hml, hown, hts⟩ hM (va_cwS (zx_np b) hts (zx_gi (fun w h => ?_)) rfl rfl rfl hm.2.2.1 hroom) ⟨zx_blind, zx_pre hR hK⟩ rfl (by rw [List.length_map]; exact hn) hL.1 rfl (lv_room (by rw [zx_sw8_map]; exact hst)) hd ⟨hC, hS⟩⟩
    simp only [va_wsS, List.mem_append, List.mem_cons, List.not_mem_nil, or_false] at h
    rcases h with (h | h | h) | h
    · rw [h]; exact zx_w_mem (hw2 rfl)
    · rw [h]; exact hm.2.2.2.2.2.1 hs0
    · rw [h]; exact hm.2.1
    · exact hgw w h
  · exact ⟨_, va_runSN (As := as.map (zx_v E)) (rest := st.map (zx_v E)) (n := zx_np b) ⟨hx, hb, hml, hown, hts⟩ hM ⟨va_cnB (zx_np b) hts (zx_gi hgw) rfl rfl rfl (hK.2 _ (List.mem_filter.mpr ⟨zx_wn_mem (hw4 rfl), rfl⟩)) (hts _ hm.2.1) hm.2.2.1 hroom, hts _ (hm.2.2.2.2.2.1 hs0), trivial⟩ ⟨zx_blind, zx_pre hR hK⟩ rfl (by rw [List.length_map]; exact hn) hL.1 rfl (lv_room (by rw [zx_sw8_map]; exact hst)) hd ⟨hC, hS⟩⟩
theorem zx_init_ok {idx i : Nat} {Qr : Option Value → zx_M → Prop} (hc : zx_chk k (pc, len, .invokespecial idx, v0, w0, p0, a, b) = true) (ha : a = 1 ∨ a = 3) (hn : as.length = zx_np b) (hst : zx_sw8 st ≤ 8) (hlen : (zx_en (.ref i :: as)).length ≤ zx_mL b)
    (hz : zx_To l E d b 0 (zx_ent (.ref i :: as) (zx_mL b)) [] M Qr) (hq : ∀ r1 M1, Qr r1 M1 → zx_To l E (d + 1) k (pc + len) ls (r1.toList ++ st) M1 Qo) : zx_To l E (d + 1) k pc ls (as.reverse ++ .ref i :: st) M Qo := by
  obtain ⟨hd, hl⟩ := zx_chk_dec hc
  have ho := zx_chk_opr hc
  have hsm : zx_st b = false ∧ zx_mok b = true ∧ (zx_y b).name = "<init>" ∧ zx_rt b = none ∧ (a = 1 → zx_w p0 (.methodLink (zx_own k) idx (zx_y b)) = true) ∧ (a = 3 → zx_wn p0 (.methodLinkNest (zx_own k) idx (zx_y b) "NamesThatShrink") = true) := by
    rcases ha with rfl | rfl <;> simp [zx_opr] at ho <;> simp [ho]
  obtain ⟨hs0, hmk, hnm, hrt, hw1, hw3⟩ := hsm
  rcases hl with hl | hl <;> first | (cases hl; done) | skip
  rw [hl] at hd hq
  have hm := zx_mok_code hmk
  have hinst := (hm.2.2.2.2.2.2 hs0).1
  refine zx_call_gen hmk hlen hz hq (fun r1 M1 hM p e R s m args below meth c hF H locs cells slots la hR hL hC hS => ?_)
  obtain ⟨hx, hb, hml, hown, hts, hK, hfr, hlo, -⟩ := hF
  rw [zx_mapr]
  have hroom : d + 1 ≤ R.frames ∧ 8 + (zx_mL b + 11) + 64 * d ≤ R.locals := ⟨hfr, by have := hm.2.2.2.1; omega⟩
  have hgw : ∀ w ∈ zx_ws b, w ∈ zx_good := fun w h => by
    rcases List.mem_cons.mp h with h | h
    · rw [h]; exact hm.1
    · exact h
  have hw0 : zx_ws b = Jvm.Cond.code (zx_y b) (zx_b b) (zx_mL b) none :: zx_good := by unfold zx_ws; rw [hrt]
  rcases ha with rfl | rfl
  · exact ⟨_, va_runI (As := as.map (zx_v E)) (rest := st.map (zx_v E)) (n := zx_np b) ⟨hx, hb, hml, hown, hts⟩ hM (cwI (zx_np b) hts (zx_gi hgw) hw0 rfl rfl (hts _ hm.2.1) (hts _ (zx_w_mem (hw1 rfl))) (hts _ hinst) hnm hm.2.2.1 hroom) ⟨zx_blind, zx_pre (as := .ref i :: as) hR hK⟩ rfl (by rw [List.length_map]; exact hn) hL.1 rfl (lv_room (by rw [zx_sw8_map]; exact hst)) hd ⟨hC, hS⟩⟩
  · exact ⟨_, va_runIN (As := as.map (zx_v E)) (rest := st.map (zx_v E)) (n := zx_np b) ⟨hx, hb, hml, hown, hts⟩ hM ⟨va_cnB (zx_np b) hts (zx_gi hgw) hw0 rfl rfl (hK.2 _ (List.mem_filter.mpr ⟨zx_wn_mem (hw3 rfl), rfl⟩)) (hts _ hm.2.1) hm.2.2.1 hroom, hnm, hts _ hinst⟩ ⟨zx_blind, zx_pre (as := .ref i :: as) hR hK⟩ rfl (by rw [List.length_map]; exact hn) hL.1 rfl (lv_room (by rw [zx_sw8_map]; exact hst)) hd ⟨hC, hS⟩⟩
theorem zx_ret_ok {r : Option Value} {ins : Instr} (hc : zx_chk k (pc, len, ins, v0, w0, p0, a, b) = true) (hi : ins = zx_ri r) (hst : st = r.toList) (hrok : zx_rok k r) (hq : Qo r M) : zx_To l E d k pc ls st M Qo := by
  obtain ⟨hd, hl⟩ := zx_chk_dec hc
  have hlen : len = 1 := by
    rw [hi] at hl
    rcases hl with hl | hl
    · match r, hl with
      | none, hl => cases hl
      | some (.int _), hl => cases hl
      | some (.long _), hl => cases hl
      | some (.float _), hl => cases hl
      | some (.double _), hl => cases hl
      | some .null, hl => cases hl
      | some (.ref _), hl => cases hl
      | some (.retAddr _), hl => cases hl
    · rw [hl]
      match r with
      | none | some (.int _) | some (.long _) | some (.float _) | some (.double _) | some .null | some (.ref _) | some (.retAddr _) => rfl
  subst hlen
  rw [hi] at hd
  refine ⟨r, M, hq, hrok, Nat.le_refl _, Nat.le_refl _, fun p e R s m args below meth c hF Q CF SF hC hS hret H locs cells slots la hR hL hB e1 e2 => ?_⟩
  have h := hret pc la H locs hd hR hB
  have e3 : CF = cells := by omega
  have e4 : SF = slots := by omega
  rw [e3, e4] at h
  have e5 : (r.map (zx_v E)).toList = st.map (zx_v E) := by rw [hst]; cases r <;> rfl
  rw [e5] at h
  exact h
end ZL
end
section
/-! ===== what must hold before an instruction, so that what must hold behind it does ===== -/
/-- a call of b with these arguments, F behind it -/
def zx_call (l : Launch) (E : zx_E) (d b : Nat) (as : List Value) (M : zx_M) (ls : List (Option Value)) (rest : List Value) (F : List (Option Value) → List Value → zx_M → Prop) : Prop := match Nat.ble (zx_sw8 rest) 8 && Nat.ble (zx_en as).length (zx_mL b) with
  | false => False
  | true => match d with
    | 0 => False
    | d + 1 => match zx_rt b with
      | none => zx_Cv l E d b as M (fun M1 => F ls rest M1)
      | some .long => zx_Cl l E d b as M (fun v M1 => F ls (.long v :: rest) M1)
      | some _ => zx_Ci l E d b as M (fun v M1 => F ls (.int v :: rest) M1)
/-- behind what needs a frame of its own -/
def zx_leaf (d : Nat) (rest : List Value) (P : Prop) : Prop := match Nat.ble (zx_sw8 rest) 8 && Nat.ble 1 d with
  | false => False
  | true => P
def zx_one (l : Launch) (E : zx_E) (d k : Nat) (Q : Option Value → zx_M → Prop) (e : zx_En) (F : List (Option Value) → List Value → zx_M → Prop) (J : Nat → List (Option Value) → List Value → zx_M → Prop) (ls : List (Option Value)) (st : List Value) (M : zx_M) : Prop := match e with
  | (pc, _, ins, v, w, _, a, b) => match zx_alu ins v w st with
    | some (none, st1) => F ls st1 M
    | some (some c, st1) => c ∧ F ls st1 M
    | none => match ins with
      | .iload i => match ls[i]? with
        | some (some (.int x)) => F ls (.int x :: st) M
        | _ => False
      | .iload_n i => match ls[(i : Nat)]? with
        | some (some (.int x)) => F ls (.int x :: st) M
        | _ => False
      | .lload i => match ls[i]? with
        | some (some (.long x)) => F ls (.long x :: st) M
        | _ => False
      | .lload_n i => match ls[(i : Nat)]? with
        | some (some (.long x)) => F ls (.long x :: st) M
        | _ => False
      | .aload i => match ls[i]? with
        | some (some (.ref x)) => F ls (.ref x :: st) M
        | _ => False
      | .aload_n i => match ls[(i : Nat)]? with
        | some (some (.ref x)) => F ls (.ref x :: st) M
        | _ => False
      | .istore i => match st with
        | .int x :: st => F (zx_s1 ls i (.int x)) st M
        | _ => False
      | .istore_n i => match st with
        | .int x :: st => F (zx_s1 ls (i : Nat) (.int x)) st M
        | _ => False
      | .astore i => match st with
        | .ref x :: st => F (zx_s1 ls i (.ref x)) st M
        | _ => False
      | .astore_n i => match st with
        | .ref x :: st => F (zx_s1 ls (i : Nat) (.ref x)) st M
        | _ => False
      | .lstore i => match st with
        | .long x :: st => F (zx_s2 ls i (.long x)) st M
        | _ => False
      | .lstore_n i => match st with
        | .long x :: st => F (zx_s2 ls (i : Nat) (.long x)) st M
        | _ => False
      | .iinc i _ => match ls[i]? with
        | some (some (.int x)) => F (zx_s1 ls i (.int (x + v))) st M
        | _ => False
      | .if_icmp cn _ => match st with
        | .int y :: .int x :: st => (zx_cp cn x y → J a ls st M) ∧ (zx_co cn x y → F ls st M)
        | _ => False
      | .ifCond cn _ => match st with
        | .int x :: st => (zx_cp cn x 0 → J a ls st M) ∧ (zx_co cn x 0 → F ls st M)
        | _ => False
      | .goto _ => J a ls st M
      | .tableswitch df lo hi os => match st with
        | .int x :: st => hi + 1 = lo + os.size ∧ ((x.toInt < lo ∨ hi < x.toInt) → J ((pc : Int) + df).toNat ls st M) ∧ zx_sw pc x (fun t => J t ls st M) lo os.toList
        | _ => False
      | .getfield _ => match st with
        | .ref i :: st => zx_is M i a ∧ (match zx_tc (zx_ty a b) with
          | 0 => F ls (.int (M.1 i b) :: st) M
          | 1 => F ls (.long (M.2.1 i b) :: st) M
          | _ => ∃ j, M.2.2.1 i b = some j ∧ F ls (.ref j :: st) M)
        | _ => False
      | .putfield _ => match st with
        | .int x :: .ref i :: st => zx_is M i a ∧ (match zx_nf (zx_ty a b) x with
          | none => F ls st (zx_pi M i b x)
          | some c => c ∧ F ls st (zx_pi M i b x))
        | .long x :: .ref i :: st => zx_is M i a ∧ (match zx_ty a b with
          | .long => F ls st (zx_pl M i b x)
          | _ => False)
        | .ref j :: .ref i :: st => zx_is M i a ∧ (match zx_tc (zx_ty a b) with
          | 2 => F ls st (zx_pr M i b (some j))
          | _ => False)
        | _ => False
      | .getstatic _ => F ls (.ref a :: st) M
      | .iaload => match st with
        | .int j :: .ref i :: st => zx_ia M i ∧ vp_in j (zx_ln M i) ∧ F ls (.int (M.1 i j.toNatClampNeg) :: st) M
        | _ => False
      | .laload => match st with
        | .int j :: .ref i :: st => zx_is M i 21 ∧ vp_in j (zx_ln M i) ∧ F ls (.long (M.2.1 i j.toNatClampNeg) :: st) M
        | _ => False
      | .baload => match st with
        | .int j :: .ref i :: st => (a = 22 ∨ a = 23) ∧ zx_is M i a ∧ vp_in j (zx_ln M i) ∧ F ls (.int (M.1 i j.toNatClampNeg) :: st) M
        | _ => False
      | .aaload => match st with
        | .int j :: .ref i :: st => (3 ≤ i ∧ i < zx_n M ∧ 24 ≤ zx_kd M i ∧ zx_kd M i ≤ 26) ∧ vp_in j (zx_ln M i) ∧ ∃ x, M.2.2.1 i j.toNatClampNeg = some x ∧ F ls (.ref x :: st) M
        | _ => False
      | .iastore => match st with
        | .int x :: .int j :: .ref i :: st => zx_is M i 20 ∧ vp_in j (zx_ln M i) ∧ F ls st (zx_pi M i j.toNatClampNeg x)
        | _ => False
      | .lastore => match st with
        | .long x :: .int j :: .ref i :: st => zx_is M i 21 ∧ vp_in j (zx_ln M i) ∧ F ls st (zx_pl M i j.toNatClampNeg x)
        | _ => False
      | .bastore => match st with
        | .int x :: .int j :: .ref i :: st => (a = 22 ∨ a = 23) ∧ zx_is M i a ∧ vp_in j (zx_ln M i) ∧ F ls st (zx_pi M i j.toNatClampNeg (vp_nar (zx_at a) x))
        | _ => False
      | .aastore => match st with
        | .ref x :: .int j :: .ref i :: st => zx_is M i 26 ∧ vp_in j (zx_ln M i) ∧ zx_is M x 7 ∧ F ls st (zx_pr M i j.toNatClampNeg (some x))
        | _ => False
      | .arraylength => match st with
        | .ref i :: st => ((3 ≤ i ∧ i < zx_n M ∧ 20 ≤ zx_kd M i ∧ zx_kd M i ≤ 26) ∨ i < 3) ∧ F ls (.int (Int32.ofNat (zx_ln M i)) :: st) M
        | _ => False
      | .newarray _ => match st with
        | .int n :: st => ¬ n < 0 ∧ n.toNatClampNeg ≤ 65536 ∧ F ls (.ref (zx_n M) :: st) (zx_nw M a n.toNatClampNeg n.toNatClampNeg)
        | _ => False
      | .anewarray _ => match st with
        | .int n :: st => ¬ n < 0 ∧ n.toNatClampNeg ≤ 65536 ∧ F ls (.ref (zx_n M) :: st) (zx_nw M 26 n.toNatClampNeg n.toNatClampNeg)
        | _ => False
      | .multianewarray _ nd => match st with
        | .int n2 :: .int n1 :: st => nd = 2 ∧ ¬ n1 < 0 ∧ ¬ n2 < 0 ∧ n1.toNatClampNeg ≤ 65536 ∧ n2.toNatClampNeg ≤ 65536 ∧ F ls (.ref (zx_n M) :: st) (zx_mn M a n1.toNatClampNeg n2.toNatClampNeg)
        | _ => False
      | .new _ => match Nat.beq a 99 with
        | true => False
        | false => F ls (.ref (zx_n M) :: st) (zx_nw M a 0 (zx_N a))
      | .invokevirtual _ => match Nat.beq (st.take (zx_np b)).length (zx_np b) with
        | false => False
        | true => match st.drop (zx_np b) with
          | .ref i :: rest => zx_is M i (zx_mc b) ∧ zx_call l E d b (.ref i :: (st.take (zx_np b)).reverse) M ls rest F
          | _ => False
      | .invokestatic _ => match a with
        | 2 => match Nat.beq (st.take (zx_np b)).length (zx_np b) with
          | false => False
          | true => zx_call l E d b (st.take (zx_np b)).reverse M ls (st.drop (zx_np b)) F
        | 4 => match Nat.beq (st.take (zx_np b)).length (zx_np b) with
          | false => False
          | true => zx_call l E d b (st.take (zx_np b)).reverse M ls (st.drop (zx_np b)) F
        | 6 => match st with
          | .int n :: .int dp :: .ref i1 :: .int sp :: .ref i0 :: st => zx_leaf d st (zx_is M i0 20 ∧ zx_is M i1 20 ∧ ¬ sp < 0 ∧ ¬ dp < 0 ∧ ¬ n < 0 ∧ sp.toNatClampNeg + n.toNatClampNeg ≤ zx_ln M i0 ∧ dp.toNatClampNeg + n.toNatClampNeg ≤ zx_ln M i1 ∧ F ls st (zx_cpy M i0 i1 sp.toNatClampNeg dp.toNatClampNeg n.toNatClampNeg))
          | _ => False
        | 7 => match st with
          | .int y :: .int x :: st => zx_leaf d st (F ls (.int (if x < y then y else x) :: st) M)
          | _ => False
        | 8 => match st with
          | .int y :: .int x :: st => zx_leaf d st (F ls (.int (if y < x then y else x) :: st) M)
          | _ => False
        | _ => False
      | .invokespecial _ => match a with
        | 1 => match Nat.beq (st.take (zx_np b)).length (zx_np b) with
          | false => False
          | true => match st.drop (zx_np b) with
            | .ref i :: rest => zx_call l E d b (.ref i :: (st.take (zx_np b)).reverse) M ls rest F
            | _ => False
        | 3 => match Nat.beq (st.take (zx_np b)).length (zx_np b) with
          | false => False
          | true => match st.drop (zx_np b) with
            | .ref i :: rest => zx_call l E d b (.ref i :: (st.take (zx_np b)).reverse) M ls rest F
            | _ => False
        | 5 => match st with
          | .ref _ :: st => zx_leaf d st (F ls st M)
          | _ => False
        | _ => False
      | .ireturn => match st with
        | [.int x] => match zx_rt k with
          | some .int => Q (some (.int x)) M
          | some .boolean => (x = 0 ∨ x = 1) ∧ Q (some (.int x)) M
          | _ => False
        | _ => False
      | .lreturn => match st with
        | [.long x] => match zx_rt k with
          | some .long => Q (some (.long x)) M
          | _ => False
        | _ => False
      | .return_ => match st with
        | [] => match zx_rt k with
          | none => Q none M
          | _ => False
        | _ => False
      | _ => False
theorem zx_leaf_ok {d : Nat} {rest : List Value} {P : Prop} (h : zx_leaf d rest P) : zx_sw8 rest ≤ 8 ∧ 1 ≤ d ∧ P := by
  unfold zx_leaf at h
  split at h
  · exact h.elim
  · rename_i q
    simp only [Bool.and_eq_true] at q
    exact ⟨Nat.le_of_ble_eq_true q.1, Nat.le_of_ble_eq_true q.2, h⟩
/-- a call, taken apart -/
theorem zx_call_ok {l : Launch} {E : zx_E} {d b : Nat} {as : List Value} {M : zx_M} {ls : List (Option Value)} {rest : List Value} {F : List (Option Value) → List Value → zx_M → Prop} (h : zx_call l E d b as M ls rest F) :
    zx_sw8 rest ≤ 8 ∧ (zx_en as).length ≤ zx_mL b ∧ ∃ d', d = d' + 1 ∧ ∃ Qr : Option Value → zx_M → Prop, zx_To l E d' b 0 (zx_ent as (zx_mL b)) [] M Qr ∧ ∀ r1 M1, Qr r1 M1 → F ls (r1.toList ++ rest) M1 := by
  unfold zx_call at h
  split at h
  · exact h.elim
  · rename_i q
    simp only [Bool.and_eq_true] at q
    refine ⟨Nat.le_of_ble_eq_true q.1, Nat.le_of_ble_eq_true q.2, ?_⟩
    split at h
    · exact h.elim
    · rename_i d'
      refine ⟨d', rfl, ?_⟩
      split at h
      · exact ⟨_, h, fun r1 M1 hq => by obtain ⟨rfl, hq⟩ := hq; exact hq⟩
      · exact ⟨_, h, fun r1 M1 hq => by obtain ⟨v, rfl, hq⟩ := hq; exact hq⟩
      · exact ⟨_, h, fun r1 M1 hq => by obtain ⟨v, rfl, hq⟩ := hq; exact hq⟩
theorem zx_take {st : List Value} {n : Nat} : (st.take n).reverse.reverse ++ st.drop n = st := by rw [List.reverse_reverse, List.take_append_drop]
section ZG
variable {l : Launch} {E : zx_E} {d k pc len p0 a b : Nat} {ins : Instr} {v0 : Int32} {w0 : Int64} {ls : List (Option Value)} {st : List Value} {M : zx_M} {Q : Option Value → zx_M → Prop} {F : List (Option Value) → List Value → zx_M → Prop} {J : Nat → List (Option Value) → List Value → zx_M → Prop}
set_option maxHeartbeats 4000000 in
theorem zx_one_ok (hc : zx_chk k (pc, len, ins, v0, w0, p0, a, b) = true) (hF : ∀ ls st M, F ls st M → zx_To l E d k (pc + len) ls st M Q) (hJ : ∀ t ls st M, J t ls st M → zx_To l E d k t ls st M Q)
    (h : zx_one l E d k Q (pc, len, ins, v0, w0, p0, a, b) F J ls st M) : zx_To l E d k pc ls st M Q := by
  unfold zx_one at h
  dsimp only at h
  split at h
  · rename_i st1 hx
    exact zx_alu_ok hc hx trivial (hF _ _ _ h)
  · rename_i c st1 hx
    exact zx_alu_ok hc hx h.1 (hF _ _ _ h.2)
  · rename_i hx
    clear hx
    cases ins with
    | iload i =>
      dsimp only at h
      split at h
      · rename_i x hv; exact zx_iload_ok hc (Or.inl rfl) hv (hF _ _ _ h)
      · exact h.elim
    | iload_n i =>
      dsimp only at h
      split at h
      · rename_i x hv; exact zx_iload_ok hc (Or.inr ⟨i, rfl, rfl⟩) hv (hF _ _ _ h)
      · exact h.elim
    | lload i =>
      dsimp only at h
      split at h
      · rename_i x hv; exact zx_lload_ok hc (Or.inl rfl) hv (hF _ _ _ h)
      · exact h.elim
    | lload_n i =>
      dsimp only at h
      split at h
      · rename_i x hv; exact zx_lload_ok hc (Or.inr ⟨i, rfl, rfl⟩) hv (hF _ _ _ h)
      · exact h.elim
    | aload i =>
      dsimp only at h
      split at h
      · rename_i x hv; exact zx_aload_ok hc (Or.inl rfl) hv (hF _ _ _ h)
      · exact h.elim
    | aload_n i =>
      dsimp only at h
      split at h
      · rename_i x hv; exact zx_aload_ok hc (Or.inr ⟨i, rfl, rfl⟩) hv (hF _ _ _ h)
      · exact h.elim
    | istore i =>
      dsimp only at h
      split at h
      · exact zx_istore_ok hc (Or.inl rfl) (hF _ _ _ h)
      · exact h.elim
    | istore_n i =>
      dsimp only at h
      split at h
      · exact zx_istore_ok hc (Or.inr ⟨i, rfl, rfl⟩) (hF _ _ _ h)
      · exact h.elim
    | astore i =>
      dsimp only at h
      split at h
      · exact zx_astore_ok hc (Or.inl rfl) (hF _ _ _ h)
      · exact h.elim
    | astore_n i =>
      dsimp only at h
      split at h
      · exact zx_astore_ok hc (Or.inr ⟨i, rfl, rfl⟩) (hF _ _ _ h)
      · exact h.elim
    | lstore i =>
      dsimp only at h
      split at h
      · exact zx_lstore_ok hc (Or.inl rfl) (hF _ _ _ h)
      · exact h.elim
    | lstore_n i =>
      dsimp only at h
      split at h
      · exact zx_lstore_ok hc (Or.inr ⟨i, rfl, rfl⟩) (hF _ _ _ h)
      · exact h.elim
    | iinc i n =>
      dsimp only at h
      split at h
      · rename_i x hv; exact zx_iinc_ok hc hv (hF _ _ _ h)
      · exact h.elim
    | if_icmp cn off =>
      dsimp only at h
      split at h
      · exact zx_icmp_ok hc (fun q => hJ _ _ _ _ (h.1 q)) (fun q => hF _ _ _ (h.2 q))
      · exact h.elim
    | ifCond cn off =>
      dsimp only at h
      split at h
      · exact zx_if_ok hc (fun q => hJ _ _ _ _ (h.1 q)) (fun q => hF _ _ _ (h.2 q))
      · exact h.elim
    | goto off => exact zx_goto_ok hc (hJ _ _ _ _ h)
    | tableswitch df lo hi os =>
      dsimp only at h
      split at h
      · refine zx_switch_ok hc h.1 (fun q => hJ _ _ _ _ (h.2.1 q)) ?_
        have h2 := h.2.2
        generalize os.toList = ol at h2 ⊢
        clear h hc
        induction ol generalizing lo with
        | nil => trivial
        | cons o ol ih => exact ⟨fun q => hJ _ _ _ _ (h2.1 q), ih _ h2.2⟩
      · exact h.elim
    | getfield idx =>
      dsimp only at h
      split at h
      · obtain ⟨hi, h⟩ := h
        split at h
        · rename_i ht; exact zx_getfield_ok hc hi (by rw [ht]; rfl) (hF _ _ _ h)
        · rename_i ht; exact zx_getfield_ok hc hi (by rw [ht]; rfl) (hF _ _ _ h)
        · rename_i n0 n1
          obtain ⟨j, hj, h⟩ := h
          refine zx_getfield_ok (v := .ref j) hc hi ?_ (hF _ _ _ h)
          have h2 : zx_tc (zx_ty a b) = 2 := by
            revert n0 n1
            cases zx_ty a b <;> simp [zx_tc]
          rw [h2]
          simp only [zx_cv, hj, va_rf]
      · exact h.elim
    | putfield idx =>
      dsimp only at h
      split at h
      · obtain ⟨hi, h⟩ := h
        split at h
        · rename_i hn
          refine zx_puti_ok hc hi ?_ (by rw [hn]; trivial) (hF _ _ _ h)
          revert hn
          cases zx_ty a b <;> simp [zx_nf, zx_tc]
        · rename_i c hn
          refine zx_puti_ok hc hi ?_ (by rw [hn]; exact h.1) (hF _ _ _ h.2)
          have h1 := h.1
          revert hn
          cases zx_ty a b <;> simp [zx_nf, zx_tc] <;> exact h1
      · obtain ⟨hi, h⟩ := h
        split at h
        · rename_i ht; exact zx_putl_ok hc hi ht (hF _ _ _ h)
        · exact h.elim
      · obtain ⟨hi, h⟩ := h
        split at h
        · rename_i ht; exact zx_putr_ok hc hi ht (hF _ _ _ h)
        · exact h.elim
      · exact h.elim
    | getstatic idx => exact zx_getstatic_ok hc (hF _ _ _ h)
    | iaload =>
      dsimp only at h
      split at h
      · exact zx_iaload_ok hc h.1 h.2.1 (hF _ _ _ h.2.2)
      · exact h.elim
    | laload =>
      dsimp only at h
      split at h
      · exact zx_laload_ok hc h.1 h.2.1 (hF _ _ _ h.2.2)
      · exact h.elim
    | baload =>
      dsimp only at h
      split at h
      · exact zx_baload_ok hc h.1 h.2.1 h.2.2.1 (hF _ _ _ h.2.2.2)
      · exact h.elim
    | aaload =>
      dsimp only at h
      split at h
      · obtain ⟨⟨g1, g2, g3, g4⟩, hj, x, hx, h⟩ := h
        exact zx_aaload_ok hc (kd := _) ⟨g1, g2, rfl⟩ g3 g4 hj hx (hF _ _ _ h)
      · exact h.elim
    | iastore =>
      dsimp only at h
      split at h
      · exact zx_iastore_ok hc h.1 h.2.1 (hF _ _ _ h.2.2)
      · exact h.elim
    | lastore =>
      dsimp only at h
      split at h
      · exact zx_lastore_ok hc h.1 h.2.1 (hF _ _ _ h.2.2)
      · exact h.elim
    | bastore =>
      dsimp only at h
      split at h
      · exact zx_bastore_ok hc h.1 h.2.1 h.2.2.1 (hF _ _ _ h.2.2.2)
      · exact h.elim
    | aastore =>
      dsimp only at h
      split at h
      · exact zx_aastore_ok hc h.1 h.2.1 h.2.2.1 (hF _ _ _ h.2.2.2)
      · exact h.elim
    | arraylength =>
      dsimp only at h
      split at h
      · rename_i i st'
        refine zx_alen_ok hc (kd := zx_kd M i) (h.1.imp (fun q => ⟨⟨q.1, q.2.1, rfl⟩, q.2.2.1, q.2.2.2⟩) id) (hF _ _ _ h.2)
      · exact h.elim
    | newarray t =>
      dsimp only at h
      split at h
      · exact zx_newarray_ok hc h.1 h.2.1 (hF _ _ _ h.2.2)
      · exact h.elim
    | anewarray idx =>
      dsimp only at h
      split at h
      · exact zx_anewarray_ok hc h.1 h.2.1 (hF _ _ _ h.2.2)
      · exact h.elim
    | multianewarray idx nd =>
      dsimp only at h
      split at h
      · obtain ⟨rfl, h1, h2, h3, h4, h⟩ := h
        exact zx_mna_ok hc h1 h2 h3 h4 (hF _ _ _ h)
      · exact h.elim
    | new idx =>
      dsimp only at h
      split at h
      · exact h.elim
      · rename_i q
        exact zx_new_ok hc (fun e => by rw [e] at q; cases q) (hF _ _ _ h)
    | invokevirtual idx =>
      dsimp only at h
      split at h
      · exact h.elim
      · rename_i q
        have hn := Nat.eq_of_beq_eq_true q
        split at h
        · rename_i i rest hdr
          obtain ⟨hi, h⟩ := h
          obtain ⟨g1, g2, d', rfl, Qr, g3, g4⟩ := zx_call_ok h
          have := zx_virt_ok (as := (st.take (zx_np b)).reverse) (st := rest) hc hi (by rw [List.length_reverse]; exact hn) g1 g2 g3 (fun r1 M1 hq => hF _ _ _ (g4 r1 M1 hq))
          rw [← hdr, zx_take] at this
          exact this
        · exact h.elim
    | invokestatic idx =>
      dsimp only at h
      split at h
      · split at h
        · exact h.elim
        · rename_i q
          have hn := Nat.eq_of_beq_eq_true q
          obtain ⟨g1, g2, d', rfl, Qr, g3, g4⟩ := zx_call_ok h
          have := zx_stat_ok (as := (st.take (zx_np b)).reverse) (st := st.drop (zx_np b)) hc (Or.inl rfl) (by rw [List.length_reverse]; exact hn) g1 g2 g3 (fun r1 M1 hq => hF _ _ _ (g4 r1 M1 hq))
          rw [zx_take] at this
          exact this
      · split at h
        · exact h.elim
        · rename_i q
          have hn := Nat.eq_of_beq_eq_true q
          obtain ⟨g1, g2, d', rfl, Qr, g3, g4⟩ := zx_call_ok h
          have := zx_stat_ok (as := (st.take (zx_np b)).reverse) (st := st.drop (zx_np b)) hc (Or.inr rfl) (by rw [List.length_reverse]; exact hn) g1 g2 g3 (fun r1 M1 hq => hF _ _ _ (g4 r1 M1 hq))
          rw [zx_take] at this
          exact this
      · split at h
        · obtain ⟨g1, g2, h1, h2, h3, h4, h5, h6, h7, h⟩ := zx_leaf_ok h
          exact zx_copy_ok hc g1 g2 h1 h2 h3 h4 h5 h6 h7 (hF _ _ _ h)
        · exact h.elim
      · split at h
        · obtain ⟨g1, g2, h⟩ := zx_leaf_ok h
          exact zx_max_ok hc g1 g2 (hF _ _ _ h)
        · exact h.elim
      · split at h
        · obtain ⟨g1, g2, h⟩ := zx_leaf_ok h
          exact zx_min_ok hc g1 g2 (hF _ _ _ h)
        · exact h.elim
      · exact h.elim
    | invokespecial idx =>
      dsimp only at h
      split at h
      · split at h
        · exact h.elim
        · rename_i q
          have hn := Nat.eq_of_beq_eq_true q
          split at h
          · rename_i i rest hdr
            obtain ⟨g1, g2, d', rfl, Qr, g3, g4⟩ := zx_call_ok h
            have := zx_init_ok (as := (st.take (zx_np b)).reverse) (st := rest) hc (Or.inl rfl) (by rw [List.length_reverse]; exact hn) g1 g2 g3 (fun r1 M1 hq => hF _ _ _ (g4 r1 M1 hq))
            rw [← hdr, zx_take] at this
            exact this
          · exact h.elim
      · split at h
        · exact h.elim
        · rename_i q
          have hn := Nat.eq_of_beq_eq_true q
          split at h
          · rename_i i rest hdr
            obtain ⟨g1, g2, d', rfl, Qr, g3, g4⟩ := zx_call_ok h
            have := zx_init_ok (as := (st.take (zx_np b)).reverse) (st := rest) hc (Or.inr rfl) (by rw [List.length_reverse]; exact hn) g1 g2 g3 (fun r1 M1 hq => hF _ _ _ (g4 r1 M1 hq))
            rw [← hdr, zx_take] at this
            exact this
          · exact h.elim
      · split at h
        · obtain ⟨g1, g2, h⟩ := zx_leaf_ok h
          exact zx_objinit_ok hc g1 g2 (hF _ _ _ h)
        · exact h.elim
      · exact h.elim
    | ireturn =>
      dsimp only at h
      split at h
      · rename_i x
        split at h
        · rename_i hr; exact zx_ret_ok (r := some (.int x)) hc rfl rfl ⟨_, hr, rfl⟩ h
        · rename_i hr; exact zx_ret_ok (r := some (.int x)) hc rfl rfl ⟨_, hr, by rcases h.1 with e | e <;> rw [e] <;> decide⟩ h.2
        · exact h.elim
      · exact h.elim
    | lreturn =>
      dsimp only at h
      split at h
      · rename_i x
        split at h
        · rename_i hr; exact zx_ret_ok (r := some (.long x)) hc rfl rfl hr h
        · exact h.elim
      · exact h.elim
    | return_ =>
      dsimp only at h
      split at h
      · split at h
        · rename_i hr; exact zx_ret_ok (r := none) hc rfl rfl hr h
        · exact h.elim
      · exact h.elim
    | _ => exact h.elim
def zx_from (tab : List zx_En) (t : Nat) : List zx_En := match tab with
  | [] => []
  | e :: es => match Nat.beq e.1 t with
    | true => e :: es
    | false => zx_from es t
/-- a stretch of code: up to n instructions, or to one of the stops, or to the end -/
def zx_seg (l : Launch) (E : zx_E) (d k : Nat) (Q : Option Value → zx_M → Prop) (tab : List zx_En) (stops : List Nat) : Nat → Nat → List zx_En → List (Option Value) → List Value → zx_M → Prop
  | 0, pc, _, ls, st, M => zx_To l E d k pc ls st M Q
  | n + 1, pc, cs, ls, st, M => match cs with
    | [] => False
    | e :: cs => match Nat.beq e.1 pc with
      | false => False
      | true => zx_one l E d k Q e (fun ls st M => match stops.contains (pc + e.2.1) with
          | true => zx_To l E d k (pc + e.2.1) ls st M Q
          | false => zx_seg l E d k Q tab stops n (pc + e.2.1) cs ls st M)
        (fun t ls st M => match stops.contains t with
          | true => zx_To l E d k t ls st M Q
          | false => zx_seg l E d k Q tab stops n t (zx_from tab t) ls st M) ls st M
theorem zx_from_sub {tab : List zx_En} {t : Nat} : ∀ e ∈ zx_from tab t, e ∈ tab := by
  induction tab with
  | nil => intro e h; exact h
  | cons q es ih =>
    intro e h
    unfold zx_from at h
    split at h
    · exact h
    · exact List.mem_cons_of_mem _ (ih e h)
theorem zx_seg_ok {tab : List zx_En} {stops : List Nat} (ht : tab.all (zx_chk k) = true) : ∀ (n pc : Nat) (cs : List zx_En) (ls : List (Option Value)) (st : List Value) (M : zx_M), (∀ e ∈ cs, e ∈ tab) → zx_seg l E d k Q tab stops n pc cs ls st M → zx_To l E d k pc ls st M Q := by
  intro n
  induction n with
  | zero => intro pc cs ls st M _ h; exact h
  | succ n ih =>
    intro pc cs ls st M hs h
    unfold zx_seg at h
    split at h
    · exact h.elim
    · rename_i e cs
      split at h
      · exact h.elim
      · rename_i q
        have hpc := Nat.eq_of_beq_eq_true q
        obtain ⟨pc', len, ins, v, w, p, a, b⟩ := e
        have hpc : pc' = pc := hpc
        subst hpc
        refine zx_one_ok (List.all_eq_true.mp ht _ (hs _ List.mem_cons_self)) (fun ls st M g => ?_) (fun t ls st M g => ?_) h
        · split at g
          · exact g
          · exact ih _ _ _ _ _ (fun e he => hs e (List.mem_cons_of_mem _ he)) g
        · split at g
          · exact g
          · exact ih _ _ _ _ _ zx_from_sub g
/-- a stretch of a method's code from a place of its table on -/
theorem zx_go {tab : List zx_En} (ht : tab.all (zx_chk k) = true) (stops : List Nat) (n pc : Nat) (h : zx_seg l E d k Q tab stops n pc (zx_from tab pc) ls st M) : zx_To l E d k pc ls st M Q :=
  zx_seg_ok ht n pc _ ls st M zx_from_sub h
end ZG
end
section
/-! ===== where everything lies (printed by wip/gen/sym.py) ===== -/
abbrev zx_Y : Type := (Nat → Nat → Option Nat) × (Nat → Nat) × (Nat → Nat) × Nat × Nat
def zx_KD : List Nat := [30, 30, 30, 11, 10, 20, 8, 20, 0, 20, 20, 20, 20, 20, 1, 20, 20, 6, 20, 20, 20, 20, 9, 3, 20, 20, 20, 24, 20, 20, 20, 20, 20, 20, 20, 20, 20, 20, 25, 21, 21, 21, 21, 21, 21, 21, 21, 21, 21, 24, 20, 20, 20, 20, 20, 20, 20, 20, 20, 20, 20, 20, 20, 24, 20, 20, 20, 20, 20, 20, 20, 21, 20, 22, 22, 20, 5, 20, 20, 26, 26, 7, 20, 20, 7, 20, 20, 7, 20, 20, 7, 20, 20, 7, 20, 20, 7, 20, 20, 7, 20, 20, 7, 20, 20, 7, 20, 20, 7, 20, 20, 7, 20, 20, 7, 20, 20, 4, 20, 23, 2, 24, 20, 20, 20, 24, 20, 20, 20, 20, 20, 23, 12, 20, 20, 20, 20, 20, 20, 20, 20, 20, 20, 20, 20, 21, 20, 20, 20, 23, 20, 20, 23, 20, 20, 20, 20, 23, 20, 21]
def zx_LN : List Nat := [0, 6, 6, 0, 0, 80, 0, 12, 0, 10, 10, 6, 60, 60, 0, 76, 76, 0, 60, 60, 60, 10, 0, 0, 10, 10, 10, 10, 9, 9, 9, 9, 9, 9, 9, 9, 9, 9, 10, 9, 9, 9, 9, 9, 9, 9, 9, 9, 9, 10, 9, 9, 9, 9, 9, 9, 9, 9, 9, 9, 7, 10, 7, 6, 12, 12, 12, 12, 12, 12, 6, 0, 0, 0, 0, 0, 0, 10, 6, 6, 6, 0, 6, 6, 0, 6, 6, 0, 6, 6, 0, 6, 6, 0, 6, 6, 0, 6, 6, 0, 6, 6, 0, 6, 6, 0, 6, 6, 0, 6, 6, 0, 6, 6, 0, 6, 6, 0, 40, 40, 0, 3, 10, 10, 10, 3, 10, 10, 10, 3, 3, 3, 0, 16, 10, 10, 10, 6, 60, 60, 80, 10, 6, 10, 80, 20000, 20000, 20000, 65536, 20000, 6, 40, 40, 9331, 9331, 9331, 9331, 3, 93, 1]
def zx_RF : List (Nat × Nat × Nat) := [(3, 0, 4), (3, 1, 6), (3, 2, 8), (3, 3, 14), (3, 4, 17), (3, 5, 22), (3, 6, 76), (3, 7, 117), (3, 8, 120), (4, 0, 5), (6, 0, 7), (8, 0, 9), (8, 1, 10), (8, 2, 11), (8, 3, 12), (8, 4, 13), (14, 0, 4), (14, 1, 15), (14, 2, 16), (17, 0, 4), (17, 1, 8), (17, 2, 18), (17, 3, 19), (17, 4, 20), (17, 5, 21), (22, 0, 23), (22, 1, 61), (22, 2, 62), (22, 3, 63), (22, 4, 70), (23, 0, 24), (23, 1, 25), (23, 2, 26), (23, 3, 27), (23, 4, 38), (23, 5, 49), (23, 6, 60), (27, 0, 28), (27, 1, 29), (27, 2, 30), (27, 3, 31), (27, 4, 32), (27, 5, 33), (27, 6, 34), (27, 7, 35), (27, 8, 36), (27, 9, 37), (38, 0, 39), (38, 1, 40), (38, 2, 41), (38, 3, 42), (38, 4, 43), (38, 5, 44), (38, 6, 45), (38, 7, 46), (38, 8, 47), (38, 9, 48), (49, 0, 50), (49, 1, 51), (49, 2, 52), (49, 3, 53), (49, 4, 54), (49, 5, 55), (49, 6, 56), (49, 7, 57), (49, 8, 58), (49, 9, 59), (63, 0, 64), (63, 1, 65), (63, 2, 66), (63, 3, 67), (63, 4, 68), (63, 5, 69), (76, 0, 8), (76, 1, 77), (76, 2, 78), (76, 3, 79), (76, 4, 80), (79, 0, 81), (79, 1, 87), (79, 2, 93), (79, 3, 99), (79, 4, 105), (79, 5, 111), (80, 0, 84), (80, 1, 90), (80, 2, 96), (80, 3, 102), (80, 4, 108), (80, 5, 114), (81, 0, 82), (81, 1, 83), (84, 0, 85), (84, 1, 86), (87, 0, 88), (87, 1, 89), (90, 0, 91), (90, 1, 92), (93, 0, 94), (93, 1, 95), (96, 0, 97), (96, 1, 98), (99, 0, 100), (99, 1, 101), (102, 0, 103), (102, 1, 104), (105, 0, 106), (105, 1, 107), (108, 0, 109), (108, 1, 110), (111, 0, 112), (111, 1, 113), (114, 0, 115), (114, 1, 116), (117, 0, 118), (117, 1, 119), (120, 0, 121), (120, 1, 125), (120, 2, 129), (120, 3, 130), (120, 4, 131), (121, 0, 122), (121, 1, 123), (121, 2, 124), (125, 0, 126), (125, 1, 127), (125, 2, 128), (132, 2, 133), (132, 4, 134), (132, 5, 135), (132, 6, 136), (132, 7, 137), (132, 11, 138), (132, 12, 139), (132, 13, 140), (132, 18, 141), (132, 19, 142), (132, 26, 143), (132, 27, 144), (132, 28, 145), (132, 29, 146), (132, 30, 147), (132, 31, 148), (132, 32, 149), (132, 35, 150), (132, 38, 151), (132, 39, 152), (132, 40, 153), (132, 41, 154), (132, 42, 155), (132, 43, 156), (132, 47, 157), (132, 48, 158)]
def zx_lay (Y : zx_Y) : Prop := 160 ≤ Y.2.2.2.1 ∧ (∀ i, i < 160 → Y.2.1 i = zx_KD.getD i 0) ∧ (∀ i, 0 < i → i < 160 → Y.2.2.1 i = zx_LN.getD i 0) ∧ ∀ (j : Nat) (q : Nat × Nat × Nat), zx_RF[j]? = some q → Y.1 q.1 q.2.1 = some q.2.2
section ZY
variable {I : Nat → Nat → Int32} {L : Nat → Nat → Int64} {Y : zx_Y}
theorem zx_lis (h : zx_lay Y) (i kd : Nat) (hc : (Nat.ble 3 i && Nat.blt i 160) = true) (hk : zx_KD.getD i 0 = kd) : zx_is (I, L, Y) i kd := by
  simp only [Bool.and_eq_true] at hc
  have h1 := Nat.le_of_ble_eq_true hc.1
  have h2 : i < 160 := Nat.le_of_ble_eq_true hc.2
  exact ⟨h1, Nat.lt_of_lt_of_le h2 h.1, (h.2.1 i h2).trans hk⟩
theorem zx_lln (h : zx_lay Y) (i n : Nat) (hc : (Nat.ble 1 i && Nat.blt i 160) = true) (hl : zx_LN.getD i 0 = n) : zx_ln (I, L, Y) i = n := by
  simp only [Bool.and_eq_true] at hc
  exact (h.2.2.1 i (Nat.le_of_ble_eq_true hc.1) (Nat.le_of_ble_eq_true hc.2)).trans hl
theorem zx_lin (h : zx_lay Y) (i n : Nat) (hc : (Nat.ble 1 i && Nat.blt i 160) = true) (hl : zx_LN.getD i 0 = n) {j : Int32} (hj : vp_in j n) : vp_in j (zx_ln (I, L, Y) i) := by
  rw [zx_lln h i n hc hl]; exact hj
theorem zx_lrf (h : zx_lay Y) (q a k x : Nat) (hq : zx_RF[q]? = some (a, k, x)) : Y.1 a k = some x := h.2.2.2 q _ hq
theorem zx_lkd (h : zx_lay Y) (i kd : Nat) (hc : Nat.blt i 160 = true) (hk : zx_KD.getD i 0 = kd) : zx_kd (I, L, Y) i = kd := (h.2.1 i (Nat.le_of_ble_eq_true hc)).trans hk
theorem zx_l24 (h : zx_lay Y) (i kd : Nat) (hc : (Nat.ble 3 i && Nat.blt i 160) = true) (hk : zx_KD.getD i 0 = kd) (h1 : (Nat.ble 24 kd && Nat.ble kd 26) = true) : 3 ≤ i ∧ i < zx_n (I, L, Y) ∧ 24 ≤ zx_kd (I, L, Y) i ∧ zx_kd (I, L, Y) i ≤ 26 := by
  have h2 := zx_lis (I := I) (L := L) h i kd hc hk
  simp only [Bool.and_eq_true] at h1
  exact ⟨h2.1, h2.2.1, by rw [h2.2.2]; exact Nat.le_of_ble_eq_true h1.1, by rw [h2.2.2]; exact Nat.le_of_ble_eq_true h1.2⟩
end ZY
/-- fewer locals known -/
def zx_sub : List (Option Value) → List (Option Value) → Prop
  | none :: a, _ :: b => zx_sub a b
  | some v :: a, w :: b => w = some v ∧ zx_sub a b
  | [], _ => True
  | none :: a, [] => zx_sub a []
  | some _ :: _, [] => False
theorem zx_sub_get : ∀ (a b : List (Option Value)) (i : Nat) (v : Value), zx_sub a b → a[i]? = some (some v) → b[i]? = some (some v)
  | none :: a, w :: b, 0, v, _, h => by simp at h
  | none :: a, w :: b, i + 1, v, hs, h => by simpa using zx_sub_get a b i v hs (by simpa using h)
  | some u :: a, w :: b, 0, v, hs, h => by
    simp at h
    rw [hs.1, h]
    rfl
  | some u :: a, w :: b, i + 1, v, hs, h => by simpa using zx_sub_get a b i v hs.2 (by simpa using h)
  | [], _, i, v, _, h => by simp at h
  | none :: a, [], 0, v, _, h => by simp at h
  | none :: a, [], i + 1, v, hs, h => by have := zx_sub_get a [] i v hs (by simpa using h); simp at this
  | some _ :: _, [], _, _, hs, _ => hs.elim
theorem zx_wk {l : Launch} {E : zx_E} {d k pc : Nat} {ls ls' : List (Option Value)} {st : List Value} {M : zx_M} {Q : Option Value → zx_M → Prop} (hs : zx_sub ls' ls) (h : zx_To l E d k pc ls' st M Q) : zx_To l E d k pc ls st M Q := by
  obtain ⟨r, M', hq, ho, h1, h2, h3⟩ := h
  exact ⟨r, M', hq, ho, h1, h2, fun p e R s m args below meth c hF Q CF SF hC hS hret H locs cells slots la hR hL hB e1 e2 => h3 p e R s m args below meth c hF Q CF SF hC hS hret H locs cells slots la hR ⟨hL.1, hL.2.1, fun i v hi => hL.2.2 i v (zx_sub_get ls' ls i v hs hi)⟩ hB e1 e2⟩
theorem zx_To.mono {l : Launch} {E : zx_E} {d k pc : Nat} {ls : List (Option Value)} {st : List Value} {M : zx_M} {Q Q' : Option Value → zx_M → Prop} (h : zx_To l E d k pc ls st M Q) (hq : ∀ r M', Q r M' → Q' r M') : zx_To l E d k pc ls st M Q' := by
  obtain ⟨r, M', h1, h2⟩ := h
  exact ⟨r, M', hq r M' h1, h2⟩
theorem zx_Ci.mono {l : Launch} {E : zx_E} {d b : Nat} {as : List Value} {M : zx_M} {Q Q' : Int32 → zx_M → Prop} (h : zx_Ci l E d b as M Q) (hq : ∀ v M', Q v M' → Q' v M') : zx_Ci l E d b as M Q' := zx_To.mono h (fun r M' ⟨v, e, g⟩ => ⟨v, e, hq v M' g⟩)
theorem zx_Cl.mono {l : Launch} {E : zx_E} {d b : Nat} {as : List Value} {M : zx_M} {Q Q' : Int64 → zx_M → Prop} (h : zx_Cl l E d b as M Q) (hq : ∀ v M', Q v M' → Q' v M') : zx_Cl l E d b as M Q' := zx_To.mono h (fun r M' ⟨v, e, g⟩ => ⟨v, e, hq v M' g⟩)
theorem zx_Cv.mono {l : Launch} {E : zx_E} {d b : Nat} {as : List Value} {M : zx_M} {Q Q' : zx_M → Prop} (h : zx_Cv l E d b as M Q) (hq : ∀ M', Q M' → Q' M') : zx_Cv l E d b as M Q' := zx_To.mono h (fun r M' ⟨e, g⟩ => ⟨e, hq M' g⟩)
end
section
theorem sg_161_0 {l : Launch} {E : zx_E} {d : Nat} {Q : Option Value → zx_M → Prop} {I : Nat → Nat → Int32} {L : Nat → Nat → Int64} {Y : zx_Y} (hY : zx_lay Y) (x0 : Int32)
    (h : zx_To l E d 161 6 [none, some (.int x0), some (.int (0 : Int32)), some (.int (0 : Int32))] [] (I, L, Y) Q) :
    zx_To l E d 161 0 [some (.int x0), none, none, none] [] (I, L, Y) Q :=
  zx_go zk_161 [6] 400 0 (zx_wk (ls' := [none, some (.int x0), some (.int (0 : Int32)), some (.int (0 : Int32))]) (And.intro rfl (And.intro rfl (And.intro rfl trivial))) (h))
theorem sg_161_6 {l : Launch} {E : zx_E} {d : Nat} {Q : Option Value → zx_M → Prop} {I : Nat → Nat → Int32} {L : Nat → Nat → Int64} {Y : zx_Y} (hY : zx_lay Y) (x1 : Int32) (x2 : Int32) (x3 : Int32)
    (h : (((8 : Int32) ≤ x3) → (Q (some (.int x2)) (I, L, Y))) ∧ ((¬ (8 : Int32) ≤ x3) → (((x1 ≤ (0 : Int32)) → (Q (some (.int x2)) (I, L, Y))) ∧ ((¬ x1 ≤ (0 : Int32)) → (zx_To l E d 161 6 [none, some (.int (x1 / (7 : Int32))), some (.int (x2 + (1 : Int32))), some (.int (x3 + (1 : Int32)))] [] (I, L, Y) Q))))) :
    zx_To l E d 161 6 [none, some (.int x1), some (.int x2), some (.int x3)] [] (I, L, Y) Q :=
  zx_go zk_161 [6] 400 6 (And.intro (fun c1 => ((h).1 c1)) (fun c1 => And.intro (fun c2 => ((((h).2 c1)).1 c2)) (fun c2 => And.intro (by decide) (((((h).2 c1)).2 c2)))))
end
