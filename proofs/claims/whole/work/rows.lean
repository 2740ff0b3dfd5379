section
-- ===== PART A: goes FIRST, ahead of the names: the tables' words, and 'selects' of the private methods out of them =====
/-- a private method of a class that the tables say can be made, by its rows of tables_1 -/
def lw_okq (q : MethodName × Nat) : Prop := (q.1.cls ≠ "java/lang/invoke/MethodHandle" ∧ q.1.cls ≠ "java/lang/invoke/VarHandle") ∧ Cond.instantiable q.1.cls q.2 ∈ tables_1 ∧ Cond.privateMethod q.1 ∈ tables_1 ∧ Cond.instanceMethod q.1 ∈ tables_1
theorem lw_p0 : lw_okq (⟨"NamesThatShrink$CrowdText", "readLine", "()Z"⟩, 5) := ⟨⟨by decide +kernel, by decide +kernel⟩, List.mem_of_getElem? (i := 141) (by decide +kernel), List.mem_of_getElem? (i := 494) (by decide +kernel), List.mem_of_getElem? (i := 495) (by decide +kernel)⟩
theorem lw_p1 : lw_okq (⟨"NamesThatShrink$Crowd", "log", "(II)V"⟩, 11) := ⟨⟨by decide +kernel, by decide +kernel⟩, List.mem_of_getElem? (i := 79) (by decide +kernel), List.mem_of_getElem? (i := 566) (by decide +kernel), List.mem_of_getElem? (i := 567) (by decide +kernel)⟩
theorem lw_p2 : lw_okq (⟨"NamesThatShrink$Order", "readSteps", "(I)Z"⟩, 12) := ⟨⟨by decide +kernel, by decide +kernel⟩, List.mem_of_getElem? (i := 163) (by decide +kernel), List.mem_of_getElem? (i := 610) (by decide +kernel), List.mem_of_getElem? (i := 611) (by decide +kernel)⟩
theorem lw_p3 : lw_okq (⟨"NamesThatShrink$Order", "readStep", "(I)Z"⟩, 12) := ⟨⟨by decide +kernel, by decide +kernel⟩, List.mem_of_getElem? (i := 163) (by decide +kernel), List.mem_of_getElem? (i := 614) (by decide +kernel), List.mem_of_getElem? (i := 615) (by decide +kernel)⟩
theorem lw_p4 : lw_okq (⟨"NamesThatShrink$Order", "readBlock", "(III)Z"⟩, 12) := ⟨⟨by decide +kernel, by decide +kernel⟩, List.mem_of_getElem? (i := 163) (by decide +kernel), List.mem_of_getElem? (i := 619) (by decide +kernel), List.mem_of_getElem? (i := 620) (by decide +kernel)⟩
theorem lw_p5 : lw_okq (⟨"NamesThatShrink$Order", "put", "(II)Z"⟩, 12) := ⟨⟨by decide +kernel, by decide +kernel⟩, List.mem_of_getElem? (i := 163) (by decide +kernel), List.mem_of_getElem? (i := 624) (by decide +kernel), List.mem_of_getElem? (i := 625) (by decide +kernel)⟩
theorem lw_p6 : lw_okq (⟨"NamesThatShrink$Order", "doSteps", "(III)V"⟩, 12) := ⟨⟨by decide +kernel, by decide +kernel⟩, List.mem_of_getElem? (i := 163) (by decide +kernel), List.mem_of_getElem? (i := 634) (by decide +kernel), List.mem_of_getElem? (i := 635) (by decide +kernel)⟩
theorem lw_p7 : lw_okq (⟨"NamesThatShrink$Order", "doStep", "(II)V"⟩, 12) := ⟨⟨by decide +kernel, by decide +kernel⟩, List.mem_of_getElem? (i := 163) (by decide +kernel), List.mem_of_getElem? (i := 639) (by decide +kernel), List.mem_of_getElem? (i := 640) (by decide +kernel)⟩
theorem lw_p8 : lw_okq (⟨"NamesThatShrink$Order", "callOne", "(I)V"⟩, 12) := ⟨⟨by decide +kernel, by decide +kernel⟩, List.mem_of_getElem? (i := 163) (by decide +kernel), List.mem_of_getElem? (i := 643) (by decide +kernel), List.mem_of_getElem? (i := 644) (by decide +kernel)⟩
theorem lw_p9 : lw_okq (⟨"NamesThatShrink$Order", "callAll", "(I)V"⟩, 12) := ⟨⟨by decide +kernel, by decide +kernel⟩, List.mem_of_getElem? (i := 163) (by decide +kernel), List.mem_of_getElem? (i := 649) (by decide +kernel), List.mem_of_getElem? (i := 650) (by decide +kernel)⟩
theorem lw_p10 : lw_okq (⟨"NamesThatShrink$Order", "list", "(I)I"⟩, 12) := ⟨⟨by decide +kernel, by decide +kernel⟩, List.mem_of_getElem? (i := 163) (by decide +kernel), List.mem_of_getElem? (i := 653) (by decide +kernel), List.mem_of_getElem? (i := 654) (by decide +kernel)⟩
theorem lw_p11 : lw_okq (⟨"NamesThatShrink$Order", "insert", "(II)I"⟩, 12) := ⟨⟨by decide +kernel, by decide +kernel⟩, List.mem_of_getElem? (i := 163) (by decide +kernel), List.mem_of_getElem? (i := 658) (by decide +kernel), List.mem_of_getElem? (i := 659) (by decide +kernel)⟩
theorem lw_p12 : lw_okq (⟨"NamesThatShrink$Order", "repeat", "(II)V"⟩, 12) := ⟨⟨by decide +kernel, by decide +kernel⟩, List.mem_of_getElem? (i := 163) (by decide +kernel), List.mem_of_getElem? (i := 662) (by decide +kernel), List.mem_of_getElem? (i := 663) (by decide +kernel)⟩
theorem lw_p13 : lw_okq (⟨"NamesThatShrink$Order", "until", "(II)V"⟩, 12) := ⟨⟨by decide +kernel, by decide +kernel⟩, List.mem_of_getElem? (i := 163) (by decide +kernel), List.mem_of_getElem? (i := 666) (by decide +kernel), List.mem_of_getElem? (i := 667) (by decide +kernel)⟩
theorem lw_p14 : lw_okq (⟨"NamesThatShrink", "areTwo", "(II)Z"⟩, 9) := ⟨⟨by decide +kernel, by decide +kernel⟩, List.mem_of_getElem? (i := 25) (by decide +kernel), List.mem_of_getElem? (i := 683) (by decide +kernel), List.mem_of_getElem? (i := 684) (by decide +kernel)⟩
theorem lw_p15 : lw_okq (⟨"NamesThatShrink$Search", "lineUp", "(LNamesThatShrink$Crowd;)V"⟩, 20) := ⟨⟨by decide +kernel, by decide +kernel⟩, List.mem_of_getElem? (i := 210) (by decide +kernel), List.mem_of_getElem? (i := 753) (by decide +kernel), List.mem_of_getElem? (i := 754) (by decide +kernel)⟩
def lw_privs_1 : List (MethodName × Nat) := [(⟨"NamesThatShrink$CrowdText", "readLine", "()Z"⟩, 5), (⟨"NamesThatShrink$Crowd", "log", "(II)V"⟩, 11), (⟨"NamesThatShrink$Order", "readSteps", "(I)Z"⟩, 12), (⟨"NamesThatShrink$Order", "readStep", "(I)Z"⟩, 12), (⟨"NamesThatShrink$Order", "readBlock", "(III)Z"⟩, 12), (⟨"NamesThatShrink$Order", "put", "(II)Z"⟩, 12), (⟨"NamesThatShrink$Order", "doSteps", "(III)V"⟩, 12), (⟨"NamesThatShrink$Order", "doStep", "(II)V"⟩, 12), (⟨"NamesThatShrink$Order", "callOne", "(I)V"⟩, 12), (⟨"NamesThatShrink$Order", "callAll", "(I)V"⟩, 12), (⟨"NamesThatShrink$Order", "list", "(I)I"⟩, 12), (⟨"NamesThatShrink$Order", "insert", "(II)I"⟩, 12), (⟨"NamesThatShrink$Order", "repeat", "(II)V"⟩, 12), (⟨"NamesThatShrink$Order", "until", "(II)V"⟩, 12), (⟨"NamesThatShrink", "areTwo", "(II)Z"⟩, 9), (⟨"NamesThatShrink$Search", "lineUp", "(LNamesThatShrink$Crowd;)V"⟩, 20)]
theorem lw_r1 : ∀ q ∈ lw_privs_1, lw_okq q := List.forall_mem_cons.mpr ⟨lw_p0, List.forall_mem_cons.mpr ⟨lw_p1, List.forall_mem_cons.mpr ⟨lw_p2, List.forall_mem_cons.mpr ⟨lw_p3, List.forall_mem_cons.mpr ⟨lw_p4, List.forall_mem_cons.mpr ⟨lw_p5, List.forall_mem_cons.mpr ⟨lw_p6, List.forall_mem_cons.mpr ⟨lw_p7, List.forall_mem_cons.mpr ⟨lw_p8, List.forall_mem_cons.mpr ⟨lw_p9, List.forall_mem_cons.mpr ⟨lw_p10, List.forall_mem_cons.mpr ⟨lw_p11, List.forall_mem_cons.mpr ⟨lw_p12, List.forall_mem_cons.mpr ⟨lw_p13, List.forall_mem_cons.mpr ⟨lw_p14, List.forall_mem_cons.mpr ⟨lw_p15, fun _ h => absurd h List.not_mem_nil⟩⟩⟩⟩⟩⟩⟩⟩⟩⟩⟩⟩⟩⟩⟩⟩
theorem lw_p16 : lw_okq (⟨"NamesThatShrink$Search", "isKnown", "(LNamesThatShrink$Crowd;)Z"⟩, 20) := ⟨⟨by decide +kernel, by decide +kernel⟩, List.mem_of_getElem? (i := 210) (by decide +kernel), List.mem_of_getElem? (i := 757) (by decide +kernel), List.mem_of_getElem? (i := 758) (by decide +kernel)⟩
theorem lw_p17 : lw_okq (⟨"NamesThatShrink$Lineup", "insert", "(II)V"⟩, 10) := ⟨⟨by decide +kernel, by decide +kernel⟩, List.mem_of_getElem? (i := 216) (by decide +kernel), List.mem_of_getElem? (i := 768) (by decide +kernel), List.mem_of_getElem? (i := 769) (by decide +kernel)⟩
theorem lw_p18 : lw_okq (⟨"NamesThatShrink$Lineup", "spell", "(I)V"⟩, 10) := ⟨⟨by decide +kernel, by decide +kernel⟩, List.mem_of_getElem? (i := 216) (by decide +kernel), List.mem_of_getElem? (i := 776) (by decide +kernel), List.mem_of_getElem? (i := 777) (by decide +kernel)⟩
theorem lw_p19 : lw_okq (⟨"NamesThatShrink$Lineup", "findSharing", "(I)V"⟩, 10) := ⟨⟨by decide +kernel, by decide +kernel⟩, List.mem_of_getElem? (i := 216) (by decide +kernel), List.mem_of_getElem? (i := 784) (by decide +kernel), List.mem_of_getElem? (i := 785) (by decide +kernel)⟩
theorem lw_p20 : lw_okq (⟨"NamesThatShrink$Lineup", "findGroups", "()V"⟩, 10) := ⟨⟨by decide +kernel, by decide +kernel⟩, List.mem_of_getElem? (i := 216) (by decide +kernel), List.mem_of_getElem? (i := 788) (by decide +kernel), List.mem_of_getElem? (i := 789) (by decide +kernel)⟩
theorem lw_p21 : lw_okq (⟨"NamesThatShrink$Lineup", "namesakes", "(I)I"⟩, 10) := ⟨⟨by decide +kernel, by decide +kernel⟩, List.mem_of_getElem? (i := 216) (by decide +kernel), List.mem_of_getElem? (i := 796) (by decide +kernel), List.mem_of_getElem? (i := 797) (by decide +kernel)⟩
theorem lw_p22 : lw_okq (⟨"NamesThatShrink$Lineup", "sumFromAbove", "(I)V"⟩, 10) := ⟨⟨by decide +kernel, by decide +kernel⟩, List.mem_of_getElem? (i := 216) (by decide +kernel), List.mem_of_getElem? (i := 800) (by decide +kernel), List.mem_of_getElem? (i := 801) (by decide +kernel)⟩
theorem lw_p23 : lw_okq (⟨"NamesThatShrink$Lineup", "placeAhead", "(I)I"⟩, 10) := ⟨⟨by decide +kernel, by decide +kernel⟩, List.mem_of_getElem? (i := 216) (by decide +kernel), List.mem_of_getElem? (i := 808) (by decide +kernel), List.mem_of_getElem? (i := 809) (by decide +kernel)⟩
theorem lw_p24 : lw_okq (⟨"NamesThatShrink", "tellsOfNobody", "(J)Z"⟩, 9) := ⟨⟨by decide +kernel, by decide +kernel⟩, List.mem_of_getElem? (i := 25) (by decide +kernel), List.mem_of_getElem? (i := 819) (by decide +kernel), List.mem_of_getElem? (i := 820) (by decide +kernel)⟩
theorem lw_p25 : lw_okq (⟨"NamesThatShrink$Search", "spreadAll", "(I)I"⟩, 20) := ⟨⟨by decide +kernel, by decide +kernel⟩, List.mem_of_getElem? (i := 210) (by decide +kernel), List.mem_of_getElem? (i := 827) (by decide +kernel), List.mem_of_getElem? (i := 828) (by decide +kernel)⟩
theorem lw_p26 : lw_okq (⟨"NamesThatShrink$Search", "makeRoom", "(I)V"⟩, 20) := ⟨⟨by decide +kernel, by decide +kernel⟩, List.mem_of_getElem? (i := 210) (by decide +kernel), List.mem_of_getElem? (i := 831) (by decide +kernel), List.mem_of_getElem? (i := 832) (by decide +kernel)⟩
theorem lw_p27 : lw_okq (⟨"NamesThatShrink$Search", "spread", "(I)V"⟩, 20) := ⟨⟨by decide +kernel, by decide +kernel⟩, List.mem_of_getElem? (i := 210) (by decide +kernel), List.mem_of_getElem? (i := 837) (by decide +kernel), List.mem_of_getElem? (i := 838) (by decide +kernel)⟩
theorem lw_p28 : lw_okq (⟨"NamesThatShrink$Search", "startOf", "(I)J"⟩, 20) := ⟨⟨by decide +kernel, by decide +kernel⟩, List.mem_of_getElem? (i := 210) (by decide +kernel), List.mem_of_getElem? (i := 841) (by decide +kernel), List.mem_of_getElem? (i := 842) (by decide +kernel)⟩
theorem lw_p29 : lw_okq (⟨"NamesThatShrink$Search", "add", "(JII)V"⟩, 20) := ⟨⟨by decide +kernel, by decide +kernel⟩, List.mem_of_getElem? (i := 210) (by decide +kernel), List.mem_of_getElem? (i := 848) (by decide +kernel), List.mem_of_getElem? (i := 849) (by decide +kernel)⟩
theorem lw_p30 : lw_okq (⟨"NamesThatShrink$Search", "slotOf", "(J)I"⟩, 20) := ⟨⟨by decide +kernel, by decide +kernel⟩, List.mem_of_getElem? (i := 210) (by decide +kernel), List.mem_of_getElem? (i := 852) (by decide +kernel), List.mem_of_getElem? (i := 853) (by decide +kernel)⟩
theorem lw_p31 : lw_okq (⟨"NamesThatShrink$Search", "isTaken", "(I)Z"⟩, 20) := ⟨⟨by decide +kernel, by decide +kernel⟩, List.mem_of_getElem? (i := 210) (by decide +kernel), List.mem_of_getElem? (i := 857) (by decide +kernel), List.mem_of_getElem? (i := 858) (by decide +kernel)⟩
def lw_privs_2 : List (MethodName × Nat) := [(⟨"NamesThatShrink$Search", "isKnown", "(LNamesThatShrink$Crowd;)Z"⟩, 20), (⟨"NamesThatShrink$Lineup", "insert", "(II)V"⟩, 10), (⟨"NamesThatShrink$Lineup", "spell", "(I)V"⟩, 10), (⟨"NamesThatShrink$Lineup", "findSharing", "(I)V"⟩, 10), (⟨"NamesThatShrink$Lineup", "findGroups", "()V"⟩, 10), (⟨"NamesThatShrink$Lineup", "namesakes", "(I)I"⟩, 10), (⟨"NamesThatShrink$Lineup", "sumFromAbove", "(I)V"⟩, 10), (⟨"NamesThatShrink$Lineup", "placeAhead", "(I)I"⟩, 10), (⟨"NamesThatShrink", "tellsOfNobody", "(J)Z"⟩, 9), (⟨"NamesThatShrink$Search", "spreadAll", "(I)I"⟩, 20), (⟨"NamesThatShrink$Search", "makeRoom", "(I)V"⟩, 20), (⟨"NamesThatShrink$Search", "spread", "(I)V"⟩, 20), (⟨"NamesThatShrink$Search", "startOf", "(I)J"⟩, 20), (⟨"NamesThatShrink$Search", "add", "(JII)V"⟩, 20), (⟨"NamesThatShrink$Search", "slotOf", "(J)I"⟩, 20), (⟨"NamesThatShrink$Search", "isTaken", "(I)Z"⟩, 20)]
theorem lw_r2 : ∀ q ∈ lw_privs_2, lw_okq q := List.forall_mem_cons.mpr ⟨lw_p16, List.forall_mem_cons.mpr ⟨lw_p17, List.forall_mem_cons.mpr ⟨lw_p18, List.forall_mem_cons.mpr ⟨lw_p19, List.forall_mem_cons.mpr ⟨lw_p20, List.forall_mem_cons.mpr ⟨lw_p21, List.forall_mem_cons.mpr ⟨lw_p22, List.forall_mem_cons.mpr ⟨lw_p23, List.forall_mem_cons.mpr ⟨lw_p24, List.forall_mem_cons.mpr ⟨lw_p25, List.forall_mem_cons.mpr ⟨lw_p26, List.forall_mem_cons.mpr ⟨lw_p27, List.forall_mem_cons.mpr ⟨lw_p28, List.forall_mem_cons.mpr ⟨lw_p29, List.forall_mem_cons.mpr ⟨lw_p30, List.forall_mem_cons.mpr ⟨lw_p31, fun _ h => absurd h List.not_mem_nil⟩⟩⟩⟩⟩⟩⟩⟩⟩⟩⟩⟩⟩⟩⟩⟩
theorem lw_p32 : lw_okq (⟨"NamesThatShrink$Search", "expand", "(I)V"⟩, 20) := ⟨⟨by decide +kernel, by decide +kernel⟩, List.mem_of_getElem? (i := 210) (by decide +kernel), List.mem_of_getElem? (i := 861) (by decide +kernel), List.mem_of_getElem? (i := 862) (by decide +kernel)⟩
theorem lw_p33 : lw_okq (⟨"NamesThatShrink$Search", "bestOf", "(IZ)I"⟩, 20) := ⟨⟨by decide +kernel, by decide +kernel⟩, List.mem_of_getElem? (i := 210) (by decide +kernel), List.mem_of_getElem? (i := 898) (by decide +kernel), List.mem_of_getElem? (i := 899) (by decide +kernel)⟩
theorem lw_p34 : lw_okq (⟨"NamesThatShrink$Search", "isWanted", "(JJ)Z"⟩, 20) := ⟨⟨by decide +kernel, by decide +kernel⟩, List.mem_of_getElem? (i := 210) (by decide +kernel), List.mem_of_getElem? (i := 902) (by decide +kernel), List.mem_of_getElem? (i := 903) (by decide +kernel)⟩
theorem lw_p35 : lw_okq (⟨"NamesThatShrink$Search", "trace", "(II)V"⟩, 20) := ⟨⟨by decide +kernel, by decide +kernel⟩, List.mem_of_getElem? (i := 210) (by decide +kernel), List.mem_of_getElem? (i := 906) (by decide +kernel), List.mem_of_getElem? (i := 907) (by decide +kernel)⟩
theorem lw_p36 : lw_okq (⟨"NamesThatShrink$Search", "nextCall", "()I"⟩, 20) := ⟨⟨by decide +kernel, by decide +kernel⟩, List.mem_of_getElem? (i := 210) (by decide +kernel), List.mem_of_getElem? (i := 914) (by decide +kernel), List.mem_of_getElem? (i := 915) (by decide +kernel)⟩
theorem lw_p37 : lw_okq (⟨"NamesThatShrink$NewNames", "choose", "(I[I)V"⟩, 10) := ⟨⟨by decide +kernel, by decide +kernel⟩, List.mem_of_getElem? (i := 330) (by decide +kernel), List.mem_of_getElem? (i := 981) (by decide +kernel), List.mem_of_getElem? (i := 982) (by decide +kernel)⟩
theorem lw_p38 : lw_okq (⟨"NamesThatShrink$NewNames", "limitAt", "(I)I"⟩, 10) := ⟨⟨by decide +kernel, by decide +kernel⟩, List.mem_of_getElem? (i := 330) (by decide +kernel), List.mem_of_getElem? (i := 994) (by decide +kernel), List.mem_of_getElem? (i := 995) (by decide +kernel)⟩
theorem lw_p39 : lw_okq (⟨"NamesThatShrink$NewNames", "addLetter", "(LNamesThatShrink$Picks;LNamesThatShrink$Picks;II)V"⟩, 10) := ⟨⟨by decide +kernel, by decide +kernel⟩, List.mem_of_getElem? (i := 330) (by decide +kernel), List.mem_of_getElem? (i := 998) (by decide +kernel), List.mem_of_getElem? (i := 999) (by decide +kernel)⟩
theorem lw_p40 : lw_okq (⟨"NamesThatShrink$NewNames", "pick", "(II)V"⟩, 10) := ⟨⟨by decide +kernel, by decide +kernel⟩, List.mem_of_getElem? (i := 330) (by decide +kernel), List.mem_of_getElem? (i := 1009) (by decide +kernel), List.mem_of_getElem? (i := 1010) (by decide +kernel)⟩
theorem lw_p41 : lw_okq (⟨"NamesThatShrink$NewNames", "isBarred", "(I)Z"⟩, 10) := ⟨⟨by decide +kernel, by decide +kernel⟩, List.mem_of_getElem? (i := 330) (by decide +kernel), List.mem_of_getElem? (i := 1013) (by decide +kernel), List.mem_of_getElem? (i := 1014) (by decide +kernel)⟩
theorem lw_p42 : lw_okq (⟨"NamesThatShrink$NewNames", "leadsToBarred", "(I)Z"⟩, 10) := ⟨⟨by decide +kernel, by decide +kernel⟩, List.mem_of_getElem? (i := 330) (by decide +kernel), List.mem_of_getElem? (i := 1017) (by decide +kernel), List.mem_of_getElem? (i := 1018) (by decide +kernel)⟩
theorem lw_p43 : lw_okq (⟨"NamesThatShrink$NewNames", "countSafe", "(II)I"⟩, 10) := ⟨⟨by decide +kernel, by decide +kernel⟩, List.mem_of_getElem? (i := 330) (by decide +kernel), List.mem_of_getElem? (i := 1041) (by decide +kernel), List.mem_of_getElem? (i := 1042) (by decide +kernel)⟩
theorem lw_p44 : lw_okq (⟨"NamesThatShrink$Listener", "firstAnswered", "()I"⟩, 4) := ⟨⟨by decide +kernel, by decide +kernel⟩, List.mem_of_getElem? (i := 389) (by decide +kernel), List.mem_of_getElem? (i := 1069) (by decide +kernel), List.mem_of_getElem? (i := 1070) (by decide +kernel)⟩
theorem lw_p45 : lw_okq (⟨"NamesThatShrink$Listener", "isWithin", "(I)Z"⟩, 4) := ⟨⟨by decide +kernel, by decide +kernel⟩, List.mem_of_getElem? (i := 389) (by decide +kernel), List.mem_of_getElem? (i := 1073) (by decide +kernel), List.mem_of_getElem? (i := 1074) (by decide +kernel)⟩
theorem lw_p46 : lw_okq (⟨"NamesThatShrink$Listener", "firstHeard", "(I)I"⟩, 4) := ⟨⟨by decide +kernel, by decide +kernel⟩, List.mem_of_getElem? (i := 389) (by decide +kernel), List.mem_of_getElem? (i := 1082) (by decide +kernel), List.mem_of_getElem? (i := 1083) (by decide +kernel)⟩
theorem lw_p47 : lw_okq (⟨"NamesThatShrink$Listener", "following", "(I)I"⟩, 4) := ⟨⟨by decide +kernel, by decide +kernel⟩, List.mem_of_getElem? (i := 389) (by decide +kernel), List.mem_of_getElem? (i := 1090) (by decide +kernel), List.mem_of_getElem? (i := 1091) (by decide +kernel)⟩
def lw_privs_3 : List (MethodName × Nat) := [(⟨"NamesThatShrink$Search", "expand", "(I)V"⟩, 20), (⟨"NamesThatShrink$Search", "bestOf", "(IZ)I"⟩, 20), (⟨"NamesThatShrink$Search", "isWanted", "(JJ)Z"⟩, 20), (⟨"NamesThatShrink$Search", "trace", "(II)V"⟩, 20), (⟨"NamesThatShrink$Search", "nextCall", "()I"⟩, 20), (⟨"NamesThatShrink$NewNames", "choose", "(I[I)V"⟩, 10), (⟨"NamesThatShrink$NewNames", "limitAt", "(I)I"⟩, 10), (⟨"NamesThatShrink$NewNames", "addLetter", "(LNamesThatShrink$Picks;LNamesThatShrink$Picks;II)V"⟩, 10), (⟨"NamesThatShrink$NewNames", "pick", "(II)V"⟩, 10), (⟨"NamesThatShrink$NewNames", "isBarred", "(I)Z"⟩, 10), (⟨"NamesThatShrink$NewNames", "leadsToBarred", "(I)Z"⟩, 10), (⟨"NamesThatShrink$NewNames", "countSafe", "(II)I"⟩, 10), (⟨"NamesThatShrink$Listener", "firstAnswered", "()I"⟩, 4), (⟨"NamesThatShrink$Listener", "isWithin", "(I)Z"⟩, 4), (⟨"NamesThatShrink$Listener", "firstHeard", "(I)I"⟩, 4), (⟨"NamesThatShrink$Listener", "following", "(I)I"⟩, 4)]
theorem lw_r3 : ∀ q ∈ lw_privs_3, lw_okq q := List.forall_mem_cons.mpr ⟨lw_p32, List.forall_mem_cons.mpr ⟨lw_p33, List.forall_mem_cons.mpr ⟨lw_p34, List.forall_mem_cons.mpr ⟨lw_p35, List.forall_mem_cons.mpr ⟨lw_p36, List.forall_mem_cons.mpr ⟨lw_p37, List.forall_mem_cons.mpr ⟨lw_p38, List.forall_mem_cons.mpr ⟨lw_p39, List.forall_mem_cons.mpr ⟨lw_p40, List.forall_mem_cons.mpr ⟨lw_p41, List.forall_mem_cons.mpr ⟨lw_p42, List.forall_mem_cons.mpr ⟨lw_p43, List.forall_mem_cons.mpr ⟨lw_p44, List.forall_mem_cons.mpr ⟨lw_p45, List.forall_mem_cons.mpr ⟨lw_p46, List.forall_mem_cons.mpr ⟨lw_p47, fun _ h => absurd h List.not_mem_nil⟩⟩⟩⟩⟩⟩⟩⟩⟩⟩⟩⟩⟩⟩⟩⟩
theorem lw_p48 : lw_okq (⟨"java/lang/Throwable", "fillInStackTrace", "(I)Ljava/lang/Throwable;"⟩, 6) := ⟨⟨by decide +kernel, by decide +kernel⟩, List.mem_of_getElem? (i := 1182) (by decide +kernel), List.mem_of_getElem? (i := 1180) (by decide +kernel), List.mem_of_getElem? (i := 1181) (by decide +kernel)⟩
theorem lw_p49 : lw_okq (⟨"NamesThatShrinkModel", "begins", "(I)I"⟩, 49) := ⟨⟨by decide +kernel, by decide +kernel⟩, List.mem_of_getElem? (i := 1235) (by decide +kernel), List.mem_of_getElem? (i := 1233) (by decide +kernel), List.mem_of_getElem? (i := 1234) (by decide +kernel)⟩
theorem lw_p50 : lw_okq (⟨"NamesThatShrinkModel", "readsLine", "()Z"⟩, 49) := ⟨⟨by decide +kernel, by decide +kernel⟩, List.mem_of_getElem? (i := 1235) (by decide +kernel), List.mem_of_getElem? (i := 1239) (by decide +kernel), List.mem_of_getElem? (i := 1240) (by decide +kernel)⟩
theorem lw_p51 : lw_okq (⟨"NamesThatShrinkModel", "letters", "()I"⟩, 49) := ⟨⟨by decide +kernel, by decide +kernel⟩, List.mem_of_getElem? (i := 1235) (by decide +kernel), List.mem_of_getElem? (i := 1243) (by decide +kernel), List.mem_of_getElem? (i := 1244) (by decide +kernel)⟩
theorem lw_p52 : lw_okq (⟨"NamesThatShrinkModel", "isLetter", "()Z"⟩, 49) := ⟨⟨by decide +kernel, by decide +kernel⟩, List.mem_of_getElem? (i := 1235) (by decide +kernel), List.mem_of_getElem? (i := 1247) (by decide +kernel), List.mem_of_getElem? (i := 1248) (by decide +kernel)⟩
theorem lw_p53 : lw_okq (⟨"NamesThatShrinkModel", "takes", "(I)Z"⟩, 49) := ⟨⟨by decide +kernel, by decide +kernel⟩, List.mem_of_getElem? (i := 1235) (by decide +kernel), List.mem_of_getElem? (i := 1253) (by decide +kernel), List.mem_of_getElem? (i := 1254) (by decide +kernel)⟩
theorem lw_p54 : lw_okq (⟨"NamesThatShrinkModel", "isDigit", "()Z"⟩, 49) := ⟨⟨by decide +kernel, by decide +kernel⟩, List.mem_of_getElem? (i := 1235) (by decide +kernel), List.mem_of_getElem? (i := 1260) (by decide +kernel), List.mem_of_getElem? (i := 1261) (by decide +kernel)⟩
theorem lw_p55 : lw_okq (⟨"NamesThatShrinkModel", "faultOf", "(IIZ)I"⟩, 49) := ⟨⟨by decide +kernel, by decide +kernel⟩, List.mem_of_getElem? (i := 1235) (by decide +kernel), List.mem_of_getElem? (i := 1266) (by decide +kernel), List.mem_of_getElem? (i := 1267) (by decide +kernel)⟩
theorem lw_p56 : lw_okq (⟨"NamesThatShrinkModel", "isPerson", "(I)Z"⟩, 49) := ⟨⟨by decide +kernel, by decide +kernel⟩, List.mem_of_getElem? (i := 1235) (by decide +kernel), List.mem_of_getElem? (i := 1285) (by decide +kernel), List.mem_of_getElem? (i := 1286) (by decide +kernel)⟩
theorem lw_p57 : lw_okq (⟨"NamesThatShrinkModel", "refuse", "()I"⟩, 49) := ⟨⟨by decide +kernel, by decide +kernel⟩, List.mem_of_getElem? (i := 1235) (by decide +kernel), List.mem_of_getElem? (i := 1289) (by decide +kernel), List.mem_of_getElem? (i := 1290) (by decide +kernel)⟩
theorem lw_p58 : lw_okq (⟨"NamesThatShrinkModel", "calls", "(I)I"⟩, 49) := ⟨⟨by decide +kernel, by decide +kernel⟩, List.mem_of_getElem? (i := 1235) (by decide +kernel), List.mem_of_getElem? (i := 1307) (by decide +kernel), List.mem_of_getElem? (i := 1308) (by decide +kernel)⟩
theorem lw_p59 : lw_okq (⟨"NamesThatShrinkModel", "whoHave", "(I)I"⟩, 49) := ⟨⟨by decide +kernel, by decide +kernel⟩, List.mem_of_getElem? (i := 1235) (by decide +kernel), List.mem_of_getElem? (i := 1311) (by decide +kernel), List.mem_of_getElem? (i := 1312) (by decide +kernel)⟩
theorem lw_p60 : lw_okq (⟨"NamesThatShrinkModel", "turns", "(II)V"⟩, 49) := ⟨⟨by decide +kernel, by decide +kernel⟩, List.mem_of_getElem? (i := 1235) (by decide +kernel), List.mem_of_getElem? (i := 1316) (by decide +kernel), List.mem_of_getElem? (i := 1317) (by decide +kernel)⟩
theorem lw_p61 : lw_okq (⟨"NamesThatShrinkModel", "steps", "()Z"⟩, 49) := ⟨⟨by decide +kernel, by decide +kernel⟩, List.mem_of_getElem? (i := 1235) (by decide +kernel), List.mem_of_getElem? (i := 1345) (by decide +kernel), List.mem_of_getElem? (i := 1346) (by decide +kernel)⟩
theorem lw_p62 : lw_okq (⟨"NamesThatShrinkModel", "step", "()Z"⟩, 49) := ⟨⟨by decide +kernel, by decide +kernel⟩, List.mem_of_getElem? (i := 1235) (by decide +kernel), List.mem_of_getElem? (i := 1349) (by decide +kernel), List.mem_of_getElem? (i := 1350) (by decide +kernel)⟩
theorem lw_p63 : lw_okq (⟨"NamesThatShrinkModel", "group", "()Z"⟩, 49) := ⟨⟨by decide +kernel, by decide +kernel⟩, List.mem_of_getElem? (i := 1235) (by decide +kernel), List.mem_of_getElem? (i := 1353) (by decide +kernel), List.mem_of_getElem? (i := 1354) (by decide +kernel)⟩
def lw_privs_4 : List (MethodName × Nat) := [(⟨"java/lang/Throwable", "fillInStackTrace", "(I)Ljava/lang/Throwable;"⟩, 6), (⟨"NamesThatShrinkModel", "begins", "(I)I"⟩, 49), (⟨"NamesThatShrinkModel", "readsLine", "()Z"⟩, 49), (⟨"NamesThatShrinkModel", "letters", "()I"⟩, 49), (⟨"NamesThatShrinkModel", "isLetter", "()Z"⟩, 49), (⟨"NamesThatShrinkModel", "takes", "(I)Z"⟩, 49), (⟨"NamesThatShrinkModel", "isDigit", "()Z"⟩, 49), (⟨"NamesThatShrinkModel", "faultOf", "(IIZ)I"⟩, 49), (⟨"NamesThatShrinkModel", "isPerson", "(I)Z"⟩, 49), (⟨"NamesThatShrinkModel", "refuse", "()I"⟩, 49), (⟨"NamesThatShrinkModel", "calls", "(I)I"⟩, 49), (⟨"NamesThatShrinkModel", "whoHave", "(I)I"⟩, 49), (⟨"NamesThatShrinkModel", "turns", "(II)V"⟩, 49), (⟨"NamesThatShrinkModel", "steps", "()Z"⟩, 49), (⟨"NamesThatShrinkModel", "step", "()Z"⟩, 49), (⟨"NamesThatShrinkModel", "group", "()Z"⟩, 49)]
theorem lw_r4 : ∀ q ∈ lw_privs_4, lw_okq q := List.forall_mem_cons.mpr ⟨lw_p48, List.forall_mem_cons.mpr ⟨lw_p49, List.forall_mem_cons.mpr ⟨lw_p50, List.forall_mem_cons.mpr ⟨lw_p51, List.forall_mem_cons.mpr ⟨lw_p52, List.forall_mem_cons.mpr ⟨lw_p53, List.forall_mem_cons.mpr ⟨lw_p54, List.forall_mem_cons.mpr ⟨lw_p55, List.forall_mem_cons.mpr ⟨lw_p56, List.forall_mem_cons.mpr ⟨lw_p57, List.forall_mem_cons.mpr ⟨lw_p58, List.forall_mem_cons.mpr ⟨lw_p59, List.forall_mem_cons.mpr ⟨lw_p60, List.forall_mem_cons.mpr ⟨lw_p61, List.forall_mem_cons.mpr ⟨lw_p62, List.forall_mem_cons.mpr ⟨lw_p63, fun _ h => absurd h List.not_mem_nil⟩⟩⟩⟩⟩⟩⟩⟩⟩⟩⟩⟩⟩⟩⟩⟩
theorem lw_p64 : lw_okq (⟨"NamesThatShrinkModel", "doesAll", "()V"⟩, 49) := ⟨⟨by decide +kernel, by decide +kernel⟩, List.mem_of_getElem? (i := 1235) (by decide +kernel), List.mem_of_getElem? (i := 1357) (by decide +kernel), List.mem_of_getElem? (i := 1358) (by decide +kernel)⟩
theorem lw_p65 : lw_okq (⟨"NamesThatShrinkModel", "does", "()V"⟩, 49) := ⟨⟨by decide +kernel, by decide +kernel⟩, List.mem_of_getElem? (i := 1235) (by decide +kernel), List.mem_of_getElem? (i := 1361) (by decide +kernel), List.mem_of_getElem? (i := 1362) (by decide +kernel)⟩
theorem lw_p66 : lw_okq (⟨"NamesThatShrinkModel", "passes", "()V"⟩, 49) := ⟨⟨by decide +kernel, by decide +kernel⟩, List.mem_of_getElem? (i := 1235) (by decide +kernel), List.mem_of_getElem? (i := 1365) (by decide +kernel), List.mem_of_getElem? (i := 1366) (by decide +kernel)⟩
theorem lw_p67 : lw_okq (⟨"NamesThatShrinkModel", "madeAll", "(I)V"⟩, 49) := ⟨⟨by decide +kernel, by decide +kernel⟩, List.mem_of_getElem? (i := 1235) (by decide +kernel), List.mem_of_getElem? (i := 1369) (by decide +kernel), List.mem_of_getElem? (i := 1370) (by decide +kernel)⟩
theorem lw_p68 : lw_okq (⟨"NamesThatShrinkModel", "made", "(I)V"⟩, 49) := ⟨⟨by decide +kernel, by decide +kernel⟩, List.mem_of_getElem? (i := 1235) (by decide +kernel), List.mem_of_getElem? (i := 1374) (by decide +kernel), List.mem_of_getElem? (i := 1375) (by decide +kernel)⟩
theorem lw_p69 : lw_okq (⟨"NamesThatShrinkModel", "enters", "(I)V"⟩, 49) := ⟨⟨by decide +kernel, by decide +kernel⟩, List.mem_of_getElem? (i := 1235) (by decide +kernel), List.mem_of_getElem? (i := 1378) (by decide +kernel), List.mem_of_getElem? (i := 1379) (by decide +kernel)⟩
theorem lw_p70 : lw_okq (⟨"NamesThatShrinkModel", "priceOf", "(I)I"⟩, 49) := ⟨⟨by decide +kernel, by decide +kernel⟩, List.mem_of_getElem? (i := 1235) (by decide +kernel), List.mem_of_getElem? (i := 1390) (by decide +kernel), List.mem_of_getElem? (i := 1391) (by decide +kernel)⟩
theorem lw_p71 : lw_okq (⟨"NamesThatShrinkModel", "named", "()I"⟩, 49) := ⟨⟨by decide +kernel, by decide +kernel⟩, List.mem_of_getElem? (i := 1235) (by decide +kernel), List.mem_of_getElem? (i := 1399) (by decide +kernel), List.mem_of_getElem? (i := 1400) (by decide +kernel)⟩
theorem lw_p72 : lw_okq (⟨"NamesThatShrinkModel", "draws", "(I)I"⟩, 49) := ⟨⟨by decide +kernel, by decide +kernel⟩, List.mem_of_getElem? (i := 1235) (by decide +kernel), List.mem_of_getElem? (i := 1403) (by decide +kernel), List.mem_of_getElem? (i := 1404) (by decide +kernel)⟩
theorem lw_p73 : lw_okq (⟨"NamesThatShrinkModel", "areTwo", "(II)Z"⟩, 49) := ⟨⟨by decide +kernel, by decide +kernel⟩, List.mem_of_getElem? (i := 1235) (by decide +kernel), List.mem_of_getElem? (i := 1413) (by decide +kernel), List.mem_of_getElem? (i := 1414) (by decide +kernel)⟩
theorem lw_p74 : lw_okq (⟨"NamesThatShrinkModel", "explores", "(I)Z"⟩, 49) := ⟨⟨by decide +kernel, by decide +kernel⟩, List.mem_of_getElem? (i := 1235) (by decide +kernel), List.mem_of_getElem? (i := 1440) (by decide +kernel), List.mem_of_getElem? (i := 1441) (by decide +kernel)⟩
theorem lw_p75 : lw_okq (⟨"NamesThatShrinkModel", "stateNow", "()J"⟩, 49) := ⟨⟨by decide +kernel, by decide +kernel⟩, List.mem_of_getElem? (i := 1235) (by decide +kernel), List.mem_of_getElem? (i := 1445) (by decide +kernel), List.mem_of_getElem? (i := 1446) (by decide +kernel)⟩
theorem lw_p76 : lw_okq (⟨"NamesThatShrinkModel", "slotOf", "(J)I"⟩, 49) := ⟨⟨by decide +kernel, by decide +kernel⟩, List.mem_of_getElem? (i := 1235) (by decide +kernel), List.mem_of_getElem? (i := 1449) (by decide +kernel), List.mem_of_getElem? (i := 1450) (by decide +kernel)⟩
theorem lw_p77 : lw_okq (⟨"NamesThatShrinkModel", "answerTo", "(JI)I"⟩, 49) := ⟨⟨by decide +kernel, by decide +kernel⟩, List.mem_of_getElem? (i := 1235) (by decide +kernel), List.mem_of_getElem? (i := 1454) (by decide +kernel), List.mem_of_getElem? (i := 1455) (by decide +kernel)⟩
theorem lw_p78 : lw_okq (⟨"NamesThatShrinkModel", "nameIn", "(JI)I"⟩, 49) := ⟨⟨by decide +kernel, by decide +kernel⟩, List.mem_of_getElem? (i := 1235) (by decide +kernel), List.mem_of_getElem? (i := 1458) (by decide +kernel), List.mem_of_getElem? (i := 1459) (by decide +kernel)⟩
theorem lw_p79 : lw_okq (⟨"NamesThatShrinkModel", "canCall", "(JII)Z"⟩, 49) := ⟨⟨by decide +kernel, by decide +kernel⟩, List.mem_of_getElem? (i := 1235) (by decide +kernel), List.mem_of_getElem? (i := 1465) (by decide +kernel), List.mem_of_getElem? (i := 1466) (by decide +kernel)⟩
def lw_privs_5 : List (MethodName × Nat) := [(⟨"NamesThatShrinkModel", "doesAll", "()V"⟩, 49), (⟨"NamesThatShrinkModel", "does", "()V"⟩, 49), (⟨"NamesThatShrinkModel", "passes", "()V"⟩, 49), (⟨"NamesThatShrinkModel", "madeAll", "(I)V"⟩, 49), (⟨"NamesThatShrinkModel", "made", "(I)V"⟩, 49), (⟨"NamesThatShrinkModel", "enters", "(I)V"⟩, 49), (⟨"NamesThatShrinkModel", "priceOf", "(I)I"⟩, 49), (⟨"NamesThatShrinkModel", "named", "()I"⟩, 49), (⟨"NamesThatShrinkModel", "draws", "(I)I"⟩, 49), (⟨"NamesThatShrinkModel", "areTwo", "(II)Z"⟩, 49), (⟨"NamesThatShrinkModel", "explores", "(I)Z"⟩, 49), (⟨"NamesThatShrinkModel", "stateNow", "()J"⟩, 49), (⟨"NamesThatShrinkModel", "slotOf", "(J)I"⟩, 49), (⟨"NamesThatShrinkModel", "answerTo", "(JI)I"⟩, 49), (⟨"NamesThatShrinkModel", "nameIn", "(JI)I"⟩, 49), (⟨"NamesThatShrinkModel", "canCall", "(JII)Z"⟩, 49)]
theorem lw_r5 : ∀ q ∈ lw_privs_5, lw_okq q := List.forall_mem_cons.mpr ⟨lw_p64, List.forall_mem_cons.mpr ⟨lw_p65, List.forall_mem_cons.mpr ⟨lw_p66, List.forall_mem_cons.mpr ⟨lw_p67, List.forall_mem_cons.mpr ⟨lw_p68, List.forall_mem_cons.mpr ⟨lw_p69, List.forall_mem_cons.mpr ⟨lw_p70, List.forall_mem_cons.mpr ⟨lw_p71, List.forall_mem_cons.mpr ⟨lw_p72, List.forall_mem_cons.mpr ⟨lw_p73, List.forall_mem_cons.mpr ⟨lw_p74, List.forall_mem_cons.mpr ⟨lw_p75, List.forall_mem_cons.mpr ⟨lw_p76, List.forall_mem_cons.mpr ⟨lw_p77, List.forall_mem_cons.mpr ⟨lw_p78, List.forall_mem_cons.mpr ⟨lw_p79, fun _ h => absurd h List.not_mem_nil⟩⟩⟩⟩⟩⟩⟩⟩⟩⟩⟩⟩⟩⟩⟩⟩
theorem lw_p80 : lw_okq (⟨"NamesThatShrinkModel", "behind", "(JI)J"⟩, 49) := ⟨⟨by decide +kernel, by decide +kernel⟩, List.mem_of_getElem? (i := 1235) (by decide +kernel), List.mem_of_getElem? (i := 1469) (by decide +kernel), List.mem_of_getElem? (i := 1470) (by decide +kernel)⟩
theorem lw_p81 : lw_okq (⟨"NamesThatShrinkModel", "areDues", "(J)Z"⟩, 49) := ⟨⟨by decide +kernel, by decide +kernel⟩, List.mem_of_getElem? (i := 1235) (by decide +kernel), List.mem_of_getElem? (i := 1477) (by decide +kernel), List.mem_of_getElem? (i := 1478) (by decide +kernel)⟩
theorem lw_p82 : lw_okq (⟨"NamesThatShrinkModel", "marksDues", "(J)V"⟩, 49) := ⟨⟨by decide +kernel, by decide +kernel⟩, List.mem_of_getElem? (i := 1235) (by decide +kernel), List.mem_of_getElem? (i := 1481) (by decide +kernel), List.mem_of_getElem? (i := 1482) (by decide +kernel)⟩
theorem lw_p83 : lw_okq (⟨"NamesThatShrinkModel", "lostBy", "(II)I"⟩, 49) := ⟨⟨by decide +kernel, by decide +kernel⟩, List.mem_of_getElem? (i := 1235) (by decide +kernel), List.mem_of_getElem? (i := 1485) (by decide +kernel), List.mem_of_getElem? (i := 1486) (by decide +kernel)⟩
theorem lw_p84 : lw_okq (⟨"NamesThatShrinkModel", "bestGood", "()I"⟩, 49) := ⟨⟨by decide +kernel, by decide +kernel⟩, List.mem_of_getElem? (i := 1235) (by decide +kernel), List.mem_of_getElem? (i := 1492) (by decide +kernel), List.mem_of_getElem? (i := 1493) (by decide +kernel)⟩
theorem lw_p85 : lw_okq (⟨"NamesThatShrinkModel", "tellsWay", "(I)I"⟩, 49) := ⟨⟨by decide +kernel, by decide +kernel⟩, List.mem_of_getElem? (i := 1235) (by decide +kernel), List.mem_of_getElem? (i := 1496) (by decide +kernel), List.mem_of_getElem? (i := 1497) (by decide +kernel)⟩
theorem lw_p86 : lw_okq (⟨"NamesThatShrinkModel", "isNextGood", "(II)Z"⟩, 49) := ⟨⟨by decide +kernel, by decide +kernel⟩, List.mem_of_getElem? (i := 1235) (by decide +kernel), List.mem_of_getElem? (i := 1500) (by decide +kernel), List.mem_of_getElem? (i := 1501) (by decide +kernel)⟩
theorem lw_p87 : lw_okq (⟨"NamesThatShrinkModel", "areUnlike", "(J)Z"⟩, 49) := ⟨⟨by decide +kernel, by decide +kernel⟩, List.mem_of_getElem? (i := 1235) (by decide +kernel), List.mem_of_getElem? (i := 1520) (by decide +kernel), List.mem_of_getElem? (i := 1521) (by decide +kernel)⟩
theorem lw_p88 : lw_okq (⟨"NamesThatShrinkModel", "isSafe", "(II)Z"⟩, 49) := ⟨⟨by decide +kernel, by decide +kernel⟩, List.mem_of_getElem? (i := 1235) (by decide +kernel), List.mem_of_getElem? (i := 1539) (by decide +kernel), List.mem_of_getElem? (i := 1540) (by decide +kernel)⟩
theorem lw_p89 : lw_okq (⟨"NamesThatShrinkModel", "isNew", "(III)Z"⟩, 49) := ⟨⟨by decide +kernel, by decide +kernel⟩, List.mem_of_getElem? (i := 1235) (by decide +kernel), List.mem_of_getElem? (i := 1543) (by decide +kernel), List.mem_of_getElem? (i := 1544) (by decide +kernel)⟩
theorem lw_p90 : lw_okq (⟨"NamesThatShrinkModel", "listens", "()V"⟩, 49) := ⟨⟨by decide +kernel, by decide +kernel⟩, List.mem_of_getElem? (i := 1235) (by decide +kernel), List.mem_of_getElem? (i := 1555) (by decide +kernel), List.mem_of_getElem? (i := 1556) (by decide +kernel)⟩
theorem lw_p91 : lw_okq (⟨"NamesThatShrinkModel", "heardBy", "(I)I"⟩, 49) := ⟨⟨by decide +kernel, by decide +kernel⟩, List.mem_of_getElem? (i := 1235) (by decide +kernel), List.mem_of_getElem? (i := 1559) (by decide +kernel), List.mem_of_getElem? (i := 1560) (by decide +kernel)⟩
theorem lw_p92 : lw_okq (⟨"NamesThatShrinkModel", "runs", "()I"⟩, 49) := ⟨⟨by decide +kernel, by decide +kernel⟩, List.mem_of_getElem? (i := 1235) (by decide +kernel), List.mem_of_getElem? (i := 1571) (by decide +kernel), List.mem_of_getElem? (i := 1572) (by decide +kernel)⟩
theorem lw_p93 : lw_okq (⟨"NamesThatShrinkModel", "sorts", "(II)V"⟩, 49) := ⟨⟨by decide +kernel, by decide +kernel⟩, List.mem_of_getElem? (i := 1235) (by decide +kernel), List.mem_of_getElem? (i := 1575) (by decide +kernel), List.mem_of_getElem? (i := 1576) (by decide +kernel)⟩
theorem lw_p94 : lw_okq (⟨"NamesThatShrinkModel", "sides", "()I"⟩, 49) := ⟨⟨by decide +kernel, by decide +kernel⟩, List.mem_of_getElem? (i := 1235) (by decide +kernel), List.mem_of_getElem? (i := 1605) (by decide +kernel), List.mem_of_getElem? (i := 1606) (by decide +kernel)⟩
theorem lw_p95 : lw_okq (⟨"NamesThatShrinkModel", "answersOfAll", "()I"⟩, 49) := ⟨⟨by decide +kernel, by decide +kernel⟩, List.mem_of_getElem? (i := 1235) (by decide +kernel), List.mem_of_getElem? (i := 1609) (by decide +kernel), List.mem_of_getElem? (i := 1610) (by decide +kernel)⟩
def lw_privs_6 : List (MethodName × Nat) := [(⟨"NamesThatShrinkModel", "behind", "(JI)J"⟩, 49), (⟨"NamesThatShrinkModel", "areDues", "(J)Z"⟩, 49), (⟨"NamesThatShrinkModel", "marksDues", "(J)V"⟩, 49), (⟨"NamesThatShrinkModel", "lostBy", "(II)I"⟩, 49), (⟨"NamesThatShrinkModel", "bestGood", "()I"⟩, 49), (⟨"NamesThatShrinkModel", "tellsWay", "(I)I"⟩, 49), (⟨"NamesThatShrinkModel", "isNextGood", "(II)Z"⟩, 49), (⟨"NamesThatShrinkModel", "areUnlike", "(J)Z"⟩, 49), (⟨"NamesThatShrinkModel", "isSafe", "(II)Z"⟩, 49), (⟨"NamesThatShrinkModel", "isNew", "(III)Z"⟩, 49), (⟨"NamesThatShrinkModel", "listens", "()V"⟩, 49), (⟨"NamesThatShrinkModel", "heardBy", "(I)I"⟩, 49), (⟨"NamesThatShrinkModel", "runs", "()I"⟩, 49), (⟨"NamesThatShrinkModel", "sorts", "(II)V"⟩, 49), (⟨"NamesThatShrinkModel", "sides", "()I"⟩, 49), (⟨"NamesThatShrinkModel", "answersOfAll", "()I"⟩, 49)]
theorem lw_r6 : ∀ q ∈ lw_privs_6, lw_okq q := List.forall_mem_cons.mpr ⟨lw_p80, List.forall_mem_cons.mpr ⟨lw_p81, List.forall_mem_cons.mpr ⟨lw_p82, List.forall_mem_cons.mpr ⟨lw_p83, List.forall_mem_cons.mpr ⟨lw_p84, List.forall_mem_cons.mpr ⟨lw_p85, List.forall_mem_cons.mpr ⟨lw_p86, List.forall_mem_cons.mpr ⟨lw_p87, List.forall_mem_cons.mpr ⟨lw_p88, List.forall_mem_cons.mpr ⟨lw_p89, List.forall_mem_cons.mpr ⟨lw_p90, List.forall_mem_cons.mpr ⟨lw_p91, List.forall_mem_cons.mpr ⟨lw_p92, List.forall_mem_cons.mpr ⟨lw_p93, List.forall_mem_cons.mpr ⟨lw_p94, List.forall_mem_cons.mpr ⟨lw_p95, fun _ h => absurd h List.not_mem_nil⟩⟩⟩⟩⟩⟩⟩⟩⟩⟩⟩⟩⟩⟩⟩⟩
def lw_privs : List (MethodName × Nat) := lw_privs_1 ++ (lw_privs_2 ++ (lw_privs_3 ++ (lw_privs_4 ++ (lw_privs_5 ++ (lw_privs_6)))))
def lw_tbl : List Cond := k2_sels lw_privs ++ tables_1
theorem lw_privs_ok : ∀ q ∈ lw_privs, lw_okq q := by
  show ∀ q ∈ lw_privs_1 ++ (lw_privs_2 ++ (lw_privs_3 ++ (lw_privs_4 ++ (lw_privs_5 ++ (lw_privs_6))))), lw_okq q
  exact List.forall_mem_append.mpr ⟨lw_r1, List.forall_mem_append.mpr ⟨lw_r2, List.forall_mem_append.mpr ⟨lw_r3, List.forall_mem_append.mpr ⟨lw_r4, List.forall_mem_append.mpr ⟨lw_r5, lw_r6⟩⟩⟩⟩⟩
-- ===== end of PART A; then your names; then what follows =====
end
section
/-! ===== names: classes, fields, methods (printed by wip/gen/tables.py) ===== -/
def zx_cn : List String := ["NamesThatShrink$Crowd", "NamesThatShrink$CrowdText", "NamesThatShrink$Keeps", "NamesThatShrink$Lineup", "NamesThatShrink$Listener", "NamesThatShrink$NewNames", "NamesThatShrink$Order", "NamesThatShrink$Picks", "NamesThatShrink$Row", "NamesThatShrink$Search", "NamesThatShrink$Text", "NamesThatShrink", "NamesThatShrinkModel"]
def zx_fl : List (List (String × String × String × Bool)) := [
  [("NamesThatShrink$Crowd", "name", "[I", true), ("NamesThatShrink$Crowd", "often", "[I", true), ("NamesThatShrink$Crowd", "price", "[I", true), ("NamesThatShrink$Crowd", "loggedWho", "[I", true), ("NamesThatShrink$Crowd", "loggedLetter", "[I", true), ("NamesThatShrink$Crowd", "logged", "I", false), ("NamesThatShrink$Crowd", "nextLogged", "I", false), ("NamesThatShrink$Crowd", "people", "I", false), ("NamesThatShrink$Crowd", "sides", "I", false), ("NamesThatShrink$Crowd", "boat", "I", false), ("NamesThatShrink$Crowd", "random", "I", false)],
  [("NamesThatShrink$CrowdText", "text", "LNamesThatShrink$Text;", true), ("NamesThatShrink$CrowdText", "code", "[I", true), ("NamesThatShrink$CrowdText", "price", "[I", true), ("NamesThatShrink$CrowdText", "lines", "I", false), ("NamesThatShrink$CrowdText", "room", "I", false)],
  [("NamesThatShrink$Keeps", "name", "[[I", true), ("NamesThatShrink$Keeps", "often", "[[I", true), ("NamesThatShrink$Keeps", "sides", "[I", true), ("NamesThatShrink$Keeps", "random", "[I", true), ("NamesThatShrink$Keeps", "isKept", "[Z", true)],
  [("NamesThatShrink$Lineup", "person", "[I", true), ("NamesThatShrink$Lineup", "code", "[I", true), ("NamesThatShrink$Lineup", "letters", "[I", true), ("NamesThatShrink$Lineup", "beginning", "[[I", true), ("NamesThatShrink$Lineup", "sharing", "[[J", true), ("NamesThatShrink$Lineup", "ways", "[[I", true), ("NamesThatShrink$Lineup", "groupFrom", "[I", true), ("NamesThatShrink$Lineup", "size", "I", false), ("NamesThatShrink$Lineup", "groups", "I", false), ("NamesThatShrink$Lineup", "longest", "I", false)],
  [("NamesThatShrink$Listener", "code", "[I", true), ("NamesThatShrink$Listener", "answered", "[Z", true), ("NamesThatShrink$Listener", "size", "I", false), ("NamesThatShrink$Listener", "wide", "I", false)],
  [("NamesThatShrink$NewNames", "crowd", "LNamesThatShrink$Crowd;", true), ("NamesThatShrink$NewNames", "barred", "[I", true), ("NamesThatShrink$NewNames", "nothing", "[I", true), ("NamesThatShrink$NewNames", "anywhere", "[LNamesThatShrink$Picks;", true), ("NamesThatShrink$NewNames", "here", "[LNamesThatShrink$Picks;", true), ("NamesThatShrink$NewNames", "price", "[I", false), ("NamesThatShrink$NewNames", "bars", "I", false), ("NamesThatShrink$NewNames", "length", "I", false), ("NamesThatShrink$NewNames", "apart", "I", false), ("NamesThatShrink$NewNames", "wanted", "I", false)],
  [("NamesThatShrink$Order", "text", "LNamesThatShrink$Text;", true), ("NamesThatShrink$Order", "crowd", "LNamesThatShrink$Crowd;", true), ("NamesThatShrink$Order", "kind", "[I", true), ("NamesThatShrink$Order", "what", "[I", true), ("NamesThatShrink$Order", "behind", "[I", true), ("NamesThatShrink$Order", "listed", "[I", true), ("NamesThatShrink$Order", "size", "I", false), ("NamesThatShrink$Order", "calls", "I", false), ("NamesThatShrink$Order", "answered", "I", false), ("NamesThatShrink$Order", "answers", "I", false), ("NamesThatShrink$Order", "begun", "I", false), ("NamesThatShrink$Order", "ended", "Z", false)],
  [("NamesThatShrink$Picks", "cost", "[I", true), ("NamesThatShrink$Picks", "code", "[I", true), ("NamesThatShrink$Picks", "size", "I", false), ("NamesThatShrink$Picks", "limit", "I", false)],
  [("NamesThatShrink$Row", "number", "[I", true), ("NamesThatShrink$Row", "size", "I", false)],
  [("NamesThatShrink$Search", "lineup", "LNamesThatShrink$Lineup;", true), ("NamesThatShrink$Search", "knownName", "[I", true), ("NamesThatShrink$Search", "groupAt", "[I", true), ("NamesThatShrink$Search", "way", "[[I", true), ("NamesThatShrink$Search", "taken", "[I", true), ("NamesThatShrink$Search", "state", "[J", false), ("NamesThatShrink$Search", "parent", "[I", false), ("NamesThatShrink$Search", "calls", "[B", false), ("NamesThatShrink$Search", "lost", "[B", false), ("NamesThatShrink$Search", "slots", "[I", false), ("NamesThatShrink$Search", "slotBits", "I", false), ("NamesThatShrink$Search", "slotMark", "I", false), ("NamesThatShrink$Search", "found", "I", false), ("NamesThatShrink$Search", "boat", "I", false), ("NamesThatShrink$Search", "total", "I", false), ("NamesThatShrink$Search", "unlike", "I", false), ("NamesThatShrink$Search", "nameless", "I", false), ("NamesThatShrink$Search", "allowed", "J", false), ("NamesThatShrink$Search", "odd", "J", false), ("NamesThatShrink$Search", "oddMatters", "J", false)],
  [("NamesThatShrink$Text", "signs", "[I", true), ("NamesThatShrink$Text", "length", "I", false), ("NamesThatShrink$Text", "limit", "I", false), ("NamesThatShrink$Text", "at", "I", false), ("NamesThatShrink$Text", "code", "I", false), ("NamesThatShrink$Text", "letters", "I", false)],
  [("NamesThatShrink", "text", "LNamesThatShrink$Text;", true), ("NamesThatShrink", "told", "LNamesThatShrink$Row;", true), ("NamesThatShrink", "crowd", "LNamesThatShrink$Crowd;", true), ("NamesThatShrink", "crowdText", "LNamesThatShrink$CrowdText;", true), ("NamesThatShrink", "plan", "LNamesThatShrink$Order;", true), ("NamesThatShrink", "search", "LNamesThatShrink$Search;", true), ("NamesThatShrink", "fresh", "LNamesThatShrink$NewNames;", true), ("NamesThatShrink", "listener", "LNamesThatShrink$Listener;", true), ("NamesThatShrink", "keeps", "LNamesThatShrink$Keeps;", true)],
  [("NamesThatShrinkModel", "thrown", "I", false), ("NamesThatShrinkModel", "rows", "I", false), ("NamesThatShrinkModel", "row", "[I", true), ("NamesThatShrinkModel", "people", "I", false), ("NamesThatShrinkModel", "name", "[I", true), ("NamesThatShrinkModel", "often", "[I", true), ("NamesThatShrinkModel", "side", "[I", true), ("NamesThatShrinkModel", "price", "[I", true), ("NamesThatShrinkModel", "boat", "I", false), ("NamesThatShrinkModel", "random", "I", false), ("NamesThatShrinkModel", "undos", "I", false), ("NamesThatShrinkModel", "undoName", "[I", true), ("NamesThatShrinkModel", "undoWho", "[I", true), ("NamesThatShrinkModel", "tape", "[I", true), ("NamesThatShrinkModel", "taped", "I", false), ("NamesThatShrinkModel", "at", "I", false), ("NamesThatShrinkModel", "to", "I", false), ("NamesThatShrinkModel", "nest", "I", false), ("NamesThatShrinkModel", "readName", "[I", true), ("NamesThatShrinkModel", "readPrice", "[I", true), ("NamesThatShrinkModel", "readMany", "I", false), ("NamesThatShrinkModel", "callsMade", "I", false), ("NamesThatShrinkModel", "callsAnswered", "I", false), ("NamesThatShrinkModel", "answersAll", "I", false), ("NamesThatShrinkModel", "untils", "I", false), ("NamesThatShrinkModel", "isEnded", "Z", false), ("NamesThatShrinkModel", "listed", "[I", true), ("NamesThatShrinkModel", "nodes", "[I", true), ("NamesThatShrinkModel", "found", "[J", true), ("NamesThatShrinkModel", "depth", "[I", true), ("NamesThatShrinkModel", "lost", "[I", true), ("NamesThatShrinkModel", "slots", "[I", true), ("NamesThatShrinkModel", "good", "[Z", true), ("NamesThatShrinkModel", "foundMany", "I", false), ("NamesThatShrinkModel", "bears", "I", false), ("NamesThatShrinkModel", "taken", "[I", true), ("NamesThatShrinkModel", "wideNow", "I", false), ("NamesThatShrinkModel", "heards", "I", false), ("NamesThatShrinkModel", "heardName", "[I", true), ("NamesThatShrinkModel", "heardIs", "[Z", true), ("NamesThatShrinkModel", "fits", "[I", true), ("NamesThatShrinkModel", "cameTo", "[I", true), ("NamesThatShrinkModel", "sorted", "[I", true), ("NamesThatShrinkModel", "merged", "[I", true), ("NamesThatShrinkModel", "fitMany", "I", false), ("NamesThatShrinkModel", "runBest", "I", false), ("NamesThatShrinkModel", "runMany", "I", false), ("NamesThatShrinkModel", "isKept", "[Z", true), ("NamesThatShrinkModel", "kept", "[I", true)]]
def zx_tl : List (List FieldType) := [
  [.array .int, .array .int, .array .int, .array .int, .array .int, .int, .int, .int, .int, .int, .int],
  [.object "NamesThatShrink$Text", .array .int, .array .int, .int, .int],
  [.array (.array .int), .array (.array .int), .array .int, .array .int, .array .boolean],
  [.array .int, .array .int, .array .int, .array (.array .int), .array (.array .long), .array (.array .int), .array .int, .int, .int, .int],
  [.array .int, .array .boolean, .int, .int],
  [.object "NamesThatShrink$Crowd", .array .int, .array .int, .array (.object "NamesThatShrink$Picks"), .array (.object "NamesThatShrink$Picks"), .array .int, .int, .int, .int, .int],
  [.object "NamesThatShrink$Text", .object "NamesThatShrink$Crowd", .array .int, .array .int, .array .int, .array .int, .int, .int, .int, .int, .int, .boolean],
  [.array .int, .array .int, .int, .int],
  [.array .int, .int],
  [.object "NamesThatShrink$Lineup", .array .int, .array .int, .array (.array .int), .array .int, .array .long, .array .int, .array .byte, .array .byte, .array .int, .int, .int, .int, .int, .int, .int, .int, .long, .long, .long],
  [.array .int, .int, .int, .int, .int, .int],
  [.object "NamesThatShrink$Text", .object "NamesThatShrink$Row", .object "NamesThatShrink$Crowd", .object "NamesThatShrink$CrowdText", .object "NamesThatShrink$Order", .object "NamesThatShrink$Search", .object "NamesThatShrink$NewNames", .object "NamesThatShrink$Listener", .object "NamesThatShrink$Keeps"],
  [.int, .int, .array .int, .int, .array .int, .array .int, .array .int, .array .int, .int, .int, .int, .array .int, .array .int, .array .int, .int, .int, .int, .int, .array .int, .array .int, .int, .int, .int, .int, .int, .boolean, .array .int, .array .int, .array .long, .array .int, .array .int, .array .int, .array .boolean, .int, .int, .array .int, .int, .int, .array .int, .array .boolean, .array .int, .array .int, .array .int, .array .int, .int, .int, .int, .array .boolean, .array .int]]
def zx_C (c : Nat) : String := zx_cn.getD c ""
def zx_T (c : Nat) : u_T := fun k => (zx_fl.getD c []).getD k ("", "", "", false)
def zx_N (c : Nat) : Nat := (zx_fl.getD c []).length
def zx_ty (c k : Nat) : FieldType := (zx_tl.getD c []).getD k .int
def zx_cl : List vw_C := [(zx_C 0, zx_T 0, zx_N 0), (zx_C 1, zx_T 1, zx_N 1), (zx_C 2, zx_T 2, zx_N 2), (zx_C 3, zx_T 3, zx_N 3), (zx_C 4, zx_T 4, zx_N 4), (zx_C 5, zx_T 5, zx_N 5), (zx_C 6, zx_T 6, zx_N 6), (zx_C 7, zx_T 7, zx_N 7), (zx_C 8, zx_T 8, zx_N 8), (zx_C 9, zx_T 9, zx_N 9), (zx_C 10, zx_T 10, zx_N 10), (zx_C 11, zx_T 11, zx_N 11), (zx_C 12, zx_T 12, zx_N 12)]
/-- the kinds of arrays: 20 int, 21 long, 22 byte, 23 boolean, 24 int[], 25 long[], 26 Picks -/
def zx_at (k : Nat) : FieldType := match k with
  | 20 => .int
  | 21 => .long
  | 22 => .byte
  | 23 => .boolean
  | 24 => .array .int
  | 25 => .array .long
  | _ => .object "NamesThatShrink$Picks"
abbrev zx_Mt : Type := MethodName × ByteArray × Nat × Option FieldType × Bool × Nat × Nat × Nat × Nat × Nat
def zx_ms0 : List zx_Mt := [
  (⟨"NamesThatShrink$Crowd", "<init>", "()V"⟩, prog_2_method_1_code, 1, none, false, 0, 178, 177, 0, 100),
  (⟨"NamesThatShrink$Crowd", "has", "(I)Z"⟩, prog_2_method_2_code, 2, (some .boolean), false, 1, 675, 673, 674, 100),
  (⟨"NamesThatShrink$Crowd", "join", "(I)V"⟩, prog_2_method_3_code, 2, none, false, 1, 617, 615, 616, 100),
  (⟨"NamesThatShrink$Crowd", "everybody", "()I"⟩, prog_2_method_4_code, 1, (some .int), false, 0, 810, 808, 809, 100),
  (⟨"NamesThatShrink$Crowd", "named", "()I"⟩, prog_2_method_5_code, 3, (some .int), false, 0, 637, 635, 636, 100),
  (⟨"NamesThatShrink$Crowd", "whoHas", "(I)I"⟩, prog_2_method_6_code, 4, (some .int), false, 1, 659, 657, 658, 100),
  (⟨"NamesThatShrink$Crowd", "beginners", "(I)I"⟩, prog_2_method_7_code, 4, (some .int), false, 1, 683, 681, 682, 100),
  (⟨"NamesThatShrink$Crowd", "answers", "()I"⟩, prog_2_method_8_code, 3, (some .int), false, 0, 1232, 1230, 1231, 100),
  (⟨"NamesThatShrink$Crowd", "priceOf", "(I)I"⟩, prog_2_method_9_code, 6, (some .int), false, 1, 792, 790, 791, 100),
  (⟨"NamesThatShrink$Crowd", "callOut", "(I)I"⟩, prog_2_method_10_code, 4, (some .int), false, 1, 655, 653, 654, 100),
  (⟨"NamesThatShrink$Crowd", "log", "(II)V"⟩, prog_2_method_11_code, 3, none, false, 2, 664, 663, 1, 100),
  (⟨"NamesThatShrink$Crowd", "forgetCalls", "()V"⟩, prog_2_method_12_code, 1, none, false, 0, 621, 619, 620, 100),
  (⟨"NamesThatShrink$Crowd", "takeBack", "()Z"⟩, prog_2_method_13_code, 4, (some .boolean), false, 0, 694, 692, 693, 100),
  (⟨"NamesThatShrink$Crowd", "draw", "(I)I"⟩, prog_2_method_14_code, 2, (some .int), false, 1, 805, 803, 804, 100),
  (⟨"NamesThatShrink$Crowd", "drawName", "()I"⟩, prog_2_method_15_code, 3, (some .int), false, 0, 800, 798, 799, 100),
  (⟨"NamesThatShrink$CrowdText", "<init>", "(LNamesThatShrink$Text;)V"⟩, prog_3_method_1_code, 2, none, false, 1, 240, 239, 0, 101),
  (⟨"NamesThatShrink$CrowdText", "read", "(I)I"⟩, prog_3_method_2_code, 3, (some .int), false, 1, 580, 578, 579, 101),
  (⟨"NamesThatShrink$CrowdText", "readLine", "()Z"⟩, prog_3_method_3_code, 2, (some .boolean), false, 0, 592, 591, 0, 101),
  (⟨"NamesThatShrink$CrowdText", "tell", "(LNamesThatShrink$Crowd;)V"⟩, prog_3_method_4_code, 3, none, false, 1, 613, 611, 612, 101),
  (⟨"NamesThatShrink$Keeps", "<init>", "()V"⟩, prog_4_method_1_code, 1, none, false, 0, 510, 509, 0, 108),
  (⟨"NamesThatShrink$Keeps", "store", "(ILNamesThatShrink$Crowd;)Z"⟩, prog_4_method_2_code, 3, (some .boolean), false, 2, 1214, 1212, 1213, 108),
  (⟨"NamesThatShrink$Keeps", "restore", "(ILNamesThatShrink$Crowd;)Z"⟩, prog_4_method_3_code, 3, (some .boolean), false, 2, 1223, 1221, 1222, 108),
  (⟨"NamesThatShrink$Lineup", "<init>", "()V"⟩, prog_5_method_1_code, 1, none, false, 0, 315, 314, 0, 104),
  (⟨"NamesThatShrink$Lineup", "take", "(LNamesThatShrink$Crowd;)V"⟩, prog_5_method_2_code, 3, none, false, 1, 862, 860, 861, 104),
  (⟨"NamesThatShrink$Lineup", "insert", "(II)V"⟩, prog_5_method_3_code, 5, none, false, 2, 866, 865, 17, 104),
  (⟨"NamesThatShrink$Lineup", "dictionaryKey", "(I)I"⟩, prog_5_method_4_code, 3, (some .int), true, 1, 869, 868, 0, 104),
  (⟨"NamesThatShrink$Lineup", "spell", "(I)V"⟩, prog_5_method_5_code, 4, none, false, 1, 874, 873, 18, 104),
  (⟨"NamesThatShrink$Lineup", "findSharing", "(I)V"⟩, prog_5_method_6_code, 6, none, false, 1, 882, 881, 19, 104),
  (⟨"NamesThatShrink$Lineup", "findGroups", "()V"⟩, prog_5_method_7_code, 3, none, false, 0, 886, 885, 20, 104),
  (⟨"NamesThatShrink$Lineup", "placeOf", "(I)I"⟩, prog_5_method_8_code, 3, (some .int), false, 1, 988, 986, 987, 104),
  (⟨"NamesThatShrink$Lineup", "groupOf", "(I)I"⟩, prog_5_method_9_code, 3, (some .int), false, 1, 1041, 1039, 1040, 104),
  (⟨"NamesThatShrink$Lineup", "statesWith", "(I)I"⟩, prog_5_method_10_code, 6, (some .int), false, 1, 890, 888, 889, 104),
  (⟨"NamesThatShrink$Lineup", "namesakes", "(I)I"⟩, prog_5_method_11_code, 4, (some .int), false, 1, 894, 893, 21, 104),
  (⟨"NamesThatShrink$Lineup", "sumFromAbove", "(I)V"⟩, prog_5_method_12_code, 3, none, false, 1, 898, 897, 22, 104),
  (⟨"NamesThatShrink$Lineup", "atMostOneAbove", "(I)I"⟩, prog_5_method_13_code, 1, (some .int), true, 1, 901, 900, 0, 104),
  (⟨"NamesThatShrink$Lineup", "placeAhead", "(I)I"⟩, prog_5_method_14_code, 3, (some .int), false, 1, 906, 905, 23, 104),
  (⟨"NamesThatShrink$Listener", "<init>", "()V"⟩, prog_6_method_1_code, 1, none, false, 0, 488, 487, 0, 107),
  (⟨"NamesThatShrink$Listener", "all", "()I"⟩, prog_6_method_2_code, 3, (some .int), false, 0, 1151, 1149, 1150, 107),
  (⟨"NamesThatShrink$Listener", "note", "(IZ)Z"⟩, prog_6_method_3_code, 3, (some .boolean), false, 2, 1159, 1157, 1158, 107),
  (⟨"NamesThatShrink$Listener", "fitting", "()I"⟩, prog_6_method_4_code, 4, (some .int), false, 0, 1163, 1161, 1162, 107)]
def zx_ms1 : List zx_Mt := [
  (⟨"NamesThatShrink$Listener", "first", "()I"⟩, prog_6_method_5_code, 4, (some .int), false, 0, 1184, 1182, 1183, 107),
  (⟨"NamesThatShrink$Listener", "left", "(I)I"⟩, prog_6_method_6_code, 5, (some .int), false, 1, 1175, 1173, 1174, 107),
  (⟨"NamesThatShrink$Listener", "firstAnswered", "()I"⟩, prog_6_method_7_code, 2, (some .int), false, 0, 1167, 1166, 44, 107),
  (⟨"NamesThatShrink$Listener", "firstHeard", "(I)I"⟩, prog_6_method_8_code, 3, (some .int), false, 1, 1180, 1179, 46, 107),
  (⟨"NamesThatShrink$Listener", "isWithin", "(I)Z"⟩, prog_6_method_9_code, 4, (some .boolean), false, 1, 1171, 1170, 45, 107),
  (⟨"NamesThatShrink$Listener", "following", "(I)I"⟩, prog_6_method_10_code, 6, (some .int), false, 1, 1188, 1187, 47, 107),
  (⟨"NamesThatShrink$NewNames", "<init>", "(LNamesThatShrink$Crowd;)V"⟩, prog_7_method_1_code, 3, none, false, 1, 429, 428, 0, 105),
  (⟨"NamesThatShrink$NewNames", "areAsked", "(II)Z"⟩, prog_7_method_2_code, 2, (some .boolean), true, 2, 1062, 1061, 0, 105),
  (⟨"NamesThatShrink$NewNames", "ask", "(II)V"⟩, prog_7_method_3_code, 6, none, false, 2, 1066, 1064, 1065, 105),
  (⟨"NamesThatShrink$NewNames", "firstLetters", "(II)I"⟩, prog_7_method_4_code, 4, (some .int), true, 2, 1071, 1070, 0, 105),
  (⟨"NamesThatShrink$NewNames", "tellCheapest", "(ILNamesThatShrink$Row;)I"⟩, prog_7_method_5_code, 3, (some .int), false, 2, 1075, 1073, 1074, 105),
  (⟨"NamesThatShrink$NewNames", "tellSafe", "(LNamesThatShrink$Row;)I"⟩, prog_7_method_6_code, 3, (some .int), false, 1, 1135, 1133, 1134, 105),
  (⟨"NamesThatShrink$NewNames", "choose", "(I[I)V"⟩, prog_7_method_7_code, 5, none, false, 2, 1079, 1078, 37, 105),
  (⟨"NamesThatShrink$NewNames", "limitAt", "(I)I"⟩, prog_7_method_8_code, 2, (some .int), false, 1, 1092, 1091, 38, 105),
  (⟨"NamesThatShrink$NewNames", "addLetter", "(LNamesThatShrink$Picks;LNamesThatShrink$Picks;II)V"⟩, prog_7_method_9_code, 5, none, false, 4, 1096, 1095, 39, 105),
  (⟨"NamesThatShrink$NewNames", "pick", "(II)V"⟩, prog_7_method_10_code, 5, none, false, 2, 1107, 1106, 40, 105),
  (⟨"NamesThatShrink$NewNames", "countSafe", "(II)I"⟩, prog_7_method_11_code, 5, (some .int), false, 2, 1139, 1138, 43, 105),
  (⟨"NamesThatShrink$NewNames", "isBarred", "(I)Z"⟩, prog_7_method_12_code, 3, (some .boolean), false, 1, 1111, 1110, 41, 105),
  (⟨"NamesThatShrink$NewNames", "leadsToBarred", "(I)Z"⟩, prog_7_method_13_code, 3, (some .boolean), false, 1, 1115, 1114, 42, 105),
  (⟨"NamesThatShrink$Order", "<init>", "(LNamesThatShrink$Text;LNamesThatShrink$Crowd;)V"⟩, prog_8_method_1_code, 3, none, false, 2, 262, 261, 0, 102),
  (⟨"NamesThatShrink$Order", "read", "()I"⟩, prog_8_method_2_code, 2, (some .int), false, 0, 702, 700, 701, 102),
  (⟨"NamesThatShrink$Order", "readSteps", "(I)Z"⟩, prog_8_method_3_code, 3, (some .boolean), false, 1, 708, 707, 2, 102),
  (⟨"NamesThatShrink$Order", "readStep", "(I)Z"⟩, prog_8_method_4_code, 3, (some .boolean), false, 1, 712, 711, 3, 102),
  (⟨"NamesThatShrink$Order", "readBlock", "(III)Z"⟩, prog_8_method_5_code, 5, (some .boolean), false, 3, 717, 716, 4, 102),
  (⟨"NamesThatShrink$Order", "put", "(II)Z"⟩, prog_8_method_6_code, 3, (some .boolean), false, 2, 722, 721, 5, 102),
  (⟨"NamesThatShrink$Order", "carryOut", "()V"⟩, prog_8_method_7_code, 1, none, false, 0, 728, 726, 727, 102),
  (⟨"NamesThatShrink$Order", "doSteps", "(III)V"⟩, prog_8_method_8_code, 7, none, false, 3, 732, 731, 6, 102),
  (⟨"NamesThatShrink$Order", "doStep", "(II)V"⟩, prog_8_method_9_code, 3, none, false, 2, 737, 736, 7, 102),
  (⟨"NamesThatShrink$Order", "callOne", "(I)V"⟩, prog_8_method_10_code, 3, none, false, 1, 741, 740, 8, 102),
  (⟨"NamesThatShrink$Order", "callAll", "(I)V"⟩, prog_8_method_11_code, 4, none, false, 1, 747, 746, 9, 102),
  (⟨"NamesThatShrink$Order", "list", "(I)I"⟩, prog_8_method_12_code, 5, (some .int), false, 1, 751, 750, 10, 102),
  (⟨"NamesThatShrink$Order", "insert", "(II)I"⟩, prog_8_method_13_code, 5, (some .int), false, 2, 756, 755, 11, 102),
  (⟨"NamesThatShrink$Order", "repeat", "(II)V"⟩, prog_8_method_14_code, 5, none, false, 2, 760, 759, 12, 102),
  (⟨"NamesThatShrink$Order", "until", "(II)V"⟩, prog_8_method_15_code, 4, none, false, 2, 764, 763, 13, 102),
  (⟨"NamesThatShrink$Picks", "<init>", "()V"⟩, prog_9_method_1_code, 1, none, false, 0, 436, 435, 0, 106),
  (⟨"NamesThatShrink$Picks", "start", "(I)V"⟩, prog_9_method_2_code, 2, none, false, 1, 1083, 1081, 1082, 106),
  (⟨"NamesThatShrink$Picks", "add", "(II)V"⟩, prog_9_method_3_code, 5, none, false, 2, 1088, 1086, 1087, 106),
  (⟨"NamesThatShrink$Picks", "addAll", "(LNamesThatShrink$Picks;II)V"⟩, prog_9_method_4_code, 5, none, false, 3, 1102, 1100, 1101, 106),
  (⟨"NamesThatShrink$Picks", "costOfAll", "()I"⟩, prog_9_method_5_code, 3, (some .int), false, 0, 1127, 1125, 1126, 106),
  (⟨"NamesThatShrink$Picks", "tellRising", "(LNamesThatShrink$Row;)V"⟩, prog_9_method_6_code, 6, none, false, 1, 1120, 1118, 1119, 106)]
def zx_ms2 : List zx_Mt := [
  (⟨"NamesThatShrink$Row", "<init>", "()V"⟩, prog_10_method_1_code, 1, none, false, 0, 163, 162, 0, 99),
  (⟨"NamesThatShrink$Row", "clear", "()V"⟩, prog_10_method_2_code, 1, none, false, 0, 769, 767, 768, 99),
  (⟨"NamesThatShrink$Row", "add", "(I)V"⟩, prog_10_method_3_code, 2, none, false, 1, 773, 771, 772, 99),
  (⟨"NamesThatShrink$Search", "<init>", "()V"⟩, prog_11_method_1_code, 1, none, false, 0, 309, 308, 0, 103),
  (⟨"NamesThatShrink$Search", "freeStates", "(LNamesThatShrink$Crowd;)I"⟩, prog_11_method_2_code, 2, (some .int), false, 1, 847, 845, 846, 103),
  (⟨"NamesThatShrink$Search", "look", "(LNamesThatShrink$Crowd;)I"⟩, prog_11_method_3_code, 3, (some .int), false, 1, 921, 919, 920, 103),
  (⟨"NamesThatShrink$Search", "lineUp", "(LNamesThatShrink$Crowd;)V"⟩, prog_11_method_4_code, 2, none, false, 1, 851, 850, 15, 103),
  (⟨"NamesThatShrink$Search", "isKnown", "(LNamesThatShrink$Crowd;)Z"⟩, prog_11_method_5_code, 3, (some .boolean), false, 1, 855, 854, 16, 103),
  (⟨"NamesThatShrink$Search", "spreadAll", "(I)I"⟩, prog_11_method_6_code, 6, (some .int), false, 1, 925, 924, 25, 103),
  (⟨"NamesThatShrink$Search", "makeRoom", "(I)V"⟩, prog_11_method_7_code, 3, none, false, 1, 929, 928, 26, 103),
  (⟨"NamesThatShrink$Search", "spread", "(I)V"⟩, prog_11_method_8_code, 4, none, false, 1, 935, 934, 27, 103),
  (⟨"NamesThatShrink$Search", "startOf", "(I)J"⟩, prog_11_method_9_code, 6, (some .long), false, 1, 939, 938, 28, 103),
  (⟨"NamesThatShrink$Search", "groupMark", "(I)J"⟩, prog_11_method_10_code, 1, (some .long), true, 1, 942, 941, 0, 103),
  (⟨"NamesThatShrink$Search", "expand", "(I)V"⟩, prog_11_method_11_code, 13, none, false, 1, 959, 958, 32, 103),
  (⟨"NamesThatShrink$Search", "placesWith", "(JI)J"⟩, prog_11_method_12_code, 5, (some .long), true, 2, 962, 961, 0, 103),
  (⟨"NamesThatShrink$Search", "add", "(JII)V"⟩, prog_11_method_13_code, 7, none, false, 3, 946, 945, 29, 103),
  (⟨"NamesThatShrink$Search", "isTaken", "(I)Z"⟩, prog_11_method_14_code, 2, (some .boolean), false, 1, 955, 954, 31, 103),
  (⟨"NamesThatShrink$Search", "slotOf", "(J)I"⟩, prog_11_method_15_code, 6, (some .int), false, 1, 950, 949, 30, 103),
  (⟨"NamesThatShrink$Search", "wantDues", "(LNamesThatShrink$Crowd;J)Z"⟩, prog_11_method_16_code, 7, (some .boolean), false, 2, 980, 978, 979, 103),
  (⟨"NamesThatShrink$Search", "wantSides", "(LNamesThatShrink$Crowd;)Z"⟩, prog_11_method_17_code, 6, (some .boolean), false, 1, 1029, 1027, 1028, 103),
  (⟨"NamesThatShrink$Search", "isWanted", "(JJ)Z"⟩, prog_11_method_18_code, 8, (some .boolean), false, 2, 1000, 999, 34, 103),
  (⟨"NamesThatShrink$Search", "bestOf", "(IZ)I"⟩, prog_11_method_19_code, 7, (some .int), false, 2, 996, 995, 33, 103),
  (⟨"NamesThatShrink$Search", "tellCalls", "(LNamesThatShrink$Row;)I"⟩, prog_11_method_20_code, 5, (some .int), false, 1, 992, 990, 991, 103),
  (⟨"NamesThatShrink$Search", "trace", "(II)V"⟩, prog_11_method_21_code, 9, none, false, 2, 1004, 1003, 35, 103),
  (⟨"NamesThatShrink$Search", "nextCall", "()I"⟩, prog_11_method_22_code, 5, (some .int), false, 0, 1012, 1011, 36, 103),
  (⟨"NamesThatShrink$Search", "tellLosses", "(LNamesThatShrink$Row;)I"⟩, prog_11_method_23_code, 6, (some .int), false, 1, 1021, 1019, 1020, 103),
  (⟨"NamesThatShrink$Search", "tellAlone", "(IILNamesThatShrink$Row;)I"⟩, prog_11_method_24_code, 10, (some .int), false, 3, 1037, 1035, 1036, 103),
  (⟨"NamesThatShrink$Search", "callsTo", "(J)I"⟩, prog_11_method_25_code, 8, (some .int), false, 1, 1055, 1053, 1054, 103),
  (⟨"NamesThatShrink$Text", "<init>", "()V"⟩, prog_12_method_1_code, 1, none, false, 0, 132, 131, 0, 98),
  (⟨"NamesThatShrink$Text", "append", "(I)Z"⟩, prog_12_method_2_code, 3, (some .boolean), false, 1, 564, 562, 563, 98),
  (⟨"NamesThatShrink$Text", "cut", "(I)Z"⟩, prog_12_method_3_code, 2, (some .boolean), false, 1, 572, 570, 571, 98),
  (⟨"NamesThatShrink$Text", "startReading", "(I)V"⟩, prog_12_method_4_code, 2, none, false, 1, 584, 582, 583, 98),
  (⟨"NamesThatShrink$Text", "look", "()I"⟩, prog_12_method_5_code, 1, (some .int), false, 0, 588, 586, 587, 98),
  (⟨"NamesThatShrink$Text", "fault", "()I"⟩, prog_12_method_6_code, 1, (some .int), false, 0, 609, 607, 608, 98),
  (⟨"NamesThatShrink$Text", "take", "(I)Z"⟩, prog_12_method_7_code, 2, (some .boolean), false, 1, 601, 599, 600, 98),
  (⟨"NamesThatShrink$Text", "takeDigit", "()I"⟩, prog_12_method_8_code, 2, (some .int), false, 0, 605, 603, 604, 98),
  (⟨"NamesThatShrink$Text", "takeName", "()V"⟩, prog_12_method_9_code, 3, none, false, 0, 596, 594, 595, 98),
  (⟨"NamesThatShrink", "<init>", "()V"⟩, prog_1_method_1_code, 1, none, false, 0, 124, 123, 0, 97),
  (⟨"NamesThatShrink", "sign", "(I)I"⟩, prog_1_method_2_code, 2, (some .int), false, 1, 560, 558, 559, 97),
  (⟨"NamesThatShrink", "end", "(I)Z"⟩, prog_1_method_3_code, 2, (some .boolean), false, 1, 568, 566, 567, 97)]
def zx_ms3 : List zx_Mt := [
  (⟨"NamesThatShrink", "crowd", "()I"⟩, prog_1_method_4_code, 2, (some .int), false, 0, 576, 574, 575, 97),
  (⟨"NamesThatShrink", "sheet", "(IIII)I"⟩, prog_1_method_5_code, 7, (some .int), false, 4, 625, 623, 624, 97),
  (⟨"NamesThatShrink", "of", "(II)I"⟩, prog_1_method_6_code, 3, (some .int), false, 2, 1240, 1238, 1239, 97),
  (⟨"NamesThatShrink", "set", "(III)I"⟩, prog_1_method_7_code, 5, (some .int), false, 3, 647, 645, 646, 97),
  (⟨"NamesThatShrink", "call", "(I)I"⟩, prog_1_method_8_code, 2, (some .int), false, 1, 651, 649, 650, 97),
  (⟨"NamesThatShrink", "hey", "(I)I"⟩, prog_1_method_9_code, 3, (some .int), false, 1, 671, 669, 670, 97),
  (⟨"NamesThatShrink", "begin", "(I)I"⟩, prog_1_method_10_code, 2, (some .int), false, 1, 679, 677, 678, 97),
  (⟨"NamesThatShrink", "undo", "()I"⟩, prog_1_method_11_code, 1, (some .int), false, 0, 690, 688, 689, 97),
  (⟨"NamesThatShrink", "order", "()I"⟩, prog_1_method_12_code, 2, (some .int), false, 0, 698, 696, 697, 97),
  (⟨"NamesThatShrink", "pass", "(II)I"⟩, prog_1_method_13_code, 5, (some .int), false, 2, 777, 775, 776, 97),
  (⟨"NamesThatShrink", "rename", "(II)I"⟩, prog_1_method_14_code, 3, (some .int), false, 2, 788, 786, 787, 97),
  (⟨"NamesThatShrink", "season", "(I)I"⟩, prog_1_method_15_code, 5, (some .int), false, 1, 796, 794, 795, 97),
  (⟨"NamesThatShrink", "common", "(II)I"⟩, prog_1_method_16_code, 3, (some .int), false, 2, 814, 812, 813, 97),
  (⟨"NamesThatShrink", "meet", "(II)I"⟩, prog_1_method_17_code, 5, (some .int), false, 2, 821, 819, 820, 97),
  (⟨"NamesThatShrink", "pairs", "(I)I"⟩, prog_1_method_18_code, 5, (some .int), false, 1, 825, 823, 824, 97),
  (⟨"NamesThatShrink", "tree", "()I"⟩, prog_1_method_19_code, 9, (some .int), false, 0, 832, 830, 831, 97),
  (⟨"NamesThatShrink", "most", "()I"⟩, prog_1_method_20_code, 4, (some .int), false, 0, 843, 841, 842, 97),
  (⟨"NamesThatShrink", "fewest", "(J)I"⟩, prog_1_method_21_code, 3, (some .int), false, 1, 913, 911, 912, 97),
  (⟨"NamesThatShrink", "losses", "(J)I"⟩, prog_1_method_22_code, 3, (some .int), false, 1, 1017, 1015, 1016, 97),
  (⟨"NamesThatShrink", "river", "()I"⟩, prog_1_method_23_code, 1, (some .int), false, 0, 1025, 1023, 1024, 97),
  (⟨"NamesThatShrink", "alone", "(II)I"⟩, prog_1_method_24_code, 3, (some .int), false, 2, 1033, 1031, 1032, 97),
  (⟨"NamesThatShrink", "states", "()I"⟩, prog_1_method_25_code, 2, (some .int), false, 0, 1046, 1044, 1045, 97),
  (⟨"NamesThatShrink", "comes", "(J)I"⟩, prog_1_method_26_code, 4, (some .int), false, 1, 1050, 1048, 1049, 97),
  (⟨"NamesThatShrink", "names", "(III)I"⟩, prog_1_method_27_code, 4, (some .int), false, 3, 1059, 1057, 1058, 97),
  (⟨"NamesThatShrink", "safe", "(II)I"⟩, prog_1_method_28_code, 3, (some .int), false, 2, 1131, 1129, 1130, 97),
  (⟨"NamesThatShrink", "listen", "(I)I"⟩, prog_1_method_29_code, 2, (some .int), false, 1, 1147, 1145, 1146, 97),
  (⟨"NamesThatShrink", "hears", "(IZ)I"⟩, prog_1_method_30_code, 4, (some .int), false, 2, 1155, 1153, 1154, 97),
  (⟨"NamesThatShrink", "knows", "()I"⟩, prog_1_method_31_code, 2, (some .int), false, 0, 1192, 1190, 1191, 97),
  (⟨"NamesThatShrink", "asks", "()I"⟩, prog_1_method_32_code, 2, (some .int), false, 0, 1197, 1195, 1196, 97),
  (⟨"NamesThatShrink", "forget", "()I"⟩, prog_1_method_33_code, 1, (some .int), false, 0, 1202, 1200, 1201, 97),
  (⟨"NamesThatShrink", "seed", "(I)I"⟩, prog_1_method_34_code, 3, (some .int), false, 1, 1206, 1204, 1205, 97),
  (⟨"NamesThatShrink", "keep", "(I)Z"⟩, prog_1_method_35_code, 2, (some .boolean), false, 1, 1210, 1208, 1209, 97),
  (⟨"NamesThatShrink", "again", "(I)Z"⟩, prog_1_method_36_code, 2, (some .boolean), false, 1, 1219, 1217, 1218, 97),
  (⟨"NamesThatShrink", "count", "(I)I"⟩, prog_1_method_37_code, 2, (some .int), false, 1, 1228, 1226, 1227, 97),
  (⟨"NamesThatShrink", "row", "(I)I"⟩, prog_1_method_38_code, 2, (some .int), false, 1, 1308, 1306, 1307, 97),
  (⟨"NamesThatShrink", "areTwo", "(II)Z"⟩, prog_1_method_39_code, 3, (some .boolean), false, 2, 781, 780, 14, 97),
  (⟨"NamesThatShrink", "tellsOfNobody", "(J)Z"⟩, prog_1_method_40_code, 3, (some .boolean), false, 1, 917, 916, 24, 97),
  (⟨"NamesThatShrink", "fourBits", "(JI)I"⟩, prog_1_method_41_code, 3, (some .int), true, 2, 984, 983, 0, 97),
  (⟨"NamesThatShrink", "asKind", "(II)I"⟩, prog_1_method_42_code, 2, (some .int), true, 2, 628, 627, 0, 97),
  (⟨"NamesThatShrink", "isBeforeInTree", "(II)Z"⟩, prog_1_method_43_code, 3, (some .boolean), true, 2, 839, 838, 0, 97)]
def zx_ms4 : List zx_Mt := [
  (⟨"NamesThatShrink", "isCode", "(I)Z"⟩, prog_1_method_44_code, 3, (some .boolean), true, 1, 631, 630, 0, 97),
  (⟨"NamesThatShrink", "lettersOf", "(I)I"⟩, prog_1_method_45_code, 4, (some .int), true, 1, 784, 783, 0, 97),
  (⟨"NamesThatShrink", "startsWith", "(II)Z"⟩, prog_1_method_46_code, 4, (some .boolean), true, 2, 686, 685, 0, 97),
  (⟨"NamesThatShrink", "shared", "(II)I"⟩, prog_1_method_47_code, 5, (some .int), true, 2, 817, 816, 0, 97),
  (⟨"NamesThatShrink", "canMeet", "(III)Z"⟩, prog_1_method_48_code, 4, (some .boolean), true, 3, 828, 827, 0, 97),
  (⟨"NamesThatShrinkModel", "thrown", "()I"⟩, prog_14_method_1_code, 1, (some .int), false, 0, 1312, 1310, 1311, 109),
  (⟨"NamesThatShrinkModel", "refuse", "()I"⟩, prog_14_method_2_code, 1, (some .int), false, 0, 1387, 1386, 57, 109),
  (⟨"NamesThatShrinkModel", "in", "(JJJ)Z"⟩, prog_14_method_3_code, 6, (some .boolean), true, 3, 1323, 1322, 0, 109),
  (⟨"NamesThatShrinkModel", "has", "(II)Z"⟩, prog_14_method_4_code, 2, (some .boolean), true, 2, 1417, 1416, 0, 109),
  (⟨"NamesThatShrinkModel", "flag", "(Z)I"⟩, prog_14_method_5_code, 1, (some .int), true, 1, 1354, 1353, 0, 109),
  (⟨"NamesThatShrinkModel", "enters", "(I)V"⟩, prog_14_method_6_code, 2, none, false, 1, 1476, 1475, 69, 109),
  (⟨"NamesThatShrinkModel", "lengthOf", "(I)I"⟩, prog_14_method_7_code, 3, (some .int), true, 1, 1375, 1374, 0, 109),
  (⟨"NamesThatShrinkModel", "isCode", "(I)Z"⟩, prog_14_method_8_code, 3, (some .boolean), true, 1, 1372, 1371, 0, 109),
  (⟨"NamesThatShrinkModel", "firstOf", "(II)I"⟩, prog_14_method_9_code, 4, (some .int), true, 2, 1431, 1430, 0, 109),
  (⟨"NamesThatShrinkModel", "alike", "(II)I"⟩, prog_14_method_10_code, 3, (some .int), true, 2, 1514, 1513, 0, 109),
  (⟨"NamesThatShrinkModel", "isPerson", "(I)Z"⟩, prog_14_method_11_code, 2, (some .boolean), false, 1, 1383, 1382, 56, 109),
  (⟨"NamesThatShrinkModel", "sign", "(I)I"⟩, prog_14_method_12_code, 3, (some .int), false, 1, 1316, 1314, 1315, 109),
  (⟨"NamesThatShrinkModel", "end", "(I)Z"⟩, prog_14_method_13_code, 2, (some .boolean), false, 1, 1320, 1318, 1319, 109),
  (⟨"NamesThatShrinkModel", "begins", "(I)I"⟩, prog_14_method_14_code, 3, (some .int), false, 1, 1332, 1330, 49, 109),
  (⟨"NamesThatShrinkModel", "takes", "(I)Z"⟩, prog_14_method_15_code, 3, (some .boolean), false, 1, 1351, 1350, 53, 109),
  (⟨"NamesThatShrinkModel", "isLetter", "()Z"⟩, prog_14_method_16_code, 1, (some .boolean), false, 0, 1345, 1344, 52, 109),
  (⟨"NamesThatShrinkModel", "letters", "()I"⟩, prog_14_method_17_code, 3, (some .int), false, 0, 1341, 1340, 51, 109),
  (⟨"NamesThatShrinkModel", "isDigit", "()Z"⟩, prog_14_method_18_code, 1, (some .boolean), false, 0, 1358, 1357, 54, 109),
  (⟨"NamesThatShrinkModel", "faultOf", "(IIZ)I"⟩, prog_14_method_19_code, 5, (some .int), false, 3, 1364, 1363, 55, 109),
  (⟨"NamesThatShrinkModel", "readsLine", "()Z"⟩, prog_14_method_20_code, 3, (some .boolean), false, 0, 1337, 1336, 50, 109),
  (⟨"NamesThatShrinkModel", "crowd", "()I"⟩, prog_14_method_21_code, 7, (some .int), false, 0, 1327, 1325, 1326, 109),
  (⟨"NamesThatShrinkModel", "sheet", "(IIII)I"⟩, prog_14_method_22_code, 9, (some .int), false, 4, 1368, 1366, 1367, 109),
  (⟨"NamesThatShrinkModel", "of", "(II)I"⟩, prog_14_method_23_code, 3, (some .int), false, 2, 1379, 1377, 1378, 109),
  (⟨"NamesThatShrinkModel", "set", "(III)I"⟩, prog_14_method_24_code, 5, (some .int), false, 3, 1391, 1389, 1390, 109),
  (⟨"NamesThatShrinkModel", "whoHave", "(I)I"⟩, prog_14_method_25_code, 4, (some .int), false, 1, 1409, 1408, 59, 109),
  (⟨"NamesThatShrinkModel", "turns", "(II)V"⟩, prog_14_method_26_code, 4, none, false, 2, 1414, 1413, 60, 109),
  (⟨"NamesThatShrinkModel", "calls", "(I)I"⟩, prog_14_method_27_code, 4, (some .int), false, 1, 1405, 1404, 58, 109),
  (⟨"NamesThatShrinkModel", "isName", "(I)Z"⟩, prog_14_method_28_code, 1, (some .boolean), true, 1, 1401, 1400, 0, 109),
  (⟨"NamesThatShrinkModel", "call", "(I)I"⟩, prog_14_method_29_code, 2, (some .int), false, 1, 1398, 1396, 1397, 109),
  (⟨"NamesThatShrinkModel", "hey", "(I)I"⟩, prog_14_method_30_code, 2, (some .int), false, 1, 1421, 1419, 1420, 109),
  (⟨"NamesThatShrinkModel", "beginsWith", "(II)Z"⟩, prog_14_method_31_code, 2, (some .boolean), true, 2, 1428, 1427, 0, 109),
  (⟨"NamesThatShrinkModel", "begin", "(I)I"⟩, prog_14_method_32_code, 4, (some .int), false, 1, 1425, 1423, 1424, 109),
  (⟨"NamesThatShrinkModel", "undo", "()I"⟩, prog_14_method_33_code, 2, (some .int), false, 0, 1435, 1433, 1434, 109),
  (⟨"NamesThatShrinkModel", "group", "()Z"⟩, prog_14_method_34_code, 1, (some .boolean), false, 0, 1451, 1450, 63, 109),
  (⟨"NamesThatShrinkModel", "step", "()Z"⟩, prog_14_method_35_code, 1, (some .boolean), false, 0, 1447, 1446, 62, 109)]
def zx_ms5 : List zx_Mt := [
  (⟨"NamesThatShrinkModel", "steps", "()Z"⟩, prog_14_method_36_code, 2, (some .boolean), false, 0, 1443, 1442, 61, 109),
  (⟨"NamesThatShrinkModel", "made", "(I)V"⟩, prog_14_method_37_code, 3, none, false, 1, 1472, 1471, 68, 109),
  (⟨"NamesThatShrinkModel", "madeAll", "(I)V"⟩, prog_14_method_38_code, 8, none, false, 1, 1467, 1466, 67, 109),
  (⟨"NamesThatShrinkModel", "passes", "()V"⟩, prog_14_method_39_code, 3, none, false, 0, 1463, 1462, 66, 109),
  (⟨"NamesThatShrinkModel", "does", "()V"⟩, prog_14_method_40_code, 4, none, false, 0, 1459, 1458, 65, 109),
  (⟨"NamesThatShrinkModel", "doesAll", "()V"⟩, prog_14_method_41_code, 1, none, false, 0, 1455, 1454, 64, 109),
  (⟨"NamesThatShrinkModel", "order", "()I"⟩, prog_14_method_42_code, 4, (some .int), false, 0, 1439, 1437, 1438, 109),
  (⟨"NamesThatShrinkModel", "pass", "(II)I"⟩, prog_14_method_43_code, 3, (some .int), false, 2, 1480, 1478, 1479, 109),
  (⟨"NamesThatShrinkModel", "priceOf", "(I)I"⟩, prog_14_method_44_code, 4, (some .int), false, 1, 1488, 1487, 70, 109),
  (⟨"NamesThatShrinkModel", "rename", "(II)I"⟩, prog_14_method_45_code, 3, (some .int), false, 2, 1484, 1482, 1483, 109),
  (⟨"NamesThatShrinkModel", "draws", "(I)I"⟩, prog_14_method_46_code, 2, (some .int), false, 1, 1501, 1500, 72, 109),
  (⟨"NamesThatShrinkModel", "named", "()I"⟩, prog_14_method_47_code, 1, (some .int), false, 0, 1497, 1496, 71, 109),
  (⟨"NamesThatShrinkModel", "season", "(I)I"⟩, prog_14_method_48_code, 6, (some .int), false, 1, 1492, 1490, 1491, 109),
  (⟨"NamesThatShrinkModel", "areTwo", "(II)Z"⟩, prog_14_method_49_code, 3, (some .boolean), false, 2, 1511, 1510, 73, 109),
  (⟨"NamesThatShrinkModel", "common", "(II)I"⟩, prog_14_method_50_code, 3, (some .int), false, 2, 1507, 1505, 1506, 109),
  (⟨"NamesThatShrinkModel", "meet", "(II)I"⟩, prog_14_method_51_code, 4, (some .int), false, 2, 1518, 1516, 1517, 109),
  (⟨"NamesThatShrinkModel", "canMeet", "(III)Z"⟩, prog_14_method_52_code, 4, (some .boolean), true, 3, 1526, 1525, 0, 109),
  (⟨"NamesThatShrinkModel", "pairs", "(I)I"⟩, prog_14_method_53_code, 5, (some .int), false, 1, 1522, 1520, 1521, 109),
  (⟨"NamesThatShrinkModel", "tree", "()I"⟩, prog_14_method_54_code, 11, (some .int), false, 0, 1530, 1528, 1529, 109),
  (⟨"NamesThatShrinkModel", "leftOf", "(JI)I"⟩, prog_14_method_55_code, 3, (some .int), true, 2, 1559, 1558, 0, 109),
  (⟨"NamesThatShrinkModel", "nameIn", "(JI)I"⟩, prog_14_method_56_code, 4, (some .int), false, 2, 1556, 1555, 78, 109),
  (⟨"NamesThatShrinkModel", "slotOf", "(J)I"⟩, prog_14_method_57_code, 4, (some .int), false, 1, 1547, 1546, 76, 109),
  (⟨"NamesThatShrinkModel", "answerTo", "(JI)I"⟩, prog_14_method_58_code, 7, (some .int), false, 2, 1552, 1551, 77, 109),
  (⟨"NamesThatShrinkModel", "behind", "(JI)J"⟩, prog_14_method_59_code, 7, (some .long), false, 2, 1567, 1566, 80, 109),
  (⟨"NamesThatShrinkModel", "canCall", "(JII)Z"⟩, prog_14_method_60_code, 5, (some .boolean), false, 3, 1563, 1562, 79, 109),
  (⟨"NamesThatShrinkModel", "stateNow", "()J"⟩, prog_14_method_61_code, 4, (some .long), false, 0, 1543, 1542, 75, 109),
  (⟨"NamesThatShrinkModel", "explores", "(I)Z"⟩, prog_14_method_62_code, 8, (some .boolean), false, 1, 1538, 1537, 74, 109),
  (⟨"NamesThatShrinkModel", "bestGood", "()I"⟩, prog_14_method_63_code, 4, (some .int), false, 0, 1590, 1589, 84, 109),
  (⟨"NamesThatShrinkModel", "tellsWay", "(I)I"⟩, prog_14_method_64_code, 9, (some .int), false, 1, 1594, 1593, 85, 109),
  (⟨"NamesThatShrinkModel", "isNextGood", "(II)Z"⟩, prog_14_method_65_code, 4, (some .boolean), false, 2, 1598, 1597, 86, 109),
  (⟨"NamesThatShrinkModel", "most", "()I"⟩, prog_14_method_66_code, 4, (some .int), false, 0, 1534, 1532, 1533, 109),
  (⟨"NamesThatShrinkModel", "dueOf", "(JI)I"⟩, prog_14_method_67_code, 3, (some .int), true, 2, 1586, 1585, 0, 109),
  (⟨"NamesThatShrinkModel", "areDues", "(J)Z"⟩, prog_14_method_68_code, 3, (some .boolean), false, 1, 1575, 1574, 81, 109),
  (⟨"NamesThatShrinkModel", "lostBy", "(II)I"⟩, prog_14_method_69_code, 3, (some .int), false, 2, 1583, 1582, 83, 109),
  (⟨"NamesThatShrinkModel", "marksDues", "(J)V"⟩, prog_14_method_70_code, 5, none, false, 1, 1579, 1578, 82, 109),
  (⟨"NamesThatShrinkModel", "fewest", "(J)I"⟩, prog_14_method_71_code, 4, (some .int), false, 1, 1571, 1569, 1570, 109),
  (⟨"NamesThatShrinkModel", "losses", "(J)I"⟩, prog_14_method_72_code, 5, (some .int), false, 1, 1602, 1600, 1601, 109),
  (⟨"NamesThatShrinkModel", "river", "()I"⟩, prog_14_method_73_code, 3, (some .int), false, 0, 1606, 1604, 1605, 109),
  (⟨"NamesThatShrinkModel", "alone", "(II)I"⟩, prog_14_method_74_code, 6, (some .int), false, 2, 1610, 1608, 1609, 109),
  (⟨"NamesThatShrinkModel", "areUnlike", "(J)Z"⟩, prog_14_method_75_code, 4, (some .boolean), false, 1, 1618, 1617, 87, 109)]
def zx_ms6 : List zx_Mt := [
  (⟨"NamesThatShrinkModel", "states", "()I"⟩, prog_14_method_76_code, 4, (some .int), false, 0, 1614, 1612, 1613, 109),
  (⟨"NamesThatShrinkModel", "comes", "(J)I"⟩, prog_14_method_77_code, 4, (some .int), false, 1, 1622, 1620, 1621, 109),
  (⟨"NamesThatShrinkModel", "countOf", "(I)I"⟩, prog_14_method_78_code, 3, (some .int), true, 1, 1630, 1629, 0, 109),
  (⟨"NamesThatShrinkModel", "nameAt", "(III)I"⟩, prog_14_method_79_code, 7, (some .int), true, 3, 1633, 1632, 0, 109),
  (⟨"NamesThatShrinkModel", "isSafe", "(II)Z"⟩, prog_14_method_80_code, 5, (some .boolean), false, 2, 1637, 1636, 88, 109),
  (⟨"NamesThatShrinkModel", "isNew", "(III)Z"⟩, prog_14_method_81_code, 6, (some .boolean), false, 3, 1641, 1640, 89, 109),
  (⟨"NamesThatShrinkModel", "names", "(III)I"⟩, prog_14_method_82_code, 9, (some .int), false, 3, 1626, 1624, 1625, 109),
  (⟨"NamesThatShrinkModel", "safe", "(II)I"⟩, prog_14_method_83_code, 8, (some .int), false, 2, 1645, 1643, 1644, 109),
  (⟨"NamesThatShrinkModel", "heardBy", "(I)I"⟩, prog_14_method_84_code, 5, (some .int), false, 1, 1657, 1656, 91, 109),
  (⟨"NamesThatShrinkModel", "listens", "()V"⟩, prog_14_method_85_code, 6, none, false, 0, 1653, 1652, 90, 109),
  (⟨"NamesThatShrinkModel", "sorts", "(II)V"⟩, prog_14_method_86_code, 8, none, false, 2, 1673, 1672, 93, 109),
  (⟨"NamesThatShrinkModel", "listen", "(I)I"⟩, prog_14_method_87_code, 2, (some .int), false, 1, 1649, 1647, 1648, 109),
  (⟨"NamesThatShrinkModel", "hears", "(IZ)I"⟩, prog_14_method_88_code, 3, (some .int), false, 2, 1661, 1659, 1660, 109),
  (⟨"NamesThatShrinkModel", "runs", "()I"⟩, prog_14_method_89_code, 5, (some .int), false, 0, 1669, 1668, 92, 109),
  (⟨"NamesThatShrinkModel", "knows", "()I"⟩, prog_14_method_90_code, 2, (some .int), false, 0, 1665, 1663, 1664, 109),
  (⟨"NamesThatShrinkModel", "asks", "()I"⟩, prog_14_method_91_code, 6, (some .int), false, 0, 1678, 1676, 1677, 109),
  (⟨"NamesThatShrinkModel", "forget", "()I"⟩, prog_14_method_92_code, 1, (some .int), false, 0, 1682, 1680, 1681, 109),
  (⟨"NamesThatShrinkModel", "seed", "(I)I"⟩, prog_14_method_93_code, 3, (some .int), false, 1, 1686, 1684, 1685, 109),
  (⟨"NamesThatShrinkModel", "keep", "(I)Z"⟩, prog_14_method_94_code, 4, (some .boolean), false, 1, 1690, 1688, 1689, 109),
  (⟨"NamesThatShrinkModel", "again", "(I)Z"⟩, prog_14_method_95_code, 4, (some .boolean), false, 1, 1695, 1693, 1694, 109),
  (⟨"NamesThatShrinkModel", "sides", "()I"⟩, prog_14_method_96_code, 3, (some .int), false, 0, 1703, 1702, 94, 109),
  (⟨"NamesThatShrinkModel", "answersOfAll", "()I"⟩, prog_14_method_97_code, 3, (some .int), false, 0, 1707, 1706, 95, 109),
  (⟨"NamesThatShrinkModel", "count", "(I)I"⟩, prog_14_method_98_code, 2, (some .int), false, 1, 1699, 1697, 1698, 109),
  (⟨"NamesThatShrinkModel", "<init>", "()V"⟩, prog_14_method_99_code, 1, none, false, 0, 1711, 1710, 0, 109),
  (⟨"NamesThatShrinkModel", "row", "(I)I"⟩, prog_14_method_100_code, 2, (some .int), false, 1, 1864, 1862, 1863, 109),
  (⟨"java/lang/Integer", "numberOfTrailingZeros", "(I)I"⟩, prog_17_method_48_code, 2, (some .int), true, 1, 835, 834, 0, 112),
  (⟨"java/lang/Integer", "bitCount", "(I)I"⟩, prog_17_method_49_code, 1, (some .int), true, 1, 640, 639, 0, 112),
  (⟨"java/lang/Long", "numberOfTrailingZeros", "(J)I"⟩, prog_18_method_49_code, 3, (some .int), true, 1, 969, 968, 0, 118),
  (⟨"java/lang/Long", "bitCount", "(J)I"⟩, prog_18_method_50_code, 2, (some .int), true, 1, 973, 972, 0, 118),
  (⟨"java/lang/Math", "max", "(II)I"⟩, prog_19_method_65_code, 2, (some .int), true, 2, 878, 877, 0, 110),
  (⟨"java/lang/Math", "min", "(II)I"⟩, prog_19_method_69_code, 2, (some .int), true, 2, 667, 666, 0, 110),
  (⟨"java/util/Arrays", "fill", "([II)V"⟩, prog_24_method_103_code, 4, none, true, 2, 1007, 1006, 0, 119),
  (⟨"NamesThatShrinkLaw", "law", "([I)Z"⟩, code, 7, (some .boolean), true, 1, 0, 0, 0, 96)]
def zx_ms : List zx_Mt := zx_ms0 ++ (zx_ms1 ++ (zx_ms2 ++ (zx_ms3 ++ (zx_ms4 ++ (zx_ms5 ++ (zx_ms6))))))
def zx_mcl : List Nat := [0, 0, 0, 0, 0, 0, 0, 0, 0, 0, 0, 0, 0, 0, 0, 1, 1, 1, 1, 2, 2, 2, 3, 3, 3, 3, 3, 3, 3, 3, 3, 3, 3, 3, 3, 3, 4, 4, 4, 4, 4, 4, 4, 4, 4, 4, 5, 5, 5, 5, 5, 5, 5, 5, 5, 5, 5, 5, 5, 6, 6, 6, 6, 6, 6, 6, 6, 6, 6, 6, 6, 6, 6, 6, 7, 7, 7, 7, 7, 7, 8, 8, 8, 9, 9, 9, 9, 9, 9, 9, 9, 9, 9, 9, 9, 9, 9, 9, 9, 9, 9, 9, 9, 9, 9, 9, 9, 9, 10, 10, 10, 10, 10, 10, 10, 10, 10, 11, 11, 11, 11, 11, 11, 11, 11, 11, 11, 11, 11, 11, 11, 11, 11, 11, 11, 11, 11, 11, 11, 11, 11, 11, 11, 11, 11, 11, 11, 11, 11, 11, 11, 11, 11, 11, 11, 11, 11, 11, 11, 11, 11, 11, 11, 11, 11, 12, 12, 12, 12, 12, 12, 12, 12, 12, 12, 12, 12, 12, 12, 12, 12, 12, 12, 12, 12, 12, 12, 12, 12, 12, 12, 12, 12, 12, 12, 12, 12, 12, 12, 12, 12, 12, 12, 12, 12, 12, 12, 12, 12, 12, 12, 12, 12, 12, 12, 12, 12, 12, 12, 12, 12, 12, 12, 12, 12, 12, 12, 12, 12, 12, 12, 12, 12, 12, 12, 12, 12, 12, 12, 12, 12, 12, 12, 12, 12, 12, 12, 12, 12, 12, 12, 12, 12, 12, 12, 12, 12, 12, 12, 12, 12, 12, 12, 12, 12, 99, 99, 99, 99, 99, 99, 99, 99]
def zx_mc (k : Nat) : Nat := zx_mcl.getD k 99
def zx_m (k : Nat) : zx_Mt := zx_ms.getD k (⟨"", "", ""⟩, code, 0, none, false, 0, 0, 0, 0, 0)
def zx_y (k : Nat) : MethodName := (zx_m k).1
def zx_b (k : Nat) : ByteArray := (zx_m k).2.1
def zx_mL (k : Nat) : Nat := (zx_m k).2.2.1
def zx_rt (k : Nat) : Option FieldType := (zx_m k).2.2.2.1
def zx_st (k : Nat) : Bool := (zx_m k).2.2.2.2.1
def zx_np (k : Nat) : Nat := (zx_m k).2.2.2.2.2.1
def zx_own (k : Nat) : String := (zx_y k).cls
def zx_good : List Jvm.Cond := lw_tbl.filter goodWord
def zx_w (p : Nat) (w : Jvm.Cond) : Bool := decide (lw_tbl[p]? = some w) && goodWord w
def zx_wn (p : Nat) (w : Jvm.Cond) : Bool := decide (lw_tbl[p]? = some w)
theorem zx_w_mem {p : Nat} {w : Jvm.Cond} (h : zx_w p w = true) : w ∈ zx_good := by
  simp only [zx_w, Bool.and_eq_true, decide_eq_true_eq] at h
  exact List.mem_filter.mpr ⟨List.mem_of_getElem? h.1, h.2⟩
theorem zx_wn_mem {p : Nat} {w : Jvm.Cond} (h : zx_wn p w = true) : w ∈ lw_tbl := by
  simp only [zx_wn, decide_eq_true_eq] at h
  exact List.mem_of_getElem? h
/-- a method's own words -/
def zx_mok (k : Nat) : Bool :=
  zx_w (zx_m k).2.2.2.2.2.2.1 (.code (zx_y k) (zx_b k) (zx_mL k) (zx_rt k)) &&
  (if zx_st k then zx_w (zx_m k).2.2.2.2.2.2.2.1 (.static (zx_y k)) else
    zx_w (zx_m k).2.2.2.2.2.2.2.1 (.instanceMethod (zx_y k)) && (decide ((zx_y k).name = "<init>") || zx_w (zx_m k).2.2.2.2.2.2.2.2.1 (.selects (zx_y k).cls (zx_y k) (zx_y k)))) &&
  zx_w (zx_m k).2.2.2.2.2.2.2.2.2 (.initialized (zx_y k).cls) &&
  decide ((zx_y k).cls ≠ "java/lang/invoke/MethodHandle" ∧ (zx_y k).cls ≠ "java/lang/invoke/VarHandle" ∧ (parseMethodDescriptor (zx_y k).desc).map (fun d => d.parameters.length) = some (zx_np k)) && decide (zx_mL k ≤ 45) && plainName (zx_y k).cls && (zx_st k || decide (zx_mc k < 13 ∧ zx_C (zx_mc k) = (zx_y k).cls))
abbrev zx_En : Type := Nat × Nat × Instr × Int32 × Int64 × Nat × Nat × Nat
/-- the lengths of the instructions -/
def zx_len (i : Instr) : Nat := match i with
  | .aload _ | .iload _ | .lload _ | .astore _ | .istore _ | .lstore _ | .bipush _ | .ldc _ | .newarray _ => 2
  | .sipush _ | .ldc_w _ | .ldc2_w _ | .iinc _ _ | .ifCond _ _ | .if_icmp _ _ | .goto _ | .getfield _ | .putfield _ | .getstatic _ | .new _ | .anewarray _ | .invokevirtual _ | .invokespecial _ | .invokestatic _ => 3
  | .multianewarray _ _ => 4
  | .tableswitch _ _ _ _ => 0
  | _ => 1
/-- an instruction's row: it is what the bytes decode to; what its pool entry links stands among the tables' words -/
def zx_opr (k pc : Nat) (ins : Instr) (v : Int32) (w : Int64) (p a b : Nat) : Bool := match ins with
  | .iconst n => decide (Int32.ofInt n = v)
  | .bipush n => decide ((Int8.ofInt n).toInt32 = v)
  | .sipush n => decide ((Int16.ofInt n).toInt32 = v)
  | .lconst n => decide (Int64.ofNat (n : Nat) = w)
  | .iinc i n => decide (Int32.ofInt n = v) && decide (i < zx_mL k)
  | .istore i => decide (i < zx_mL k)
  | .istore_n i => decide ((i : Nat) < zx_mL k)
  | .astore i => decide (i < zx_mL k)
  | .astore_n i => decide ((i : Nat) < zx_mL k)
  | .lstore i => decide (i + 1 < zx_mL k)
  | .lstore_n i => decide ((i : Nat) + 1 < zx_mL k)
  | .ldc i => zx_w p (.constant (zx_own k) i v)
  | .ldc_w i => zx_w p (.constant (zx_own k) i v)
  | .ldc2_w i => zx_w p (.constantLong (zx_own k) i w)
  | .getfield i => decide (a < 13 ∧ b < zx_N a) && zx_w p (.fieldLink (zx_own k) i (zx_T a b).1 (zx_T a b).2.1 (zx_T a b).2.2.1)
  | .putfield i => decide (a < 13 ∧ b < zx_N a) && zx_w p (.fieldLink (zx_own k) i (zx_T a b).1 (zx_T a b).2.1 (zx_T a b).2.2.1) && (!(zx_T a b).2.2.2 || decide ((zx_y k).name = "<init>" ∧ (zx_T a b).1 = zx_own k))
  | .getstatic i => zx_w p (.fieldLink (zx_own k) i "NamesThatShrink$NewNames" (if a = 1 then "SEVENS" else "SIXES") "[I") && decide (a = 1 ∨ a = 2)
  | .ifCond _ off => decide ((pc : Int) + off = (a : Int))
  | .if_icmp _ off => decide ((pc : Int) + off = (a : Int))
  | .goto off => decide ((pc : Int) + off = (a : Int))
  | .tableswitch d _ _ os => decide (0 ≤ (pc : Int) + d) && os.all (fun x => decide (0 ≤ (pc : Int) + x))
  | .newarray t => decide (newarray.typeOf t = zx_at a ∧ 20 ≤ a ∧ a ≤ 23) && zx_w p (.arrayClass (zx_at a))
  | .anewarray i => decide (a = 26) && zx_w p (.classLink (zx_own k) i "NamesThatShrink$Picks")
  | .multianewarray i n => decide (n = 2 ∧ (a = 24 ∨ a = 25)) && zx_w p (.classLink (zx_own k) i (if a = 24 then "[[I" else "[[J"))
  | .new i => decide (a = 99) || (decide (a < 13) && zx_w p (.classLink (zx_own k) i (zx_C a)))
  | .invokevirtual i => decide (a = 0) && !zx_st b && zx_mok b && zx_w p (.methodLink (zx_own k) i (zx_y b)) && decide ((zx_y b).name ≠ "<init>")
  | .invokespecial i => (decide (a = 1) && !zx_st b && zx_mok b && zx_w p (.methodLink (zx_own k) i (zx_y b)) && decide ((zx_y b).name = "<init>" ∧ zx_rt b = none)) ||
      (decide (a = 3) && !zx_st b && zx_mok b && zx_wn p (.methodLinkNest (zx_own k) i (zx_y b) "NamesThatShrink") && decide ((zx_y b).name = "<init>" ∧ zx_rt b = none)) ||
      (decide (a = 5) && zx_w p (.methodLink (zx_own k) i Lib.objectInit)) || decide (a = 9)
  | .invokestatic i => (decide (a = 2) && zx_st b && zx_mok b && zx_w p (.methodLink (zx_own k) i (zx_y b))) ||
      (decide (a = 4) && zx_st b && zx_mok b && zx_wn p (.methodLinkNest (zx_own k) i (zx_y b) "NamesThatShrink")) ||
      (decide (a = 6) && zx_w p (.methodLink (zx_own k) i arraycopyName)) || (decide (a = 7) && zx_w p (.methodLink (zx_own k) i Lib.Math.max.name)) || (decide (a = 8) && zx_w p (.methodLink (zx_own k) i Lib.Math.min.name)) || decide (a = 9)
  | _ => true
def zx_chk (k : Nat) (e : zx_En) : Bool := match e with
  | (pc, len, ins, v, w, p, a, b) => (match decode (zx_b k) pc with
    | .ok q => decide (q = (ins, len))
    | .error _ => false) && decide (zx_len ins = 0 ∨ len = zx_len ins) && zx_opr k pc ins v w p a b
end
section
/-! ===== the flat machine: memory, its picture in the heap ===== -/
/-- ints, longs, references by cell and place; a cell's kind and length; how many cells, how many slots were made -/
abbrev zx_M : Type := (Nat → Nat → Int32) × (Nat → Nat → Int64) × (Nat → Nat → Option Nat) × (Nat → Nat) × (Nat → Nat) × Nat × Nat
def zx_kd (M : zx_M) (i : Nat) : Nat := M.2.2.2.1 i
def zx_ln (M : zx_M) (i : Nat) : Nat := M.2.2.2.2.1 i
def zx_n (M : zx_M) : Nat := M.2.2.2.2.2.1
def zx_sl (M : zx_M) : Nat := M.2.2.2.2.2.2
def zx_u2 {α : Type} (f : Nat → Nat → α) (i k : Nat) (v : α) : Nat → Nat → α := fun x y => if x = i ∧ y = k then v else f x y
def zx_u1 {α : Type} (f : Nat → α) (i : Nat) (v : α) : Nat → α := fun x => if x = i then v else f x
def zx_ur {α : Type} (f : Nat → Nat → α) (i : Nat) (g : Nat → α) : Nat → Nat → α := fun x => if x = i then g else f x
def zx_pi (M : zx_M) (i k : Nat) (v : Int32) : zx_M := (zx_u2 M.1 i k v, M.2)
def zx_pl (M : zx_M) (i k : Nat) (v : Int64) : zx_M := (M.1, zx_u2 M.2.1 i k v, M.2.2)
def zx_pr (M : zx_M) (i k : Nat) (v : Option Nat) : zx_M := (M.1, M.2.1, zx_u2 M.2.2.1 i k v, M.2.2.2)
/-- a new cell of a kind, a length; its places are 0 or null; z slots -/
def zx_nw (M : zx_M) (kd ln z : Nat) : zx_M := (zx_ur M.1 (zx_n M) (fun _ => 0), zx_ur M.2.1 (zx_n M) (fun _ => 0), zx_ur M.2.2.1 (zx_n M) (fun _ => none), zx_u1 M.2.2.2.1 (zx_n M) kd, zx_u1 M.2.2.2.2.1 (zx_n M) ln, zx_n M + 1, zx_sl M + z)
/-- where the cells lie: the first new one, the script, the two static rows; the classes' numbers and slots, the arrays' classes -/
abbrev zx_E : Type := (Nat × Nat × Nat × Nat) × va_G × (Nat → ClassId)
def zx_rho (E : zx_E) (i : Nat) : Nat := match i with
  | 0 => E.1.2.1
  | 1 => E.1.2.2.1
  | 2 => E.1.2.2.2
  | j + 3 => E.1.1 + j
def zx_v (E : zx_E) (v : Value) : Value := match v with
  | .ref i => .ref (zx_rho E i)
  | w => w
/-- 0 an int, 1 a long, 2 a reference -/
def zx_tc (t : FieldType) : Nat := match t with
  | .long => 1
  | .object _ => 2
  | .array _ => 2
  | _ => 0
def zx_cv (M : zx_M) (t i k : Nat) : Value := match t with
  | 0 => .int (M.1 i k)
  | 1 => .long (M.2.1 i k)
  | _ => va_rf (M.2.2.1 i k)
def zx_A (E : zx_E) : Nat → Prop := fun q => E.1.1 ≤ q
def zx_cell (E : zx_E) (M : zx_M) (i : Nat) (H : Heap) : Prop :=
  (zx_kd M i < 13 → t_OB (zx_rho E i) (E.2.1.1 (zx_kd M i)) (zx_N (zx_kd M i)) (E.2.1.2 (zx_kd M i)) H (fun k => zx_v E (zx_cv M (zx_tc (zx_ty (zx_kd M i) k)) i k))) ∧
  (20 ≤ zx_kd M i → zx_kd M i ≤ 26 → H[zx_rho E i]? = some (arrV (E.2.2 (zx_kd M i)) (zx_ln M i) (fun j => zx_v E (zx_cv M (zx_tc (zx_at (zx_kd M i))) i j))))
def zx_ext (E : zx_E) (M : zx_M) (U : State) (H : Heap) : Prop :=
  (∀ i, i < 3 → zx_kd M i = 30 ∧ va_T .int (zx_rho E i) (zx_ln M i) (fun j => .int (M.1 i j)) (zx_A E) U H) ∧
  va_Z "NamesThatShrink$NewNames" "SEVENS" "[I" (.ref (zx_rho E 1)) (zx_A E) U H ∧ va_Z "NamesThatShrink$NewNames" "SIXES" "[I" (.ref (zx_rho E 2)) (zx_A E) U H
def zx_R (E : zx_E) (M : zx_M) (U : State) (H : Heap) : Prop :=
  3 ≤ zx_n M ∧ H.size + 3 = E.1.1 + zx_n M ∧ zx_ext E M U H ∧ ∀ i, 3 ≤ i → i < zx_n M → zx_cell E M i H
def zx_tys (E : zx_E) : List (ClassId × FieldType) := [(E.2.2 20, .int), (E.2.2 21, .long), (E.2.2 22, .byte), (E.2.2 23, .boolean), (E.2.2 24, .array .int), (E.2.2 25, .array .long), (E.2.2 26, .object "NamesThatShrink$Picks")]
def zx_nest : List Jvm.Cond := lw_tbl.filter (fun w => match w with
  | .methodLinkNest .. => true
  | .arrayOver (.object _) => true
  | .arrayOver (.array _) => true
  | _ => false)
def zx_K (E : zx_E) (U : State) : Prop := va_K E.2.1 zx_cl (zx_tys E) U ∧ ∀ w ∈ zx_nest, va_Nw w U
theorem zx_rho_ge {E : zx_E} {i : Nat} (h : 3 ≤ i) : zx_rho E i = E.1.1 + (i - 3) := by
  match i, h with
  | j + 3, _ => simp [zx_rho]
theorem zx_rho_in {E : zx_E} {i : Nat} (h : 3 ≤ i) : zx_A E (zx_rho E i) := by
  rw [zx_rho_ge h]; exact Nat.le_add_right _ _
theorem zx_rho_inj {E : zx_E} {i j : Nat} (hi : 3 ≤ i) (hj : 3 ≤ j) (h : zx_rho E i = zx_rho E j) : i = j := by
  rw [zx_rho_ge hi, zx_rho_ge hj] at h; omega
theorem zx_cell.kept {E : zx_E} {M : zx_M} {i : Nat} {H H1 : Heap} (h : zx_cell E M i H) (hq : H1[zx_rho E i]? = H[zx_rho E i]?) : zx_cell E M i H1 :=
  ⟨fun a => (h.1 a).kept hq, fun a b => by rw [hq]; exact h.2 a b⟩
theorem zx_cell.cong {E : zx_E} {M M1 : zx_M} {i : Nat} {H : Heap} (h : zx_cell E M i H) (hk : zx_kd M1 i = zx_kd M i) (hl : zx_ln M1 i = zx_ln M i) (h1 : M1.1 i = M.1 i) (h2 : M1.2.1 i = M.2.1 i) (h3 : M1.2.2.1 i = M.2.2.1 i) : zx_cell E M1 i H := by
  unfold zx_cell zx_cv at *
  rw [hk, hl, h1, h2, h3]
  exact h
theorem zx_ext.kept {E : zx_E} {M : zx_M} {U : State} {H H1 : Heap} (h : zx_ext E M U H) (hq : ∀ a : Nat, a < H.size → ¬ zx_A E a → H1[a]? = H[a]?) : zx_ext E M U H1 :=
  ⟨fun i hi => ⟨(h.1 i hi).1, va_T.kept (h.1 i hi).2 hq⟩, va_Z.kept h.2.1 hq, va_Z.kept h.2.2 hq⟩
theorem zx_ext.moved {E : zx_E} {M : zx_M} {u U : State} {H : Heap} (hvm : u.vm.Alike U.vm) (h : zx_ext E M u H) : zx_ext E M U H :=
  ⟨fun i hi => ⟨(h.1 i hi).1, va_T.moved hvm (h.1 i hi).2⟩, va_Z.moved hvm h.2.1, va_Z.moved hvm h.2.2⟩
theorem zx_ext.cong {E : zx_E} {M M1 : zx_M} {U : State} {H : Heap} (h : zx_ext E M U H) (hk : ∀ i, i < 3 → zx_kd M1 i = zx_kd M i) (hl : ∀ i, i < 3 → zx_ln M1 i = zx_ln M i) (h1 : ∀ i, i < 3 → M1.1 i = M.1 i) : zx_ext E M1 U H :=
  ⟨fun i hi => by rw [hk i hi, hl i hi, h1 i hi]; exact h.1 i hi, h.2⟩
theorem zx_R.moved {E : zx_E} {M : zx_M} {u U : State} {H : Heap} (hvm : u.vm.Alike U.vm) (h : zx_R E M u H) : zx_R E M U H := ⟨h.1, h.2.1, h.2.2.1.moved hvm, h.2.2.2⟩
theorem zx_R.ltH {E : zx_E} {M : zx_M} {U : State} {H : Heap} (h : zx_R E M U H) {i : Nat} (h3 : 3 ≤ i) (hi : i < zx_n M) : zx_rho E i < H.size := by
  have := h.2.1
  rw [zx_rho_ge h3]; omega
/-- one cell is written: the others stay as they were -/
theorem zx_R.put {E : zx_E} {M M1 : zx_M} {U : State} {H H1 : Heap} (h : zx_R E M U H) {i : Nat} (hi3 : 3 ≤ i)
    (hn : zx_n M1 = zx_n M) (hk : ∀ j, zx_kd M1 j = zx_kd M j) (hl : ∀ j, zx_ln M1 j = zx_ln M j) (h1 : ∀ j, j ≠ i → M1.1 j = M.1 j) (h2 : ∀ j, j ≠ i → M1.2.1 j = M.2.1 j) (h3 : ∀ j, j ≠ i → M1.2.2.1 j = M.2.2.1 j)
    (hz : H1.size = H.size) (oq : ∀ q : Nat, q ≠ zx_rho E i → H1[q]? = H[q]?) (hc : zx_cell E M1 i H1) : zx_R E M1 U H1 := by
  refine ⟨by rw [hn]; exact h.1, by rw [hn, hz]; exact h.2.1, ?_, fun j hj3 hj => ?_⟩
  · refine (h.2.2.1.kept (fun a _ ha => oq a (fun e => ha (by rw [e]; exact zx_rho_in hi3)))).cong (fun j _ => hk j) (fun j _ => hl j) (fun j hj => h1 j (by omega))
  · by_cases e : j = i
    · subst e; exact hc
    · rw [hn] at hj
      exact ((h.2.2.2 j hj3 hj).kept (oq _ (fun q => e (zx_rho_inj hj3 hi3 q)))).cong (hk j) (hl j) (h1 j e) (h2 j e) (h3 j e)
/-- a new cell -/
theorem zx_R.push {E : zx_E} {M : zx_M} {U : State} {H H1 : Heap} {kd ln z : Nat} (h : zx_R E M U H) (hz : H1.size = H.size + 1) (oq : ∀ q : Nat, q < H.size → H1[q]? = H[q]?) (hc : zx_cell E (zx_nw M kd ln z) (zx_n M) H1) : zx_R E (zx_nw M kd ln z) U H1 := by
  have e0 := h.1
  have e1 := h.2.1
  have en : zx_n (zx_nw M kd ln z) = zx_n M + 1 := rfl
  refine ⟨by omega, by omega, ?_, fun j hj3 hj => ?_⟩
  · refine (h.2.2.1.kept (fun a ha _ => oq a ha)).cong ?_ ?_ ?_ <;> intro j hj <;> have hne : j ≠ zx_n M := by omega
    · simp [zx_kd, zx_nw, zx_u1, hne]
    · simp [zx_ln, zx_nw, zx_u1, hne]
    · simp [zx_nw, zx_ur, hne]
  · by_cases e : j = zx_n M
    · subst e; exact hc
    · have hj' : j < zx_n M := by omega
      refine ((h.2.2.2 j hj3 hj').kept (oq _ (h.ltH hj3 hj'))).cong ?_ ?_ ?_ ?_ ?_ <;> simp [zx_kd, zx_ln, zx_nw, zx_u1, zx_ur, e]
theorem zx_R.at {E : zx_E} {M : zx_M} {U : State} {H : Heap} (h : zx_R E M U H) : H.size = zx_rho E (zx_n M) := by
  rw [zx_rho_ge h.1]; have := h.1; have := h.2.1; omega
/-! ===== locals ===== -/
def zx_L (E : zx_E) (nL : Nat) (ls : List (Option Value)) (la : Array Slot) : Prop := la.size = nL ∧ lv_wf la ∧ ∀ (i : Nat) (v : Value), ls[i]? = some (some v) → la[i]? = some (.val (zx_v E v))
def zx_lv (E : zx_E) (ls : List (Option Value)) : List (Nat × Value) := (List.range ls.length).filterMap (fun i => match ls[i]? with
  | some (some v) => some (i, zx_v E v)
  | _ => none)
theorem zx_lv_mem {E : zx_E} {ls : List (Option Value)} {i : Nat} {v : Value} (h : ls[i]? = some (some v)) : (i, zx_v E v) ∈ zx_lv E ls := by
  refine List.mem_filterMap.mpr ⟨i, List.mem_range.mpr (List.getElem?_eq_some_iff.mp h).1, ?_⟩
  rw [h]
theorem zx_L.has {E : zx_E} {nL : Nat} {ls : List (Option Value)} {la : Array Slot} (h : zx_L E nL ls la) : lv_has la nL (zx_lv E ls) := by
  refine ⟨h.1, h.2.1, fun q hq => ?_⟩
  obtain ⟨i, -, hi⟩ := List.mem_filterMap.mp hq
  split at hi
  · rename_i v hv
    cases hi
    exact h.2.2 i v hv
  · cases hi
theorem zx_cat (E : zx_E) (v : Value) : (zx_v E v).category = v.category := by cases v <;> rfl
/-- a store of one slot, of two slots -/
def zx_s1 (ls : List (Option Value)) (i : Nat) (v : Value) : List (Option Value) := match i with
  | 0 => ls.set 0 (some v)
  | j + 1 => match ls[j]? with
    | some (some (.long _)) => (ls.set j none).set (j + 1) (some v)
    | some (some (.double _)) => (ls.set j none).set (j + 1) (some v)
    | _ => ls.set (j + 1) (some v)
def zx_s2 (ls : List (Option Value)) (i : Nat) (v : Value) : List (Option Value) := (zx_s1 ls i v).set (i + 1) none
theorem zx_s1_get {ls : List (Option Value)} {i j : Nat} {v w : Value} (h : (zx_s1 ls i v)[j]? = some (some w)) : (j = i ∧ w = v) ∨ (j ≠ i ∧ ls[j]? = some (some w) ∧ ¬ (j + 1 = i ∧ w.category = 2)) := by
  have key : ∀ ls' : List (Option Value), (ls'.set i (some v))[j]? = some (some w) → (j = i ∧ w = v) ∨ (j ≠ i ∧ ls'[j]? = some (some w)) := by
    intro ls' h
    by_cases e : j = i
    · subst e
      rw [List.getElem?_set] at h
      simp only [if_pos] at h
      split at h
      · cases h; exact Or.inl ⟨rfl, rfl⟩
      · cases h
    · rw [List.getElem?_set_ne (Ne.symm e)] at h
      exact Or.inr ⟨e, h⟩
  have key2 : ∀ jj, (ls.set jj none)[j]? = some (some w) → j ≠ jj ∧ ls[j]? = some (some w) := by
    intro jj h
    by_cases e : j = jj
    · subst e
      rw [List.getElem?_set] at h
      simp only [if_pos] at h
      split at h <;> cases h
    · rw [List.getElem?_set_ne (Ne.symm e)] at h
      exact ⟨e, h⟩
  match i with
  | 0 =>
    rcases key ls h with g | ⟨g1, g2⟩
    · exact Or.inl g
    · exact Or.inr ⟨g1, g2, fun q => by omega⟩
  | jj + 1 =>
    simp only [zx_s1] at h
    split at h
    · rcases key _ h with g | ⟨g1, g2⟩
      · exact Or.inl g
      · obtain ⟨g3, g4⟩ := key2 jj g2
        exact Or.inr ⟨g1, g4, fun q => g3 (by omega)⟩
    · rcases key _ h with g | ⟨g1, g2⟩
      · exact Or.inl g
      · obtain ⟨g3, g4⟩ := key2 jj g2
        exact Or.inr ⟨g1, g4, fun q => g3 (by omega)⟩
    · rename_i n1 n2
      rcases key _ h with g | ⟨g1, g2⟩
      · exact Or.inl g
      · refine Or.inr ⟨g1, g2, fun q => ?_⟩
        have e : j = jj := by omega
        subst e
        cases w with
        | long x => exact n1 x g2
        | double x => exact n2 x g2
        | _ => simp [Value.category] at q
theorem zx_L.s1 {E : zx_E} {nL : Nat} {ls : List (Option Value)} {la : Array Slot} {i : Nat} {v : Value} (h : lv_has la nL ((i, zx_v E v) :: (zx_lv E ls).filter (fun q => !(q.1 == i) && !(q.1 + 1 == i && q.2.category == 2)))) : zx_L E nL (zx_s1 ls i v) la := by
  refine ⟨h.1, h.2.1, fun j w hj => ?_⟩
  rcases zx_s1_get hj with ⟨rfl, rfl⟩ | ⟨h1, h2, h3⟩
  · exact h.2.2 (j, zx_v E w) List.mem_cons_self
  · refine h.2.2 (j, zx_v E w) (List.mem_cons_of_mem _ (List.mem_filter.mpr ⟨zx_lv_mem h2, ?_⟩))
    simp only [zx_cat, Bool.and_eq_true, Bool.not_eq_true', beq_eq_false_iff_ne, ne_eq, Bool.and_eq_false_iff]
    refine ⟨h1, ?_⟩
    by_cases e : j + 1 = i
    · exact Or.inr (fun q => h3 ⟨e, q⟩)
    · exact Or.inl e
theorem zx_L.s2 {E : zx_E} {nL : Nat} {ls : List (Option Value)} {la : Array Slot} {i : Nat} {v : Value} (h : lv_has la nL ((i, zx_v E v) :: (zx_lv E ls).filter (fun q => !(q.1 == i) && (!(q.1 == i + 1) && !(q.1 + 1 == i && q.2.category == 2))))) : zx_L E nL (zx_s2 ls i v) la := by
  refine ⟨h.1, h.2.1, fun j w hj => ?_⟩
  have hj2 : j ≠ i + 1 ∧ (zx_s1 ls i v)[j]? = some (some w) := by
    unfold zx_s2 at hj
    by_cases e : j = i + 1
    · subst e
      rw [List.getElem?_set] at hj
      simp only [if_pos] at hj
      split at hj <;> cases hj
    · rw [List.getElem?_set_ne (Ne.symm e)] at hj
      exact ⟨e, hj⟩
  rcases zx_s1_get hj2.2 with ⟨rfl, rfl⟩ | ⟨h1, h2, h3⟩
  · exact h.2.2 (j, zx_v E w) List.mem_cons_self
  · refine h.2.2 (j, zx_v E w) (List.mem_cons_of_mem _ (List.mem_filter.mpr ⟨zx_lv_mem h2, ?_⟩))
    simp only [zx_cat, Bool.and_eq_true, Bool.not_eq_true', beq_eq_false_iff_ne, ne_eq, Bool.and_eq_false_iff]
    refine ⟨h1, hj2.1, ?_⟩
    by_cases e : j + 1 = i
    · exact Or.inr (fun q => h3 ⟨e, q⟩)
    · exact Or.inl e
end
section
/-! ===== one method's run: from a state to its return ===== -/
def zx_F (E : zx_E) (d k : Nat) (p : Program) (R : Room) (s : State) (m : MethodId) (args : Array Value) (meth : Method) (c : Code) : Prop :=
  p.tables.exec = Jvm.exec ∧ c.code = zx_b k ∧ c.maxLocals = zx_mL k ∧ s.vm.findClass (zx_own k) = some m.cls ∧ (∀ w ∈ zx_good, w.before args s = true) ∧ zx_K E s ∧ d ≤ R.frames ∧ 64 * d ≤ R.locals ∧ meth.name = (zx_y k).name
def zx_B (E : zx_E) (locs : List Loc) : Prop := ∀ q ∈ locs, zx_A E q.base
def zx_ri (r : Option Value) : Instr := match r with
  | some (.int _) => .ireturn
  | some (.long _) => .lreturn
  | _ => .return_
def zx_Z (l : Launch) (E : zx_E) (d k pc : Nat) (ls : List (Option Value)) (st : List Value) (M : zx_M) (r : Option Value) (M' : zx_M) : Prop :=
  zx_n M ≤ zx_n M' ∧ zx_sl M ≤ zx_sl M' ∧
  ∀ (p : Program) (e : Env) (R : Room) (s : State) (m : MethodId) (args : Array Value) (below : List Frame) (meth : Method) (c : Code), zx_F E d k p R s m args meth c →
  ∀ (Q : State → Prop) (CF SF : Nat), CF ≤ R.cells → SF ≤ R.slots →
  (∀ (pc' : Nat) (la' : Array Slot) (H' : Heap) (locs' : List Loc), decode (zx_b k) pc' = .ok (zx_ri r, 1) → zx_R E M' s H' → zx_B E locs' → W p l e R s m args below meth c H' locs' CF SF Q (F0 m pc' la' (r.map (zx_v E)).toList)) →
  ∀ (H : Heap) (locs : List Loc) (cells slots : Nat) (la : Array Slot), zx_R E M s H → zx_L E (zx_mL k) ls la → zx_B E locs → cells + (zx_n M' - zx_n M) = CF → slots + (zx_sl M' - zx_sl M) = SF →
  W p l e R s m args below meth c H locs cells slots Q (F0 m pc la (st.map (zx_v E)))
/-- what may be returned -/
def zx_rok (k : Nat) (r : Option Value) : Prop := match r with
  | none => zx_rt k = none
  | some (.int v) => ∃ ty, zx_rt k = some ty ∧ narrow ty (.int v) = .int v
  | some (.long _) => zx_rt k = some .long
  | _ => False
/-- from this state the method returns, with an answer and a memory of this sort -/
def zx_To (l : Launch) (E : zx_E) (d k pc : Nat) (ls : List (Option Value)) (st : List Value) (M : zx_M) (Q : Option Value → zx_M → Prop) : Prop := ∃ r M', Q r M' ∧ zx_rok k r ∧ zx_Z l E d k pc ls st M r M'
section ZS
variable {l : Launch} {E : zx_E} {d k pc pc1 : Nat} {ls ls1 : List (Option Value)} {st st1 : List Value} {M M1 : zx_M} {r : Option Value} {M' : zx_M} {Qo : Option Value → zx_M → Prop}
/-- a step that makes no cell -/
theorem zx_Zs (hn : zx_n M1 = zx_n M) (hs : zx_sl M1 = zx_sl M)
    (hW : ∀ (p : Program) (e : Env) (R : Room) (s : State) (m : MethodId) (args : Array Value) (below : List Frame) (meth : Method) (c : Code), zx_F E d k p R s m args meth c →
      ∀ (Q : State → Prop) (H : Heap) (locs : List Loc) (cells slots : Nat) (la : Array Slot), cells ≤ R.cells → slots ≤ R.slots → zx_R E M s H → zx_L E (zx_mL k) ls la → zx_B E locs →
      (∀ (H1 : Heap) (locs1 : List Loc) (la1 : Array Slot), zx_R E M1 s H1 → zx_L E (zx_mL k) ls1 la1 → zx_B E locs1 → W p l e R s m args below meth c H1 locs1 cells slots Q (F0 m pc1 la1 (st1.map (zx_v E)))) →
      W p l e R s m args below meth c H locs cells slots Q (F0 m pc la (st.map (zx_v E))))
    (hz : zx_To l E d k pc1 ls1 st1 M1 Qo) : zx_To l E d k pc ls st M Qo := by
  obtain ⟨r, M', hq, ho, h1, h2, h3⟩ := hz
  refine ⟨r, M', hq, ho, by omega, by omega, fun p e R s m args below meth c hF Q CF SF hC hS hret H locs cells slots la hR hL hB e1 e2 => ?_⟩
  refine hW p e R s m args below meth c hF Q H locs cells slots la (by omega) (by omega) hR hL hB (fun H1 locs1 la1 hR1 hL1 hB1 => ?_)
  exact h3 p e R s m args below meth c hF Q CF SF hC hS hret H1 locs1 cells slots la1 hR1 hL1 hB1 (by omega) (by omega)
/-- a step that changes the stack alone -/
theorem zx_Za (hW : ∀ (p : Program) (e : Env) (R : Room) (s : State) (m : MethodId) (args : Array Value) (below : List Frame) (meth : Method) (c : Code), zx_F E d k p R s m args meth c →
      ∀ (Q : State → Prop) (H : Heap) (locs : List Loc) (cells slots : Nat) (la : Array Slot), zx_L E (zx_mL k) ls la → 
      W p l e R s m args below meth c H locs cells slots Q (F0 m pc1 la (st1.map (zx_v E))) →
      W p l e R s m args below meth c H locs cells slots Q (F0 m pc la (st.map (zx_v E))))
    (hz : zx_To l E d k pc1 ls st1 M Qo) : zx_To l E d k pc ls st M Qo :=
  zx_Zs rfl rfl (fun p e R s m args below meth c hF Q H locs cells slots la _ _ hR hL hB kk => hW p e R s m args below meth c hF Q H locs cells slots la hL (kk H locs la hR hL hB)) hz
/-- a jump that goes one of two ways -/
theorem zx_Zb {pc2 : Nat} {c0 : Prop} [Decidable c0] (hW : ∀ (p : Program) (e : Env) (R : Room) (s : State) (m : MethodId) (args : Array Value) (below : List Frame) (meth : Method) (c : Code), zx_F E d k p R s m args meth c →
      ∀ (Q : State → Prop) (H : Heap) (locs : List Loc) (cells slots : Nat) (la : Array Slot),
      (c0 → W p l e R s m args below meth c H locs cells slots Q (F0 m pc1 la (st1.map (zx_v E)))) → (¬ c0 → W p l e R s m args below meth c H locs cells slots Q (F0 m pc2 la (st1.map (zx_v E)))) →
      W p l e R s m args below meth c H locs cells slots Q (F0 m pc la (st.map (zx_v E))))
    (h1 : c0 → zx_To l E d k pc1 ls st1 M Qo) (h2 : ¬ c0 → zx_To l E d k pc2 ls st1 M Qo) : zx_To l E d k pc ls st M Qo := by
  by_cases hc : c0
  · exact zx_Za (fun p e R s m args below meth c hF Q H locs cells slots la _ kk => hW p e R s m args below meth c hF Q H locs cells slots la (fun _ => kk) (fun n => absurd hc n)) (h1 hc)
  · exact zx_Za (fun p e R s m args below meth c hF Q H locs cells slots la _ kk => hW p e R s m args below meth c hF Q H locs cells slots la (fun n => absurd n hc) (fun _ => kk)) (h2 hc)
end ZS
/-! ===== the instructions that change the stack alone ===== -/
def zx_alu (ins : Instr) (v : Int32) (w : Int64) (st : List Value) : Option (Option Prop × List Value) := match ins with
  | .iconst _ => some (none, .int v :: st)
  | .bipush _ => some (none, .int v :: st)
  | .sipush _ => some (none, .int v :: st)
  | .ldc _ => some (none, .int v :: st)
  | .ldc_w _ => some (none, .int v :: st)
  | .lconst _ => some (none, .long w :: st)
  | .ldc2_w _ => some (none, .long w :: st)
  | .iadd => match st with
    | .int y :: .int x :: st => some (none, .int (x + y) :: st)
    | _ => none
  | .isub => match st with
    | .int y :: .int x :: st => some (none, .int (x - y) :: st)
    | _ => none
  | .imul => match st with
    | .int y :: .int x :: st => some (none, .int (x * y) :: st)
    | _ => none
  | .idiv => match st with
    | .int y :: .int x :: st => some (some (¬ y = 0), .int (x / y) :: st)
    | _ => none
  | .irem => match st with
    | .int y :: .int x :: st => some (some (¬ y = 0), .int (x - x / y * y) :: st)
    | _ => none
  | .iand => match st with
    | .int y :: .int x :: st => some (none, .int (x &&& y) :: st)
    | _ => none
  | .ior => match st with
    | .int y :: .int x :: st => some (none, .int (x ||| y) :: st)
    | _ => none
  | .ixor => match st with
    | .int y :: .int x :: st => some (none, .int (x ^^^ y) :: st)
    | _ => none
  | .ishl => match st with
    | .int y :: .int x :: st => some (none, .int (x <<< (y &&& 31)) :: st)
    | _ => none
  | .ishr => match st with
    | .int y :: .int x :: st => some (none, .int (x >>> (y &&& 31)) :: st)
    | _ => none
  | .iushr => match st with
    | .int y :: .int x :: st => some (none, .int (x.toUInt32 >>> (y.toUInt32 &&& Int32.toUInt32 31)).toInt32 :: st)
    | _ => none
  | .ladd => match st with
    | .long y :: .long x :: st => some (none, .long (x + y) :: st)
    | _ => none
  | .lsub => match st with
    | .long y :: .long x :: st => some (none, .long (x - y) :: st)
    | _ => none
  | .lmul => match st with
    | .long y :: .long x :: st => some (none, .long (x * y) :: st)
    | _ => none
  | .lrem => match st with
    | .long y :: .long x :: st => some (some (¬ y = 0), .long (x - x / y * y) :: st)
    | _ => none
  | .land => match st with
    | .long y :: .long x :: st => some (none, .long (x &&& y) :: st)
    | _ => none
  | .lor => match st with
    | .long y :: .long x :: st => some (none, .long (x ||| y) :: st)
    | _ => none
  | .lxor => match st with
    | .long y :: .long x :: st => some (none, .long (x ^^^ y) :: st)
    | _ => none
  | .lshl => match st with
    | .int y :: .long x :: st => some (none, .long (x <<< (y.toInt64 &&& 63)) :: st)
    | _ => none
  | .lshr => match st with
    | .int y :: .long x :: st => some (none, .long (x >>> (y.toInt64 &&& 63)) :: st)
    | _ => none
  | .lushr => match st with
    | .int y :: .long x :: st => some (none, .long (x.toUInt64 >>> (y.toInt64.toUInt64 &&& Int64.toUInt64 63)).toInt64 :: st)
    | _ => none
  | .lcmp => match st with
    | .long y :: .long x :: st => some (none, .int (lg_cmp x y) :: st)
    | _ => none
  | .i2l => match st with
    | .int x :: st => some (none, .long x.toInt64 :: st)
    | _ => none
  | .l2i => match st with
    | .long x :: st => some (none, .int x.toInt32 :: st)
    | _ => none
  | .i2b => match st with
    | .int x :: st => some (none, .int x.toInt8.toInt32 :: st)
    | _ => none
  | .i2s => match st with
    | .int x :: st => some (none, .int x.toInt16.toInt32 :: st)
    | _ => none
  | .dup => match st with
    | .int x :: st => some (none, .int x :: .int x :: st)
    | .ref x :: st => some (none, .ref x :: .ref x :: st)
    | _ => none
  | .dup2 => match st with
    | .int y :: .ref x :: st => some (none, .int y :: .ref x :: .int y :: .ref x :: st)
    | .int y :: .int x :: st => some (none, .int y :: .int x :: .int y :: .int x :: st)
    | _ => none
  | .pop => match st with
    | .int _ :: st => some (none, st)
    | .ref _ :: st => some (none, st)
    | _ => none
  | _ => none
def zx_oc (c : Option Prop) : Prop := match c with
  | none => True
  | some q => q
theorem zx_chk_opr {k pc len p a b : Nat} {ins : Instr} {v : Int32} {w : Int64} (h : zx_chk k (pc, len, ins, v, w, p, a, b) = true) : zx_opr k pc ins v w p a b = true := by
  simp only [zx_chk, Bool.and_eq_true] at h
  exact h.2
theorem zx_chk_dec {k pc len p a b : Nat} {ins : Instr} {v : Int32} {w : Int64} (h : zx_chk k (pc, len, ins, v, w, p, a, b) = true) : decode (zx_b k) pc = .ok (ins, len) ∧ (zx_len ins = 0 ∨ len = zx_len ins) := by
  simp only [zx_chk, Bool.and_eq_true, decide_eq_true_eq] at h
  obtain ⟨⟨h1, h2⟩, -⟩ := h
  refine ⟨?_, h2⟩
  split at h1
  · rename_i q hq
    rw [hq, of_decide_eq_true h1]
  · cases h1
set_option maxHeartbeats 2000000 in
theorem zx_alu_ok {l : Launch} {E : zx_E} {d k pc len p a b : Nat} {ins : Instr} {v : Int32} {w : Int64} {ls : List (Option Value)} {st st1 : List Value} {M : zx_M} {c0 : Option Prop} {Qo : Option Value → zx_M → Prop} (hc : zx_chk k (pc, len, ins, v, w, p, a, b) = true) (ha : zx_alu ins v w st = some (c0, st1)) (hp : zx_oc c0)
    (hz : zx_To l E d k (pc + len) ls st1 M Qo) : zx_To l E d k pc ls st M Qo := by
  obtain ⟨hd, hl⟩ := zx_chk_dec hc
  have hk := zx_chk_opr hc
  cases ins with
  | iadd =>
    simp only [zx_len] at hl
    simp only [zx_alu] at ha
    split at ha
    · cases ha; rcases hl with hl | hl <;> first | (cases hl; done) | subst hl
      refine zx_Za (fun p e R s m args below meth c hF Q H locs cells slots la hL kk => ?_) hz
      obtain ⟨hx, hb, -, hown, hts, -⟩ := hF
      exact lv_iadd hx hb hd kk
    · cases ha
  | isub =>
    simp only [zx_len] at hl
    simp only [zx_alu] at ha
    split at ha
    · cases ha; rcases hl with hl | hl <;> first | (cases hl; done) | subst hl
      refine zx_Za (fun p e R s m args below meth c hF Q H locs cells slots la hL kk => ?_) hz
      obtain ⟨hx, hb, -, hown, hts, -⟩ := hF
      exact lv_isub hx hb hd kk
    · cases ha
  | imul =>
    simp only [zx_len] at hl
    simp only [zx_alu] at ha
    split at ha
    · cases ha; rcases hl with hl | hl <;> first | (cases hl; done) | subst hl
      refine zx_Za (fun p e R s m args below meth c hF Q H locs cells slots la hL kk => ?_) hz
      obtain ⟨hx, hb, -, hown, hts, -⟩ := hF
      exact lv_imul hx hb hd kk
    · cases ha
  | iand =>
    simp only [zx_len] at hl
    simp only [zx_alu] at ha
    split at ha
    · cases ha; rcases hl with hl | hl <;> first | (cases hl; done) | subst hl
      refine zx_Za (fun p e R s m args below meth c hF Q H locs cells slots la hL kk => ?_) hz
      obtain ⟨hx, hb, -, hown, hts, -⟩ := hF
      exact lv_iand hx hb hd kk
    · cases ha
  | ior =>
    simp only [zx_len] at hl
    simp only [zx_alu] at ha
    split at ha
    · cases ha; rcases hl with hl | hl <;> first | (cases hl; done) | subst hl
      refine zx_Za (fun p e R s m args below meth c hF Q H locs cells slots la hL kk => ?_) hz
      obtain ⟨hx, hb, -, hown, hts, -⟩ := hF
      exact lv_ior hx hb hd kk
    · cases ha
  | ixor =>
    simp only [zx_len] at hl
    simp only [zx_alu] at ha
    split at ha
    · cases ha; rcases hl with hl | hl <;> first | (cases hl; done) | subst hl
      refine zx_Za (fun p e R s m args below meth c hF Q H locs cells slots la hL kk => ?_) hz
      obtain ⟨hx, hb, -, hown, hts, -⟩ := hF
      exact lv_ixor hx hb hd kk
    · cases ha
  | ishl =>
    simp only [zx_len] at hl
    simp only [zx_alu] at ha
    split at ha
    · cases ha; rcases hl with hl | hl <;> first | (cases hl; done) | subst hl
      refine zx_Za (fun p e R s m args below meth c hF Q H locs cells slots la hL kk => ?_) hz
      obtain ⟨hx, hb, -, hown, hts, -⟩ := hF
      exact lv_ishl hx hb hd kk
    · cases ha
  | ishr =>
    simp only [zx_len] at hl
    simp only [zx_alu] at ha
    split at ha
    · cases ha; rcases hl with hl | hl <;> first | (cases hl; done) | subst hl
      refine zx_Za (fun p e R s m args below meth c hF Q H locs cells slots la hL kk => ?_) hz
      obtain ⟨hx, hb, -, hown, hts, -⟩ := hF
      exact lv_ishr hx hb hd kk
    · cases ha
  | ladd =>
    simp only [zx_len] at hl
    simp only [zx_alu] at ha
    split at ha
    · cases ha; rcases hl with hl | hl <;> first | (cases hl; done) | subst hl
      refine zx_Za (fun p e R s m args below meth c hF Q H locs cells slots la hL kk => ?_) hz
      obtain ⟨hx, hb, -, hown, hts, -⟩ := hF
      exact lv_ladd hx hb hd kk
    · cases ha
  | lsub =>
    simp only [zx_len] at hl
    simp only [zx_alu] at ha
    split at ha
    · cases ha; rcases hl with hl | hl <;> first | (cases hl; done) | subst hl
      refine zx_Za (fun p e R s m args below meth c hF Q H locs cells slots la hL kk => ?_) hz
      obtain ⟨hx, hb, -, hown, hts, -⟩ := hF
      exact lv_lsub hx hb hd kk
    · cases ha
  | lmul =>
    simp only [zx_len] at hl
    simp only [zx_alu] at ha
    split at ha
    · cases ha; rcases hl with hl | hl <;> first | (cases hl; done) | subst hl
      refine zx_Za (fun p e R s m args below meth c hF Q H locs cells slots la hL kk => ?_) hz
      obtain ⟨hx, hb, -, hown, hts, -⟩ := hF
      exact lv_lmul hx hb hd kk
    · cases ha
  | land =>
    simp only [zx_len] at hl
    simp only [zx_alu] at ha
    split at ha
    · cases ha; rcases hl with hl | hl <;> first | (cases hl; done) | subst hl
      refine zx_Za (fun p e R s m args below meth c hF Q H locs cells slots la hL kk => ?_) hz
      obtain ⟨hx, hb, -, hown, hts, -⟩ := hF
      exact lv_land hx hb hd kk
    · cases ha
  | lor =>
    simp only [zx_len] at hl
    simp only [zx_alu] at ha
    split at ha
    · cases ha; rcases hl with hl | hl <;> first | (cases hl; done) | subst hl
      refine zx_Za (fun p e R s m args below meth c hF Q H locs cells slots la hL kk => ?_) hz
      obtain ⟨hx, hb, -, hown, hts, -⟩ := hF
      exact lv_lor hx hb hd kk
    · cases ha
  | lxor =>
    simp only [zx_len] at hl
    simp only [zx_alu] at ha
    split at ha
    · cases ha; rcases hl with hl | hl <;> first | (cases hl; done) | subst hl
      refine zx_Za (fun p e R s m args below meth c hF Q H locs cells slots la hL kk => ?_) hz
      obtain ⟨hx, hb, -, hown, hts, -⟩ := hF
      exact lv_lxor hx hb hd kk
    · cases ha
  | idiv =>
    simp only [zx_len] at hl
    simp only [zx_alu] at ha
    split at ha
    · cases ha; rcases hl with hl | hl <;> first | (cases hl; done) | subst hl
      refine zx_Za (fun p e R s m args below meth c hF Q H locs cells slots la hL kk => ?_) hz
      obtain ⟨hx, hb, -, hown, hts, -⟩ := hF
      exact lv_idiv hx hb hd hp kk
    · cases ha
  | irem =>
    simp only [zx_len] at hl
    simp only [zx_alu] at ha
    split at ha
    · cases ha; rcases hl with hl | hl <;> first | (cases hl; done) | subst hl
      refine zx_Za (fun p e R s m args below meth c hF Q H locs cells slots la hL kk => ?_) hz
      obtain ⟨hx, hb, -, hown, hts, -⟩ := hF
      exact lv_irem hx hb hd hp kk
    · cases ha
  | lrem =>
    simp only [zx_len] at hl
    simp only [zx_alu] at ha
    split at ha
    · cases ha; rcases hl with hl | hl <;> first | (cases hl; done) | subst hl
      refine zx_Za (fun p e R s m args below meth c hF Q H locs cells slots la hL kk => ?_) hz
      obtain ⟨hx, hb, -, hown, hts, -⟩ := hF
      exact lv_lrem hx hb hd hp kk
    · cases ha
  | iushr =>
    simp only [zx_len] at hl
    simp only [zx_alu] at ha
    split at ha
    · cases ha; rcases hl with hl | hl <;> first | (cases hl; done) | subst hl
      refine zx_Za (fun p e R s m args below meth c hF Q H locs cells slots la hL kk => ?_) hz
      obtain ⟨hx, hb, -, hown, hts, -⟩ := hF
      exact lv_iushr hx hb hd rfl kk
    · cases ha
  | lshl =>
    simp only [zx_len] at hl
    simp only [zx_alu] at ha
    split at ha
    · cases ha; rcases hl with hl | hl <;> first | (cases hl; done) | subst hl
      refine zx_Za (fun p e R s m args below meth c hF Q H locs cells slots la hL kk => ?_) hz
      obtain ⟨hx, hb, -, hown, hts, -⟩ := hF
      exact lv_lshl hx hb hd rfl kk
    · cases ha
  | lshr =>
    simp only [zx_len] at hl
    simp only [zx_alu] at ha
    split at ha
    · cases ha; rcases hl with hl | hl <;> first | (cases hl; done) | subst hl
      refine zx_Za (fun p e R s m args below meth c hF Q H locs cells slots la hL kk => ?_) hz
      obtain ⟨hx, hb, -, hown, hts, -⟩ := hF
      exact lv_lshr hx hb hd rfl kk
    · cases ha
  | lushr =>
    simp only [zx_len] at hl
    simp only [zx_alu] at ha
    split at ha
    · cases ha; rcases hl with hl | hl <;> first | (cases hl; done) | subst hl
      refine zx_Za (fun p e R s m args below meth c hF Q H locs cells slots la hL kk => ?_) hz
      obtain ⟨hx, hb, -, hown, hts, -⟩ := hF
      exact lv_lushr hx hb hd rfl kk
    · cases ha
  | i2l =>
    simp only [zx_len] at hl
    simp only [zx_alu] at ha
    split at ha
    · cases ha; rcases hl with hl | hl <;> first | (cases hl; done) | subst hl
      refine zx_Za (fun p e R s m args below meth c hF Q H locs cells slots la hL kk => ?_) hz
      obtain ⟨hx, hb, -, hown, hts, -⟩ := hF
      exact lv_i2l hx hb hd rfl kk
    · cases ha
  | l2i =>
    simp only [zx_len] at hl
    simp only [zx_alu] at ha
    split at ha
    · cases ha; rcases hl with hl | hl <;> first | (cases hl; done) | subst hl
      refine zx_Za (fun p e R s m args below meth c hF Q H locs cells slots la hL kk => ?_) hz
      obtain ⟨hx, hb, -, hown, hts, -⟩ := hF
      exact lv_l2i hx hb hd rfl kk
    · cases ha
  | i2b =>
    simp only [zx_len] at hl
    simp only [zx_alu] at ha
    split at ha
    · cases ha; rcases hl with hl | hl <;> first | (cases hl; done) | subst hl
      refine zx_Za (fun p e R s m args below meth c hF Q H locs cells slots la hL kk => ?_) hz
      obtain ⟨hx, hb, -, hown, hts, -⟩ := hF
      exact lv_i2b hx hb hd rfl kk
    · cases ha
  | i2s =>
    simp only [zx_len] at hl
    simp only [zx_alu] at ha
    split at ha
    · cases ha; rcases hl with hl | hl <;> first | (cases hl; done) | subst hl
      refine zx_Za (fun p e R s m args below meth c hF Q H locs cells slots la hL kk => ?_) hz
      obtain ⟨hx, hb, -, hown, hts, -⟩ := hF
      exact lv_i2s hx hb hd rfl kk
    · cases ha
  | lcmp =>
    simp only [zx_len] at hl
    simp only [zx_alu] at ha
    split at ha
    · cases ha; rcases hl with hl | hl <;> first | (cases hl; done) | subst hl
      refine zx_Za (fun p e R s m args below meth c hF Q H locs cells slots la hL kk => ?_) hz
      obtain ⟨hx, hb, -, hown, hts, -⟩ := hF
      exact W.lcmp hx hb hd kk
    · cases ha
  | dup =>
    simp only [zx_len] at hl
    simp only [zx_alu] at ha
    split at ha
    · cases ha; rcases hl with hl | hl <;> first | (cases hl; done) | subst hl
      refine zx_Za (fun p e R s m args below meth c hF Q H locs cells slots la hL kk => ?_) hz
      obtain ⟨hx, hb, -, hown, hts, -⟩ := hF
      exact lv_dup hx hb hd rfl kk
    · cases ha; rcases hl with hl | hl <;> first | (cases hl; done) | subst hl
      refine zx_Za (fun p e R s m args below meth c hF Q H locs cells slots la hL kk => ?_) hz
      obtain ⟨hx, hb, -, hown, hts, -⟩ := hF
      exact lv_dup hx hb hd rfl kk
    · cases ha
  | dup2 =>
    simp only [zx_len] at hl
    simp only [zx_alu] at ha
    split at ha
    · cases ha; rcases hl with hl | hl <;> first | (cases hl; done) | subst hl
      refine zx_Za (fun p e R s m args below meth c hF Q H locs cells slots la hL kk => ?_) hz
      obtain ⟨hx, hb, -, hown, hts, -⟩ := hF
      exact lv_dup2_11 hx hb hd rfl rfl kk
    · cases ha; rcases hl with hl | hl <;> first | (cases hl; done) | subst hl
      refine zx_Za (fun p e R s m args below meth c hF Q H locs cells slots la hL kk => ?_) hz
      obtain ⟨hx, hb, -, hown, hts, -⟩ := hF
      exact lv_dup2_11 hx hb hd rfl rfl kk
    · cases ha
  | pop =>
    simp only [zx_len] at hl
    simp only [zx_alu] at ha
    split at ha
    · cases ha; rcases hl with hl | hl <;> first | (cases hl; done) | subst hl
      refine zx_Za (fun p e R s m args below meth c hF Q H locs cells slots la hL kk => ?_) hz
      obtain ⟨hx, hb, -, hown, hts, -⟩ := hF
      exact lv_pop hx hb hd rfl kk
    · cases ha; rcases hl with hl | hl <;> first | (cases hl; done) | subst hl
      refine zx_Za (fun p e R s m args below meth c hF Q H locs cells slots la hL kk => ?_) hz
      obtain ⟨hx, hb, -, hown, hts, -⟩ := hF
      exact lv_pop hx hb hd rfl kk
    · cases ha
  | iconst n =>
    simp only [zx_len] at hl
    simp only [zx_alu] at ha
    cases ha; rcases hl with hl | hl <;> first | (cases hl; done) | subst hl
    refine zx_Za (fun p e R s m args below meth c hF Q H locs cells slots la hL kk => ?_) hz
    obtain ⟨hx, hb, -, hown, hts, -⟩ := hF
    exact lv_iconst hx hb hd (of_decide_eq_true hk) kk
  | bipush n =>
    simp only [zx_len] at hl
    simp only [zx_alu] at ha
    cases ha; rcases hl with hl | hl <;> first | (cases hl; done) | subst hl
    refine zx_Za (fun p e R s m args below meth c hF Q H locs cells slots la hL kk => ?_) hz
    obtain ⟨hx, hb, -, hown, hts, -⟩ := hF
    exact lv_bipush hx hb hd (of_decide_eq_true hk) kk
  | sipush n =>
    simp only [zx_len] at hl
    simp only [zx_alu] at ha
    cases ha; rcases hl with hl | hl <;> first | (cases hl; done) | subst hl
    refine zx_Za (fun p e R s m args below meth c hF Q H locs cells slots la hL kk => ?_) hz
    obtain ⟨hx, hb, -, hown, hts, -⟩ := hF
    exact lv_sipush hx hb hd (of_decide_eq_true hk) kk
  | lconst n =>
    simp only [zx_len] at hl
    simp only [zx_alu] at ha
    cases ha; rcases hl with hl | hl <;> first | (cases hl; done) | subst hl
    refine zx_Za (fun p e R s m args below meth c hF Q H locs cells slots la hL kk => ?_) hz
    obtain ⟨hx, hb, -, hown, hts, -⟩ := hF
    exact lv_lconst hx hb hd (of_decide_eq_true hk) kk
  | ldc n =>
    simp only [zx_len] at hl
    simp only [zx_alu] at ha
    cases ha; rcases hl with hl | hl <;> first | (cases hl; done) | subst hl
    refine zx_Za (fun p e R s m args below meth c hF Q H locs cells slots la hL kk => ?_) hz
    obtain ⟨hx, hb, -, hown, hts, -⟩ := hF
    exact lv_ldc hx hb hown (hts _ (zx_w_mem hk)) hd kk
  | ldc_w n =>
    simp only [zx_len] at hl
    simp only [zx_alu] at ha
    cases ha; rcases hl with hl | hl <;> first | (cases hl; done) | subst hl
    refine zx_Za (fun p e R s m args below meth c hF Q H locs cells slots la hL kk => ?_) hz
    obtain ⟨hx, hb, -, hown, hts, -⟩ := hF
    exact lv_ldcw hx hb hown (hts _ (zx_w_mem hk)) hd kk
  | ldc2_w n =>
    simp only [zx_len] at hl
    simp only [zx_alu] at ha
    cases ha; rcases hl with hl | hl <;> first | (cases hl; done) | subst hl
    refine zx_Za (fun p e R s m args below meth c hF Q H locs cells slots la hL kk => ?_) hz
    obtain ⟨hx, hb, -, hown, hts, -⟩ := hF
    exact lv_ldc2 hx hb hown (hts _ (zx_w_mem hk)) hd kk
  | _ => simp only [zx_alu] at ha; cases ha
end
section
/-! ===== loads, stores, jumps ===== -/
section ZM
variable {l : Launch} {E : zx_E} {d k pc len p0 a b : Nat} {v0 : Int32} {w0 : Int64} {ls : List (Option Value)} {st : List Value} {M : zx_M} {Qo : Option Value → zx_M → Prop}
theorem zx_iload_ok {i : Nat} {x : Int32} {ins : Instr} (hc : zx_chk k (pc, len, ins, v0, w0, p0, a, b) = true) (hi : ins = .iload i ∨ ∃ n : Fin 4, ins = .iload_n n ∧ (n : Nat) = i) (hv : ls[i]? = some (some (.int x)))
    (hz : zx_To l E d k (pc + len) ls (.int x :: st) M Qo) : zx_To l E d k pc ls st M Qo := by
  obtain ⟨hd, hl⟩ := zx_chk_dec hc
  refine zx_Za (fun p e R s m args below meth c hF Q H locs cells slots la hL kk => ?_) hz
  obtain ⟨hx, hb, -⟩ := hF
  have hg := hL.2.2 i _ hv
  rcases hi with rfl | ⟨n, rfl, hn⟩ <;> rcases hl with hl | hl <;> first | (cases hl; done) | skip
  · rw [hl] at hd kk; exact lv_iload hx hb hd hg kk
  · rw [hl] at hd kk; exact lv_iload_n hx hb hd hn hg kk
theorem zx_lload_ok {i : Nat} {x : Int64} {ins : Instr} (hc : zx_chk k (pc, len, ins, v0, w0, p0, a, b) = true) (hi : ins = .lload i ∨ ∃ n : Fin 4, ins = .lload_n n ∧ (n : Nat) = i) (hv : ls[i]? = some (some (.long x)))
    (hz : zx_To l E d k (pc + len) ls (.long x :: st) M Qo) : zx_To l E d k pc ls st M Qo := by
  obtain ⟨hd, hl⟩ := zx_chk_dec hc
  refine zx_Za (fun p e R s m args below meth c hF Q H locs cells slots la hL kk => ?_) hz
  obtain ⟨hx, hb, -⟩ := hF
  have hg := hL.2.2 i _ hv
  rcases hi with rfl | ⟨n, rfl, hn⟩ <;> rcases hl with hl | hl <;> first | (cases hl; done) | skip
  · rw [hl] at hd kk; exact lv_lload hx hb hd hg kk
  · rw [hl] at hd kk; exact lv_lload_n hx hb hd hn hg kk
theorem zx_aload_ok {i : Nat} {x : Nat} {ins : Instr} (hc : zx_chk k (pc, len, ins, v0, w0, p0, a, b) = true) (hi : ins = .aload i ∨ ∃ n : Fin 4, ins = .aload_n n ∧ (n : Nat) = i) (hv : ls[i]? = some (some (.ref x)))
    (hz : zx_To l E d k (pc + len) ls (.ref x :: st) M Qo) : zx_To l E d k pc ls st M Qo := by
  obtain ⟨hd, hl⟩ := zx_chk_dec hc
  refine zx_Za (fun p e R s m args below meth c hF Q H locs cells slots la hL kk => ?_) hz
  obtain ⟨hx, hb, -⟩ := hF
  have hg := hL.2.2 i _ hv
  rcases hi with rfl | ⟨n, rfl, hn⟩ <;> rcases hl with hl | hl <;> first | (cases hl; done) | skip
  · rw [hl] at hd kk; exact lv_aload hx hb hd hg kk
  · rw [hl] at hd kk; exact lv_aload_n hx hb hd hn hg kk
theorem zx_istore_ok {i : Nat} {x : Int32} {ins : Instr} (hc : zx_chk k (pc, len, ins, v0, w0, p0, a, b) = true) (hi : ins = .istore i ∨ ∃ n : Fin 4, ins = .istore_n n ∧ (n : Nat) = i)
    (hz : zx_To l E d k (pc + len) (zx_s1 ls i (.int x)) st M Qo) : zx_To l E d k pc ls (.int x :: st) M Qo := by
  obtain ⟨hd, hl⟩ := zx_chk_dec hc
  have ho := zx_chk_opr hc
  refine zx_Zs rfl rfl (fun p e R s m args below meth c hF Q H locs cells slots la _ _ hR hL hB kk => ?_) hz
  obtain ⟨hx, hb, -⟩ := hF
  rcases hi with rfl | ⟨n, rfl, hn⟩ <;> rcases hl with hl | hl <;> first | (cases hl; done) | skip
  · rw [hl] at hd kk; exact lv_istore hx hb hd hL.has (of_decide_eq_true ho) rfl (fun la1 h1 => kk H locs la1 hR (zx_L.s1 (v := .int x) h1) hB)
  · rw [hl] at hd kk; exact lv_istore_n hx hb hd hn hL.has (by rw [← hn]; exact of_decide_eq_true ho) rfl (fun la1 h1 => kk H locs la1 hR (zx_L.s1 (v := .int _) h1) hB)
theorem zx_astore_ok {i : Nat} {x : Nat} {ins : Instr} (hc : zx_chk k (pc, len, ins, v0, w0, p0, a, b) = true) (hi : ins = .astore i ∨ ∃ n : Fin 4, ins = .astore_n n ∧ (n : Nat) = i)
    (hz : zx_To l E d k (pc + len) (zx_s1 ls i (.ref x)) st M Qo) : zx_To l E d k pc ls (.ref x :: st) M Qo := by
  obtain ⟨hd, hl⟩ := zx_chk_dec hc
  have ho := zx_chk_opr hc
  refine zx_Zs rfl rfl (fun p e R s m args below meth c hF Q H locs cells slots la _ _ hR hL hB kk => ?_) hz
  obtain ⟨hx, hb, -⟩ := hF
  rcases hi with rfl | ⟨n, rfl, hn⟩ <;> rcases hl with hl | hl <;> first | (cases hl; done) | skip
  · rw [hl] at hd kk; exact lv_astore hx hb hd hL.has (of_decide_eq_true ho) rfl (fun la1 h1 => kk H locs la1 hR (zx_L.s1 (v := .ref x) h1) hB)
  · rw [hl] at hd kk; exact lv_astore_n hx hb hd hn hL.has (by rw [← hn]; exact of_decide_eq_true ho) rfl (fun la1 h1 => kk H locs la1 hR (zx_L.s1 (v := .ref x) h1) hB)
theorem zx_lstore_ok {i : Nat} {x : Int64} {ins : Instr} (hc : zx_chk k (pc, len, ins, v0, w0, p0, a, b) = true) (hi : ins = .lstore i ∨ ∃ n : Fin 4, ins = .lstore_n n ∧ (n : Nat) = i)
    (hz : zx_To l E d k (pc + len) (zx_s2 ls i (.long x)) st M Qo) : zx_To l E d k pc ls (.long x :: st) M Qo := by
  obtain ⟨hd, hl⟩ := zx_chk_dec hc
  have ho := zx_chk_opr hc
  refine zx_Zs rfl rfl (fun p e R s m args below meth c hF Q H locs cells slots la _ _ hR hL hB kk => ?_) hz
  obtain ⟨hx, hb, -⟩ := hF
  rcases hi with rfl | ⟨n, rfl, hn⟩ <;> rcases hl with hl | hl <;> first | (cases hl; done) | skip
  · rw [hl] at hd kk; exact lv_lstore hx hb hd hL.has (of_decide_eq_true ho) rfl (fun la1 h1 => kk H locs la1 hR (zx_L.s2 (v := .long x) h1) hB)
  · rw [hl] at hd kk; exact lv_lstore_n hx hb hd hn hL.has (by rw [← hn]; exact of_decide_eq_true ho) rfl (fun la1 h1 => kk H locs la1 hR (zx_L.s2 (v := .long x) h1) hB)
theorem zx_iinc_ok {i : Nat} {n : Int} {x : Int32} (hc : zx_chk k (pc, len, .iinc i n, v0, w0, p0, a, b) = true) (hv : ls[i]? = some (some (.int x)))
    (hz : zx_To l E d k (pc + len) (zx_s1 ls i (.int (x + v0))) st M Qo) : zx_To l E d k pc ls st M Qo := by
  obtain ⟨hd, hl⟩ := zx_chk_dec hc
  have ho := zx_chk_opr hc
  simp only [zx_opr, Bool.and_eq_true, decide_eq_true_eq] at ho
  refine zx_Zs rfl rfl (fun p e R s m args below meth c hF Q H locs cells slots la _ _ hR hL hB kk => ?_) hz
  obtain ⟨hx, hb, -⟩ := hF
  rcases hl with hl | hl <;> first | (cases hl; done) | skip
  obtain ⟨j, hj⟩ := List.getElem?_of_mem (zx_lv_mem (E := E) hv)
  rw [hl] at hd kk
  exact lv_iinc (v := x + v0) hx hb hd hL.has hj (by rw [ho.1]) ho.2 rfl (fun la1 h1 => kk H locs la1 hR (zx_L.s1 (v := .int _) h1) hB)
def zx_cp (c : ClassFile.Cond) (x y : Int32) : Prop := match c with
  | .eq => x = y
  | .ne => ¬ x = y
  | .lt => x < y
  | .ge => y ≤ x
  | .gt => y < x
  | .le => x ≤ y
def zx_co (c : ClassFile.Cond) (x y : Int32) : Prop := match c with
  | .eq => ¬ x = y
  | .ne => x = y
  | .lt => ¬ x < y
  | .ge => ¬ y ≤ x
  | .gt => ¬ y < x
  | .le => ¬ x ≤ y
theorem zx_cpn (c : ClassFile.Cond) (x y : Int32) : (zx_cp c x y ∧ ¬ zx_co c x y) ∨ (zx_co c x y ∧ ¬ zx_cp c x y) := by
  cases c <;> simp only [zx_cp, zx_co] <;> first | (rcases Classical.em (x = y) with h | h <;> simp [h]; done) | (rcases Classical.em (x < y) with h | h <;> simp [h]; done) | (rcases Classical.em (y ≤ x) with h | h <;> simp [h]; done) | (rcases Classical.em (y < x) with h | h <;> simp [h]; done) | (rcases Classical.em (x ≤ y) with h | h <;> simp [h]; done)
theorem zx_icmp_ok {cn : ClassFile.Cond} {off : Int} {x y : Int32} (hc : zx_chk k (pc, len, .if_icmp cn off, v0, w0, p0, a, b) = true)
    (h1 : zx_cp cn x y → zx_To l E d k a ls st M Qo) (h2 : zx_co cn x y → zx_To l E d k (pc + len) ls st M Qo) : zx_To l E d k pc ls (.int y :: .int x :: st) M Qo := by
  obtain ⟨hd, hl⟩ := zx_chk_dec hc
  have ho := zx_chk_opr hc
  simp only [zx_opr, decide_eq_true_eq] at ho
  rcases hl with hl | hl <;> first | (cases hl; done) | skip
  rw [hl] at hd h2
  have key : ∀ (pc1 : Nat), (zx_cp cn x y → pc1 = a) → (zx_co cn x y → pc1 = pc + 3) → zx_To l E d k pc1 ls st M Qo → zx_To l E d k pc ls (.int y :: .int x :: st) M Qo := by
    intro pc1 e1 e2 hz
    refine zx_Za (fun p e R s m args below meth c hF Q H locs cells slots la hL kk => ?_) hz
    obtain ⟨hx, hb, -⟩ := hF
    cases cn
    · exact lv_icmp_eq hx hb hd ho (fun q => e1 q ▸ kk) (fun q => e2 q ▸ kk)
    · exact lv_icmp_ne hx hb hd ho (fun q => e1 q ▸ kk) (fun q => e2 q ▸ kk)
    · exact lv_icmp_lt hx hb hd ho (fun q => e1 q ▸ kk) (fun q => e2 q ▸ kk)
    · exact lv_icmp_ge hx hb hd ho (fun q => e1 q ▸ kk) (fun q => e2 q ▸ kk)
    · exact lv_icmp_gt hx hb hd ho (fun q => e1 q ▸ kk) (fun q => e2 q ▸ kk)
    · exact lv_icmp_le hx hb hd ho (fun q => e1 q ▸ kk) (fun q => e2 q ▸ kk)
  rcases zx_cpn cn x y with ⟨q, q'⟩ | ⟨q, q'⟩
  · exact key a (fun _ => rfl) (fun z => absurd z q') (h1 q)
  · exact key (pc + 3) (fun z => absurd z q') (fun _ => rfl) (h2 q)
theorem zx_if_ok {cn : ClassFile.Cond} {off : Int} {x : Int32} (hc : zx_chk k (pc, len, .ifCond cn off, v0, w0, p0, a, b) = true)
    (h1 : zx_cp cn x 0 → zx_To l E d k a ls st M Qo) (h2 : zx_co cn x 0 → zx_To l E d k (pc + len) ls st M Qo) : zx_To l E d k pc ls (.int x :: st) M Qo := by
  obtain ⟨hd, hl⟩ := zx_chk_dec hc
  have ho := zx_chk_opr hc
  simp only [zx_opr, decide_eq_true_eq] at ho
  rcases hl with hl | hl <;> first | (cases hl; done) | skip
  rw [hl] at hd h2
  have key : ∀ (pc1 : Nat), (zx_cp cn x 0 → pc1 = a) → (zx_co cn x 0 → pc1 = pc + 3) → zx_To l E d k pc1 ls st M Qo → zx_To l E d k pc ls (.int x :: st) M Qo := by
    intro pc1 e1 e2 hz
    refine zx_Za (fun p e R s m args below meth c hF Q H locs cells slots la hL kk => ?_) hz
    obtain ⟨hx, hb, -⟩ := hF
    cases cn
    · exact lv_if_eq hx hb hd ho (fun q => e1 q ▸ kk) (fun q => e2 q ▸ kk)
    · exact lv_if_ne hx hb hd ho (fun q => e1 q ▸ kk) (fun q => e2 q ▸ kk)
    · exact lv_if_lt hx hb hd ho (fun q => e1 q ▸ kk) (fun q => e2 q ▸ kk)
    · exact lv_if_ge hx hb hd ho (fun q => e1 q ▸ kk) (fun q => e2 q ▸ kk)
    · exact lv_if_gt hx hb hd ho (fun q => e1 q ▸ kk) (fun q => e2 q ▸ kk)
    · exact lv_if_le hx hb hd ho (fun q => e1 q ▸ kk) (fun q => e2 q ▸ kk)
  rcases zx_cpn cn x 0 with ⟨q, q'⟩ | ⟨q, q'⟩
  · exact key a (fun _ => rfl) (fun z => absurd z q') (h1 q)
  · exact key (pc + 3) (fun z => absurd z q') (fun _ => rfl) (h2 q)
theorem zx_goto_ok {off : Int} (hc : zx_chk k (pc, len, .goto off, v0, w0, p0, a, b) = true) (hz : zx_To l E d k a ls st M Qo) : zx_To l E d k pc ls st M Qo := by
  obtain ⟨hd, hl⟩ := zx_chk_dec hc
  have ho := zx_chk_opr hc
  simp only [zx_opr, decide_eq_true_eq] at ho
  rcases hl with hl | hl <;> first | (cases hl; done) | skip
  rw [hl] at hd
  refine zx_Za (fun p e R s m args below meth c hF Q H locs cells slots la hL kk => ?_) hz
  obtain ⟨hx, hb, -⟩ := hF
  exact lv_goto hx hb hd ho kk
/-- a switch: by the offsets, the first of them for lo -/
def zx_sw (pc : Nat) (x : Int32) (go : Nat → Prop) : Int → List Int → Prop
  | _, [] => True
  | lo, o :: os => (x.toInt = lo → go ((pc : Int) + o).toNat) ∧ zx_sw pc x go (lo + 1) os
theorem zx_sw_at {pc : Nat} {x : Int32} {go : Nat → Prop} : ∀ (os : List Int) (lo : Int) (j : Nat) (o : Int), zx_sw pc x go lo os → os[j]? = some o → x.toInt = lo + j → go ((pc : Int) + o).toNat
  | [], _, _, _, _, h, _ => by simp at h
  | q :: os, lo, 0, o, h, hj, e => by
    simp at hj
    subst hj
    exact h.1 (by simpa using e)
  | q :: os, lo, j + 1, o, h, hj, e => zx_sw_at os (lo + 1) j o h.2 (by simpa using hj) (by rw [e]; push_cast; omega)
theorem zx_switch_ok {df lo hi : Int} {os : Array Int} {x : Int32} (hc : zx_chk k (pc, len, .tableswitch df lo hi os, v0, w0, p0, a, b) = true) (hn : hi + 1 = lo + os.size)
    (h1 : (x.toInt < lo ∨ hi < x.toInt) → zx_To l E d k ((pc : Int) + df).toNat ls st M Qo) (h2 : zx_sw pc x (fun t => zx_To l E d k t ls st M Qo) lo os.toList) : zx_To l E d k pc ls (.int x :: st) M Qo := by
  obtain ⟨hd, -⟩ := zx_chk_dec hc
  have ho := zx_chk_opr hc
  simp only [zx_opr, Bool.and_eq_true, decide_eq_true_eq] at ho
  rcases Classical.em (x.toInt < lo ∨ hi < x.toInt) with g | g
  · refine zx_Za (fun p e R s m args below meth c hF Q H locs cells slots la hL kk => ?_) (h1 g)
    obtain ⟨hx, hb, -⟩ := hF
    exact lv_tableOut hx hb hd g (Int.toNat_of_nonneg ho.1).symm kk
  · have g1 : ¬ x.toInt < lo := fun q => g (Or.inl q)
    have g2 : ¬ hi < x.toInt := fun q => g (Or.inr q)
    have hlt : (x.toInt - lo).toNat < os.size := by omega
    have hget : os[(x.toInt - lo).toNat]? = some os[(x.toInt - lo).toNat] := Array.getElem?_eq_getElem hlt
    have hz := zx_sw_at os.toList lo (x.toInt - lo).toNat _ h2 (by rw [Array.getElem?_toList]; exact hget) (by omega)
    have hpos : 0 ≤ (pc : Int) + os[(x.toInt - lo).toNat] := by
      have h3 := ho.2
      rw [Array.all_eq_true] at h3
      exact of_decide_eq_true (h3 _ hlt)
    refine zx_Za (fun p e R s m args below meth c hF Q H locs cells slots la hL kk => ?_) hz
    obtain ⟨hx, hb, -⟩ := hF
    exact lv_tableIn hx hb hd g1 g2 hget (Int.toNat_of_nonneg hpos).symm kk
end ZM
end
section
/-! ===== fields and arrays ===== -/
theorem zx_cl_at {a : Nat} (h : a < 13) : zx_cl[a]? = some (zx_C a, zx_T a, zx_N a) := by
  match a, h with
  | 0, _ | 1, _ | 2, _ | 3, _ | 4, _ | 5, _ | 6, _ | 7, _ | 8, _ | 9, _ | 10, _ | 11, _ | 12, _ => rfl
set_option maxRecDepth 100000 in
theorem zx_lay_all : ((List.range 13).all fun a => (u_ws (zx_C a) (zx_T a) (zx_N a)).all fun w => decide (w ∈ lw_tbl) && goodWord w) = true := by decide +kernel
theorem zx_lays_in {a : Nat} (h : a < 13) : ∀ w ∈ u_ws (zx_C a) (zx_T a) (zx_N a), w ∈ zx_good := by
  intro w hw
  have h1 := List.all_eq_true.mp (List.all_eq_true.mp zx_lay_all a (List.mem_range.mpr h)) w hw
  simp only [Bool.and_eq_true, decide_eq_true_eq] at h1
  exact List.mem_filter.mpr h1
theorem zx_ty_all : ((List.range 13).all fun a => (List.range (zx_N a)).all fun k => decide (parseFieldDescriptor (zx_T a k).2.2.1 = some (zx_ty a k))) = true := by decide +kernel
theorem zx_ty_ok {a : Nat} (h : a < 13) : ∀ k, k < zx_N a → parseFieldDescriptor (zx_T a k).2.2.1 = some (zx_ty a k) := fun k hk =>
  of_decide_eq_true (List.all_eq_true.mp (List.all_eq_true.mp zx_ty_all a (List.mem_range.mpr h)) k (List.mem_range.mpr hk))
theorem zx_nm_all : ((List.range 13).all fun a => (List.range (zx_N a)).all fun x => (List.range (zx_N a)).all fun y => decide (x = y ∨ (zx_T a x).2.1 ≠ (zx_T a y).2.1)) = true := by decide +kernel
theorem zx_nm_ok {a : Nat} (h : a < 13) : ∀ x, x < zx_N a → ∀ y, y < zx_N a → x ≠ y → (zx_T a x).2.1 ≠ (zx_T a y).2.1 := fun x hx y hy hne =>
  (of_decide_eq_true (List.all_eq_true.mp (List.all_eq_true.mp (List.all_eq_true.mp zx_nm_all a (List.mem_range.mpr h)) x (List.mem_range.mpr hx)) y (List.mem_range.mpr hy))).resolve_left hne
theorem zx_nf_all : ((List.range 13).all fun a => (List.range (zx_N a)).all fun k => decide (zx_ty a k ≠ .float ∧ zx_ty a k ≠ .double)) = true := by decide +kernel
theorem zx_nfl {a : Nat} (h : a < 13) {k : Nat} (hk : k < zx_N a) : zx_ty a k ≠ .float ∧ zx_ty a k ≠ .double :=
  of_decide_eq_true (List.all_eq_true.mp (List.all_eq_true.mp zx_nf_all a (List.mem_range.mpr h)) k (List.mem_range.mpr hk))
end
section
/-- a cell of ours, of this kind -/
def zx_is (M : zx_M) (i kd : Nat) : Prop := 3 ≤ i ∧ i < zx_n M ∧ zx_kd M i = kd
section ZC
variable {l : Launch} {E : zx_E} {d k pc len p0 a b : Nat} {v0 : Int32} {w0 : Int64} {ls : List (Option Value)} {st : List Value} {M : zx_M} {Qo : Option Value → zx_M → Prop}
theorem zx_ob {U : State} {H : Heap} {i : Nat} (hR : zx_R E M U H) (hi : zx_is M i a) (ha : a < 13) : t_OB (zx_rho E i) (E.2.1.1 a) (zx_N a) (E.2.1.2 a) H (fun k => zx_v E (zx_cv M (zx_tc (zx_ty a k)) i k)) := by
  obtain ⟨h3, hn, hk⟩ := hi
  have h := (hR.2.2.2 i h3 hn).1 (by rw [hk]; exact ha)
  rw [hk] at h
  exact h
theorem zx_ar {U : State} {H : Heap} {i : Nat} (hR : zx_R E M U H) (hi : zx_is M i a) (ha : 20 ≤ a) (ha2 : a ≤ 26) : H[zx_rho E i]? = some (arrV (E.2.2 a) (zx_ln M i) (fun j => zx_v E (zx_cv M (zx_tc (zx_at a)) i j))) := by
  obtain ⟨h3, hn, hk⟩ := hi
  have h := (hR.2.2.2 i h3 hn).2 (by rw [hk]; exact ha) (by rw [hk]; exact ha2)
  rw [hk] at h
  exact h
theorem zx_tys_at (E : zx_E) {a : Nat} (h : 20 ≤ a) (h2 : a ≤ 26) : (zx_tys E)[a - 20]? = some (E.2.2 a, zx_at a) := by
  rcases (show a = 20 ∨ a = 21 ∨ a = 22 ∨ a = 23 ∨ a = 24 ∨ a = 25 ∨ a = 26 by omega) with rfl | rfl | rfl | rfl | rfl | rfl | rfl <;> rfl
theorem zx_arr {U : State} (hK : zx_K E U) (ha : 20 ≤ a) (ha2 : a ≤ 26) : ArrOfT U (E.2.2 a) (zx_at a) ∧ va_RA U (E.2.2 a) (zx_at a) := hK.1.2 (a - 20) _ (zx_tys_at E ha ha2)
theorem zx_getfield_ok {idx i : Nat} {v : Value} (hc : zx_chk k (pc, len, .getfield idx, v0, w0, p0, a, b) = true) (hi : zx_is M i a) (hv : zx_cv M (zx_tc (zx_ty a b)) i b = v)
    (hz : zx_To l E d k (pc + len) ls (v :: st) M Qo) : zx_To l E d k pc ls (.ref i :: st) M Qo := by
  obtain ⟨hd, hl⟩ := zx_chk_dec hc
  have ho := zx_chk_opr hc
  simp only [zx_opr, Bool.and_eq_true, decide_eq_true_eq] at ho
  obtain ⟨⟨ha, hbN⟩, hw⟩ := ho
  rcases hl with hl | hl <;> first | (cases hl; done) | skip
  rw [hl] at hd hz
  refine zx_Zs rfl rfl (fun p e R s m args below meth c hF Q H locs cells slots la _ _ hR hL hB kk => ?_) hz
  obtain ⟨hx, hb, -, hown, hts, hK, -⟩ := hF
  obtain ⟨cell, q1, q2, q3, q4⟩ := zx_ob hR hi ha
  obtain ⟨hS, hfc, kC, hkC, hkind⟩ := hK.1.1 a _ (zx_cl_at ha)
  obtain ⟨cf, kf, fi, f, hfi, hsl⟩ := hS b hbN
  refine W.getf hx hb hown (hts _ (zx_w_mem hw)) hfi (u_facts hfc hkC (u_lays hts (zx_lays_in ha) hbN) hfi).1 q1 (by rw [q3]; exact fun h => by cases h) (v := zx_v E v) ?_ rfl rfl hd (kk H locs la hR hL hB)
  rw [hsl, q4 b hbN]
  show some (zx_v E (zx_cv M (zx_tc (zx_ty a b)) i b)) = _
  rw [hv]
/-- what an int may be to stand in a field -/
def zx_nf (ty : FieldType) (x : Int32) : Option Prop := match ty with
  | .int => none
  | .boolean => some (x = 0 ∨ x = 1)
  | _ => some False
theorem zx_nf_ok {ty : FieldType} {x : Int32} (h : zx_oc (zx_nf ty x)) : narrow ty (.int x) = .int x ∧ fits ty (.int x) = true := by
  cases ty <;> first | exact ⟨rfl, rfl⟩ | exact h.elim | skip
  rcases h with rfl | rfl <;> exact ⟨by decide, by decide⟩
theorem zx_ap {U : State} {args : Array Value} (hts : ∀ w ∈ zx_good, w.before args U = true) (hK : zx_K E U) (ha : a < 13) : ∀ x y, x < zx_N a → y < zx_N a → x ≠ y → E.2.1.2 a x ≠ E.2.1.2 a y := by
  intro x y hx hy hne
  obtain ⟨hS, -⟩ := hK.1.1 a _ (zx_cl_at ha)
  obtain ⟨_, _, _, fa, hia, ea⟩ := hS x hx
  obtain ⟨_, _, _, fb, hib, eb⟩ := hS y hy
  show E.2.1.2 a x ≠ E.2.1.2 a y
  rw [← ea, ← eb]
  refine u_apart (u_lays hts (zx_lays_in ha) hx) (u_lays hts (zx_lays_in ha) hy) hia hib ?_
  rw [(State.fieldFound?_type hia (zx_ty_ok ha x hx)).1, (State.fieldFound?_type hib (zx_ty_ok ha y hy)).1]
  exact zx_nm_ok ha x hx y hy hne
/-- a write to a field, of whatever type -/
theorem zx_put_gen {idx i : Nat} {v : Value} {M1 : zx_M} (hc : zx_chk k (pc, len, .putfield idx, v0, w0, p0, a, b) = true) (hi : zx_is M i a) (hnar : narrow (zx_ty a b) (zx_v E v) = zx_v E v) (hfit : fits (zx_ty a b) (zx_v E v) = true)
    (hn : zx_n M1 = zx_n M) (hs : zx_sl M1 = zx_sl M) (hk : ∀ j, zx_kd M1 j = zx_kd M j) (hl1 : ∀ j, zx_ln M1 j = zx_ln M j) (h1 : ∀ j, j ≠ i → M1.1 j = M.1 j) (h2 : ∀ j, j ≠ i → M1.2.1 j = M.2.1 j) (h3 : ∀ j, j ≠ i → M1.2.2.1 j = M.2.2.1 j)
    (hnew : zx_cv M1 (zx_tc (zx_ty a b)) i b = v) (hold : ∀ t y, y ≠ b → zx_cv M1 t i y = zx_cv M t i y)
    (hz : zx_To l E d k (pc + len) ls st M1 Qo) : zx_To l E d k pc ls (v :: .ref i :: st) M Qo := by
  obtain ⟨hd, hl⟩ := zx_chk_dec hc
  have ho := zx_chk_opr hc
  simp only [zx_opr, Bool.and_eq_true, decide_eq_true_eq, Bool.or_eq_true, Bool.not_eq_true'] at ho
  obtain ⟨⟨⟨ha, hbN⟩, hw⟩, hfin⟩ := ho
  rcases hl with hl | hl <;> first | (cases hl; done) | skip
  rw [hl] at hd hz
  refine zx_Zs hn hs (fun p e R s m args below meth c hF Q H locs cells slots la _ _ hR hL hB kk => ?_) hz
  obtain ⟨hx, hb, -, hown, hts, hK, -, -, hmn⟩ := hF
  obtain ⟨cell, q1, q2, q3, q4⟩ := zx_ob hR hi ha
  obtain ⟨hS, hfc, kC, hkC, hkind⟩ := hK.1.1 a _ (zx_cl_at ha)
  obtain ⟨cf, kf, fi, f, hfi, hsl⟩ := hS b hbN
  have hap := zx_ap hts hK ha
  have hlays := u_lays hts (zx_lays_in ha) hbN
  have hst := (u_facts hfc hkC hlays hfi).1
  have hlay := hts _ (zx_lays_in ha _ (u_in_lay hbN))
  have fin : ∀ (H' : Heap) (e1 : H'[zx_rho E i]? = some (cell.setSlot (E.2.1.2 a b) (zx_v E v))) (e2 : H'.size = H.size) (e3 : ∀ q, q ≠ zx_rho E i → H'[q]? = H[q]?), zx_R E M1 s H' := by
    intro H' e1 e2 e3
    refine hR.put hi.1 hn hk hl1 h1 h2 h3 e2 e3 ⟨fun hlt => ?_, fun g1 g2 => ?_⟩
    · rw [hk, hi.2.2]
      refine t_OB.to (V := updV (fun k => zx_v E (zx_cv M (zx_tc (zx_ty a k)) i k)) b (zx_v E v)) ⟨_, e1, q2, q3, t_set q4 hap hbN _⟩ (fun j hj => ?_)
      by_cases e : j = b
      · subst e
        simp only [updV, if_pos]
        rw [hnew]
      · simp only [updV, if_neg e]
        rw [hold _ _ e]
    · rw [hk, hi.2.2] at g1
      omega
  have hlt : f.slot < cell.slots.size := by rw [hsl]; exact k2_hasslot (q4 b hbN)
  have hBs : zx_B E (locs ++ [⟨zx_rho E i, f.slot⟩]) := fun q hq => by
    rcases List.mem_append.mp hq with h | h
    · exact hB q h
    · rw [List.mem_singleton.mp h]; exact zx_rho_in hi.1
  unfold u_lay at hlay
  split at hlay
  · rename_i hf
    rcases hfin with hfin | ⟨hin2, hdecl⟩
    · rw [hf] at hfin; cases hfin
    · have hcf : m.cls = cf := by
        obtain ⟨_, _, c', _, _, _, -, -, hf', -, -, -, hown2, -⟩ := Cond.laysFinal_spec hlay
        have e1 : c' = cf := by have := hfi.symm.trans hf'; simp at this; exact this.1.symm
        rw [hdecl] at hown2
        rw [← e1]; exact Option.some.inj (hown.symm.trans hown2)
      have h6 := u_fits hfc hkC hkind (Or.inr hlay) hfi (zx_ty_ok ha b hbN) hnar hfit
      refine W.putFinK hx hb hown (hts _ (zx_w_mem hw)) hfi hst hcf (by rw [hmn]; exact hin2) (by rw [q2]; exact h6) q1 q3 hlt rfl rfl hd fun H' e1 e2 e3 => ?_
      rw [hsl] at e1
      exact kk H' _ la (fin H' e1 e2 e3) hL hBs
  · have h6 := u_store hfc hkC hkind hlay hfi (zx_ty_ok ha b hbN) hnar hfit
    refine W.putK hx hb (f := f) ⟨hown, hts _ (zx_w_mem hw), ⟨_, _, _, hfi⟩, hst⟩ (by rw [q2]; exact h6) q1 q3 hlt rfl rfl hd fun H' e1 e2 e3 => ?_
    rw [hsl] at e1
    exact kk H' _ la (fin H' e1 e2 e3) hL hBs
theorem zx_puti_ok {idx i : Nat} {x : Int32} (hc : zx_chk k (pc, len, .putfield idx, v0, w0, p0, a, b) = true) (hi : zx_is M i a) (ht : zx_tc (zx_ty a b) = 0) (hx : zx_oc (zx_nf (zx_ty a b) x))
    (hz : zx_To l E d k (pc + len) ls st (zx_pi M i b x) Qo) : zx_To l E d k pc ls (.int x :: .ref i :: st) M Qo := by
  have hf := zx_nf_ok hx
  refine zx_put_gen (M1 := zx_pi M i b x) hc hi hf.1 hf.2 rfl rfl (fun _ => rfl) (fun _ => rfl) (fun j hj => ?_) (fun _ _ => rfl) (fun _ _ => rfl) ?_ (fun t y hy => ?_) hz
  · funext y; simp [zx_pi, zx_u2, hj]
  · rw [ht]; simp [zx_cv, zx_pi, zx_u2]
  · unfold zx_cv; split <;> simp [zx_pi, zx_u2, hy]
theorem zx_putl_ok {idx i : Nat} {x : Int64} (hc : zx_chk k (pc, len, .putfield idx, v0, w0, p0, a, b) = true) (hi : zx_is M i a) (ht : zx_ty a b = .long)
    (hz : zx_To l E d k (pc + len) ls st (zx_pl M i b x) Qo) : zx_To l E d k pc ls (.long x :: .ref i :: st) M Qo := by
  refine zx_put_gen (M1 := zx_pl M i b x) hc hi (by rw [ht]; rfl) (by rw [ht]; rfl) rfl rfl (fun _ => rfl) (fun _ => rfl) (fun _ _ => rfl) (fun j hj => ?_) (fun _ _ => rfl) ?_ (fun t y hy => ?_) hz
  · funext y; simp [zx_pl, zx_u2, hj]
  · rw [ht]; simp [zx_cv, zx_pl, zx_u2, zx_tc]
  · unfold zx_cv; split <;> simp [zx_pl, zx_u2, hy]
theorem zx_putr_ok {idx i j : Nat} (hc : zx_chk k (pc, len, .putfield idx, v0, w0, p0, a, b) = true) (hi : zx_is M i a) (ht : zx_tc (zx_ty a b) = 2)
    (hz : zx_To l E d k (pc + len) ls st (zx_pr M i b (some j)) Qo) : zx_To l E d k pc ls (.ref j :: .ref i :: st) M Qo := by
  refine zx_put_gen (M1 := zx_pr M i b (some j)) hc hi ?_ ?_ rfl rfl (fun _ => rfl) (fun _ => rfl) (fun _ _ => rfl) (fun _ _ => rfl) (fun j hj => ?_) ?_ (fun t y hy => ?_) hz
  · show narrow (zx_ty a b) (.ref _) = .ref _
    cases h : zx_ty a b <;> rfl
  · show fits (zx_ty a b) (.ref _) = true
    cases h : zx_ty a b <;> first | rfl | (rw [h] at ht; cases ht)
  · funext y; simp [zx_pr, zx_u2, hj]
  · rw [ht]; simp [zx_cv, zx_pr, zx_u2, va_rf]
  · unfold zx_cv; split <;> simp [zx_pr, zx_u2, hy]
theorem zx_getstatic_ok {idx : Nat} (hc : zx_chk k (pc, len, .getstatic idx, v0, w0, p0, a, b) = true)
    (hz : zx_To l E d k (pc + len) ls (.ref a :: st) M Qo) : zx_To l E d k pc ls st M Qo := by
  obtain ⟨hd, hl⟩ := zx_chk_dec hc
  have ho := zx_chk_opr hc
  simp only [zx_opr, Bool.and_eq_true, decide_eq_true_eq] at ho
  obtain ⟨hw, ha⟩ := ho
  rcases hl with hl | hl <;> first | (cases hl; done) | skip
  rw [hl] at hd hz
  refine zx_Zs rfl rfl (fun p e R s m args below meth c hF Q H locs cells slots la _ _ hR hL hB kk => ?_) hz
  obtain ⟨hx, hb, -, hown, hts, hK, -⟩ := hF
  have hlink := hts _ (zx_w_mem hw)
  have hZ : va_Z "NamesThatShrink$NewNames" (if a = 1 then "SEVENS" else "SIXES") "[I" (.ref (zx_rho E a)) (zx_A E) s H := by
    rcases ha with rfl | rfl
    · exact hR.2.2.1.2.1
    · exact hR.2.2.1.2.2
  obtain ⟨cf, kf, fi, f, q, cell, h1, h2, h3, h4, h5, h6, h7, h8⟩ := hZ
  exact W.gets hx hb hown hlink h1 h2 h3 h4 h5 (fun e => by rw [e] at h6; cases h6) h7 rfl hd (kk H locs la hR hL hB)
/-- an int row: one of ours, or the script, or a static one -/
def zx_ia (M : zx_M) (i : Nat) : Prop := zx_is M i 20 ∨ i < 3
theorem zx_iaload_ok {i : Nat} {j : Int32} (hc : zx_chk k (pc, len, .iaload, v0, w0, p0, a, b) = true) (hi : zx_ia M i) (hj : vp_in j (zx_ln M i))
    (hz : zx_To l E d k (pc + len) ls (.int (M.1 i j.toNatClampNeg) :: st) M Qo) : zx_To l E d k pc ls (.int j :: .ref i :: st) M Qo := by
  obtain ⟨hd, hl⟩ := zx_chk_dec hc
  rcases hl with hl | hl <;> first | (cases hl; done) | skip
  rw [hl] at hd hz
  refine zx_Zs rfl rfl (fun p e R s m args below meth c hF Q H locs cells slots la _ _ hR hL hB kk => ?_) hz
  obtain ⟨hx, hb, -, hown, hts, hK, -⟩ := hF
  have hlt : j.toNatClampNeg < zx_ln M i := Nat.not_le.mp fun q => hj (Or.inr q)
  rcases hi with hi | hi
  · exact W.iald hx hb (zx_ar hR hi (by omega) (by omega)) ((zx_arr hK (a := 20) (by omega) (by omega)).1 _ _) (fun q => by cases q) (by rw [arrV_size]; exact hj) (by rw [arrV_read _ _ hlt]; rfl) rfl rfl hd (kk H locs la hR hL hB)
  · obtain ⟨cell, h1, h2, h3, h4, h5, h6, h7⟩ := (hR.2.2.1.1 i hi).2
    exact W.iald hx hb h1 h2 h3 (fun q => hj (q.elim Or.inl (fun q => Or.inr (by omega)))) (h6 _ hlt) rfl rfl hd (kk H locs la hR hL hB)
theorem zx_laload_ok {i : Nat} {j : Int32} (hc : zx_chk k (pc, len, .laload, v0, w0, p0, a, b) = true) (hi : zx_is M i 21) (hj : vp_in j (zx_ln M i))
    (hz : zx_To l E d k (pc + len) ls (.long (M.2.1 i j.toNatClampNeg) :: st) M Qo) : zx_To l E d k pc ls (.int j :: .ref i :: st) M Qo := by
  obtain ⟨hd, hl⟩ := zx_chk_dec hc
  rcases hl with hl | hl <;> first | (cases hl; done) | skip
  rw [hl] at hd hz
  refine zx_Zs rfl rfl (fun p e R s m args below meth c hF Q H locs cells slots la _ _ hR hL hB kk => ?_) hz
  obtain ⟨hx, hb, -, hown, hts, hK, -⟩ := hF
  have hlt : j.toNatClampNeg < zx_ln M i := Nat.not_le.mp fun q => hj (Or.inr q)
  exact W.lald hx hb (zx_ar hR hi (by omega) (by omega)) ((zx_arr hK (a := 21) (by omega) (by omega)).1 _ _) (fun q => by cases q) (by rw [arrV_size]; exact hj) (by rw [arrV_read _ _ hlt]; rfl) rfl rfl hd (kk H locs la hR hL hB)
theorem zx_baload_ok {i : Nat} {j : Int32} (hc : zx_chk k (pc, len, .baload, v0, w0, p0, a, b) = true) (ha : a = 22 ∨ a = 23) (hi : zx_is M i a) (hj : vp_in j (zx_ln M i))
    (hz : zx_To l E d k (pc + len) ls (.int (M.1 i j.toNatClampNeg) :: st) M Qo) : zx_To l E d k pc ls (.int j :: .ref i :: st) M Qo := by
  obtain ⟨hd, hl⟩ := zx_chk_dec hc
  rcases hl with hl | hl <;> first | (cases hl; done) | skip
  rw [hl] at hd hz
  refine zx_Zs rfl rfl (fun p e R s m args below meth c hF Q H locs cells slots la _ _ hR hL hB kk => ?_) hz
  obtain ⟨hx, hb, -, hown, hts, hK, -⟩ := hF
  have hlt : j.toNatClampNeg < zx_ln M i := Nat.not_le.mp fun q => hj (Or.inr q)
  rcases ha with rfl | rfl
  · exact W.bald hx hb (zx_ar hR hi (by omega) (by omega)) ((zx_arr hK (a := 22) (by omega) (by omega)).1 _ _) (fun q => by cases q) (by rw [arrV_size]; exact hj) (by rw [arrV_read _ _ hlt]; rfl) rfl rfl hd (kk H locs la hR hL hB)
  · exact W.zald hx hb (zx_ar hR hi (by omega) (by omega)) ((zx_arr hK (a := 23) (by omega) (by omega)).1 _ _) (fun q => by cases q) (by rw [arrV_size]; exact hj) (by rw [arrV_read _ _ hlt]; rfl) rfl rfl hd (kk H locs la hR hL hB)
theorem zx_aaload_ok {i x : Nat} {j : Int32} (hc : zx_chk k (pc, len, .aaload, v0, w0, p0, a, b) = true) {kd : Nat} (hi : zx_is M i kd) (h24 : 24 ≤ kd) (h26 : kd ≤ 26) (hj : vp_in j (zx_ln M i)) (hx0 : M.2.2.1 i j.toNatClampNeg = some x)
    (hz : zx_To l E d k (pc + len) ls (.ref x :: st) M Qo) : zx_To l E d k pc ls (.int j :: .ref i :: st) M Qo := by
  obtain ⟨hd, hl⟩ := zx_chk_dec hc
  rcases hl with hl | hl <;> first | (cases hl; done) | skip
  rw [hl] at hd hz
  refine zx_Zs rfl rfl (fun p e R s m args below meth c hF Q H locs cells slots la _ _ hR hL hB kk => ?_) hz
  obtain ⟨hx, hb, -, hown, hts, hK, -⟩ := hF
  have hlt : j.toNatClampNeg < zx_ln M i := Nat.not_le.mp fun q => hj (Or.inr q)
  have hr : (zx_at kd).isReference = true ∧ zx_tc (zx_at kd) = 2 := by
    rcases (show kd = 24 ∨ kd = 25 ∨ kd = 26 by omega) with rfl | rfl | rfl <;> exact ⟨rfl, rfl⟩
  refine W.aald (v := zx_v E (.ref x)) hx hb (zx_ar hR hi (by omega) h26) ((zx_arr hK (a := kd) (by omega) h26).1 _ _) hr.1 (fun q => by cases q) (by rw [arrV_size]; exact hj) ?_ rfl rfl hd (kk H locs la hR hL hB)
  rw [arrV_read _ _ hlt, hr.2]
  simp only [zx_cv]
  rw [hx0]
  rfl
/-- a write to an array -/
theorem zx_ast_R {U : State} {H H' : Heap} {M1 : zx_M} {i j : Nat} {v : Value} {kd : Nat} (hR : zx_R E M U H) (hi : zx_is M i kd) (h20 : 20 ≤ kd) (h26 : kd ≤ 26)
    (hn : zx_n M1 = zx_n M) (hk : ∀ j, zx_kd M1 j = zx_kd M j) (hl1 : ∀ j, zx_ln M1 j = zx_ln M j) (h1 : ∀ j, j ≠ i → M1.1 j = M.1 j) (h2 : ∀ j, j ≠ i → M1.2.1 j = M.2.1 j) (h3 : ∀ j, j ≠ i → M1.2.2.1 j = M.2.2.1 j)
    (hnew : zx_v E (zx_cv M1 (zx_tc (zx_at kd)) i j) = v) (hold : ∀ y, y ≠ j → zx_cv M1 (zx_tc (zx_at kd)) i y = zx_cv M (zx_tc (zx_at kd)) i y)
    (e1 : H'[zx_rho E i]? = some ((arrV (E.2.2 kd) (zx_ln M i) (fun j => zx_v E (zx_cv M (zx_tc (zx_at kd)) i j))).setSlot j v)) (e2 : H'.size = H.size) (e3 : ∀ q, q ≠ zx_rho E i → H'[q]? = H[q]?) : zx_R E M1 U H' := by
  refine hR.put hi.1 hn hk hl1 h1 h2 h3 e2 e3 ⟨fun hlt => ?_, fun g1 g2 => ?_⟩
  · rw [hk, hi.2.2] at hlt; omega
  · rw [hk, hi.2.2, hl1, e1, arrV_store]
    congr 2
    funext y
    by_cases e : y = j
    · subst e
      simp only [updV, if_pos]
      rw [hnew]
    · simp only [updV, if_neg e]
      rw [hold _ e]
theorem zx_B.add {locs : List Loc} {i s0 : Nat} (hB : zx_B E locs) (hi : 3 ≤ i) : zx_B E (locs ++ [⟨zx_rho E i, s0⟩]) := fun q hq => by
  rcases List.mem_append.mp hq with h | h
  · exact hB q h
  · rw [List.mem_singleton.mp h]; exact zx_rho_in hi
theorem zx_iastore_ok {i : Nat} {j x : Int32} (hc : zx_chk k (pc, len, .iastore, v0, w0, p0, a, b) = true) (hi : zx_is M i 20) (hj : vp_in j (zx_ln M i))
    (hz : zx_To l E d k (pc + len) ls st (zx_pi M i j.toNatClampNeg x) Qo) : zx_To l E d k pc ls (.int x :: .int j :: .ref i :: st) M Qo := by
  obtain ⟨hd, hl⟩ := zx_chk_dec hc
  rcases hl with hl | hl <;> first | (cases hl; done) | skip
  rw [hl] at hd hz
  refine zx_Zs (M1 := zx_pi M i j.toNatClampNeg x) rfl rfl (fun p e R s m args below meth c hF Q H locs cells slots la _ _ hR hL hB kk => ?_) hz
  obtain ⟨hx, hb, -, hown, hts, hK, -⟩ := hF
  refine W.iast hx hb (zx_ar hR hi (by omega) (by omega)) ((zx_arr hK (a := 20) (by omega) (by omega)).1 _ _) (fun q => by cases q) (by rw [arrV_size]; exact hj) rfl rfl hd fun H' e1 e2 e3 => ?_
  refine kk H' _ la (zx_ast_R (M1 := zx_pi M i j.toNatClampNeg x) hR hi (by omega) (by omega) rfl (fun _ => rfl) (fun _ => rfl) (fun q hq => ?_) (fun _ _ => rfl) (fun _ _ => rfl) ?_ (fun y hy => ?_) e1 e2 e3) hL (hB.add hi.1)
  · funext y; simp [zx_pi, zx_u2, hq]
  · simp [zx_cv, zx_pi, zx_u2, zx_tc, zx_at, zx_v]
  · simp [zx_cv, zx_pi, zx_u2, zx_tc, zx_at, hy]
theorem zx_bastore_ok {i : Nat} {j x : Int32} (hc : zx_chk k (pc, len, .bastore, v0, w0, p0, a, b) = true) (ha : a = 22 ∨ a = 23) (hi : zx_is M i a) (hj : vp_in j (zx_ln M i))
    (hz : zx_To l E d k (pc + len) ls st (zx_pi M i j.toNatClampNeg (vp_nar (zx_at a) x)) Qo) : zx_To l E d k pc ls (.int x :: .int j :: .ref i :: st) M Qo := by
  obtain ⟨hd, hl⟩ := zx_chk_dec hc
  rcases hl with hl | hl <;> first | (cases hl; done) | skip
  rw [hl] at hd hz
  refine zx_Zs (M1 := zx_pi M i j.toNatClampNeg (vp_nar (zx_at a) x)) rfl rfl (fun p e R s m args below meth c hF Q H locs cells slots la _ _ hR hL hB kk => ?_) hz
  obtain ⟨hx, hb, -, hown, hts, hK, -⟩ := hF
  rcases ha with rfl | rfl
  · refine W.bast hx hb (zx_ar hR hi (by omega) (by omega)) ((zx_arr hK (a := 22) (by omega) (by omega)).1 _ _) (fun q => by cases q) (by rw [arrV_size]; exact hj) rfl rfl hd fun H' e1 e2 e3 => ?_
    refine kk H' _ la (zx_ast_R (M1 := zx_pi M i j.toNatClampNeg (vp_nar (zx_at 22) x)) hR hi (by omega) (by omega) rfl (fun _ => rfl) (fun _ => rfl) (fun q hq => ?_) (fun _ _ => rfl) (fun _ _ => rfl) ?_ (fun y hy => ?_) e1 e2 e3) hL (hB.add hi.1)
    · funext y; simp [zx_pi, zx_u2, hq]
    · simp [zx_cv, zx_pi, zx_u2, zx_tc, zx_at, zx_v, vp_nar, narrow]
    · simp [zx_cv, zx_pi, zx_u2, zx_tc, zx_at, hy]
  · refine W.zast hx hb (zx_ar hR hi (by omega) (by omega)) ((zx_arr hK (a := 23) (by omega) (by omega)).1 _ _) (fun q => by cases q) (by rw [arrV_size]; exact hj) rfl rfl hd fun H' e1 e2 e3 => ?_
    refine kk H' _ la (zx_ast_R (M1 := zx_pi M i j.toNatClampNeg (vp_nar (zx_at 23) x)) hR hi (by omega) (by omega) rfl (fun _ => rfl) (fun _ => rfl) (fun q hq => ?_) (fun _ _ => rfl) (fun _ _ => rfl) ?_ (fun y hy => ?_) e1 e2 e3) hL (hB.add hi.1)
    · funext y; simp [zx_pi, zx_u2, hq]
    · simp [zx_cv, zx_pi, zx_u2, zx_tc, zx_at, zx_v, vp_nar, narrow]
    · simp [zx_cv, zx_pi, zx_u2, zx_tc, zx_at, hy]
theorem zx_lastore_ok {i : Nat} {j : Int32} {x : Int64} (hc : zx_chk k (pc, len, .lastore, v0, w0, p0, a, b) = true) (hi : zx_is M i 21) (hj : vp_in j (zx_ln M i))
    (hz : zx_To l E d k (pc + len) ls st (zx_pl M i j.toNatClampNeg x) Qo) : zx_To l E d k pc ls (.long x :: .int j :: .ref i :: st) M Qo := by
  obtain ⟨hd, hl⟩ := zx_chk_dec hc
  rcases hl with hl | hl <;> first | (cases hl; done) | skip
  rw [hl] at hd hz
  refine zx_Zs (M1 := zx_pl M i j.toNatClampNeg x) rfl rfl (fun p e R s m args below meth c hF Q H locs cells slots la _ _ hR hL hB kk => ?_) hz
  obtain ⟨hx, hb, -, hown, hts, hK, -⟩ := hF
  refine W.last hx hb (zx_ar hR hi (by omega) (by omega)) ((zx_arr hK (a := 21) (by omega) (by omega)).1 _ _) (fun q => by cases q) (by rw [arrV_size]; exact hj) rfl rfl hd fun H' e1 e2 e3 => ?_
  refine kk H' _ la (zx_ast_R (M1 := zx_pl M i j.toNatClampNeg x) hR hi (by omega) (by omega) rfl (fun _ => rfl) (fun _ => rfl) (fun _ _ => rfl) (fun q hq => ?_) (fun _ _ => rfl) ?_ (fun y hy => ?_) e1 e2 e3) hL (hB.add hi.1)
  · funext y; simp [zx_pl, zx_u2, hq]
  · simp [zx_cv, zx_pl, zx_u2, zx_tc, zx_at, zx_v]
  · simp [zx_cv, zx_pl, zx_u2, zx_tc, zx_at, hy]
theorem zx_alen_ok {i : Nat} (hc : zx_chk k (pc, len, .arraylength, v0, w0, p0, a, b) = true) {kd : Nat} (hi : (zx_is M i kd ∧ 20 ≤ kd ∧ kd ≤ 26) ∨ i < 3)
    (hz : zx_To l E d k (pc + len) ls (.int (Int32.ofNat (zx_ln M i)) :: st) M Qo) : zx_To l E d k pc ls (.ref i :: st) M Qo := by
  obtain ⟨hd, hl⟩ := zx_chk_dec hc
  rcases hl with hl | hl <;> first | (cases hl; done) | skip
  rw [hl] at hd hz
  refine zx_Zs rfl rfl (fun p e R s m args below meth c hF Q H locs cells slots la _ _ hR hL hB kk => ?_) hz
  obtain ⟨hx, hb, -, hown, hts, hK, -⟩ := hF
  rcases hi with ⟨hi, h1, h2⟩ | hi
  · exact W.alen hx hb (zx_ar hR hi h1 h2) ((zx_arr hK (a := kd) h1 h2).1 _ _) (by rw [arrV_size] <;> rfl) rfl rfl hd (kk H locs la hR hL hB)
  · obtain ⟨cell, h1, h2, h3, h4, h5, h6, h7⟩ := (hR.2.2.1.1 i hi).2
    exact W.alen hx hb h1 h2 h5 rfl rfl hd (kk H locs la hR hL hB)
end ZC
end
section
/-! ===== new cells ===== -/
section ZN
variable {l : Launch} {E : zx_E} {d k pc pc1 len p0 a b : Nat} {v0 : Int32} {w0 : Int64} {ls : List (Option Value)} {st st1 : List Value} {M M1 : zx_M} {Qo : Option Value → zx_M → Prop}
/-- a step that makes cells -/
theorem zx_Zn (hn : zx_n M ≤ zx_n M1) (hs : zx_sl M ≤ zx_sl M1)
    (hW : ∀ (p : Program) (e : Env) (R : Room) (s : State) (m : MethodId) (args : Array Value) (below : List Frame) (meth : Method) (c : Code), zx_F E d k p R s m args meth c →
      ∀ (Q : State → Prop) (H : Heap) (locs : List Loc) (cells slots : Nat) (la : Array Slot), cells + (zx_n M1 - zx_n M) ≤ R.cells → slots + (zx_sl M1 - zx_sl M) ≤ R.slots → zx_R E M s H → zx_L E (zx_mL k) ls la → zx_B E locs →
      (∀ (H1 : Heap) (locs1 : List Loc) (la1 : Array Slot), zx_R E M1 s H1 → zx_L E (zx_mL k) ls la1 → zx_B E locs1 → W p l e R s m args below meth c H1 locs1 (cells + (zx_n M1 - zx_n M)) (slots + (zx_sl M1 - zx_sl M)) Q (F0 m pc1 la1 (st1.map (zx_v E)))) →
      W p l e R s m args below meth c H locs cells slots Q (F0 m pc la (st.map (zx_v E))))
    (hz : zx_To l E d k pc1 ls st1 M1 Qo) : zx_To l E d k pc ls st M Qo := by
  obtain ⟨r, M', hq, ho, h1, h2, h3⟩ := hz
  refine ⟨r, M', hq, ho, by omega, by omega, fun p e R s m args below meth c hF Q CF SF hC hS hret H locs cells slots la hR hL hB e1 e2 => ?_⟩
  refine hW p e R s m args below meth c hF Q H locs cells slots la (by omega) (by omega) hR hL hB (fun H1 locs1 la1 hR1 hL1 hB1 => ?_)
  exact h3 p e R s m args below meth c hF Q CF SF hC hS hret H1 locs1 _ _ la1 hR1 hL1 hB1 (by omega) (by omega)
theorem zx_nw_n {kd ln z : Nat} : zx_n (zx_nw M kd ln z) - zx_n M = 1 := by show zx_n M + 1 - zx_n M = 1; omega
theorem zx_nw_s {kd ln z : Nat} : zx_sl (zx_nw M kd ln z) - zx_sl M = z := by show zx_sl M + z - zx_sl M = z; omega
theorem zx_nw_cv {kd ln z t j : Nat} : zx_cv (zx_nw M kd ln z) t (zx_n M) j = (match t with
    | 0 => .int 0
    | 1 => .long 0
    | _ => .null) := by
  unfold zx_cv
  split <;> simp [zx_nw, zx_ur, va_rf]
theorem zx_newarray_ok {t : ArrayType} {n : Int32} (hc : zx_chk k (pc, len, .newarray t, v0, w0, p0, a, b) = true) (hn : ¬ n < 0) (hN : n.toNatClampNeg ≤ 65536)
    (hz : zx_To l E d k (pc + len) ls (.ref (zx_n M) :: st) (zx_nw M a n.toNatClampNeg n.toNatClampNeg) Qo) : zx_To l E d k pc ls (.int n :: st) M Qo := by
  obtain ⟨hd, hl⟩ := zx_chk_dec hc
  have ho := zx_chk_opr hc
  simp only [zx_opr, Bool.and_eq_true, decide_eq_true_eq] at ho
  obtain ⟨⟨ht, ha, ha2⟩, hw⟩ := ho
  rcases hl with hl | hl <;> first | (cases hl; done) | skip
  rw [hl] at hd hz
  refine zx_Zn (M1 := zx_nw M a n.toNatClampNeg n.toNatClampNeg) (Nat.le_succ _) (Nat.le_add_right _ _) (fun p e R s m args below meth c hF Q H locs cells slots la hC hS hR hL hB kk => ?_) hz
  rw [zx_nw_n] at hC kk
  rw [zx_nw_s] at hS kk
  obtain ⟨hx, hb, -, hown, hts, hK, -⟩ := hF
  have hA := zx_arr hK ha (by omega)
  refine va_newaK hx hb (by rw [ht]; exact hts _ (zx_w_mem hw)) rfl hd rfl hn rfl ?_ hC hS rfl fun H' cA e1 z1 o1 hAr hNm => ?_
  · rw [ht]
    rcases (show a = 20 ∨ a = 21 ∨ a = 22 ∨ a = 23 by omega) with rfl | rfl | rfl | rfl <;> simp only [zx_at, componentBytes] <;> omega
  · have hcA : cA = E.2.2 a := by
      have h2 := hA.2
      rw [ht] at hNm
      rcases (show a = 20 ∨ a = 21 ∨ a = 22 ∨ a = 23 by omega) with rfl | rfl | rfl | rfl <;> exact Option.some.inj (hNm.symm.trans h2)
    subst hcA
    have key := kk H' locs la (hR.push z1 (fun q hq => o1 q hq) ⟨fun hlt => ?_, fun g1 g2 => ?_⟩) hL hB
    · rw [hR.at]
      exact key
    · simp [zx_kd, zx_nw, zx_u1] at hlt; omega
    · rw [← hR.at, e1]
      have hk : zx_kd (zx_nw M a n.toNatClampNeg n.toNatClampNeg) (zx_n M) = a := by simp [zx_kd, zx_nw, zx_u1]
      have hln : zx_ln (zx_nw M a n.toNatClampNeg n.toNatClampNeg) (zx_n M) = n.toNatClampNeg := by simp [zx_ln, zx_nw, zx_u1]
      rw [hk, hln]
      congr 2
      funext j
      rw [zx_nw_cv, ht]
      rcases (show a = 20 ∨ a = 21 ∨ a = 22 ∨ a = 23 by omega) with rfl | rfl | rfl | rfl <;> rfl
theorem zx_new_all : ((List.range 13).all fun a => decide (Jvm.Cond.instantiable (zx_C a) (zx_N a) ∈ lw_tbl ∧ Jvm.Cond.initialized (zx_C a) ∈ lw_tbl) && goodWord (.instantiable (zx_C a) (zx_N a)) && goodWord (.initialized (zx_C a))) = true := by decide +kernel
theorem zx_new_ok {idx : Nat} (hc : zx_chk k (pc, len, .new idx, v0, w0, p0, a, b) = true) (h99 : ¬ a = 99)
    (hz : zx_To l E d k (pc + len) ls (.ref (zx_n M) :: st) (zx_nw M a 0 (zx_N a)) Qo) : zx_To l E d k pc ls st M Qo := by
  obtain ⟨hd, hl⟩ := zx_chk_dec hc
  have ho := zx_chk_opr hc
  simp only [zx_opr, Bool.and_eq_true, decide_eq_true_eq, Bool.or_eq_true] at ho
  obtain ⟨ha, hw⟩ := ho.resolve_left h99
  rcases hl with hl | hl <;> first | (cases hl; done) | skip
  rw [hl] at hd hz
  have h0 := List.all_eq_true.mp zx_new_all a (List.mem_range.mpr ha)
  simp only [Bool.and_eq_true, decide_eq_true_eq] at h0
  obtain ⟨⟨⟨m1, m2⟩, g1⟩, g2⟩ := h0
  refine zx_Zn (M1 := zx_nw M a 0 (zx_N a)) (Nat.le_succ _) (Nat.le_add_right _ _) (fun p e R s m args below meth c hF Q H locs cells slots la hC hS hR hL hB kk => ?_) hz
  rw [zx_nw_n] at hC kk
  rw [zx_nw_s] at hS kk
  obtain ⟨hx, hb, -, hown, hts, hK, -⟩ := hF
  have hKn := hK.1.1 a _ (zx_cl_at ha)
  refine W.newcK hx hb hown (hts _ (zx_w_mem hw)) (hts _ (List.mem_filter.mpr ⟨m1, g1⟩)) (hts _ (List.mem_filter.mpr ⟨m2, g2⟩)) rfl hd hC hS hKn.2.1 rfl fun H1 kC hkC e1 z1 o1 => ?_
  have key := kk H1 locs la (hR.push z1 (fun q hq => o1 q hq) ⟨fun hlt => ?_, fun g1 g2 => ?_⟩) hL hB
  · have e : H.size = zx_rho E (zx_n M) := hR.at
    rw [e]
    exact key
  · have hk : zx_kd (zx_nw M a 0 (zx_N a)) (zx_n M) = a := by simp [zx_kd, zx_nw, zx_u1]
    rw [hk, ← hR.at]
    refine (u_born (zx_ty a) hts (zx_lays_in ha) hKn hkC e1 (zx_ty_ok ha)).to (fun j hj => ?_)
    rw [zx_nw_cv]
    have hnf := zx_nfl ha hj
    generalize zx_ty a j = ty at hnf ⊢
    cases ty <;> first | rfl | (exact absurd rfl hnf.1) | (exact absurd rfl hnf.2)
  · simp [zx_kd, zx_nw, zx_u1] at g1; omega
theorem zx_over {U : State} (hK : zx_K E U) {ty : FieldType} (h : Jvm.Cond.arrayOver ty ∈ lw_tbl) (ht : ty.isReference = true) : va_Nw (.arrayOver ty) U := hK.2 _ (List.mem_filter.mpr ⟨h, by cases ty <;> first | rfl | cases ht⟩)
theorem zx_over_all : Jvm.Cond.arrayOver (.object "NamesThatShrink$Picks") ∈ lw_tbl ∧ Jvm.Cond.arrayOver (.array .int) ∈ lw_tbl ∧ Jvm.Cond.arrayOver (.array .long) ∈ lw_tbl := by decide +kernel
theorem zx_anewarray_ok {idx : Nat} {n : Int32} (hc : zx_chk k (pc, len, .anewarray idx, v0, w0, p0, a, b) = true) (hn : ¬ n < 0) (hN : n.toNatClampNeg ≤ 65536)
    (hz : zx_To l E d k (pc + len) ls (.ref (zx_n M) :: st) (zx_nw M 26 n.toNatClampNeg n.toNatClampNeg) Qo) : zx_To l E d k pc ls (.int n :: st) M Qo := by
  obtain ⟨hd, hl⟩ := zx_chk_dec hc
  have ho := zx_chk_opr hc
  simp only [zx_opr, Bool.and_eq_true, decide_eq_true_eq] at ho
  obtain ⟨ha, hw⟩ := ho
  rcases hl with hl | hl <;> first | (cases hl; done) | skip
  rw [hl] at hd hz
  refine zx_Zn (M1 := zx_nw M 26 n.toNatClampNeg n.toNatClampNeg) (Nat.le_succ _) (Nat.le_add_right _ _) (fun p e R s m args below meth c hF Q H locs cells slots la hC hS hR hL hB kk => ?_) hz
  rw [zx_nw_n] at hC kk
  rw [zx_nw_s] at hS kk
  obtain ⟨hx, hb, -, hown, hts, hK, -⟩ := hF
  have hA := zx_arr hK (a := 26) (by omega) (by omega)
  refine W.anew hx hb hown (hts _ (zx_w_mem hw)) (va_AO.use (zx_over hK zx_over_all.1 rfl)) rfl hd rfl hn (by omega) hC hS fun cA kA comp f1 f2 f3 f4 => ?_
  have hcA : cA = E.2.2 26 := by
    obtain ⟨kA', comp', k1, k2, k3, k4⟩ := hA.2
    exact Option.some.inj (f1.symm.trans k4)
  subst hcA
  have key := kk (H.push { cls := E.2.2 26, slots := Array.replicate n.toNatClampNeg .null, vm := .none }) locs la (hR.push (by rw [Array.size_push]) (fun q hq => by rw [Array.getElem?_push, if_neg (Nat.ne_of_lt hq)]) ⟨fun hlt => ?_, fun g1 g2 => ?_⟩) hL hB
  · have e : H.size = zx_rho E (zx_n M) := hR.at
    rw [e]
    exact key
  · simp [zx_kd, zx_nw, zx_u1] at hlt
  · have hk : zx_kd (zx_nw M 26 n.toNatClampNeg n.toNatClampNeg) (zx_n M) = 26 := by simp [zx_kd, zx_nw, zx_u1]
    have hln : zx_ln (zx_nw M 26 n.toNatClampNeg n.toNatClampNeg) (zx_n M) = n.toNatClampNeg := by simp [zx_ln, zx_nw, zx_u1]
    rw [hk, hln, ← hR.at, Array.getElem?_push_size, arrV_new]
    congr 2
    funext j
    rw [zx_nw_cv]
    rfl
/-- Picks into a row of them -/
theorem zx_aastore_ok {i x : Nat} {j : Int32} (hc : zx_chk k (pc, len, .aastore, v0, w0, p0, a, b) = true) (hi : zx_is M i 26) (hj : vp_in j (zx_ln M i)) (hx7 : zx_is M x 7)
    (hz : zx_To l E d k (pc + len) ls st (zx_pr M i j.toNatClampNeg (some x)) Qo) : zx_To l E d k pc ls (.ref x :: .int j :: .ref i :: st) M Qo := by
  obtain ⟨hd, hl⟩ := zx_chk_dec hc
  rcases hl with hl | hl <;> first | (cases hl; done) | skip
  rw [hl] at hd hz
  refine zx_Zs (M1 := zx_pr M i j.toNatClampNeg (some x)) rfl rfl (fun p e R s m args below meth c hF Q H locs cells slots la _ _ hR hL hB kk => ?_) hz
  obtain ⟨hx, hb, -, hown, hts, hK, -⟩ := hF
  have hlt : j.toNatClampNeg < zx_ln M i := Nat.not_le.mp fun q => hj (Or.inr q)
  have h0 : ¬ j < 0 := fun q => hj (Or.inl q)
  obtain ⟨cellV, g1, g2, g3, -⟩ := zx_ob hR hx7 (by omega)
  have hcls := (hK.1.1 7 _ (zx_cl_at (by omega))).2
  obtain ⟨kA, comp, k1, k2, k3, -⟩ := (zx_arr hK (a := 26) (by omega) (by omega)).2
  have hcomp : comp = E.2.1.1 7 := Option.some.inj (k3.symm.trans hcls.1)
  subst hcomp
  obtain ⟨kC, hkC, -⟩ := id hcls.2
  refine W.aast hx hb (zx_ar hR hi (by omega) (by omega)) (fun q h => by cases h) (fun h => by cases h) k1 k2 rfl hkC ⟨h0, by rw [arrV_size]; exact hlt⟩ g1 (fun q h => by rw [g3] at h; cases h) (by rw [g2]; exact hkC) (by rw [g2]; exact va_assign hcls) rfl rfl hd fun H' e1 e2 e3 => ?_
  refine kk H' _ la (zx_ast_R (M1 := zx_pr M i j.toNatClampNeg (some x)) hR hi (by omega) (by omega) rfl (fun _ => rfl) (fun _ => rfl) (fun _ _ => rfl) (fun _ _ => rfl) (fun q hq => ?_) ?_ (fun y hy => ?_) e1 e2 e3) hL (hB.add hi.1)
  · funext y; simp [zx_pr, zx_u2, hq]
  · simp [zx_cv, zx_pr, zx_u2, zx_tc, zx_at, zx_v, va_rf]
  · simp [zx_cv, zx_pr, zx_u2, zx_tc, zx_at, hy]
end ZN
end
section
/-! ===== rows of rows, copies, Math, Object.<init> ===== -/
theorem zx_jdk_all : ([Jvm.Cond.native arraycopyName, .static arraycopyName, .initialized "java/lang/System", .static Lib.Math.max.name, .static Lib.Math.min.name, .initialized "java/lang/Math", .code Lib.Math.max.name Lib.Math.max.code 2 (some .int), .code Lib.Math.min.name Lib.Math.min.code 2 (some .int), .instanceMethod Lib.objectInit, .code Lib.objectInit ⟨#[0xb1]⟩ 1 none, .arrayClass .int, .arrayClass .long].all fun w => decide (w ∈ lw_tbl) && goodWord w) = true := by decide +kernel
theorem zx_jdk {w : Jvm.Cond} (h : w ∈ [Jvm.Cond.native arraycopyName, .static arraycopyName, .initialized "java/lang/System", .static Lib.Math.max.name, .static Lib.Math.min.name, .initialized "java/lang/Math", .code Lib.Math.max.name Lib.Math.max.code 2 (some .int), .code Lib.Math.min.name Lib.Math.min.code 2 (some .int), .instanceMethod Lib.objectInit, .code Lib.objectInit ⟨#[0xb1]⟩ 1 none, .arrayClass .int, .arrayClass .long]) : w ∈ zx_good := by
  have h1 := List.all_eq_true.mp zx_jdk_all w h
  simp only [Bool.and_eq_true, decide_eq_true_eq] at h1
  exact List.mem_filter.mpr h1
/-- how many words a stack takes -/
def zx_sw8 (st : List Value) : Nat := (st.map fun v => v.category).sum
theorem zx_sw8_map (E : zx_E) (st : List Value) : ((st.map (zx_v E)).map fun v => v.category).sum = zx_sw8 st := by
  unfold zx_sw8
  rw [List.map_map]
  congr 1
  exact List.map_congr_left (fun v _ => zx_cat E v)
section ZO
variable {l : Launch} {E : zx_E} {d k pc pc1 len p0 a b : Nat} {v0 : Int32} {w0 : Int64} {ls : List (Option Value)} {st st1 : List Value} {M M1 : zx_M} {Qo : Option Value → zx_M → Prop}
theorem zx_objinit_ok {idx i : Nat} (hc : zx_chk k (pc, len, .invokespecial idx, v0, w0, p0, 5, b) = true) (hst : zx_sw8 st ≤ 8) (hd1 : 1 ≤ d)
    (hz : zx_To l E d k (pc + len) ls st M Qo) : zx_To l E d k pc ls (.ref i :: st) M Qo := by
  obtain ⟨hd, hl⟩ := zx_chk_dec hc
  have ho := zx_chk_opr hc
  simp [zx_opr] at ho
  rcases hl with hl | hl <;> first | (cases hl; done) | skip
  rw [hl] at hd hz
  refine zx_Zs rfl rfl (fun p e R s m args below meth c hF Q H locs cells slots la _ _ hR hL hB kk => ?_) hz
  obtain ⟨hx, hb, hml, hown, hts, hK, hfr, hlo, -⟩ := hF
  refine W.objInit hx hb hown (hts _ (zx_w_mem ho)) (hts _ (zx_jdk (by simp))) (hts _ (zx_jdk (by simp))) rfl (by rw [hml]; exact hL.1) rfl hd (by omega) ?_ (kk H locs la hR hL hB)
  rw [zx_sw8_map]
  show 2 * 0 + _ + 12 ≤ _
  omega
theorem zx_max_ok {idx : Nat} {x y : Int32} (hc : zx_chk k (pc, len, .invokestatic idx, v0, w0, p0, 7, b) = true) (hst : zx_sw8 st ≤ 8) (hd1 : 1 ≤ d)
    (hz : zx_To l E d k (pc + len) ls (.int (if x < y then y else x) :: st) M Qo) : zx_To l E d k pc ls (.int y :: .int x :: st) M Qo := by
  obtain ⟨hd, hl⟩ := zx_chk_dec hc
  have ho := zx_chk_opr hc
  simp [zx_opr] at ho
  rcases hl with hl | hl <;> first | (cases hl; done) | skip
  rw [hl] at hd hz
  refine zx_Zs rfl rfl (fun p e R s m args below meth c hF Q H locs cells slots la hC hS hR hL hB kk => ?_) hz
  obtain ⟨hx, hb, hml, hown, hts, hK, hfr, hlo, -⟩ := hF
  refine va_mmax hx hb (by rw [hml]; exact hL.1.symm) hown (hts _ (zx_w_mem ho)) (hts _ (zx_jdk (by simp))) (hts _ (zx_jdk (by simp))) (hts _ (zx_jdk (by simp))) (by omega) ?_ hC hS hd (kk H locs la hR hL hB)
  have := zx_sw8_map E st
  omega
theorem zx_min_ok {idx : Nat} {x y : Int32} (hc : zx_chk k (pc, len, .invokestatic idx, v0, w0, p0, 8, b) = true) (hst : zx_sw8 st ≤ 8) (hd1 : 1 ≤ d)
    (hz : zx_To l E d k (pc + len) ls (.int (if y < x then y else x) :: st) M Qo) : zx_To l E d k pc ls (.int y :: .int x :: st) M Qo := by
  obtain ⟨hd, hl⟩ := zx_chk_dec hc
  have ho := zx_chk_opr hc
  simp [zx_opr] at ho
  rcases hl with hl | hl <;> first | (cases hl; done) | skip
  rw [hl] at hd hz
  refine zx_Zs rfl rfl (fun p e R s m args below meth c hF Q H locs cells slots la hC hS hR hL hB kk => ?_) hz
  obtain ⟨hx, hb, hml, hown, hts, hK, hfr, hlo, -⟩ := hF
  refine va_mmin hx hb (by rw [hml]; exact hL.1.symm) hown (hts _ (zx_w_mem ho)) (hts _ (zx_jdk (by simp))) (hts _ (zx_jdk (by simp))) (hts _ (zx_jdk (by simp))) (by omega) ?_ hC hS hd (kk H locs la hR hL hB)
  have := zx_sw8_map E st
  omega
/-- a row of ints copied -/
def zx_cpy (M : zx_M) (src dst sp dp n : Nat) : zx_M := (zx_ur M.1 dst (va_cpy (M.1 src) (M.1 dst) sp dp n), M.2)
theorem zx_copy_ok {idx i0 i1 : Nat} {sp dp n : Int32} (hc : zx_chk k (pc, len, .invokestatic idx, v0, w0, p0, 6, b) = true) (hst : zx_sw8 st ≤ 8) (hd1 : 1 ≤ d) (hi0 : zx_is M i0 20) (hi1 : zx_is M i1 20)
    (h1 : ¬ sp < 0) (h2 : ¬ dp < 0) (h3 : ¬ n < 0) (h4 : sp.toNatClampNeg + n.toNatClampNeg ≤ zx_ln M i0) (h5 : dp.toNatClampNeg + n.toNatClampNeg ≤ zx_ln M i1)
    (hz : zx_To l E d k (pc + len) ls st (zx_cpy M i0 i1 sp.toNatClampNeg dp.toNatClampNeg n.toNatClampNeg) Qo) : zx_To l E d k pc ls (.int n :: .int dp :: .ref i1 :: .int sp :: .ref i0 :: st) M Qo := by
  obtain ⟨hd, hl⟩ := zx_chk_dec hc
  have ho := zx_chk_opr hc
  simp [zx_opr] at ho
  rcases hl with hl | hl <;> first | (cases hl; done) | skip
  rw [hl] at hd hz
  refine zx_Zs (M1 := zx_cpy M i0 i1 sp.toNatClampNeg dp.toNatClampNeg n.toNatClampNeg) rfl rfl (fun p e R s m args below meth c hF Q H locs cells slots la hC hS hR hL hB kk => ?_) hz
  obtain ⟨hx, hb, hml, hown, hts, hK, hfr, hlo, -⟩ := hF
  have nn : ∀ z : Int32, ¬ z < 0 → z.toInt = (z.toNatClampNeg : Int) := by
    intro z hz
    have hz0 : (0 : Int) ≤ z.toInt := by
      have := Int32.not_lt.mp hz
      simpa using Int32.le_iff_toInt_le.mp this
    show z.toInt = ((z.toInt.toNat : Nat) : Int)
    omega
  intro T hT X
  have hc0 : H[zx_rho E i0]? = some (arrV (E.2.2 20) (zx_ln M i0) (fun j => .int (M.1 i0 j))) := zx_ar hR hi0 (by omega) (by omega)
  have hc1 : H[zx_rho E i1]? = some (arrV (E.2.2 20) (zx_ln M i1) (fun j => .int (M.1 i1 j))) := zx_ar hR hi1 (by omega) (by omega)
  obtain ⟨-, k0, hk0, cm0, hkk0⟩ := (zx_arr hK (a := 20) (by omega) (by omega)).1 0 (fun _ => .null)
  obtain ⟨vm', X', step⟩ := X.arraycopy hx hown (hts _ (zx_w_mem ho)) (hts _ (zx_jdk (by simp))) (hts _ (zx_jdk (by simp))) (hts _ (zx_jdk (by simp))) (src := zx_rho E i0) (dst := zx_rho E i1) (cs := arrV (E.2.2 20) (zx_ln M i0) (fun j => .int (M.1 i0 j))) (cd := arrV (E.2.2 20) (zx_ln M i1) (fun j => .int (M.1 i1 j))) (srcPos := sp) (destPos := dp) (n := n) (by rw [hT]; exact hc0) (by rw [hT]; exact hc1)
    (fun _ h => by cases h) (fun _ h => by cases h) (fun h => by cases h) (fun h => by cases h) hk0 hk0 hkk0 hkk0 (by simp [zx_at, refKind]) h1 h2 h3
    (by rw [nn sp h1, nn n h3, arrV_size]; omega)
    (by rw [nn dp h2, nn n h3, arrV_size]; omega)
    (fun vm₁ _ i hi => by
      have e : (arrV (E.2.2 20) (zx_ln M i0) (fun j => .int (M.1 i0 j))).slots.getD (sp.toNatClampNeg + i) .null = .int (M.1 i0 (sp.toNatClampNeg + i)) := by
        rw [Array.getD_eq_getD_getElem?, arrV_read _ _ (by omega)]
        rfl
      refine ⟨?_, ?_⟩
      · rw [e]
        rfl
      · rw [e]
        exact trivial)
    (g := F0 m pc la (.int n :: .int dp :: .ref (zx_rho E i1) :: .int sp :: .ref (zx_rho E i0) :: st.map (zx_v E))) rfl (by rw [hml]; exact hL.1) (rest := st.map (zx_v E)) rfl (by rw [hb]; exact hd) (by omega)
    (by
      have := zx_sw8_map E st
      show 2 * 0 + _ + (nativeFrameWords "java/lang/System" "arraycopy" 5 + 11) ≤ _
      have e7 : nativeFrameWords "java/lang/System" "arraycopy" 5 = 7 := by decide
      omega)
  have e1 : copied (arrV (E.2.2 20) (zx_ln M i0) (fun j => .int (M.1 i0 j))) (arrV (E.2.2 20) (zx_ln M i1) (fun j => .int (M.1 i1 j))) sp dp n = arrV (E.2.2 20) (zx_ln M i1) (fun j => .int (va_cpy (M.1 i0) (M.1 i1) sp.toNatClampNeg dp.toNatClampNeg n.toNatClampNeg j)) := va_copied (fun z => .int z) _ _ _ _ h4
  rw [e1] at X' step
  have hl : zx_rho E i1 < H.size := (Array.getElem?_eq_some_iff.mp hc1).1
  generalize hnew : arrV (E.2.2 20) (zx_ln M i1) (fun j => Value.int (va_cpy (M.1 i0) (M.1 i1) sp.toNatClampNeg dp.toNatClampNeg n.toNatClampNeg j)) = cN at X' step
  have hheap : ((T.setVm vm').setCell (zx_rho E i1) cN).heap = H.setIfInBounds (zx_rho E i1) cN := by rw [← hT]; rfl
  have oq : ∀ q : Nat, q ≠ zx_rho E i1 → (H.setIfInBounds (zx_rho E i1) cN)[q]? = H[q]? := fun q hq => by simp [Array.getElem?_setIfInBounds, Ne.symm hq]
  have hR1 : zx_R E (zx_cpy M i0 i1 sp.toNatClampNeg dp.toNatClampNeg n.toNatClampNeg) s (H.setIfInBounds (zx_rho E i1) cN) := by
    refine hR.put hi1.1 rfl (fun _ => rfl) (fun _ => rfl) (fun j hj => ?_) (fun _ _ => rfl) (fun _ _ => rfl) (by simp) oq ⟨fun hlt => ?_, fun g1 g2 => ?_⟩
    · simp [zx_cpy, zx_ur, hj]
    · have : zx_kd M i1 < 13 := hlt
      rw [hi1.2.2] at this; omega
    · have hk : zx_kd (zx_cpy M i0 i1 sp.toNatClampNeg dp.toNatClampNeg n.toNatClampNeg) i1 = 20 := hi1.2.2
      rw [hk]
      simp only [Array.getElem?_setIfInBounds, if_pos hl, if_true]
      rw [← hnew]
      simp [zx_cv, zx_cpy, zx_ur, zx_tc, zx_at, zx_v, zx_ln]
  obtain ⟨t, a1, b1⟩ := kk _ _ la hR1 hL (fun q hq => by
      rcases List.mem_append.mp hq with h | h
      · exact hB q h
      · obtain ⟨z, -, hz⟩ := List.mem_map.mp h
        rw [← hz]
        exact zx_rho_in hi1.1) _ hheap X'
  exact ⟨t, step t a1, b1⟩
/-- new T[n][m] -/
def zx_mn (M : zx_M) (kd n1 n2 : Nat) : zx_M := (fun x => if zx_n M ≤ x then fun _ => 0 else M.1 x, fun x => if zx_n M ≤ x then fun _ => 0 else M.2.1 x, fun x => if x = zx_n M then (fun j => if j < n1 then some (zx_n M + 1 + j) else none) else if zx_n M < x then fun _ => none else M.2.2.1 x,
  fun x => if x = zx_n M then kd else if zx_n M < x then kd - 4 else M.2.2.2.1 x, fun x => if x = zx_n M then n1 else if zx_n M < x then n2 else M.2.2.2.2.1 x, zx_n M + 1 + n1, zx_sl M + (n1 + n1 * n2))
theorem zx_outer (E : zx_E) (c : ClassId) (N h0 : Nat) : ∀ i : Nat, Jvm.Free.Multi.outerC c N h0 i = arrV c N (fun j => if j < i then .ref (h0 + 1 + j) else .null)
  | 0 => by
    show ({ cls := c, slots := Array.replicate N .null, vm := .none } : Cell) = _
    rw [arrV_new]
    refine congrArg (arrV c N) (funext fun j => ?_)
    simp
  | i + 1 => by
    show (Jvm.Free.Multi.outerC c N h0 i).setSlot i (.ref (h0 + 1 + i)) = _
    rw [zx_outer E c N h0 i, arrV_store]
    refine congrArg (arrV c N) (funext fun j => ?_)
    by_cases e : j = i
    · subst e
      simp [updV]
    · by_cases h : j < i
      · simp [updV, e, h, Nat.lt_succ_of_lt h]
      · simp [updV, e, h, show ¬ j < i + 1 by omega]
theorem zx_mna_ok {idx : Nat} {n1 n2 : Int32} (hc : zx_chk k (pc, len, .multianewarray idx 2, v0, w0, p0, a, b) = true) (hn1 : ¬ n1 < 0) (hn2 : ¬ n2 < 0) (hN1 : n1.toNatClampNeg ≤ 65536) (hN2 : n2.toNatClampNeg ≤ 65536)
    (hz : zx_To l E d k (pc + len) ls (.ref (zx_n M) :: st) (zx_mn M a n1.toNatClampNeg n2.toNatClampNeg) Qo) : zx_To l E d k pc ls (.int n2 :: .int n1 :: st) M Qo := by
  obtain ⟨hd, hl⟩ := zx_chk_dec hc
  have ho := zx_chk_opr hc
  simp only [zx_opr, Bool.and_eq_true, decide_eq_true_eq] at ho
  obtain ⟨⟨-, ha⟩, hw⟩ := ho
  rcases hl with hl | hl <;> first | (cases hl; done) | skip
  rw [hl] at hd hz
  refine zx_Zn (M1 := zx_mn M a n1.toNatClampNeg n2.toNatClampNeg) (by show _ ≤ zx_n M + 1 + _; omega) (Nat.le_add_right _ _) (fun p e R s m args below meth c hF Q H locs cells slots la hC hS hR hL hB kk => ?_) hz
  have hcn : zx_n (zx_mn M a n1.toNatClampNeg n2.toNatClampNeg) - zx_n M = 1 + n1.toNatClampNeg := by show zx_n M + 1 + _ - zx_n M = _; omega
  have hcs : zx_sl (zx_mn M a n1.toNatClampNeg n2.toNatClampNeg) - zx_sl M = n1.toNatClampNeg + n1.toNatClampNeg * n2.toNatClampNeg := by show zx_sl M + _ - zx_sl M = _; omega
  rw [hcn] at hC kk
  rw [hcs] at hS kk
  obtain ⟨hx, hb, -, hown, hts, hK, -⟩ := hF
  have hA := zx_arr hK (a := a) (by omega) (by omega)
  have hA4 := zx_arr hK (a := a - 4) (by omega) (by omega)
  obtain ⟨ty, hty, hat4⟩ : ∃ ty, zx_at a = .array ty ∧ zx_at (a - 4) = ty := by
    rcases ha with rfl | rfl
    · exact ⟨_, rfl, rfl⟩
    · exact ⟨_, rfl, rfl⟩
  have hover : (Jvm.Cond.arrayOver (.array ty)).before args s = true := by
    rcases ha with rfl | rfl <;> cases hty
    · exact zx_over hK zx_over_all.2.1 rfl
    · exact zx_over hK zx_over_all.2.2 rfl
  have hcls : (Jvm.Cond.arrayClass ty).before args s = true := by
    rcases ha with rfl | rfl <;> cases hty <;> exact hts _ (zx_jdk (by simp))
  have hclink : (Jvm.Cond.classLink (zx_own k) idx ("[" ++ (FieldType.array ty).toString)).before args s = true := by
    have h9 := hts _ (zx_w_mem hw)
    rcases ha with rfl | rfl <;> cases hty <;> exact h9
  intro T hT Xs
  have hby : n2.toNatClampNeg * componentBytes ty ≤ 536870912 := by
    rcases ha with rfl | rfl <;> cases hty <;> simp only [componentBytes] <;> omega
  have hdf : fits ty (defaultValue ty) = true ∧ (defaultValue ty).isDefault = true := by
    rcases ha with rfl | rfl <;> cases hty <;> exact ⟨by decide, by decide⟩
  obtain ⟨vm₁, cA, comp, -, fA, fC, hO, -, X', step⟩ := Xs.multianewarray2F hx hown hclink hover hcls (g := F0 m pc la (.int n2 :: .int n1 :: st.map (zx_v E))) rfl (by rw [hb]; exact hd) rfl hn1 hn2 (by omega) hby (by omega) hdf.1 hdf.2 hC hS
  have ecA : cA = E.2.2 a := by
    have h2 := hA.2
    rcases ha with rfl | rfl <;> cases hty <;> exact Option.some.inj (fA.symm.trans h2)
  have ecc : comp = E.2.2 (a - 4) := by
    have h2 := hA4.2
    rcases ha with rfl | rfl <;> cases hty <;> exact Option.some.inj (fC.symm.trans h2)
  subst ecA
  subst ecc
  generalize hF : Jvm.Free.Multi.fill (T.setVm vm₁) (E.2.2 a) (E.2.2 (a - 4)) n1.toNatClampNeg n2.toNatClampNeg (defaultValue ty) n1.toNatClampNeg = F at X' step
  have hTh : (T.setVm vm₁).heap = H := hT
  obtain ⟨f1, f2, -, -⟩ := Jvm.Free.Multi.fill_facts (T.setVm vm₁) (E.2.2 a) (E.2.2 (a - 4)) n1.toNatClampNeg n2.toNatClampNeg (defaultValue ty) n1.toNatClampNeg
  rw [hF, hTh] at f1 f2
  have hold : ∀ x : Nat, x < H.size → F.heap[x]? = H[x]? := fun x hx => by
    have := Jvm.Free.Multi.fill_old (T.setVm vm₁) (E.2.2 a) (E.2.2 (a - 4)) n1.toNatClampNeg n2.toNatClampNeg (defaultValue ty) (a := x) (by rw [hTh]; exact hx) n1.toNatClampNeg
    rw [hF, hTh] at this
    exact this
  have hrow : ∀ j : Nat, j < n1.toNatClampNeg → F.heap[H.size + 1 + j]? = some (arrV (E.2.2 (a - 4)) n2.toNatClampNeg (fun _ => defaultValue ty)) := fun j hj => by
    have := Jvm.Free.Multi.fill_inner (T.setVm vm₁) (E.2.2 a) (E.2.2 (a - 4)) n1.toNatClampNeg n2.toNatClampNeg (defaultValue ty) n1.toNatClampNeg j hj
    rw [hF, hTh] at this
    rw [this]
    exact congrArg some (arrV_new _ _ _)
  rw [zx_outer E] at f2
  have h3 := hR.1
  have hsz := hR.2.1
  have hR1 : zx_R E (zx_mn M a n1.toNatClampNeg n2.toNatClampNeg) s F.heap := by
    refine ⟨by show 3 ≤ zx_n M + 1 + _; omega, by rw [f1]; show _ = E.1.1 + (zx_n M + 1 + _); omega, ?_, fun j hj3 hj => ?_⟩
    · refine (hR.2.2.1.kept (fun a ha _ => hold a ha)).cong ?_ ?_ ?_ <;> intro j hj
      · simp [zx_kd, zx_mn, show j ≠ zx_n M by omega, show ¬ zx_n M < j by omega]
      · simp [zx_ln, zx_mn, show j ≠ zx_n M by omega, show ¬ zx_n M < j by omega]
      · simp [zx_mn, show ¬ zx_n M ≤ j by omega]
    · have hj' : j < zx_n M + 1 + n1.toNatClampNeg := hj
      rcases Nat.lt_trichotomy j (zx_n M) with hlt | heq | hgt
      · refine ((hR.2.2.2 j hj3 hlt).kept (hold _ (hR.ltH hj3 hlt))).cong ?_ ?_ ?_ ?_ ?_ <;> simp [zx_kd, zx_ln, zx_mn, show j ≠ zx_n M by omega, show ¬ zx_n M < j by omega, show ¬ zx_n M ≤ j by omega]
      · subst heq
        have hk : zx_kd (zx_mn M a n1.toNatClampNeg n2.toNatClampNeg) (zx_n M) = a := by simp [zx_kd, zx_mn]
        have hln : zx_ln (zx_mn M a n1.toNatClampNeg n2.toNatClampNeg) (zx_n M) = n1.toNatClampNeg := by simp [zx_ln, zx_mn]
        refine ⟨fun hlt => ?_, fun g1 g2 => ?_⟩
        · rw [hk] at hlt; omega
        · rw [hk, hln, ← hR.at, f2]
          congr 2
          funext j
          have htc : zx_tc (zx_at a) = 2 := by rw [hty]; rfl
          rw [htc]
          simp only [zx_cv, zx_mn, if_true]
          by_cases hjn : j < n1.toNatClampNeg
          · simp only [hjn, if_true, va_rf, zx_v]
            have e8 : zx_rho E (zx_n M + 1 + j) = H.size + 1 + j := by rw [zx_rho_ge (by omega)]; omega
            rw [e8]
          · simp [hjn, va_rf, zx_v]
      · have hk : zx_kd (zx_mn M a n1.toNatClampNeg n2.toNatClampNeg) j = a - 4 := by simp [zx_kd, zx_mn, show j ≠ zx_n M by omega, hgt]
        have hln : zx_ln (zx_mn M a n1.toNatClampNeg n2.toNatClampNeg) j = n2.toNatClampNeg := by simp [zx_ln, zx_mn, show j ≠ zx_n M by omega, hgt]
        refine ⟨fun hlt => ?_, fun g1 g2 => ?_⟩
        · rw [hk] at hlt; omega
        · rw [hk, hln]
          have e9 := hrow (j - zx_n M - 1) (by omega)
          rw [show H.size + 1 + (j - zx_n M - 1) = zx_rho E j by rw [zx_rho_ge hj3]; omega] at e9
          rw [e9]
          congr 2
          funext y
          rw [hat4]
          rcases ha with rfl | rfl <;> cases hty <;> simp [zx_cv, zx_mn, zx_tc, zx_v, defaultValue, show zx_n M ≤ j by omega]
  obtain ⟨t, a1, b1⟩ := kk F.heap locs la hR1 hL hB F rfl (by rw [show cells + (1 + n1.toNatClampNeg) = cells + 1 + n1.toNatClampNeg by omega, show slots + (n1.toNatClampNeg + n1.toNatClampNeg * n2.toNatClampNeg) = slots + n1.toNatClampNeg + n1.toNatClampNeg * n2.toNatClampNeg by omega]; exact X')
  refine ⟨t, step t ?_, b1⟩
  have e0 : T.heap.size = zx_rho E (zx_n M) := by rw [hT]; exact hR.at
  rw [e0]
  exact a1
end ZO
end
section
/-! ===== a method's contract out of its run; calls ===== -/
theorem zx_nest_alike {w : Jvm.Cond} (hw : w ∈ zx_nest) {s U : State} (h : (∀ (a : String) (i : Nat) (x : MethodName) (b : String), w = .methodLinkNest a i x b → va_Nw w s → va_Nw w U)) (hal : s.vm.Alike U.vm) (hZ : va_Nw w s) : va_Nw w U := by
  have h2 := (List.mem_filter.mp hw).2
  cases w <;> first | (exact h _ _ _ _ rfl hZ) | (simp at h2; done) | skip
  rename_i ty
  cases ty <;> first | (exact va_AO.moved hal hZ) | (exact Jvm.Stand.arrayOver_alikeB hal hZ) | (simp at h2; done)
theorem zx_K.warm {E : zx_E} {s U : State} (hW : s.WarmedH U.vm) (h : zx_K E s) : zx_K E U :=
  ⟨va_K.moved hW.alike h.1, fun w hw => zx_nest_alike hw (fun _ _ _ _ e q => by subst e; exact va_Nw.warmM hW q) hW.alike (h.2 w hw)⟩
theorem zx_K.same {E : zx_E} {s U : State} (hv : s.vm = U.vm) (h : zx_K E s) : zx_K E U := by
  have hal : s.vm.Alike U.vm := by rw [hv]; exact Vm.Alike.refl U.vm
  exact ⟨va_K.moved hal h.1, fun w hw => zx_nest_alike hw (fun _ _ _ _ e q => by subst e; exact va_Nw.same rfl hv q) hal (h.2 w hw)⟩
def zx_ws (k : Nat) : List Jvm.Cond := .code (zx_y k) (zx_b k) (zx_mL k) (zx_rt k) :: zx_good
def zx_Pc (E : zx_E) (as : List Value) (M : zx_M) : Array Value → State → Prop := va_Pc (as.map (zx_v E)) (fun U => zx_R E M U U.heap ∧ zx_K E U)
def zx_Qc (E : zx_E) (r : Option Value) (M' : zx_M) : Array Value → State → Outcome → State → Prop := fun _ _ o t => o = .returned (r.map (zx_v E)) ∧ zx_R E M' t t.heap
/-- the locals at the entry -/
def zx_en (as : List Value) : List (Option Value) := match as with
  | [] => []
  | v :: vs => match v with
    | .long x => some (.long x) :: none :: zx_en vs
    | .double x => some (.double x) :: none :: zx_en vs
    | w => some w :: zx_en vs
def zx_ent (as : List Value) (n : Nat) : List (Option Value) := zx_en as ++ List.replicate (n - (zx_en as).length) none
theorem zx_en_len (E : zx_E) : ∀ as : List Value, (lg_sl (as.map (zx_v E))).length = (zx_en as).length
  | [] => rfl
  | v :: vs => by
    have ih := zx_en_len E vs
    unfold lg_sl at ih ⊢
    simp only [List.map_cons, List.flatMap_cons, List.length_append, ih, zx_cat]
    cases v <;> simp [zx_en, Value.category] <;> omega
theorem zx_en_mem (E : zx_E) : ∀ (as : List Value) (j i : Nat) (v : Value), (zx_en as)[i]? = some (some v) → (j + i, zx_v E v) ∈ lv_args j (as.map (zx_v E))
  | [], _, _, _, h => by simp [zx_en] at h
  | w :: vs, j, i, v, h => by
    simp only [List.map_cons, lv_args, zx_cat]
    have one : (∀ x, w ≠ .long x) → (∀ x, w ≠ .double x) → (j + i, zx_v E v) ∈ (j, zx_v E w) :: lv_args (if w.category = 2 then j + 2 else j + 1) (vs.map (zx_v E)) := by
      intro n1 n2
      have e : zx_en (w :: vs) = some w :: zx_en vs := by cases w <;> first | rfl | exact absurd rfl (n1 _) | exact absurd rfl (n2 _)
      have hc : ¬ w.category = 2 := by cases w <;> first | (simp [Value.category]; done) | exact absurd rfl (n1 _) | exact absurd rfl (n2 _)
      rw [e] at h
      rw [if_neg hc]
      cases i with
      | zero => simp at h; subst h; exact List.mem_cons_self
      | succ i =>
        simp at h
        have := zx_en_mem E vs (j + 1) i v h
        rw [show j + 1 + i = j + (i + 1) by omega] at this
        exact List.mem_cons_of_mem _ this
    have two : w.category = 2 → (∀ us, zx_en (w :: us) = some w :: none :: zx_en us) → (j + i, zx_v E v) ∈ (j, zx_v E w) :: lv_args (if w.category = 2 then j + 2 else j + 1) (vs.map (zx_v E)) := by
      intro hc e
      rw [e] at h
      rw [if_pos hc]
      match i, h with
      | 0, h => simp at h; subst h; exact List.mem_cons_self
      | 1, h => simp at h
      | i + 2, h =>
        simp at h
        have := zx_en_mem E vs (j + 2) i v h
        rw [show j + 2 + i = j + (i + 2) by omega] at this
        exact List.mem_cons_of_mem _ this
    cases w with
    | long x => exact two rfl (fun _ => rfl)
    | double x => exact two rfl (fun _ => rfl)
    | _ => exact one (fun _ h => by cases h) (fun _ h => by cases h)
theorem zx_ent_L {E : zx_E} {as : List Value} {n : Nat} {la : Array Slot} (h : lv_has la n (lv_args 0 (as.map (zx_v E)))) : zx_L E n (zx_ent as n) la := by
  refine ⟨h.1, h.2.1, fun i v hi => ?_⟩
  have h2 : (zx_en as)[i]? = some (some v) := by
    unfold zx_ent at hi
    by_cases hl : i < (zx_en as).length
    · rw [List.getElem?_append_left hl] at hi; exact hi
    · rw [List.getElem?_append_right (by omega), List.getElem?_replicate] at hi
      split at hi <;> cases hi
  have := zx_en_mem E as 0 i v h2
  rw [Nat.zero_add] at this
  exact h.2.2 _ this
theorem zx_mok_code {k : Nat} (h : zx_mok k = true) : Jvm.Cond.code (zx_y k) (zx_b k) (zx_mL k) (zx_rt k) ∈ zx_good ∧ Jvm.Cond.initialized (zx_y k).cls ∈ zx_good ∧ ((zx_y k).cls ≠ "java/lang/invoke/MethodHandle" ∧ (zx_y k).cls ≠ "java/lang/invoke/VarHandle" ∧ (parseMethodDescriptor (zx_y k).desc).map (fun d => d.parameters.length) = some (zx_np k)) ∧ zx_mL k ≤ 45 ∧ plainName (zx_y k).cls = true ∧
    (zx_st k = true → Jvm.Cond.static (zx_y k) ∈ zx_good) ∧ (zx_st k = false → Jvm.Cond.instanceMethod (zx_y k) ∈ zx_good ∧ ((zx_y k).name = "<init>" ∨ Jvm.Cond.selects (zx_y k).cls (zx_y k) (zx_y k) ∈ zx_good) ∧ zx_mc k < 13 ∧ zx_C (zx_mc k) = (zx_y k).cls) := by
  simp only [zx_mok, Bool.and_eq_true, decide_eq_true_eq, Bool.or_eq_true] at h
  obtain ⟨⟨⟨⟨⟨⟨h1, h2⟩, h3⟩, h4⟩, h5⟩, h6⟩, h7⟩ := h
  refine ⟨zx_w_mem h1, zx_w_mem h3, h4, h5, h6, fun hs => ?_, fun hs => ?_⟩
  · rw [hs] at h2
    exact zx_w_mem h2
  · rw [hs] at h2 h7
    simp only [Bool.and_eq_true, Bool.or_eq_true, decide_eq_true_eq, Bool.false_eq_true, if_false, false_or] at h2 h7
    exact ⟨zx_w_mem h2.1, h2.2.imp id zx_w_mem, h7⟩
theorem zx_met {l : Launch} {E : zx_E} {d k : Nat} {as : List Value} {M M' : zx_M} {r : Option Value} (hk : zx_mok k = true) (hlen : (zx_en as).length ≤ zx_mL k) (hrok : zx_rok k r) (hZ : zx_Z l E d k 0 (zx_ent as (zx_mL k)) [] M r M') :
    Met l (zx_y k) (zx_ws k) ({ frames := d, cells := zx_n M' - zx_n M, slots := zx_sl M' - zx_sl M, locals := 64 * d }) (zx_Pc E as M) (zx_Qc E r M') (zx_n M' - zx_n M) (zx_sl M' - zx_sl M) (zx_A E) := by
  have hm := zx_mok_code hk
  refine Met.ofW (cc := zx_b k) (maxL := zx_mL k) (ret := zx_rt k) hm.2.2.2.2.1 rfl ?_
  intro p e s m args below meth c s₁ B hml hv
  obtain ⟨rfl, hR, hK⟩ := hv
  have hx := B.exec
  have hb := B.bytes
  have hr := B.returns
  have hts := atoms_spec (ws := zx_ws k) B.pre
  have hown : s.vm.findClass (zx_y k).cls = some m.cls := findClass_of_methodNamed B.named
  have hlocks := B.notSynchronized
  have hl := lv_entry (as.map (zx_v E)) (n := zx_mL k) (by rw [zx_en_len]; exact hlen)
  rw [lg_entry_eq]
  generalize (lg_sl (as.map (zx_v E)) ++ List.replicate (zx_mL k - (lg_sl (as.map (zx_v E))).length) Slot.unset).toArray = la at hl ⊢
  refine hZ.2.2 p e _ s m _ below meth c ⟨hx, hb, hml, hown, fun w hw => hts w (List.mem_cons_of_mem _ hw), hK, Nat.le_refl _, Nat.le_refl _, (name_of_methodNamed B.named B.method).1⟩ _ _ _ (Nat.le_refl _) (Nat.le_refl _) (fun pc' la' H' locs' hd hR' hB' => ?_) s.heap [] 0 0 la hR (zx_ent_L hl) (fun _ h => by cases h) (Nat.zero_add _) (Nat.zero_add _)
  have hQ : ∀ t : State, t.heap = H' → s.WarmedH t.vm → zx_R E M' t t.heap := fun t ht hW => by rw [ht]; exact hR'.moved hW.alike
  match r, hrok, hd with
  | none, ho, hd => exact W.vret hx hb (by rw [hr]; exact ho) (fun t ht hW => ⟨rfl, hQ t ht hW⟩) hB' hd
  | some (.int v), ho, hd =>
    obtain ⟨ty, ht, hn⟩ := ho
    exact W.zret hx hb (by rw [hr]; exact ht) hn (fun t ht hW => ⟨rfl, hQ t ht hW⟩) hB' hd
  | some (.long v), ho, hd => exact W.lret hx hb (by rw [hr]; exact ho) (fun t ht hW => ⟨rfl, hQ t ht hW⟩) hB' hd
def zx_Ci (l : Launch) (E : zx_E) (d b : Nat) (as : List Value) (M : zx_M) (Q : Int32 → zx_M → Prop) : Prop := zx_To l E d b 0 (zx_ent as (zx_mL b)) [] M (fun r M' => ∃ v, r = some (.int v) ∧ Q v M')
def zx_Cl (l : Launch) (E : zx_E) (d b : Nat) (as : List Value) (M : zx_M) (Q : Int64 → zx_M → Prop) : Prop := zx_To l E d b 0 (zx_ent as (zx_mL b)) [] M (fun r M' => ∃ v, r = some (.long v) ∧ Q v M')
def zx_Cv (l : Launch) (E : zx_E) (d b : Nat) (as : List Value) (M : zx_M) (Q : zx_M → Prop) : Prop := zx_To l E d b 0 (zx_ent as (zx_mL b)) [] M (fun r M' => r = none ∧ Q M')
theorem zx_gi {ws : List Jvm.Cond} (h : ∀ w ∈ ws, w ∈ zx_good) : GoodIn zx_good ws := fun w hw => ⟨h w hw, good_of_word (List.mem_filter.mp (h w hw)).2⟩
theorem zx_blind {E : zx_E} {as : List Value} {M : zx_M} : FrameBlind (zx_Pc E as M) := fun a U g mk q => ⟨q.1, zx_R.moved (u := U) (Vm.Alike.refl U.vm) q.2.1, zx_K.same (s := U) (U := U.calling g mk a) rfl q.2.2⟩
theorem zx_pre {E : zx_E} {as : List Value} {M : zx_M} {s : State} {H : Heap} (hR : zx_R E M s H) (hK : zx_K E s) : ∀ U : State, U.heap = H → s.WarmedH U.vm → zx_Pc E as M (as.map (zx_v E)).toArray U := fun U hU hW => ⟨rfl, by rw [hU]; exact hR.moved hW.alike, hK.warm hW⟩
section ZR
variable {p : Program} {l : Launch} {e : Env} {R : Room} {s : State} {m : MethodId} {args : Array Value} {below : List Frame} {meth : Method} {c : Code} {H : Heap} {locs : List Loc} {cells slots mc ms : Nat} {Q : State → Prop}
theorem zx_run {E : zx_E} {M1 : zx_M} {r1 : Option Value} {a : Array Value} {pc : Nat} {la : Array Slot} {st0 rest : List Value} (hr : va_Run p l e R s m args below meth c H locs cells slots mc ms (F0 m pc la st0) rest (zx_Qc E r1 M1 a) (zx_A E)) (hB : zx_B E locs)
    (kk : ∀ (H1 : Heap) (locs1 : List Loc), zx_R E M1 s H1 → zx_B E locs1 → W p l e R s m args below meth c H1 locs1 (cells + mc) (slots + ms) Q (F0 m (pc + 3) la ((r1.map (zx_v E)).toList ++ rest))) : W p l e R s m args below meth c H locs cells slots Q (F0 m pc la st0) := by
  intro T hT X
  obtain ⟨v, st₀, t, T', L, h0, X', hL, e1, e2, ⟨hv, hR1⟩, st⟩ := hr T hT X
  cases hv
  obtain ⟨t2, a1, b1⟩ := kk T'.heap (locs ++ L) (by rw [e1]; exact hR1.moved (by rw [← e2]; exact X'.warmed.alike.symm)) (fun q hq => by
    rcases List.mem_append.mp hq with h | h
    · exact hB q h
    · exact hL q h) T' rfl X'
  exact ⟨t2, st t2 a1, b1⟩
end ZR
section ZL
variable {l : Launch} {E : zx_E} {d k pc len p0 a b : Nat} {v0 : Int32} {w0 : Int64} {ls : List (Option Value)} {st as : List Value} {M : zx_M} {Qo : Option Value → zx_M → Prop}
/-- behind a call -/
theorem zx_call_gen {st0 : List Value} {Qr : Option Value → zx_M → Prop} (hk : zx_mok b = true) (hlen : (zx_en as).length ≤ zx_mL b) (hz : zx_To l E d b 0 (zx_ent as (zx_mL b)) [] M Qr) (hq : ∀ r1 M1, Qr r1 M1 → zx_To l E (d + 1) k (pc + 3) ls (r1.toList ++ st) M1 Qo)
    (hrun : ∀ (r1 : Option Value) (M1 : zx_M), Met l (zx_y b) (zx_ws b) ({ frames := d, cells := zx_n M1 - zx_n M, slots := zx_sl M1 - zx_sl M, locals := 64 * d }) (zx_Pc E as M) (zx_Qc E r1 M1) (zx_n M1 - zx_n M) (zx_sl M1 - zx_sl M) (zx_A E) →
      ∀ (p : Program) (e : Env) (R : Room) (s : State) (m : MethodId) (args : Array Value) (below : List Frame) (meth : Method) (c : Code), zx_F E (d + 1) k p R s m args meth c → ∀ (H : Heap) (locs : List Loc) (cells slots : Nat) (la : Array Slot), zx_R E M s H → zx_L E (zx_mL k) ls la →
      cells + (zx_n M1 - zx_n M) ≤ R.cells → slots + (zx_sl M1 - zx_sl M) ≤ R.slots →
      ∃ a0, va_Run p l e R s m args below meth c H locs cells slots (zx_n M1 - zx_n M) (zx_sl M1 - zx_sl M) (F0 m pc la (st0.map (zx_v E))) (st.map (zx_v E)) (zx_Qc E r1 M1 a0) (zx_A E)) :
    zx_To l E (d + 1) k pc ls st0 M Qo := by
  obtain ⟨r1, M1, hq1, hrok, hZ⟩ := hz
  obtain ⟨r, M', hQ, ho, h1, h2, h3⟩ := hq r1 M1 hq1
  have hM := zx_met hk hlen hrok hZ
  have n1 := hZ.1
  have s1 := hZ.2.1
  refine ⟨r, M', hQ, ho, by omega, by omega, fun p e R s m args below meth c hF Q CF SF hC hS hret H locs cells slots la hR hL hB e1 e2 => ?_⟩
  obtain ⟨a0, hr⟩ := hrun r1 M1 hM p e R s m args below meth c hF H locs cells slots la hR hL (by omega) (by omega)
  refine zx_run hr hB (fun H1 locs1 hR1 hB1 => ?_)
  have := h3 p e R s m args below meth c hF Q CF SF hC hS hret H1 locs1 (cells + (zx_n M1 - zx_n M)) (slots + (zx_sl M1 - zx_sl M)) la hR1 hL hB1 (by omega) (by omega)
  cases r1 <;> exact this
theorem zx_mapr (E : zx_E) (as st : List Value) (i : Nat) : (as.reverse ++ .ref i :: st).map (zx_v E) = (as.map (zx_v E)).reverse ++ .ref (zx_rho E i) :: st.map (zx_v E) := by
  rw [List.map_append, List.map_reverse]; rfl
theorem zx_maps (E : zx_E) (as st : List Value) : (as.reverse ++ st).map (zx_v E) = (as.map (zx_v E)).reverse ++ st.map (zx_v E) := by
  rw [List.map_append, List.map_reverse]
theorem zx_virt_ok {idx i : Nat} {Qr : Option Value → zx_M → Prop} (hc : zx_chk k (pc, len, .invokevirtual idx, v0, w0, p0, a, b) = true) (hi : zx_is M i (zx_mc b)) (hn : as.length = zx_np b) (hst : zx_sw8 st ≤ 8) (hlen : (zx_en (.ref i :: as)).length ≤ zx_mL b)
    (hz : zx_To l E d b 0 (zx_ent (.ref i :: as) (zx_mL b)) [] M Qr) (hq : ∀ r1 M1, Qr r1 M1 → zx_To l E (d + 1) k (pc + len) ls (r1.toList ++ st) M1 Qo) : zx_To l E (d + 1) k pc ls (as.reverse ++ .ref i :: st) M Qo := by
  obtain ⟨hd, hl⟩ := zx_chk_dec hc
  have ho := zx_chk_opr hc
  simp only [zx_opr, Bool.and_eq_true, decide_eq_true_eq, Bool.not_eq_true'] at ho
  obtain ⟨⟨⟨⟨-, hs0⟩, hmk⟩, hw⟩, hne⟩ := ho
  rcases hl with hl | hl <;> first | (cases hl; done) | skip
  rw [hl] at hd hq
  have hm := zx_mok_code hmk
  obtain ⟨hinst, hsel, hc13, hcn⟩ := hm.2.2.2.2.2.2 hs0
  refine zx_call_gen hmk hlen hz hq (fun r1 M1 hM p e R s m args below meth c hF H locs cells slots la hR hL hC hS => ?_)
  obtain ⟨hx, hb, hml, hown, hts, hK, hfr, hlo, -⟩ := hF
  rw [zx_mapr]
  refine ⟨_, va_runV (As := as.map (zx_v E)) (rest := st.map (zx_v E)) (n := zx_np b) ⟨hx, hb, hml, hown, hts⟩ hM (cwV (zx_np b) hts (zx_gi (fun w h => ?_)) rfl rfl rfl ⟨rfl, hm.2.2.1⟩ ⟨hfr, by have := hm.2.2.2.1; show 8 + (zx_mL b + 11) + 64 * d ≤ _; omega⟩) ⟨zx_blind, ?_, zx_pre (as := .ref i :: as) hR hK⟩ rfl (by rw [List.length_map]; exact hn) hL.1 rfl (lv_room (by rw [zx_sw8_map]; exact hst)) hd ⟨hC, hS⟩⟩
  · simp only [wsV, List.mem_append, List.mem_cons, List.not_mem_nil, or_false] at h
    rcases h with (h | h | h | h) | h
    · rw [h]; exact zx_w_mem hw
    · rw [h]; exact hinst
    · rw [h]; exact hsel.resolve_left hne
    · rw [h]; exact hm.2.1
    · rcases List.mem_cons.mp h with h | h
      · rw [h]; exact hm.1
      · exact h
  · obtain ⟨cell, g1, g2, g3, -⟩ := zx_ob hR hi hc13
    exact ⟨cell, g1, by rw [g3]; rfl, by rw [g2, ← hcn]; exact (hK.1.1 _ _ (zx_cl_at hc13)).2.1⟩
theorem zx_stat_ok {idx : Nat} {Qr : Option Value → zx_M → Prop} (hc : zx_chk k (pc, len, .invokestatic idx, v0, w0, p0, a, b) = true) (ha : a = 2 ∨ a = 4) (hn : as.length = zx_np b) (hst : zx_sw8 st ≤ 8) (hlen : (zx_en as).length ≤ zx_mL b)
    (hz : zx_To l E d b 0 (zx_ent as (zx_mL b)) [] M Qr) (hq : ∀ r1 M1, Qr r1 M1 → zx_To l E (d + 1) k (pc + len) ls (r1.toList ++ st) M1 Qo) : zx_To l E (d + 1) k pc ls (as.reverse ++ st) M Qo := by
  obtain ⟨hd, hl⟩ := zx_chk_dec hc
  have ho := zx_chk_opr hc
  have hsm : zx_st b = true ∧ zx_mok b = true ∧ (a = 2 → zx_w p0 (.methodLink (zx_own k) idx (zx_y b)) = true) ∧ (a = 4 → zx_wn p0 (.methodLinkNest (zx_own k) idx (zx_y b) "NamesThatShrink") = true) := by
    rcases ha with rfl | rfl <;> simp [zx_opr] at ho <;> simp [ho]
  obtain ⟨hs0, hmk, hw2, hw4⟩ := hsm
  rcases hl with hl | hl <;> first | (cases hl; done) | skip
  rw [hl] at hd hq
  have hm := zx_mok_code hmk
  refine zx_call_gen hmk hlen hz hq (fun r1 M1 hM p e R s m args below meth c hF H locs cells slots la hR hL hC hS => ?_)
  obtain ⟨hx, hb, hml, hown, hts, hK, hfr, hlo, -⟩ := hF
  rw [zx_maps]
  have hroom : d + 1 ≤ R.frames ∧ 8 + (zx_mL b + 11) + 64 * d ≤ R.locals := ⟨hfr, by have := hm.2.2.2.1; omega⟩
  have hgw : ∀ w ∈ zx_ws b, w ∈ zx_good := fun w h => by
    rcases List.mem_cons.mp h with h | h
    · rw [h]; exact hm.1
    · exact h
  rcases ha with rfl | rfl
  · refine ⟨_, va_runS (As := as.map (zx_v E)) (rest := st.map (zx_v E)) (n := zx_np b) ⟨hx, hb, hml, hown, hts⟩ hM (va_cwS (zx_np b) hts (zx_gi (fun w h => ?_)) rfl rfl rfl hm.2.2.1 hroom) ⟨zx_blind, zx_pre hR hK⟩ rfl (by rw [List.length_map]; exact hn) hL.1 rfl (lv_room (by rw [zx_sw8_map]; exact hst)) hd ⟨hC, hS⟩⟩
    simp only [va_wsS, List.mem_append, List.mem_cons, List.not_mem_nil, or_false] at h
    rcases h with (h | h | h) | h
    · rw [h]; exact zx_w_mem (hw2 rfl)
    · rw [h]; exact hm.2.2.2.2.2.1 hs0
    · rw [h]; exact hm.2.1
    · exact hgw w h
  · exact ⟨_, va_runSN (As := as.map (zx_v E)) (rest := st.map (zx_v E)) (n := zx_np b) ⟨hx, hb, hml, hown, hts⟩ hM ⟨va_cnB (zx_np b) hts (zx_gi hgw) rfl rfl rfl (hK.2 _ (List.mem_filter.mpr ⟨zx_wn_mem (hw4 rfl), rfl⟩)) (hts _ hm.2.1) hm.2.2.1 hroom, hts _ (hm.2.2.2.2.2.1 hs0), trivial⟩ ⟨zx_blind, zx_pre hR hK⟩ rfl (by rw [List.length_map]; exact hn) hL.1 rfl (lv_room (by rw [zx_sw8_map]; exact hst)) hd ⟨hC, hS⟩⟩
theorem zx_init_ok {idx i : Nat} {Qr : Option Value → zx_M → Prop} (hc : zx_chk k (pc, len, .invokespecial idx, v0, w0, p0, a, b) = true) (ha : a = 1 ∨ a = 3) (hn : as.length = zx_np b) (hst : zx_sw8 st ≤ 8) (hlen : (zx_en (.ref i :: as)).length ≤ zx_mL b)
    (hz : zx_To l E d b 0 (zx_ent (.ref i :: as) (zx_mL b)) [] M Qr) (hq : ∀ r1 M1, Qr r1 M1 → zx_To l E (d + 1) k (pc + len) ls (r1.toList ++ st) M1 Qo) : zx_To l E (d + 1) k pc ls (as.reverse ++ .ref i :: st) M Qo := by
  obtain ⟨hd, hl⟩ := zx_chk_dec hc
  have ho := zx_chk_opr hc
  have hsm : zx_st b = false ∧ zx_mok b = true ∧ (zx_y b).name = "<init>" ∧ zx_rt b = none ∧ (a = 1 → zx_w p0 (.methodLink (zx_own k) idx (zx_y b)) = true) ∧ (a = 3 → zx_wn p0 (.methodLinkNest (zx_own k) idx (zx_y b) "NamesThatShrink") = true) := by
    rcases ha with rfl | rfl <;> simp [zx_opr] at ho <;> simp [ho]
  obtain ⟨hs0, hmk, hnm, hrt, hw1, hw3⟩ := hsm
  rcases hl with hl | hl <;> first | (cases hl; done) | skip
  rw [hl] at hd hq
  have hm := zx_mok_code hmk
  have hinst := (hm.2.2.2.2.2.2 hs0).1
  refine zx_call_gen hmk hlen hz hq (fun r1 M1 hM p e R s m args below meth c hF H locs cells slots la hR hL hC hS => ?_)
  obtain ⟨hx, hb, hml, hown, hts, hK, hfr, hlo, -⟩ := hF
  rw [zx_mapr]
  have hroom : d + 1 ≤ R.frames ∧ 8 + (zx_mL b + 11) + 64 * d ≤ R.locals := ⟨hfr, by have := hm.2.2.2.1; omega⟩
  have hgw : ∀ w ∈ zx_ws b, w ∈ zx_good := fun w h => by
    rcases List.mem_cons.mp h with h | h
    · rw [h]; exact hm.1
    · exact h
  have hw0 : zx_ws b = Jvm.Cond.code (zx_y b) (zx_b b) (zx_mL b) none :: zx_good := by unfold zx_ws; rw [hrt]
  rcases ha with rfl | rfl
  · exact ⟨_, va_runI (As := as.map (zx_v E)) (rest := st.map (zx_v E)) (n := zx_np b) ⟨hx, hb, hml, hown, hts⟩ hM (cwI (zx_np b) hts (zx_gi hgw) hw0 rfl rfl (hts _ hm.2.1) (hts _ (zx_w_mem (hw1 rfl))) (hts _ hinst) hnm hm.2.2.1 hroom) ⟨zx_blind, zx_pre (as := .ref i :: as) hR hK⟩ rfl (by rw [List.length_map]; exact hn) hL.1 rfl (lv_room (by rw [zx_sw8_map]; exact hst)) hd ⟨hC, hS⟩⟩
  · exact ⟨_, va_runIN (As := as.map (zx_v E)) (rest := st.map (zx_v E)) (n := zx_np b) ⟨hx, hb, hml, hown, hts⟩ hM ⟨va_cnB (zx_np b) hts (zx_gi hgw) hw0 rfl rfl (hK.2 _ (List.mem_filter.mpr ⟨zx_wn_mem (hw3 rfl), rfl⟩)) (hts _ hm.2.1) hm.2.2.1 hroom, hnm, hts _ hinst⟩ ⟨zx_blind, zx_pre (as := .ref i :: as) hR hK⟩ rfl (by rw [List.length_map]; exact hn) hL.1 rfl (lv_room (by rw [zx_sw8_map]; exact hst)) hd ⟨hC, hS⟩⟩
theorem zx_ret_ok {r : Option Value} {ins : Instr} (hc : zx_chk k (pc, len, ins, v0, w0, p0, a, b) = true) (hi : ins = zx_ri r) (hst : st = r.toList) (hrok : zx_rok k r) (hq : Qo r M) : zx_To l E d k pc ls st M Qo := by
  obtain ⟨hd, hl⟩ := zx_chk_dec hc
  have hlen : len = 1 := by
    rw [hi] at hl
    rcases hl with hl | hl
    · match r, hl with
      | none, hl => cases hl
      | some (.int _), hl => cases hl
      | some (.long _), hl => cases hl
      | some (.float _), hl => cases hl
      | some (.double _), hl => cases hl
      | some .null, hl => cases hl
      | some (.ref _), hl => cases hl
      | some (.retAddr _), hl => cases hl
    · rw [hl]
      match r with
      | none | some (.int _) | some (.long _) | some (.float _) | some (.double _) | some .null | some (.ref _) | some (.retAddr _) => rfl
  subst hlen
  rw [hi] at hd
  refine ⟨r, M, hq, hrok, Nat.le_refl _, Nat.le_refl _, fun p e R s m args below meth c hF Q CF SF hC hS hret H locs cells slots la hR hL hB e1 e2 => ?_⟩
  have h := hret pc la H locs hd hR hB
  have e3 : CF = cells := by omega
  have e4 : SF = slots := by omega
  rw [e3, e4] at h
  have e5 : (r.map (zx_v E)).toList = st.map (zx_v E) := by rw [hst]; cases r <;> rfl
  rw [e5] at h
  exact h
end ZL
end
section
/-! ===== what must hold before an instruction, so that what must hold behind it does ===== -/
/-- a call of b with these arguments, F behind it -/
def zx_call (l : Launch) (E : zx_E) (d b : Nat) (as : List Value) (M : zx_M) (ls : List (Option Value)) (rest : List Value) (F : List (Option Value) → List Value → zx_M → Prop) : Prop := match Nat.ble (zx_sw8 rest) 8 && Nat.ble (zx_en as).length (zx_mL b) with
  | false => False
  | true => match d with
    | 0 => False
    | d + 1 => match zx_rt b with
      | none => zx_Cv l E d b as M (fun M1 => F ls rest M1)
      | some .long => zx_Cl l E d b as M (fun v M1 => F ls (.long v :: rest) M1)
      | some _ => zx_Ci l E d b as M (fun v M1 => F ls (.int v :: rest) M1)
/-- behind what needs a frame of its own -/
def zx_leaf (d : Nat) (rest : List Value) (P : Prop) : Prop := match Nat.ble (zx_sw8 rest) 8 && Nat.ble 1 d with
  | false => False
  | true => P
def zx_one (l : Launch) (E : zx_E) (d k : Nat) (Q : Option Value → zx_M → Prop) (e : zx_En) (F : List (Option Value) → List Value → zx_M → Prop) (J : Nat → List (Option Value) → List Value → zx_M → Prop) (ls : List (Option Value)) (st : List Value) (M : zx_M) : Prop := match e with
  | (pc, _, ins, v, w, _, a, b) => match zx_alu ins v w st with
    | some (none, st1) => F ls st1 M
    | some (some c, st1) => c ∧ F ls st1 M
    | none => match ins with
      | .iload i => match ls[i]? with
        | some (some (.int x)) => F ls (.int x :: st) M
        | _ => False
      | .iload_n i => match ls[(i : Nat)]? with
        | some (some (.int x)) => F ls (.int x :: st) M
        | _ => False
      | .lload i => match ls[i]? with
        | some (some (.long x)) => F ls (.long x :: st) M
        | _ => False
      | .lload_n i => match ls[(i : Nat)]? with
        | some (some (.long x)) => F ls (.long x :: st) M
        | _ => False
      | .aload i => match ls[i]? with
        | some (some (.ref x)) => F ls (.ref x :: st) M
        | _ => False
      | .aload_n i => match ls[(i : Nat)]? with
        | some (some (.ref x)) => F ls (.ref x :: st) M
        | _ => False
      | .istore i => match st with
        | .int x :: st => F (zx_s1 ls i (.int x)) st M
        | _ => False
      | .istore_n i => match st with
        | .int x :: st => F (zx_s1 ls (i : Nat) (.int x)) st M
        | _ => False
      | .astore i => match st with
        | .ref x :: st => F (zx_s1 ls i (.ref x)) st M
        | _ => False
      | .astore_n i => match st with
        | .ref x :: st => F (zx_s1 ls (i : Nat) (.ref x)) st M
        | _ => False
      | .lstore i => match st with
        | .long x :: st => F (zx_s2 ls i (.long x)) st M
        | _ => False
      | .lstore_n i => match st with
        | .long x :: st => F (zx_s2 ls (i : Nat) (.long x)) st M
        | _ => False
      | .iinc i _ => match ls[i]? with
        | some (some (.int x)) => F (zx_s1 ls i (.int (x + v))) st M
        | _ => False
      | .if_icmp cn _ => match st with
        | .int y :: .int x :: st => (zx_cp cn x y → J a ls st M) ∧ (zx_co cn x y → F ls st M)
        | _ => False
      | .ifCond cn _ => match st with
        | .int x :: st => (zx_cp cn x 0 → J a ls st M) ∧ (zx_co cn x 0 → F ls st M)
        | _ => False
      | .goto _ => J a ls st M
      | .tableswitch df lo hi os => match st with
        | .int x :: st => hi + 1 = lo + os.size ∧ ((x.toInt < lo ∨ hi < x.toInt) → J ((pc : Int) + df).toNat ls st M) ∧ zx_sw pc x (fun t => J t ls st M) lo os.toList
        | _ => False
      | .getfield _ => match st with
        | .ref i :: st => zx_is M i a ∧ (match zx_tc (zx_ty a b) with
          | 0 => F ls (.int (M.1 i b) :: st) M
          | 1 => F ls (.long (M.2.1 i b) :: st) M
          | _ => ∃ j, M.2.2.1 i b = some j ∧ F ls (.ref j :: st) M)
        | _ => False
      | .putfield _ => match st with
        | .int x :: .ref i :: st => zx_is M i a ∧ (match zx_nf (zx_ty a b) x with
          | none => F ls st (zx_pi M i b x)
          | some c => c ∧ F ls st (zx_pi M i b x))
        | .long x :: .ref i :: st => zx_is M i a ∧ (match zx_ty a b with
          | .long => F ls st (zx_pl M i b x)
          | _ => False)
        | .ref j :: .ref i :: st => zx_is M i a ∧ (match zx_tc (zx_ty a b) with
          | 2 => F ls st (zx_pr M i b (some j))
          | _ => False)
        | _ => False
      | .getstatic _ => F ls (.ref a :: st) M
      | .iaload => match st with
        | .int j :: .ref i :: st => zx_ia M i ∧ vp_in j (zx_ln M i) ∧ F ls (.int (M.1 i j.toNatClampNeg) :: st) M
        | _ => False
      | .laload => match st with
        | .int j :: .ref i :: st => zx_is M i 21 ∧ vp_in j (zx_ln M i) ∧ F ls (.long (M.2.1 i j.toNatClampNeg) :: st) M
        | _ => False
      | .baload => match st with
        | .int j :: .ref i :: st => (a = 22 ∨ a = 23) ∧ zx_is M i a ∧ vp_in j (zx_ln M i) ∧ F ls (.int (M.1 i j.toNatClampNeg) :: st) M
        | _ => False
      | .aaload => match st with
        | .int j :: .ref i :: st => (3 ≤ i ∧ i < zx_n M ∧ 24 ≤ zx_kd M i ∧ zx_kd M i ≤ 26) ∧ vp_in j (zx_ln M i) ∧ ∃ x, M.2.2.1 i j.toNatClampNeg = some x ∧ F ls (.ref x :: st) M
        | _ => False
      | .iastore => match st with
        | .int x :: .int j :: .ref i :: st => zx_is M i 20 ∧ vp_in j (zx_ln M i) ∧ F ls st (zx_pi M i j.toNatClampNeg x)
        | _ => False
      | .lastore => match st with
        | .long x :: .int j :: .ref i :: st => zx_is M i 21 ∧ vp_in j (zx_ln M i) ∧ F ls st (zx_pl M i j.toNatClampNeg x)
        | _ => False
      | .bastore => match st with
        | .int x :: .int j :: .ref i :: st => (a = 22 ∨ a = 23) ∧ zx_is M i a ∧ vp_in j (zx_ln M i) ∧ F ls st (zx_pi M i j.toNatClampNeg (vp_nar (zx_at a) x))
        | _ => False
      | .aastore => match st with
        | .ref x :: .int j :: .ref i :: st => zx_is M i 26 ∧ vp_in j (zx_ln M i) ∧ zx_is M x 7 ∧ F ls st (zx_pr M i j.toNatClampNeg (some x))
        | _ => False
      | .arraylength => match st with
        | .ref i :: st => ((3 ≤ i ∧ i < zx_n M ∧ 20 ≤ zx_kd M i ∧ zx_kd M i ≤ 26) ∨ i < 3) ∧ F ls (.int (Int32.ofNat (zx_ln M i)) :: st) M
        | _ => False
      | .newarray _ => match st with
        | .int n :: st => ¬ n < 0 ∧ n.toNatClampNeg ≤ 65536 ∧ F ls (.ref (zx_n M) :: st) (zx_nw M a n.toNatClampNeg n.toNatClampNeg)
        | _ => False
      | .anewarray _ => match st with
        | .int n :: st => ¬ n < 0 ∧ n.toNatClampNeg ≤ 65536 ∧ F ls (.ref (zx_n M) :: st) (zx_nw M 26 n.toNatClampNeg n.toNatClampNeg)
        | _ => False
      | .multianewarray _ nd => match st with
        | .int n2 :: .int n1 :: st => nd = 2 ∧ ¬ n1 < 0 ∧ ¬ n2 < 0 ∧ n1.toNatClampNeg ≤ 65536 ∧ n2.toNatClampNeg ≤ 65536 ∧ F ls (.ref (zx_n M) :: st) (zx_mn M a n1.toNatClampNeg n2.toNatClampNeg)
        | _ => False
      | .new _ => match Nat.beq a 99 with
        | true => False
        | false => F ls (.ref (zx_n M) :: st) (zx_nw M a 0 (zx_N a))
      | .invokevirtual _ => match Nat.beq (st.take (zx_np b)).length (zx_np b) with
        | false => False
        | true => match st.drop (zx_np b) with
          | .ref i :: rest => zx_is M i (zx_mc b) ∧ zx_call l E d b (.ref i :: (st.take (zx_np b)).reverse) M ls rest F
          | _ => False
      | .invokestatic _ => match a with
        | 2 => match Nat.beq (st.take (zx_np b)).length (zx_np b) with
          | false => False
          | true => zx_call l E d b (st.take (zx_np b)).reverse M ls (st.drop (zx_np b)) F
        | 4 => match Nat.beq (st.take (zx_np b)).length (zx_np b) with
          | false => False
          | true => zx_call l E d b (st.take (zx_np b)).reverse M ls (st.drop (zx_np b)) F
        | 6 => match st with
          | .int n :: .int dp :: .ref i1 :: .int sp :: .ref i0 :: st => zx_leaf d st (zx_is M i0 20 ∧ zx_is M i1 20 ∧ ¬ sp < 0 ∧ ¬ dp < 0 ∧ ¬ n < 0 ∧ sp.toNatClampNeg + n.toNatClampNeg ≤ zx_ln M i0 ∧ dp.toNatClampNeg + n.toNatClampNeg ≤ zx_ln M i1 ∧ F ls st (zx_cpy M i0 i1 sp.toNatClampNeg dp.toNatClampNeg n.toNatClampNeg))
          | _ => False
        | 7 => match st with
          | .int y :: .int x :: st => zx_leaf d st (F ls (.int (if x < y then y else x) :: st) M)
          | _ => False
        | 8 => match st with
          | .int y :: .int x :: st => zx_leaf d st (F ls (.int (if y < x then y else x) :: st) M)
          | _ => False
        | _ => False
      | .invokespecial _ => match a with
        | 1 => match Nat.beq (st.take (zx_np b)).length (zx_np b) with
          | false => False
          | true => match st.drop (zx_np b) with
            | .ref i :: rest => zx_call l E d b (.ref i :: (st.take (zx_np b)).reverse) M ls rest F
            | _ => False
        | 3 => match Nat.beq (st.take (zx_np b)).length (zx_np b) with
          | false => False
          | true => match st.drop (zx_np b) with
            | .ref i :: rest => zx_call l E d b (.ref i :: (st.take (zx_np b)).reverse) M ls rest F
            | _ => False
        | 5 => match st with
          | .ref _ :: st => zx_leaf d st (F ls st M)
          | _ => False
        | _ => False
      | .ireturn => match st with
        | [.int x] => match zx_rt k with
          | some .int => Q (some (.int x)) M
          | some .boolean => (x = 0 ∨ x = 1) ∧ Q (some (.int x)) M
          | _ => False
        | _ => False
      | .lreturn => match st with
        | [.long x] => match zx_rt k with
          | some .long => Q (some (.long x)) M
          | _ => False
        | _ => False
      | .return_ => match st with
        | [] => match zx_rt k with
          | none => Q none M
          | _ => False
        | _ => False
      | _ => False
theorem zx_leaf_ok {d : Nat} {rest : List Value} {P : Prop} (h : zx_leaf d rest P) : zx_sw8 rest ≤ 8 ∧ 1 ≤ d ∧ P := by
  unfold zx_leaf at h
  split at h
  · exact h.elim
  · rename_i q
    simp only [Bool.and_eq_true] at q
    exact ⟨Nat.le_of_ble_eq_true q.1, Nat.le_of_ble_eq_true q.2, h⟩
/-- a call, taken apart -/
theorem zx_call_ok {l : Launch} {E : zx_E} {d b : Nat} {as : List Value} {M : zx_M} {ls : List (Option Value)} {rest : List Value} {F : List (Option Value) → List Value → zx_M → Prop} (h : zx_call l E d b as M ls rest F) :
    zx_sw8 rest ≤ 8 ∧ (zx_en as).length ≤ zx_mL b ∧ ∃ d', d = d' + 1 ∧ ∃ Qr : Option Value → zx_M → Prop, zx_To l E d' b 0 (zx_ent as (zx_mL b)) [] M Qr ∧ ∀ r1 M1, Qr r1 M1 → F ls (r1.toList ++ rest) M1 := by
  unfold zx_call at h
  split at h
  · exact h.elim
  · rename_i q
    simp only [Bool.and_eq_true] at q
    refine ⟨Nat.le_of_ble_eq_true q.1, Nat.le_of_ble_eq_true q.2, ?_⟩
    split at h
    · exact h.elim
    · rename_i d'
      refine ⟨d', rfl, ?_⟩
      split at h
      · exact ⟨_, h, fun r1 M1 hq => by obtain ⟨rfl, hq⟩ := hq; exact hq⟩
      · exact ⟨_, h, fun r1 M1 hq => by obtain ⟨v, rfl, hq⟩ := hq; exact hq⟩
      · exact ⟨_, h, fun r1 M1 hq => by obtain ⟨v, rfl, hq⟩ := hq; exact hq⟩
theorem zx_take {st : List Value} {n : Nat} : (st.take n).reverse.reverse ++ st.drop n = st := by rw [List.reverse_reverse, List.take_append_drop]
section ZG
variable {l : Launch} {E : zx_E} {d k pc len p0 a b : Nat} {ins : Instr} {v0 : Int32} {w0 : Int64} {ls : List (Option Value)} {st : List Value} {M : zx_M} {Q : Option Value → zx_M → Prop} {F : List (Option Value) → List Value → zx_M → Prop} {J : Nat → List (Option Value) → List Value → zx_M → Prop}
set_option maxHeartbeats 4000000 in
theorem zx_one_ok (hc : zx_chk k (pc, len, ins, v0, w0, p0, a, b) = true) (hF : ∀ ls st M, F ls st M → zx_To l E d k (pc + len) ls st M Q) (hJ : ∀ t ls st M, J t ls st M → zx_To l E d k t ls st M Q)
    (h : zx_one l E d k Q (pc, len, ins, v0, w0, p0, a, b) F J ls st M) : zx_To l E d k pc ls st M Q := by
  unfold zx_one at h
  dsimp only at h
  split at h
  · rename_i st1 hx
    exact zx_alu_ok hc hx trivial (hF _ _ _ h)
  · rename_i c st1 hx
    exact zx_alu_ok hc hx h.1 (hF _ _ _ h.2)
  · rename_i hx
    clear hx
    cases ins with
    | iload i =>
      dsimp only at h
      split at h
      · rename_i x hv; exact zx_iload_ok hc (Or.inl rfl) hv (hF _ _ _ h)
      · exact h.elim
    | iload_n i =>
      dsimp only at h
      split at h
      · rename_i x hv; exact zx_iload_ok hc (Or.inr ⟨i, rfl, rfl⟩) hv (hF _ _ _ h)
      · exact h.elim
    | lload i =>
      dsimp only at h
      split at h
      · rename_i x hv; exact zx_lload_ok hc (Or.inl rfl) hv (hF _ _ _ h)
      · exact h.elim
    | lload_n i =>
      dsimp only at h
      split at h
      · rename_i x hv; exact zx_lload_ok hc (Or.inr ⟨i, rfl, rfl⟩) hv (hF _ _ _ h)
      · exact h.elim
    | aload i =>
      dsimp only at h
      split at h
      · rename_i x hv; exact zx_aload_ok hc (Or.inl rfl) hv (hF _ _ _ h)
      · exact h.elim
    | aload_n i =>
      dsimp only at h
      split at h
      · rename_i x hv; exact zx_aload_ok hc (Or.inr ⟨i, rfl, rfl⟩) hv (hF _ _ _ h)
      · exact h.elim
    | istore i =>
      dsimp only at h
      split at h
      · exact zx_istore_ok hc (Or.inl rfl) (hF _ _ _ h)
      · exact h.elim
    | istore_n i =>
      dsimp only at h
      split at h
      · exact zx_istore_ok hc (Or.inr ⟨i, rfl, rfl⟩) (hF _ _ _ h)
      · exact h.elim
    | astore i =>
      dsimp only at h
      split at h
      · exact zx_astore_ok hc (Or.inl rfl) (hF _ _ _ h)
      · exact h.elim
    | astore_n i =>
      dsimp only at h
      split at h
      · exact zx_astore_ok hc (Or.inr ⟨i, rfl, rfl⟩) (hF _ _ _ h)
      · exact h.elim
    | lstore i =>
      dsimp only at h
      split at h
      · exact zx_lstore_ok hc (Or.inl rfl) (hF _ _ _ h)
      · exact h.elim
    | lstore_n i =>
      dsimp only at h
      split at h
      · exact zx_lstore_ok hc (Or.inr ⟨i, rfl, rfl⟩) (hF _ _ _ h)
      · exact h.elim
    | iinc i n =>
      dsimp only at h
      split at h
      · rename_i x hv; exact zx_iinc_ok hc hv (hF _ _ _ h)
      · exact h.elim
    | if_icmp cn off =>
      dsimp only at h
      split at h
      · exact zx_icmp_ok hc (fun q => hJ _ _ _ _ (h.1 q)) (fun q => hF _ _ _ (h.2 q))
      · exact h.elim
    | ifCond cn off =>
      dsimp only at h
      split at h
      · exact zx_if_ok hc (fun q => hJ _ _ _ _ (h.1 q)) (fun q => hF _ _ _ (h.2 q))
      · exact h.elim
    | goto off => exact zx_goto_ok hc (hJ _ _ _ _ h)
    | tableswitch df lo hi os =>
      dsimp only at h
      split at h
      · refine zx_switch_ok hc h.1 (fun q => hJ _ _ _ _ (h.2.1 q)) ?_
        have h2 := h.2.2
        generalize os.toList = ol at h2 ⊢
        clear h hc
        induction ol generalizing lo with
        | nil => trivial
        | cons o ol ih => exact ⟨fun q => hJ _ _ _ _ (h2.1 q), ih _ h2.2⟩
      · exact h.elim
    | getfield idx =>
      dsimp only at h
      split at h
      · obtain ⟨hi, h⟩ := h
        split at h
        · rename_i ht; exact zx_getfield_ok hc hi (by rw [ht]; rfl) (hF _ _ _ h)
        · rename_i ht; exact zx_getfield_ok hc hi (by rw [ht]; rfl) (hF _ _ _ h)
        · rename_i n0 n1
          obtain ⟨j, hj, h⟩ := h
          refine zx_getfield_ok (v := .ref j) hc hi ?_ (hF _ _ _ h)
          have h2 : zx_tc (zx_ty a b) = 2 := by
            revert n0 n1
            cases zx_ty a b <;> simp [zx_tc]
          rw [h2]
          simp only [zx_cv, hj, va_rf]
      · exact h.elim
    | putfield idx =>
      dsimp only at h
      split at h
      · obtain ⟨hi, h⟩ := h
        split at h
        · rename_i hn
          refine zx_puti_ok hc hi ?_ (by rw [hn]; trivial) (hF _ _ _ h)
          revert hn
          cases zx_ty a b <;> simp [zx_nf, zx_tc]
        · rename_i c hn
          refine zx_puti_ok hc hi ?_ (by rw [hn]; exact h.1) (hF _ _ _ h.2)
          have h1 := h.1
          revert hn
          cases zx_ty a b <;> simp [zx_nf, zx_tc] <;> exact h1
      · obtain ⟨hi, h⟩ := h
        split at h
        · rename_i ht; exact zx_putl_ok hc hi ht (hF _ _ _ h)
        · exact h.elim
      · obtain ⟨hi, h⟩ := h
        split at h
        · rename_i ht; exact zx_putr_ok hc hi ht (hF _ _ _ h)
        · exact h.elim
      · exact h.elim
    | getstatic idx => exact zx_getstatic_ok hc (hF _ _ _ h)
    | iaload =>
      dsimp only at h
      split at h
      · exact zx_iaload_ok hc h.1 h.2.1 (hF _ _ _ h.2.2)
      · exact h.elim
    | laload =>
      dsimp only at h
      split at h
      · exact zx_laload_ok hc h.1 h.2.1 (hF _ _ _ h.2.2)
      · exact h.elim
    | baload =>
      dsimp only at h
      split at h
      · exact zx_baload_ok hc h.1 h.2.1 h.2.2.1 (hF _ _ _ h.2.2.2)
      · exact h.elim
    | aaload =>
      dsimp only at h
      split at h
      · obtain ⟨⟨g1, g2, g3, g4⟩, hj, x, hx, h⟩ := h
        exact zx_aaload_ok hc (kd := _) ⟨g1, g2, rfl⟩ g3 g4 hj hx (hF _ _ _ h)
      · exact h.elim
    | iastore =>
      dsimp only at h
      split at h
      · exact zx_iastore_ok hc h.1 h.2.1 (hF _ _ _ h.2.2)
      · exact h.elim
    | lastore =>
      dsimp only at h
      split at h
      · exact zx_lastore_ok hc h.1 h.2.1 (hF _ _ _ h.2.2)
      · exact h.elim
    | bastore =>
      dsimp only at h
      split at h
      · exact zx_bastore_ok hc h.1 h.2.1 h.2.2.1 (hF _ _ _ h.2.2.2)
      · exact h.elim
    | aastore =>
      dsimp only at h
      split at h
      · exact zx_aastore_ok hc h.1 h.2.1 h.2.2.1 (hF _ _ _ h.2.2.2)
      · exact h.elim
    | arraylength =>
      dsimp only at h
      split at h
      · rename_i i st'
        refine zx_alen_ok hc (kd := zx_kd M i) (h.1.imp (fun q => ⟨⟨q.1, q.2.1, rfl⟩, q.2.2.1, q.2.2.2⟩) id) (hF _ _ _ h.2)
      · exact h.elim
    | newarray t =>
      dsimp only at h
      split at h
      · exact zx_newarray_ok hc h.1 h.2.1 (hF _ _ _ h.2.2)
      · exact h.elim
    | anewarray idx =>
      dsimp only at h
      split at h
      · exact zx_anewarray_ok hc h.1 h.2.1 (hF _ _ _ h.2.2)
      · exact h.elim
    | multianewarray idx nd =>
      dsimp only at h
      split at h
      · obtain ⟨rfl, h1, h2, h3, h4, h⟩ := h
        exact zx_mna_ok hc h1 h2 h3 h4 (hF _ _ _ h)
      · exact h.elim
    | new idx =>
      dsimp only at h
      split at h
      · exact h.elim
      · rename_i q
        exact zx_new_ok hc (fun e => by rw [e] at q; cases q) (hF _ _ _ h)
    | invokevirtual idx =>
      dsimp only at h
      split at h
      · exact h.elim
      · rename_i q
        have hn := Nat.eq_of_beq_eq_true q
        split at h
        · rename_i i rest hdr
          obtain ⟨hi, h⟩ := h
          obtain ⟨g1, g2, d', rfl, Qr, g3, g4⟩ := zx_call_ok h
          have := zx_virt_ok (as := (st.take (zx_np b)).reverse) (st := rest) hc hi (by rw [List.length_reverse]; exact hn) g1 g2 g3 (fun r1 M1 hq => hF _ _ _ (g4 r1 M1 hq))
          rw [← hdr, zx_take] at this
          exact this
        · exact h.elim
    | invokestatic idx =>
      dsimp only at h
      split at h
      · split at h
        · exact h.elim
        · rename_i q
          have hn := Nat.eq_of_beq_eq_true q
          obtain ⟨g1, g2, d', rfl, Qr, g3, g4⟩ := zx_call_ok h
          have := zx_stat_ok (as := (st.take (zx_np b)).reverse) (st := st.drop (zx_np b)) hc (Or.inl rfl) (by rw [List.length_reverse]; exact hn) g1 g2 g3 (fun r1 M1 hq => hF _ _ _ (g4 r1 M1 hq))
          rw [zx_take] at this
          exact this
      · split at h
        · exact h.elim
        · rename_i q
          have hn := Nat.eq_of_beq_eq_true q
          obtain ⟨g1, g2, d', rfl, Qr, g3, g4⟩ := zx_call_ok h
          have := zx_stat_ok (as := (st.take (zx_np b)).reverse) (st := st.drop (zx_np b)) hc (Or.inr rfl) (by rw [List.length_reverse]; exact hn) g1 g2 g3 (fun r1 M1 hq => hF _ _ _ (g4 r1 M1 hq))
          rw [zx_take] at this
          exact this
      · split at h
        · obtain ⟨g1, g2, h1, h2, h3, h4, h5, h6, h7, h⟩ := zx_leaf_ok h
          exact zx_copy_ok hc g1 g2 h1 h2 h3 h4 h5 h6 h7 (hF _ _ _ h)
        · exact h.elim
      · split at h
        · obtain ⟨g1, g2, h⟩ := zx_leaf_ok h
          exact zx_max_ok hc g1 g2 (hF _ _ _ h)
        · exact h.elim
      · split at h
        · obtain ⟨g1, g2, h⟩ := zx_leaf_ok h
          exact zx_min_ok hc g1 g2 (hF _ _ _ h)
        · exact h.elim
      · exact h.elim
    | invokespecial idx =>
      dsimp only at h
      split at h
      · split at h
        · exact h.elim
        · rename_i q
          have hn := Nat.eq_of_beq_eq_true q
          split at h
          · rename_i i rest hdr
            obtain ⟨g1, g2, d', rfl, Qr, g3, g4⟩ := zx_call_ok h
            have := zx_init_ok (as := (st.take (zx_np b)).reverse) (st := rest) hc (Or.inl rfl) (by rw [List.length_reverse]; exact hn) g1 g2 g3 (fun r1 M1 hq => hF _ _ _ (g4 r1 M1 hq))
            rw [← hdr, zx_take] at this
            exact this
          · exact h.elim
      · split at h
        · exact h.elim
        · rename_i q
          have hn := Nat.eq_of_beq_eq_true q
          split at h
          · rename_i i rest hdr
            obtain ⟨g1, g2, d', rfl, Qr, g3, g4⟩ := zx_call_ok h
            have := zx_init_ok (as := (st.take (zx_np b)).reverse) (st := rest) hc (Or.inr rfl) (by rw [List.length_reverse]; exact hn) g1 g2 g3 (fun r1 M1 hq => hF _ _ _ (g4 r1 M1 hq))
            rw [← hdr, zx_take] at this
            exact this
          · exact h.elim
      · split at h
        · obtain ⟨g1, g2, h⟩ := zx_leaf_ok h
          exact zx_objinit_ok hc g1 g2 (hF _ _ _ h)
        · exact h.elim
      · exact h.elim
    | ireturn =>
      dsimp only at h
      split at h
      · rename_i x
        split at h
        · rename_i hr; exact zx_ret_ok (r := some (.int x)) hc rfl rfl ⟨_, hr, rfl⟩ h
        · rename_i hr; exact zx_ret_ok (r := some (.int x)) hc rfl rfl ⟨_, hr, by rcases h.1 with e | e <;> rw [e] <;> decide⟩ h.2
        · exact h.elim
      · exact h.elim
    | lreturn =>
      dsimp only at h
      split at h
      · rename_i x
        split at h
        · rename_i hr; exact zx_ret_ok (r := some (.long x)) hc rfl rfl hr h
        · exact h.elim
      · exact h.elim
    | return_ =>
      dsimp only at h
      split at h
      · split at h
        · rename_i hr; exact zx_ret_ok (r := none) hc rfl rfl hr h
        · exact h.elim
      · exact h.elim
    | _ => exact h.elim
def zx_from (tab : List zx_En) (t : Nat) : List zx_En := match tab with
  | [] => []
  | e :: es => match Nat.beq e.1 t with
    | true => e :: es
    | false => zx_from es t
/-- a stretch of code: up to n instructions, or to one of the stops, or to the end -/
def zx_seg (l : Launch) (E : zx_E) (d k : Nat) (Q : Option Value → zx_M → Prop) (tab : List zx_En) (stops : List Nat) : Nat → Nat → List zx_En → List (Option Value) → List Value → zx_M → Prop
  | 0, pc, _, ls, st, M => zx_To l E d k pc ls st M Q
  | n + 1, pc, cs, ls, st, M => match cs with
    | [] => False
    | e :: cs => match Nat.beq e.1 pc with
      | false => False
      | true => zx_one l E d k Q e (fun ls st M => match stops.contains (pc + e.2.1) with
          | true => zx_To l E d k (pc + e.2.1) ls st M Q
          | false => zx_seg l E d k Q tab stops n (pc + e.2.1) cs ls st M)
        (fun t ls st M => match stops.contains t with
          | true => zx_To l E d k t ls st M Q
          | false => zx_seg l E d k Q tab stops n t (zx_from tab t) ls st M) ls st M
theorem zx_from_sub {tab : List zx_En} {t : Nat} : ∀ e ∈ zx_from tab t, e ∈ tab := by
  induction tab with
  | nil => intro e h; exact h
  | cons q es ih =>
    intro e h
    unfold zx_from at h
    split at h
    · exact h
    · exact List.mem_cons_of_mem _ (ih e h)
theorem zx_seg_ok {tab : List zx_En} {stops : List Nat} (ht : tab.all (zx_chk k) = true) : ∀ (n pc : Nat) (cs : List zx_En) (ls : List (Option Value)) (st : List Value) (M : zx_M), (∀ e ∈ cs, e ∈ tab) → zx_seg l E d k Q tab stops n pc cs ls st M → zx_To l E d k pc ls st M Q := by
  intro n
  induction n with
  | zero => intro pc cs ls st M _ h; exact h
  | succ n ih =>
    intro pc cs ls st M hs h
    unfold zx_seg at h
    split at h
    · exact h.elim
    · rename_i e cs
      split at h
      · exact h.elim
      · rename_i q
        have hpc := Nat.eq_of_beq_eq_true q
        obtain ⟨pc', len, ins, v, w, p, a, b⟩ := e
        have hpc : pc' = pc := hpc
        subst hpc
        refine zx_one_ok (List.all_eq_true.mp ht _ (hs _ List.mem_cons_self)) (fun ls st M g => ?_) (fun t ls st M g => ?_) h
        · split at g
          · exact g
          · exact ih _ _ _ _ _ (fun e he => hs e (List.mem_cons_of_mem _ he)) g
        · split at g
          · exact g
          · exact ih _ _ _ _ _ zx_from_sub g
/-- a stretch of a method's code from a place of its table on -/
theorem zx_go {tab : List zx_En} (ht : tab.all (zx_chk k) = true) (stops : List Nat) (n pc : Nat) (h : zx_seg l E d k Q tab stops n pc (zx_from tab pc) ls st M) : zx_To l E d k pc ls st M Q :=
  zx_seg_ok ht n pc _ ls st M zx_from_sub h
end ZG
end
