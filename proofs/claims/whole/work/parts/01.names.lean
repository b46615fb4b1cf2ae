-- ===== PART A: goes FIRST, ahead of the names: the tables' words, and 'selects' of the private methods out of them =====
/-- a private method of a class that the tables say can be made, by its rows of tables_1 -/
def lw_okq (q : MethodName × Nat) : Prop := (q.1.cls ≠ "java/lang/invoke/MethodHandle" ∧ q.1.cls ≠ "java/lang/invoke/VarHandle") ∧ Cond.instantiable q.1.cls q.2 ∈ tables_1 ∧ Cond.privateMethod q.1 ∈ tables_1 ∧ Cond.instanceMethod q.1 ∈ tables_1
theorem lw_p0 : lw_okq (⟨"GroveWorks", "isPort", "(II)Z"⟩, 4) := ⟨⟨by decide +kernel, by decide +kernel⟩, List.mem_of_getElem? (i := 15) (by decide +kernel), List.mem_of_getElem? (i := 265) (by decide +kernel), List.mem_of_getElem? (i := 266) (by decide +kernel)⟩
theorem lw_p1 : lw_okq (⟨"GroveWorks$Tree", "joinNone", "(I)V"⟩, 16) := ⟨⟨by decide +kernel, by decide +kernel⟩, List.mem_of_getElem? (i := 171) (by decide +kernel), List.mem_of_getElem? (i := 432) (by decide +kernel), List.mem_of_getElem? (i := 433) (by decide +kernel)⟩
theorem lw_p2 : lw_okq (⟨"GroveWorks$Ways", "measureSteps", "([LGroveWorks$Wire;)V"⟩, 7) := ⟨⟨by decide +kernel, by decide +kernel⟩, List.mem_of_getElem? (i := 39) (by decide +kernel), List.mem_of_getElem? (i := 496) (by decide +kernel), List.mem_of_getElem? (i := 497) (by decide +kernel)⟩
theorem lw_p3 : lw_okq (⟨"GroveWorks$Ways", "measureRouters", "()V"⟩, 7) := ⟨⟨by decide +kernel, by decide +kernel⟩, List.mem_of_getElem? (i := 39) (by decide +kernel), List.mem_of_getElem? (i := 501) (by decide +kernel), List.mem_of_getElem? (i := 502) (by decide +kernel)⟩
theorem lw_p4 : lw_okq (⟨"GroveWorks$Ways", "measureWires", "([LGroveWorks$Wire;)V"⟩, 7) := ⟨⟨by decide +kernel, by decide +kernel⟩, List.mem_of_getElem? (i := 39) (by decide +kernel), List.mem_of_getElem? (i := 505) (by decide +kernel), List.mem_of_getElem? (i := 506) (by decide +kernel)⟩
theorem lw_p5 : lw_okq (⟨"GroveWorks$Ways", "choosePort", "([LGroveWorks$Wire;II)V"⟩, 7) := ⟨⟨by decide +kernel, by decide +kernel⟩, List.mem_of_getElem? (i := 39) (by decide +kernel), List.mem_of_getElem? (i := 509) (by decide +kernel), List.mem_of_getElem? (i := 510) (by decide +kernel)⟩
theorem lw_p6 : lw_okq (⟨"GroveWorks", "beginTick", "()V"⟩, 4) := ⟨⟨by decide +kernel, by decide +kernel⟩, List.mem_of_getElem? (i := 15) (by decide +kernel), List.mem_of_getElem? (i := 513) (by decide +kernel), List.mem_of_getElem? (i := 514) (by decide +kernel)⟩
theorem lw_p7 : lw_okq (⟨"GroveWorks", "deliver", "(LGroveWorks$Wire;)V"⟩, 4) := ⟨⟨by decide +kernel, by decide +kernel⟩, List.mem_of_getElem? (i := 15) (by decide +kernel), List.mem_of_getElem? (i := 529) (by decide +kernel), List.mem_of_getElem? (i := 530) (by decide +kernel)⟩
theorem lw_p8 : lw_okq (⟨"GroveWorks$Tree", "sendJoin", "(II)V"⟩, 16) := ⟨⟨by decide +kernel, by decide +kernel⟩, List.mem_of_getElem? (i := 171) (by decide +kernel), List.mem_of_getElem? (i := 601) (by decide +kernel), List.mem_of_getElem? (i := 602) (by decide +kernel)⟩
theorem lw_p9 : lw_okq (⟨"GroveWorks$Tree", "openUp", "(II)LGroveWorks$Frame;"⟩, 16) := ⟨⟨by decide +kernel, by decide +kernel⟩, List.mem_of_getElem? (i := 171) (by decide +kernel), List.mem_of_getElem? (i := 605) (by decide +kernel), List.mem_of_getElem? (i := 606) (by decide +kernel)⟩
theorem lw_p10 : lw_okq (⟨"GroveWorks$Tree", "portToSource", "(I)I"⟩, 16) := ⟨⟨by decide +kernel, by decide +kernel⟩, List.mem_of_getElem? (i := 171) (by decide +kernel), List.mem_of_getElem? (i := 615) (by decide +kernel), List.mem_of_getElem? (i := 616) (by decide +kernel)⟩
theorem lw_p11 : lw_okq (⟨"GroveWorks$Tree", "isDirect", "(I)Z"⟩, 16) := ⟨⟨by decide +kernel, by decide +kernel⟩, List.mem_of_getElem? (i := 171) (by decide +kernel), List.mem_of_getElem? (i := 628) (by decide +kernel), List.mem_of_getElem? (i := 629) (by decide +kernel)⟩
theorem lw_p12 : lw_okq (⟨"GroveWorks$Tree", "look", "(I)V"⟩, 16) := ⟨⟨by decide +kernel, by decide +kernel⟩, List.mem_of_getElem? (i := 171) (by decide +kernel), List.mem_of_getElem? (i := 636) (by decide +kernel), List.mem_of_getElem? (i := 637) (by decide +kernel)⟩
theorem lw_p13 : lw_okq (⟨"GroveWorks$Tree", "ownClaim", "(I)I"⟩, 16) := ⟨⟨by decide +kernel, by decide +kernel⟩, List.mem_of_getElem? (i := 171) (by decide +kernel), List.mem_of_getElem? (i := 640) (by decide +kernel), List.mem_of_getElem? (i := 641) (by decide +kernel)⟩
theorem lw_p14 : lw_okq (⟨"GroveWorks$Tree", "isStraight", "(I)Z"⟩, 16) := ⟨⟨by decide +kernel, by decide +kernel⟩, List.mem_of_getElem? (i := 171) (by decide +kernel), List.mem_of_getElem? (i := 644) (by decide +kernel), List.mem_of_getElem? (i := 645) (by decide +kernel)⟩
theorem lw_p15 : lw_okq (⟨"GroveWorks$Tree", "goesStraight", "(II)Z"⟩, 16) := ⟨⟨by decide +kernel, by decide +kernel⟩, List.mem_of_getElem? (i := 171) (by decide +kernel), List.mem_of_getElem? (i := 681) (by decide +kernel), List.mem_of_getElem? (i := 682) (by decide +kernel)⟩
def lw_privs_1 : List (MethodName × Nat) := [(⟨"GroveWorks", "isPort", "(II)Z"⟩, 4), (⟨"GroveWorks$Tree", "joinNone", "(I)V"⟩, 16), (⟨"GroveWorks$Ways", "measureSteps", "([LGroveWorks$Wire;)V"⟩, 7), (⟨"GroveWorks$Ways", "measureRouters", "()V"⟩, 7), (⟨"GroveWorks$Ways", "measureWires", "([LGroveWorks$Wire;)V"⟩, 7), (⟨"GroveWorks$Ways", "choosePort", "([LGroveWorks$Wire;II)V"⟩, 7), (⟨"GroveWorks", "beginTick", "()V"⟩, 4), (⟨"GroveWorks", "deliver", "(LGroveWorks$Wire;)V"⟩, 4), (⟨"GroveWorks$Tree", "sendJoin", "(II)V"⟩, 16), (⟨"GroveWorks$Tree", "openUp", "(II)LGroveWorks$Frame;"⟩, 16), (⟨"GroveWorks$Tree", "portToSource", "(I)I"⟩, 16), (⟨"GroveWorks$Tree", "isDirect", "(I)Z"⟩, 16), (⟨"GroveWorks$Tree", "look", "(I)V"⟩, 16), (⟨"GroveWorks$Tree", "ownClaim", "(I)I"⟩, 16), (⟨"GroveWorks$Tree", "isStraight", "(I)Z"⟩, 16), (⟨"GroveWorks$Tree", "goesStraight", "(II)Z"⟩, 16)]
theorem lw_r1 : ∀ q ∈ lw_privs_1, lw_okq q := List.forall_mem_cons.mpr ⟨lw_p0, List.forall_mem_cons.mpr ⟨lw_p1, List.forall_mem_cons.mpr ⟨lw_p2, List.forall_mem_cons.mpr ⟨lw_p3, List.forall_mem_cons.mpr ⟨lw_p4, List.forall_mem_cons.mpr ⟨lw_p5, List.forall_mem_cons.mpr ⟨lw_p6, List.forall_mem_cons.mpr ⟨lw_p7, List.forall_mem_cons.mpr ⟨lw_p8, List.forall_mem_cons.mpr ⟨lw_p9, List.forall_mem_cons.mpr ⟨lw_p10, List.forall_mem_cons.mpr ⟨lw_p11, List.forall_mem_cons.mpr ⟨lw_p12, List.forall_mem_cons.mpr ⟨lw_p13, List.forall_mem_cons.mpr ⟨lw_p14, List.forall_mem_cons.mpr ⟨lw_p15, fun _ h => absurd h List.not_mem_nil⟩⟩⟩⟩⟩⟩⟩⟩⟩⟩⟩⟩⟩⟩⟩⟩
theorem lw_p16 : lw_okq (⟨"GroveWorks$Tree", "portToMeeting", "()I"⟩, 16) := ⟨⟨by decide +kernel, by decide +kernel⟩, List.mem_of_getElem? (i := 171) (by decide +kernel), List.mem_of_getElem? (i := 685) (by decide +kernel), List.mem_of_getElem? (i := 686) (by decide +kernel)⟩
theorem lw_p17 : lw_okq (⟨"GroveWorks$Tree", "up", "(I)I"⟩, 16) := ⟨⟨by decide +kernel, by decide +kernel⟩, List.mem_of_getElem? (i := 171) (by decide +kernel), List.mem_of_getElem? (i := 690) (by decide +kernel), List.mem_of_getElem? (i := 691) (by decide +kernel)⟩
theorem lw_p18 : lw_okq (⟨"GroveWorks$Tree", "findOut", "(IIZ)I"⟩, 16) := ⟨⟨by decide +kernel, by decide +kernel⟩, List.mem_of_getElem? (i := 171) (by decide +kernel), List.mem_of_getElem? (i := 699) (by decide +kernel), List.mem_of_getElem? (i := 700) (by decide +kernel)⟩
theorem lw_p19 : lw_okq (⟨"GroveWorks$Tree", "hasOwnPort", "()Z"⟩, 16) := ⟨⟨by decide +kernel, by decide +kernel⟩, List.mem_of_getElem? (i := 171) (by decide +kernel), List.mem_of_getElem? (i := 703) (by decide +kernel), List.mem_of_getElem? (i := 704) (by decide +kernel)⟩
theorem lw_p20 : lw_okq (⟨"GroveWorks$Tree", "isBranch", "(II)Z"⟩, 16) := ⟨⟨by decide +kernel, by decide +kernel⟩, List.mem_of_getElem? (i := 171) (by decide +kernel), List.mem_of_getElem? (i := 707) (by decide +kernel), List.mem_of_getElem? (i := 708) (by decide +kernel)⟩
theorem lw_p21 : lw_okq (⟨"GroveWorks$Tree", "sendClaim", "(II)V"⟩, 16) := ⟨⟨by decide +kernel, by decide +kernel⟩, List.mem_of_getElem? (i := 171) (by decide +kernel), List.mem_of_getElem? (i := 711) (by decide +kernel), List.mem_of_getElem? (i := 712) (by decide +kernel)⟩
theorem lw_p22 : lw_okq (⟨"GroveWorks$Tree", "sendData", "(IIII)V"⟩, 16) := ⟨⟨by decide +kernel, by decide +kernel⟩, List.mem_of_getElem? (i := 171) (by decide +kernel), List.mem_of_getElem? (i := 715) (by decide +kernel), List.mem_of_getElem? (i := 716) (by decide +kernel)⟩
theorem lw_p23 : lw_okq (⟨"GroveWorks$Tree", "mayTunnel", "(I)Z"⟩, 16) := ⟨⟨by decide +kernel, by decide +kernel⟩, List.mem_of_getElem? (i := 171) (by decide +kernel), List.mem_of_getElem? (i := 719) (by decide +kernel), List.mem_of_getElem? (i := 720) (by decide +kernel)⟩
theorem lw_p24 : lw_okq (⟨"GroveWorks$Tree", "isMeeting", "()Z"⟩, 16) := ⟨⟨by decide +kernel, by decide +kernel⟩, List.mem_of_getElem? (i := 171) (by decide +kernel), List.mem_of_getElem? (i := 724) (by decide +kernel), List.mem_of_getElem? (i := 725) (by decide +kernel)⟩
theorem lw_p25 : lw_okq (⟨"GroveWorks$Tree", "startTunnel", "(III)V"⟩, 16) := ⟨⟨by decide +kernel, by decide +kernel⟩, List.mem_of_getElem? (i := 171) (by decide +kernel), List.mem_of_getElem? (i := 728) (by decide +kernel), List.mem_of_getElem? (i := 729) (by decide +kernel)⟩
theorem lw_p26 : lw_okq (⟨"GroveWorks$Tree", "openTo", "(III)LGroveWorks$Frame;"⟩, 16) := ⟨⟨by decide +kernel, by decide +kernel⟩, List.mem_of_getElem? (i := 171) (by decide +kernel), List.mem_of_getElem? (i := 732) (by decide +kernel), List.mem_of_getElem? (i := 733) (by decide +kernel)⟩
theorem lw_p27 : lw_okq (⟨"GroveWorks$Tree", "passOn", "(LGroveWorks$Frame;I)V"⟩, 16) := ⟨⟨by decide +kernel, by decide +kernel⟩, List.mem_of_getElem? (i := 171) (by decide +kernel), List.mem_of_getElem? (i := 749) (by decide +kernel), List.mem_of_getElem? (i := 750) (by decide +kernel)⟩
theorem lw_p28 : lw_okq (⟨"GroveWorks$Tree", "sendStop", "(II)V"⟩, 16) := ⟨⟨by decide +kernel, by decide +kernel⟩, List.mem_of_getElem? (i := 171) (by decide +kernel), List.mem_of_getElem? (i := 753) (by decide +kernel), List.mem_of_getElem? (i := 754) (by decide +kernel)⟩
theorem lw_p29 : lw_okq (⟨"GroveWorks$Router", "sayHello", "(LGroveWorks$Port;)V"⟩, 4) := ⟨⟨by decide +kernel, by decide +kernel⟩, List.mem_of_getElem? (i := 227) (by decide +kernel), List.mem_of_getElem? (i := 771) (by decide +kernel), List.mem_of_getElem? (i := 772) (by decide +kernel)⟩
theorem lw_p30 : lw_okq (⟨"GroveWorks$Router", "askAll", "(LGroveWorks$Port;)V"⟩, 4) := ⟨⟨by decide +kernel, by decide +kernel⟩, List.mem_of_getElem? (i := 227) (by decide +kernel), List.mem_of_getElem? (i := 776) (by decide +kernel), List.mem_of_getElem? (i := 777) (by decide +kernel)⟩
theorem lw_p31 : lw_okq (⟨"GroveWorks$Tree", "wants", "(I)Z"⟩, 16) := ⟨⟨by decide +kernel, by decide +kernel⟩, List.mem_of_getElem? (i := 171) (by decide +kernel), List.mem_of_getElem? (i := 789) (by decide +kernel), List.mem_of_getElem? (i := 790) (by decide +kernel)⟩
def lw_privs_2 : List (MethodName × Nat) := [(⟨"GroveWorks$Tree", "portToMeeting", "()I"⟩, 16), (⟨"GroveWorks$Tree", "up", "(I)I"⟩, 16), (⟨"GroveWorks$Tree", "findOut", "(IIZ)I"⟩, 16), (⟨"GroveWorks$Tree", "hasOwnPort", "()Z"⟩, 16), (⟨"GroveWorks$Tree", "isBranch", "(II)Z"⟩, 16), (⟨"GroveWorks$Tree", "sendClaim", "(II)V"⟩, 16), (⟨"GroveWorks$Tree", "sendData", "(IIII)V"⟩, 16), (⟨"GroveWorks$Tree", "mayTunnel", "(I)Z"⟩, 16), (⟨"GroveWorks$Tree", "isMeeting", "()Z"⟩, 16), (⟨"GroveWorks$Tree", "startTunnel", "(III)V"⟩, 16), (⟨"GroveWorks$Tree", "openTo", "(III)LGroveWorks$Frame;"⟩, 16), (⟨"GroveWorks$Tree", "passOn", "(LGroveWorks$Frame;I)V"⟩, 16), (⟨"GroveWorks$Tree", "sendStop", "(II)V"⟩, 16), (⟨"GroveWorks$Router", "sayHello", "(LGroveWorks$Port;)V"⟩, 4), (⟨"GroveWorks$Router", "askAll", "(LGroveWorks$Port;)V"⟩, 4), (⟨"GroveWorks$Tree", "wants", "(I)Z"⟩, 16)]
theorem lw_r2 : ∀ q ∈ lw_privs_2, lw_okq q := List.forall_mem_cons.mpr ⟨lw_p16, List.forall_mem_cons.mpr ⟨lw_p17, List.forall_mem_cons.mpr ⟨lw_p18, List.forall_mem_cons.mpr ⟨lw_p19, List.forall_mem_cons.mpr ⟨lw_p20, List.forall_mem_cons.mpr ⟨lw_p21, List.forall_mem_cons.mpr ⟨lw_p22, List.forall_mem_cons.mpr ⟨lw_p23, List.forall_mem_cons.mpr ⟨lw_p24, List.forall_mem_cons.mpr ⟨lw_p25, List.forall_mem_cons.mpr ⟨lw_p26, List.forall_mem_cons.mpr ⟨lw_p27, List.forall_mem_cons.mpr ⟨lw_p28, List.forall_mem_cons.mpr ⟨lw_p29, List.forall_mem_cons.mpr ⟨lw_p30, List.forall_mem_cons.mpr ⟨lw_p31, fun _ h => absurd h List.not_mem_nil⟩⟩⟩⟩⟩⟩⟩⟩⟩⟩⟩⟩⟩⟩⟩⟩
theorem lw_p32 : lw_okq (⟨"GroveWorks$Tree", "base", "()I"⟩, 16) := ⟨⟨by decide +kernel, by decide +kernel⟩, List.mem_of_getElem? (i := 171) (by decide +kernel), List.mem_of_getElem? (i := 793) (by decide +kernel), List.mem_of_getElem? (i := 794) (by decide +kernel)⟩
theorem lw_p33 : lw_okq (⟨"GroveWorks$Tree", "toCutOff", "(I)I"⟩, 16) := ⟨⟨by decide +kernel, by decide +kernel⟩, List.mem_of_getElem? (i := 171) (by decide +kernel), List.mem_of_getElem? (i := 797) (by decide +kernel), List.mem_of_getElem? (i := 798) (by decide +kernel)⟩
theorem lw_p34 : lw_okq (⟨"GroveWorks$Tree", "holds", "(I)Z"⟩, 16) := ⟨⟨by decide +kernel, by decide +kernel⟩, List.mem_of_getElem? (i := 171) (by decide +kernel), List.mem_of_getElem? (i := 805) (by decide +kernel), List.mem_of_getElem? (i := 806) (by decide +kernel)⟩
theorem lw_p35 : lw_okq (⟨"GroveWorks$Tree", "joinedRouter", "(I)I"⟩, 16) := ⟨⟨by decide +kernel, by decide +kernel⟩, List.mem_of_getElem? (i := 171) (by decide +kernel), List.mem_of_getElem? (i := 878) (by decide +kernel), List.mem_of_getElem? (i := 879) (by decide +kernel)⟩
theorem lw_p36 : lw_okq (⟨"GroveWorks$Tree", "joinedPort", "(I)I"⟩, 16) := ⟨⟨by decide +kernel, by decide +kernel⟩, List.mem_of_getElem? (i := 171) (by decide +kernel), List.mem_of_getElem? (i := 882) (by decide +kernel), List.mem_of_getElem? (i := 883) (by decide +kernel)⟩
theorem lw_p37 : lw_okq (⟨"GroveWorks", "countOnWires", "(I)I"⟩, 4) := ⟨⟨by decide +kernel, by decide +kernel⟩, List.mem_of_getElem? (i := 15) (by decide +kernel), List.mem_of_getElem? (i := 894) (by decide +kernel), List.mem_of_getElem? (i := 895) (by decide +kernel)⟩
theorem lw_p38 : lw_okq (⟨"GroveWorksModel", "isRouter", "(I)Z"⟩, 40) := ⟨⟨by decide +kernel, by decide +kernel⟩, List.mem_of_getElem? (i := 901) (by decide +kernel), List.mem_of_getElem? (i := 1033) (by decide +kernel), List.mem_of_getElem? (i := 1034) (by decide +kernel)⟩
theorem lw_p39 : lw_okq (⟨"GroveWorksModel", "portOn", "(II)I"⟩, 40) := ⟨⟨by decide +kernel, by decide +kernel⟩, List.mem_of_getElem? (i := 901) (by decide +kernel), List.mem_of_getElem? (i := 1043) (by decide +kernel), List.mem_of_getElem? (i := 1044) (by decide +kernel)⟩
theorem lw_p40 : lw_okq (⟨"GroveWorksModel", "forget", "(II)V"⟩, 40) := ⟨⟨by decide +kernel, by decide +kernel⟩, List.mem_of_getElem? (i := 901) (by decide +kernel), List.mem_of_getElem? (i := 1065) (by decide +kernel), List.mem_of_getElem? (i := 1066) (by decide +kernel)⟩
theorem lw_p41 : lw_okq (⟨"GroveWorksModel", "reckon", "()V"⟩, 40) := ⟨⟨by decide +kernel, by decide +kernel⟩, List.mem_of_getElem? (i := 901) (by decide +kernel), List.mem_of_getElem? (i := 1077) (by decide +kernel), List.mem_of_getElem? (i := 1078) (by decide +kernel)⟩
theorem lw_p42 : lw_okq (⟨"GroveWorksModel", "isAt", "(II)Z"⟩, 40) := ⟨⟨by decide +kernel, by decide +kernel⟩, List.mem_of_getElem? (i := 901) (by decide +kernel), List.mem_of_getElem? (i := 1081) (by decide +kernel), List.mem_of_getElem? (i := 1082) (by decide +kernel)⟩
theorem lw_p43 : lw_okq (⟨"GroveWorksModel", "step", "(II)V"⟩, 40) := ⟨⟨by decide +kernel, by decide +kernel⟩, List.mem_of_getElem? (i := 901) (by decide +kernel), List.mem_of_getElem? (i := 1086) (by decide +kernel), List.mem_of_getElem? (i := 1087) (by decide +kernel)⟩
theorem lw_p44 : lw_okq (⟨"GroveWorksModel", "over", "(IIII)I"⟩, 40) := ⟨⟨by decide +kernel, by decide +kernel⟩, List.mem_of_getElem? (i := 901) (by decide +kernel), List.mem_of_getElem? (i := 1090) (by decide +kernel), List.mem_of_getElem? (i := 1091) (by decide +kernel)⟩
theorem lw_p45 : lw_okq (⟨"GroveWorksModel", "isUp", "(II)Z"⟩, 40) := ⟨⟨by decide +kernel, by decide +kernel⟩, List.mem_of_getElem? (i := 901) (by decide +kernel), List.mem_of_getElem? (i := 1094) (by decide +kernel), List.mem_of_getElem? (i := 1095) (by decide +kernel)⟩
theorem lw_p46 : lw_okq (⟨"GroveWorksModel", "settle", "(II)V"⟩, 40) := ⟨⟨by decide +kernel, by decide +kernel⟩, List.mem_of_getElem? (i := 901) (by decide +kernel), List.mem_of_getElem? (i := 1098) (by decide +kernel), List.mem_of_getElem? (i := 1099) (by decide +kernel)⟩
theorem lw_p47 : lw_okq (⟨"GroveWorksModel", "isIn", "(II)Z"⟩, 40) := ⟨⟨by decide +kernel, by decide +kernel⟩, List.mem_of_getElem? (i := 901) (by decide +kernel), List.mem_of_getElem? (i := 1114) (by decide +kernel), List.mem_of_getElem? (i := 1115) (by decide +kernel)⟩
def lw_privs_3 : List (MethodName × Nat) := [(⟨"GroveWorks$Tree", "base", "()I"⟩, 16), (⟨"GroveWorks$Tree", "toCutOff", "(I)I"⟩, 16), (⟨"GroveWorks$Tree", "holds", "(I)Z"⟩, 16), (⟨"GroveWorks$Tree", "joinedRouter", "(I)I"⟩, 16), (⟨"GroveWorks$Tree", "joinedPort", "(I)I"⟩, 16), (⟨"GroveWorks", "countOnWires", "(I)I"⟩, 4), (⟨"GroveWorksModel", "isRouter", "(I)Z"⟩, 40), (⟨"GroveWorksModel", "portOn", "(II)I"⟩, 40), (⟨"GroveWorksModel", "forget", "(II)V"⟩, 40), (⟨"GroveWorksModel", "reckon", "()V"⟩, 40), (⟨"GroveWorksModel", "isAt", "(II)Z"⟩, 40), (⟨"GroveWorksModel", "step", "(II)V"⟩, 40), (⟨"GroveWorksModel", "over", "(IIII)I"⟩, 40), (⟨"GroveWorksModel", "isUp", "(II)Z"⟩, 40), (⟨"GroveWorksModel", "settle", "(II)V"⟩, 40), (⟨"GroveWorksModel", "isIn", "(II)Z"⟩, 40)]
theorem lw_r3 : ∀ q ∈ lw_privs_3, lw_okq q := List.forall_mem_cons.mpr ⟨lw_p32, List.forall_mem_cons.mpr ⟨lw_p33, List.forall_mem_cons.mpr ⟨lw_p34, List.forall_mem_cons.mpr ⟨lw_p35, List.forall_mem_cons.mpr ⟨lw_p36, List.forall_mem_cons.mpr ⟨lw_p37, List.forall_mem_cons.mpr ⟨lw_p38, List.forall_mem_cons.mpr ⟨lw_p39, List.forall_mem_cons.mpr ⟨lw_p40, List.forall_mem_cons.mpr ⟨lw_p41, List.forall_mem_cons.mpr ⟨lw_p42, List.forall_mem_cons.mpr ⟨lw_p43, List.forall_mem_cons.mpr ⟨lw_p44, List.forall_mem_cons.mpr ⟨lw_p45, List.forall_mem_cons.mpr ⟨lw_p46, List.forall_mem_cons.mpr ⟨lw_p47, fun _ h => absurd h List.not_mem_nil⟩⟩⟩⟩⟩⟩⟩⟩⟩⟩⟩⟩⟩⟩⟩⟩
theorem lw_p48 : lw_okq (⟨"GroveWorksModel", "put", "(IIIIIIIII)Z"⟩, 40) := ⟨⟨by decide +kernel, by decide +kernel⟩, List.mem_of_getElem? (i := 901) (by decide +kernel), List.mem_of_getElem? (i := 1118) (by decide +kernel), List.mem_of_getElem? (i := 1119) (by decide +kernel)⟩
theorem lw_p49 : lw_okq (⟨"GroveWorksModel", "one", "()V"⟩, 40) := ⟨⟨by decide +kernel, by decide +kernel⟩, List.mem_of_getElem? (i := 901) (by decide +kernel), List.mem_of_getElem? (i := 1138) (by decide +kernel), List.mem_of_getElem? (i := 1139) (by decide +kernel)⟩
theorem lw_p50 : lw_okq (⟨"GroveWorksModel", "deliver", "(II)V"⟩, 40) := ⟨⟨by decide +kernel, by decide +kernel⟩, List.mem_of_getElem? (i := 901) (by decide +kernel), List.mem_of_getElem? (i := 1142) (by decide +kernel), List.mem_of_getElem? (i := 1143) (by decide +kernel)⟩
theorem lw_p51 : lw_okq (⟨"GroveWorksModel", "comes", "(III)V"⟩, 40) := ⟨⟨by decide +kernel, by decide +kernel⟩, List.mem_of_getElem? (i := 901) (by decide +kernel), List.mem_of_getElem? (i := 1146) (by decide +kernel), List.mem_of_getElem? (i := 1147) (by decide +kernel)⟩
theorem lw_p52 : lw_okq (⟨"GroveWorksModel", "left", "(III)V"⟩, 40) := ⟨⟨by decide +kernel, by decide +kernel⟩, List.mem_of_getElem? (i := 901) (by decide +kernel), List.mem_of_getElem? (i := 1150) (by decide +kernel), List.mem_of_getElem? (i := 1151) (by decide +kernel)⟩
theorem lw_p53 : lw_okq (⟨"GroveWorksModel", "hasMembers", "(III)Z"⟩, 40) := ⟨⟨by decide +kernel, by decide +kernel⟩, List.mem_of_getElem? (i := 901) (by decide +kernel), List.mem_of_getElem? (i := 1154) (by decide +kernel), List.mem_of_getElem? (i := 1155) (by decide +kernel)⟩
theorem lw_p54 : lw_okq (⟨"GroveWorksModel", "isAsking", "(II)Z"⟩, 40) := ⟨⟨by decide +kernel, by decide +kernel⟩, List.mem_of_getElem? (i := 901) (by decide +kernel), List.mem_of_getElem? (i := 1158) (by decide +kernel), List.mem_of_getElem? (i := 1159) (by decide +kernel)⟩
theorem lw_p55 : lw_okq (⟨"GroveWorksModel", "neighbours", "(II)I"⟩, 40) := ⟨⟨by decide +kernel, by decide +kernel⟩, List.mem_of_getElem? (i := 901) (by decide +kernel), List.mem_of_getElem? (i := 1162) (by decide +kernel), List.mem_of_getElem? (i := 1163) (by decide +kernel)⟩
theorem lw_p56 : lw_okq (⟨"GroveWorksModel", "isNeighbour", "(III)Z"⟩, 40) := ⟨⟨by decide +kernel, by decide +kernel⟩, List.mem_of_getElem? (i := 901) (by decide +kernel), List.mem_of_getElem? (i := 1166) (by decide +kernel), List.mem_of_getElem? (i := 1167) (by decide +kernel)⟩
theorem lw_p57 : lw_okq (⟨"GroveWorksModel", "joins", "(IIIII)V"⟩, 40) := ⟨⟨by decide +kernel, by decide +kernel⟩, List.mem_of_getElem? (i := 901) (by decide +kernel), List.mem_of_getElem? (i := 1170) (by decide +kernel), List.mem_of_getElem? (i := 1171) (by decide +kernel)⟩
theorem lw_p58 : lw_okq (⟨"GroveWorksModel", "joined", "(IIII)I"⟩, 40) := ⟨⟨by decide +kernel, by decide +kernel⟩, List.mem_of_getElem? (i := 901) (by decide +kernel), List.mem_of_getElem? (i := 1174) (by decide +kernel), List.mem_of_getElem? (i := 1175) (by decide +kernel)⟩
theorem lw_p59 : lw_okq (⟨"GroveWorksModel", "hasTwo", "(II)Z"⟩, 40) := ⟨⟨by decide +kernel, by decide +kernel⟩, List.mem_of_getElem? (i := 901) (by decide +kernel), List.mem_of_getElem? (i := 1178) (by decide +kernel), List.mem_of_getElem? (i := 1179) (by decide +kernel)⟩
theorem lw_p60 : lw_okq (⟨"GroveWorksModel", "heardAt", "(IIII)I"⟩, 40) := ⟨⟨by decide +kernel, by decide +kernel⟩, List.mem_of_getElem? (i := 901) (by decide +kernel), List.mem_of_getElem? (i := 1182) (by decide +kernel), List.mem_of_getElem? (i := 1183) (by decide +kernel)⟩
theorem lw_p61 : lw_okq (⟨"GroveWorksModel", "prunes", "(IIII)V"⟩, 40) := ⟨⟨by decide +kernel, by decide +kernel⟩, List.mem_of_getElem? (i := 901) (by decide +kernel), List.mem_of_getElem? (i := 1186) (by decide +kernel), List.mem_of_getElem? (i := 1187) (by decide +kernel)⟩
theorem lw_p62 : lw_okq (⟨"GroveWorksModel", "overhears", "(IIIIIII)V"⟩, 40) := ⟨⟨by decide +kernel, by decide +kernel⟩, List.mem_of_getElem? (i := 901) (by decide +kernel), List.mem_of_getElem? (i := 1190) (by decide +kernel), List.mem_of_getElem? (i := 1191) (by decide +kernel)⟩
theorem lw_p63 : lw_okq (⟨"GroveWorksModel", "sendJoin", "(III)V"⟩, 40) := ⟨⟨by decide +kernel, by decide +kernel⟩, List.mem_of_getElem? (i := 901) (by decide +kernel), List.mem_of_getElem? (i := 1194) (by decide +kernel), List.mem_of_getElem? (i := 1195) (by decide +kernel)⟩
def lw_privs_4 : List (MethodName × Nat) := [(⟨"GroveWorksModel", "put", "(IIIIIIIII)Z"⟩, 40), (⟨"GroveWorksModel", "one", "()V"⟩, 40), (⟨"GroveWorksModel", "deliver", "(II)V"⟩, 40), (⟨"GroveWorksModel", "comes", "(III)V"⟩, 40), (⟨"GroveWorksModel", "left", "(III)V"⟩, 40), (⟨"GroveWorksModel", "hasMembers", "(III)Z"⟩, 40), (⟨"GroveWorksModel", "isAsking", "(II)Z"⟩, 40), (⟨"GroveWorksModel", "neighbours", "(II)I"⟩, 40), (⟨"GroveWorksModel", "isNeighbour", "(III)Z"⟩, 40), (⟨"GroveWorksModel", "joins", "(IIIII)V"⟩, 40), (⟨"GroveWorksModel", "joined", "(IIII)I"⟩, 40), (⟨"GroveWorksModel", "hasTwo", "(II)Z"⟩, 40), (⟨"GroveWorksModel", "heardAt", "(IIII)I"⟩, 40), (⟨"GroveWorksModel", "prunes", "(IIII)V"⟩, 40), (⟨"GroveWorksModel", "overhears", "(IIIIIII)V"⟩, 40), (⟨"GroveWorksModel", "sendJoin", "(III)V"⟩, 40)]
theorem lw_r4 : ∀ q ∈ lw_privs_4, lw_okq q := List.forall_mem_cons.mpr ⟨lw_p48, List.forall_mem_cons.mpr ⟨lw_p49, List.forall_mem_cons.mpr ⟨lw_p50, List.forall_mem_cons.mpr ⟨lw_p51, List.forall_mem_cons.mpr ⟨lw_p52, List.forall_mem_cons.mpr ⟨lw_p53, List.forall_mem_cons.mpr ⟨lw_p54, List.forall_mem_cons.mpr ⟨lw_p55, List.forall_mem_cons.mpr ⟨lw_p56, List.forall_mem_cons.mpr ⟨lw_p57, List.forall_mem_cons.mpr ⟨lw_p58, List.forall_mem_cons.mpr ⟨lw_p59, List.forall_mem_cons.mpr ⟨lw_p60, List.forall_mem_cons.mpr ⟨lw_p61, List.forall_mem_cons.mpr ⟨lw_p62, List.forall_mem_cons.mpr ⟨lw_p63, fun _ h => absurd h List.not_mem_nil⟩⟩⟩⟩⟩⟩⟩⟩⟩⟩⟩⟩⟩⟩⟩⟩
theorem lw_p64 : lw_okq (⟨"GroveWorksModel", "data", "(IIIIII)V"⟩, 40) := ⟨⟨by decide +kernel, by decide +kernel⟩, List.mem_of_getElem? (i := 901) (by decide +kernel), List.mem_of_getElem? (i := 1198) (by decide +kernel), List.mem_of_getElem? (i := 1199) (by decide +kernel)⟩
theorem lw_p65 : lw_okq (⟨"GroveWorksModel", "toSource", "(II)I"⟩, 40) := ⟨⟨by decide +kernel, by decide +kernel⟩, List.mem_of_getElem? (i := 901) (by decide +kernel), List.mem_of_getElem? (i := 1202) (by decide +kernel), List.mem_of_getElem? (i := 1203) (by decide +kernel)⟩
theorem lw_p66 : lw_okq (⟨"GroveWorksModel", "portTo", "(I)I"⟩, 40) := ⟨⟨by decide +kernel, by decide +kernel⟩, List.mem_of_getElem? (i := 901) (by decide +kernel), List.mem_of_getElem? (i := 1206) (by decide +kernel), List.mem_of_getElem? (i := 1207) (by decide +kernel)⟩
theorem lw_p67 : lw_okq (⟨"GroveWorksModel", "isDirect", "(II)Z"⟩, 40) := ⟨⟨by decide +kernel, by decide +kernel⟩, List.mem_of_getElem? (i := 901) (by decide +kernel), List.mem_of_getElem? (i := 1210) (by decide +kernel), List.mem_of_getElem? (i := 1211) (by decide +kernel)⟩
theorem lw_p68 : lw_okq (⟨"GroveWorksModel", "all", "(III)I"⟩, 40) := ⟨⟨by decide +kernel, by decide +kernel⟩, List.mem_of_getElem? (i := 901) (by decide +kernel), List.mem_of_getElem? (i := 1214) (by decide +kernel), List.mem_of_getElem? (i := 1215) (by decide +kernel)⟩
theorem lw_p69 : lw_okq (⟨"GroveWorksModel", "isInAll", "(IIII)Z"⟩, 40) := ⟨⟨by decide +kernel, by decide +kernel⟩, List.mem_of_getElem? (i := 901) (by decide +kernel), List.mem_of_getElem? (i := 1218) (by decide +kernel), List.mem_of_getElem? (i := 1219) (by decide +kernel)⟩
theorem lw_p70 : lw_okq (⟨"GroveWorksModel", "isInShared", "(IIII)Z"⟩, 40) := ⟨⟨by decide +kernel, by decide +kernel⟩, List.mem_of_getElem? (i := 901) (by decide +kernel), List.mem_of_getElem? (i := 1222) (by decide +kernel), List.mem_of_getElem? (i := 1223) (by decide +kernel)⟩
theorem lw_p71 : lw_okq (⟨"GroveWorksModel", "isCutOff", "(IIII)Z"⟩, 40) := ⟨⟨by decide +kernel, by decide +kernel⟩, List.mem_of_getElem? (i := 901) (by decide +kernel), List.mem_of_getElem? (i := 1226) (by decide +kernel), List.mem_of_getElem? (i := 1227) (by decide +kernel)⟩
theorem lw_p72 : lw_okq (⟨"GroveWorksModel", "isOwn", "(III)Z"⟩, 40) := ⟨⟨by decide +kernel, by decide +kernel⟩, List.mem_of_getElem? (i := 901) (by decide +kernel), List.mem_of_getElem? (i := 1230) (by decide +kernel), List.mem_of_getElem? (i := 1231) (by decide +kernel)⟩
theorem lw_p73 : lw_okq (⟨"GroveWorksModel", "isFirst", "(II)Z"⟩, 40) := ⟨⟨by decide +kernel, by decide +kernel⟩, List.mem_of_getElem? (i := 901) (by decide +kernel), List.mem_of_getElem? (i := 1234) (by decide +kernel), List.mem_of_getElem? (i := 1235) (by decide +kernel)⟩
theorem lw_p74 : lw_okq (⟨"GroveWorksModel", "isLost", "(IIII)Z"⟩, 40) := ⟨⟨by decide +kernel, by decide +kernel⟩, List.mem_of_getElem? (i := 901) (by decide +kernel), List.mem_of_getElem? (i := 1238) (by decide +kernel), List.mem_of_getElem? (i := 1239) (by decide +kernel)⟩
theorem lw_p75 : lw_okq (⟨"GroveWorksModel", "claimAt", "(IIII)I"⟩, 40) := ⟨⟨by decide +kernel, by decide +kernel⟩, List.mem_of_getElem? (i := 901) (by decide +kernel), List.mem_of_getElem? (i := 1242) (by decide +kernel), List.mem_of_getElem? (i := 1243) (by decide +kernel)⟩
theorem lw_p76 : lw_okq (⟨"GroveWorksModel", "ownClaim", "(III)I"⟩, 40) := ⟨⟨by decide +kernel, by decide +kernel⟩, List.mem_of_getElem? (i := 901) (by decide +kernel), List.mem_of_getElem? (i := 1246) (by decide +kernel), List.mem_of_getElem? (i := 1247) (by decide +kernel)⟩
theorem lw_p77 : lw_okq (⟨"GroveWorksModel", "isStraight", "(III)Z"⟩, 40) := ⟨⟨by decide +kernel, by decide +kernel⟩, List.mem_of_getElem? (i := 901) (by decide +kernel), List.mem_of_getElem? (i := 1250) (by decide +kernel), List.mem_of_getElem? (i := 1251) (by decide +kernel)⟩
theorem lw_p78 : lw_okq (⟨"GroveWorksModel", "toMeeting", "(II)I"⟩, 40) := ⟨⟨by decide +kernel, by decide +kernel⟩, List.mem_of_getElem? (i := 901) (by decide +kernel), List.mem_of_getElem? (i := 1254) (by decide +kernel), List.mem_of_getElem? (i := 1255) (by decide +kernel)⟩
theorem lw_p79 : lw_okq (⟨"GroveWorksModel", "keep", "(III)V"⟩, 40) := ⟨⟨by decide +kernel, by decide +kernel⟩, List.mem_of_getElem? (i := 901) (by decide +kernel), List.mem_of_getElem? (i := 1261) (by decide +kernel), List.mem_of_getElem? (i := 1262) (by decide +kernel)⟩
def lw_privs_5 : List (MethodName × Nat) := [(⟨"GroveWorksModel", "data", "(IIIIII)V"⟩, 40), (⟨"GroveWorksModel", "toSource", "(II)I"⟩, 40), (⟨"GroveWorksModel", "portTo", "(I)I"⟩, 40), (⟨"GroveWorksModel", "isDirect", "(II)Z"⟩, 40), (⟨"GroveWorksModel", "all", "(III)I"⟩, 40), (⟨"GroveWorksModel", "isInAll", "(IIII)Z"⟩, 40), (⟨"GroveWorksModel", "isInShared", "(IIII)Z"⟩, 40), (⟨"GroveWorksModel", "isCutOff", "(IIII)Z"⟩, 40), (⟨"GroveWorksModel", "isOwn", "(III)Z"⟩, 40), (⟨"GroveWorksModel", "isFirst", "(II)Z"⟩, 40), (⟨"GroveWorksModel", "isLost", "(IIII)Z"⟩, 40), (⟨"GroveWorksModel", "claimAt", "(IIII)I"⟩, 40), (⟨"GroveWorksModel", "ownClaim", "(III)I"⟩, 40), (⟨"GroveWorksModel", "isStraight", "(III)Z"⟩, 40), (⟨"GroveWorksModel", "toMeeting", "(II)I"⟩, 40), (⟨"GroveWorksModel", "keep", "(III)V"⟩, 40)]
theorem lw_r5 : ∀ q ∈ lw_privs_5, lw_okq q := List.forall_mem_cons.mpr ⟨lw_p64, List.forall_mem_cons.mpr ⟨lw_p65, List.forall_mem_cons.mpr ⟨lw_p66, List.forall_mem_cons.mpr ⟨lw_p67, List.forall_mem_cons.mpr ⟨lw_p68, List.forall_mem_cons.mpr ⟨lw_p69, List.forall_mem_cons.mpr ⟨lw_p70, List.forall_mem_cons.mpr ⟨lw_p71, List.forall_mem_cons.mpr ⟨lw_p72, List.forall_mem_cons.mpr ⟨lw_p73, List.forall_mem_cons.mpr ⟨lw_p74, List.forall_mem_cons.mpr ⟨lw_p75, List.forall_mem_cons.mpr ⟨lw_p76, List.forall_mem_cons.mpr ⟨lw_p77, List.forall_mem_cons.mpr ⟨lw_p78, List.forall_mem_cons.mpr ⟨lw_p79, fun _ h => absurd h List.not_mem_nil⟩⟩⟩⟩⟩⟩⟩⟩⟩⟩⟩⟩⟩⟩⟩⟩
theorem lw_p80 : lw_okq (⟨"GroveWorksModel", "wantsSource", "(III)Z"⟩, 40) := ⟨⟨by decide +kernel, by decide +kernel⟩, List.mem_of_getElem? (i := 901) (by decide +kernel), List.mem_of_getElem? (i := 1265) (by decide +kernel), List.mem_of_getElem? (i := 1266) (by decide +kernel)⟩
theorem lw_p81 : lw_okq (⟨"GroveWorksModel", "isKept", "(III)Z"⟩, 40) := ⟨⟨by decide +kernel, by decide +kernel⟩, List.mem_of_getElem? (i := 901) (by decide +kernel), List.mem_of_getElem? (i := 1269) (by decide +kernel), List.mem_of_getElem? (i := 1270) (by decide +kernel)⟩
theorem lw_p82 : lw_okq (⟨"GroveWorksModel", "mayStraight", "(IIIIZ)Z"⟩, 40) := ⟨⟨by decide +kernel, by decide +kernel⟩, List.mem_of_getElem? (i := 901) (by decide +kernel), List.mem_of_getElem? (i := 1273) (by decide +kernel), List.mem_of_getElem? (i := 1274) (by decide +kernel)⟩
theorem lw_p83 : lw_okq (⟨"GroveWorksModel", "shared", "(III)I"⟩, 40) := ⟨⟨by decide +kernel, by decide +kernel⟩, List.mem_of_getElem? (i := 901) (by decide +kernel), List.mem_of_getElem? (i := 1277) (by decide +kernel), List.mem_of_getElem? (i := 1278) (by decide +kernel)⟩
theorem lw_p84 : lw_okq (⟨"GroveWorksModel", "up", "(III)I"⟩, 40) := ⟨⟨by decide +kernel, by decide +kernel⟩, List.mem_of_getElem? (i := 901) (by decide +kernel), List.mem_of_getElem? (i := 1281) (by decide +kernel), List.mem_of_getElem? (i := 1282) (by decide +kernel)⟩
theorem lw_p85 : lw_okq (⟨"GroveWorksModel", "sendData", "(IIIIIII)V"⟩, 40) := ⟨⟨by decide +kernel, by decide +kernel⟩, List.mem_of_getElem? (i := 901) (by decide +kernel), List.mem_of_getElem? (i := 1285) (by decide +kernel), List.mem_of_getElem? (i := 1286) (by decide +kernel)⟩
theorem lw_p86 : lw_okq (⟨"GroveWorksModel", "hasOwn", "(II)Z"⟩, 40) := ⟨⟨by decide +kernel, by decide +kernel⟩, List.mem_of_getElem? (i := 901) (by decide +kernel), List.mem_of_getElem? (i := 1289) (by decide +kernel), List.mem_of_getElem? (i := 1290) (by decide +kernel)⟩
theorem lw_p87 : lw_okq (⟨"GroveWorksModel", "sendClaim", "(IIII)V"⟩, 40) := ⟨⟨by decide +kernel, by decide +kernel⟩, List.mem_of_getElem? (i := 901) (by decide +kernel), List.mem_of_getElem? (i := 1293) (by decide +kernel), List.mem_of_getElem? (i := 1294) (by decide +kernel)⟩
theorem lw_p88 : lw_okq (⟨"GroveWorksModel", "sendTunnel", "(IIIII)V"⟩, 40) := ⟨⟨by decide +kernel, by decide +kernel⟩, List.mem_of_getElem? (i := 901) (by decide +kernel), List.mem_of_getElem? (i := 1297) (by decide +kernel), List.mem_of_getElem? (i := 1298) (by decide +kernel)⟩
theorem lw_p89 : lw_okq (⟨"GroveWorksModel", "sendBy", "(IIIIIIII)Z"⟩, 40) := ⟨⟨by decide +kernel, by decide +kernel⟩, List.mem_of_getElem? (i := 901) (by decide +kernel), List.mem_of_getElem? (i := 1301) (by decide +kernel), List.mem_of_getElem? (i := 1302) (by decide +kernel)⟩
theorem lw_p90 : lw_okq (⟨"GroveWorksModel", "claimed", "(IIIII)V"⟩, 40) := ⟨⟨by decide +kernel, by decide +kernel⟩, List.mem_of_getElem? (i := 901) (by decide +kernel), List.mem_of_getElem? (i := 1305) (by decide +kernel), List.mem_of_getElem? (i := 1306) (by decide +kernel)⟩
theorem lw_p91 : lw_okq (⟨"GroveWorksModel", "tunnel", "(IIIIII)V"⟩, 40) := ⟨⟨by decide +kernel, by decide +kernel⟩, List.mem_of_getElem? (i := 901) (by decide +kernel), List.mem_of_getElem? (i := 1309) (by decide +kernel), List.mem_of_getElem? (i := 1310) (by decide +kernel)⟩
theorem lw_p92 : lw_okq (⟨"GroveWorksModel", "sendStop", "(IIIII)V"⟩, 40) := ⟨⟨by decide +kernel, by decide +kernel⟩, List.mem_of_getElem? (i := 901) (by decide +kernel), List.mem_of_getElem? (i := 1313) (by decide +kernel), List.mem_of_getElem? (i := 1314) (by decide +kernel)⟩
theorem lw_p93 : lw_okq (⟨"GroveWorksModel", "stop", "(IIIII)V"⟩, 40) := ⟨⟨by decide +kernel, by decide +kernel⟩, List.mem_of_getElem? (i := 901) (by decide +kernel), List.mem_of_getElem? (i := 1317) (by decide +kernel), List.mem_of_getElem? (i := 1318) (by decide +kernel)⟩
theorem lw_p94 : lw_okq (⟨"GroveWorksModel", "comesToHost", "(II)V"⟩, 40) := ⟨⟨by decide +kernel, by decide +kernel⟩, List.mem_of_getElem? (i := 901) (by decide +kernel), List.mem_of_getElem? (i := 1321) (by decide +kernel), List.mem_of_getElem? (i := 1322) (by decide +kernel)⟩
theorem lw_p95 : lw_okq (⟨"GroveWorksModel", "timers", "(I)V"⟩, 40) := ⟨⟨by decide +kernel, by decide +kernel⟩, List.mem_of_getElem? (i := 901) (by decide +kernel), List.mem_of_getElem? (i := 1325) (by decide +kernel), List.mem_of_getElem? (i := 1326) (by decide +kernel)⟩
def lw_privs_6 : List (MethodName × Nat) := [(⟨"GroveWorksModel", "wantsSource", "(III)Z"⟩, 40), (⟨"GroveWorksModel", "isKept", "(III)Z"⟩, 40), (⟨"GroveWorksModel", "mayStraight", "(IIIIZ)Z"⟩, 40), (⟨"GroveWorksModel", "shared", "(III)I"⟩, 40), (⟨"GroveWorksModel", "up", "(III)I"⟩, 40), (⟨"GroveWorksModel", "sendData", "(IIIIIII)V"⟩, 40), (⟨"GroveWorksModel", "hasOwn", "(II)Z"⟩, 40), (⟨"GroveWorksModel", "sendClaim", "(IIII)V"⟩, 40), (⟨"GroveWorksModel", "sendTunnel", "(IIIII)V"⟩, 40), (⟨"GroveWorksModel", "sendBy", "(IIIIIIII)Z"⟩, 40), (⟨"GroveWorksModel", "claimed", "(IIIII)V"⟩, 40), (⟨"GroveWorksModel", "tunnel", "(IIIIII)V"⟩, 40), (⟨"GroveWorksModel", "sendStop", "(IIIII)V"⟩, 40), (⟨"GroveWorksModel", "stop", "(IIIII)V"⟩, 40), (⟨"GroveWorksModel", "comesToHost", "(II)V"⟩, 40), (⟨"GroveWorksModel", "timers", "(I)V"⟩, 40)]
theorem lw_r6 : ∀ q ∈ lw_privs_6, lw_okq q := List.forall_mem_cons.mpr ⟨lw_p80, List.forall_mem_cons.mpr ⟨lw_p81, List.forall_mem_cons.mpr ⟨lw_p82, List.forall_mem_cons.mpr ⟨lw_p83, List.forall_mem_cons.mpr ⟨lw_p84, List.forall_mem_cons.mpr ⟨lw_p85, List.forall_mem_cons.mpr ⟨lw_p86, List.forall_mem_cons.mpr ⟨lw_p87, List.forall_mem_cons.mpr ⟨lw_p88, List.forall_mem_cons.mpr ⟨lw_p89, List.forall_mem_cons.mpr ⟨lw_p90, List.forall_mem_cons.mpr ⟨lw_p91, List.forall_mem_cons.mpr ⟨lw_p92, List.forall_mem_cons.mpr ⟨lw_p93, List.forall_mem_cons.mpr ⟨lw_p94, List.forall_mem_cons.mpr ⟨lw_p95, fun _ h => absurd h List.not_mem_nil⟩⟩⟩⟩⟩⟩⟩⟩⟩⟩⟩⟩⟩⟩⟩⟩
theorem lw_p96 : lw_okq (⟨"GroveWorksModel", "bend", "(III)V"⟩, 40) := ⟨⟨by decide +kernel, by decide +kernel⟩, List.mem_of_getElem? (i := 901) (by decide +kernel), List.mem_of_getElem? (i := 1329) (by decide +kernel), List.mem_of_getElem? (i := 1330) (by decide +kernel)⟩
theorem lw_p97 : lw_okq (⟨"GroveWorksModel", "climb", "(III)V"⟩, 40) := ⟨⟨by decide +kernel, by decide +kernel⟩, List.mem_of_getElem? (i := 901) (by decide +kernel), List.mem_of_getElem? (i := 1333) (by decide +kernel), List.mem_of_getElem? (i := 1334) (by decide +kernel)⟩
theorem lw_p98 : lw_okq (⟨"GroveWorksModel", "wants", "(III)Z"⟩, 40) := ⟨⟨by decide +kernel, by decide +kernel⟩, List.mem_of_getElem? (i := 901) (by decide +kernel), List.mem_of_getElem? (i := 1337) (by decide +kernel), List.mem_of_getElem? (i := 1338) (by decide +kernel)⟩
theorem lw_p99 : lw_okq (⟨"GroveWorksModel", "base", "(II)I"⟩, 40) := ⟨⟨by decide +kernel, by decide +kernel⟩, List.mem_of_getElem? (i := 901) (by decide +kernel), List.mem_of_getElem? (i := 1341) (by decide +kernel), List.mem_of_getElem? (i := 1342) (by decide +kernel)⟩
theorem lw_p100 : lw_okq (⟨"GroveWorksModel", "toCutOff", "(II)I"⟩, 40) := ⟨⟨by decide +kernel, by decide +kernel⟩, List.mem_of_getElem? (i := 901) (by decide +kernel), List.mem_of_getElem? (i := 1345) (by decide +kernel), List.mem_of_getElem? (i := 1346) (by decide +kernel)⟩
theorem lw_p101 : lw_okq (⟨"GroveWorksModel", "remind", "(III)V"⟩, 40) := ⟨⟨by decide +kernel, by decide +kernel⟩, List.mem_of_getElem? (i := 901) (by decide +kernel), List.mem_of_getElem? (i := 1349) (by decide +kernel), List.mem_of_getElem? (i := 1350) (by decide +kernel)⟩
theorem lw_p102 : lw_okq (⟨"GroveWorksModel", "answers", "(I)V"⟩, 40) := ⟨⟨by decide +kernel, by decide +kernel⟩, List.mem_of_getElem? (i := 901) (by decide +kernel), List.mem_of_getElem? (i := 1353) (by decide +kernel), List.mem_of_getElem? (i := 1354) (by decide +kernel)⟩
theorem lw_p103 : lw_okq (⟨"GroveWorksModel", "ofSource", "(II)I"⟩, 40) := ⟨⟨by decide +kernel, by decide +kernel⟩, List.mem_of_getElem? (i := 901) (by decide +kernel), List.mem_of_getElem? (i := 1373) (by decide +kernel), List.mem_of_getElem? (i := 1374) (by decide +kernel)⟩
def lw_privs_7 : List (MethodName × Nat) := [(⟨"GroveWorksModel", "bend", "(III)V"⟩, 40), (⟨"GroveWorksModel", "climb", "(III)V"⟩, 40), (⟨"GroveWorksModel", "wants", "(III)Z"⟩, 40), (⟨"GroveWorksModel", "base", "(II)I"⟩, 40), (⟨"GroveWorksModel", "toCutOff", "(II)I"⟩, 40), (⟨"GroveWorksModel", "remind", "(III)V"⟩, 40), (⟨"GroveWorksModel", "answers", "(I)V"⟩, 40), (⟨"GroveWorksModel", "ofSource", "(II)I"⟩, 40)]
theorem lw_r7 : ∀ q ∈ lw_privs_7, lw_okq q := List.forall_mem_cons.mpr ⟨lw_p96, List.forall_mem_cons.mpr ⟨lw_p97, List.forall_mem_cons.mpr ⟨lw_p98, List.forall_mem_cons.mpr ⟨lw_p99, List.forall_mem_cons.mpr ⟨lw_p100, List.forall_mem_cons.mpr ⟨lw_p101, List.forall_mem_cons.mpr ⟨lw_p102, List.forall_mem_cons.mpr ⟨lw_p103, fun _ h => absurd h List.not_mem_nil⟩⟩⟩⟩⟩⟩⟩⟩
def lw_privs : List (MethodName × Nat) := lw_privs_1 ++ (lw_privs_2 ++ (lw_privs_3 ++ (lw_privs_4 ++ (lw_privs_5 ++ (lw_privs_6 ++ (lw_privs_7))))))
def lw_tbl : List Cond := k2_sels lw_privs ++ tables_1
theorem lw_privs_ok : ∀ q ∈ lw_privs, lw_okq q := by
  show ∀ q ∈ lw_privs_1 ++ (lw_privs_2 ++ (lw_privs_3 ++ (lw_privs_4 ++ (lw_privs_5 ++ (lw_privs_6 ++ (lw_privs_7)))))), lw_okq q
  exact List.forall_mem_append.mpr ⟨lw_r1, List.forall_mem_append.mpr ⟨lw_r2, List.forall_mem_append.mpr ⟨lw_r3, List.forall_mem_append.mpr ⟨lw_r4, List.forall_mem_append.mpr ⟨lw_r5, List.forall_mem_append.mpr ⟨lw_r6, lw_r7⟩⟩⟩⟩⟩⟩

def RX0 : String := "GroveWorks$Frame"
def TX0 : u_T := fun k => match k with
  | 0 => ("GroveWorks$Frame", "kind", "I", false)
  | 1 => ("GroveWorks$Frame", "sender", "I", false)
  | 2 => ("GroveWorks$Frame", "to", "I", false)
  | 3 => ("GroveWorks$Frame", "group", "I", false)
  | 4 => ("GroveWorks$Frame", "source", "I", false)
  | 5 => ("GroveWorks$Frame", "number", "I", false)
  | 6 => ("GroveWorks$Frame", "bits", "I", false)
  | _ => ("GroveWorks$Frame", "life", "I", false)
def tyX0 : Nat → FieldType := fun k => match k with
  | 0 => .int
  | 1 => .int
  | 2 => .int
  | 3 => .int
  | 4 => .int
  | 5 => .int
  | 6 => .int
  | _ => .int
theorem nmX0 : ∀ a, a < 8 → ∀ b, b < 8 → a ≠ b → (TX0 a).2.1 ≠ (TX0 b).2.1 := by decide +kernel
theorem tyX0_ok : ∀ k, k < 8 → parseFieldDescriptor (TX0 k).2.2.1 = some (tyX0 k) := by decide +kernel
abbrev cX0_init : ByteArray := prog_2_method_1_code
def yX0_init : MethodName := ⟨RX0, "<init>", "()V"⟩
abbrev cX0_begin : ByteArray := prog_2_method_2_code
def yX0_begin : MethodName := ⟨RX0, "begin", "(II)V"⟩
abbrev cX0_aim : ByteArray := prog_2_method_3_code
def yX0_aim : MethodName := ⟨RX0, "aim", "(III)V"⟩
abbrev cX0_tell : ByteArray := prog_2_method_4_code
def yX0_tell : MethodName := ⟨RX0, "tell", "(I)I"⟩
def RX1 : String := "GroveWorks$Host"
def TX1 : u_T := fun k => match k with
  | 0 => ("GroveWorks$Host", "number", "I", true)
  | 1 => ("GroveWorks$Host", "wire", "LGroveWorks$Wire;", true)
  | 2 => ("GroveWorks$Host", "gotten", "[I", true)
  | 3 => ("GroveWorks$Host", "joined", "I", false)
  | _ => ("GroveWorks$Host", "asked", "I", false)
def tyX1 : Nat → FieldType := fun k => match k with
  | 0 => .int
  | 1 => .object "GroveWorks$Wire"
  | 2 => .array .int
  | 3 => .int
  | _ => .int
theorem nmX1 : ∀ a, a < 5 → ∀ b, b < 5 → a ≠ b → (TX1 a).2.1 ≠ (TX1 b).2.1 := by decide +kernel
theorem tyX1_ok : ∀ k, k < 5 → parseFieldDescriptor (TX1 k).2.2.1 = some (tyX1 k) := by decide +kernel
abbrev cX1_init : ByteArray := prog_3_method_1_code
def yX1_init : MethodName := ⟨RX1, "<init>", "(ILGroveWorks$Wire;)V"⟩
abbrev cX1_hasJoined : ByteArray := prog_3_method_2_code
def yX1_hasJoined : MethodName := ⟨RX1, "hasJoined", "(I)Z"⟩
abbrev cX1_say : ByteArray := prog_3_method_3_code
def yX1_say : MethodName := ⟨RX1, "say", "(II)V"⟩
abbrev cX1_sendData : ByteArray := prog_3_method_4_code
def yX1_sendData : MethodName := ⟨RX1, "sendData", "(II)V"⟩
abbrev cX1_hear : ByteArray := prog_3_method_5_code
def yX1_hear : MethodName := ⟨RX1, "hear", "(LGroveWorks$Frame;)V"⟩
abbrev cX1_answerQueries : ByteArray := prog_3_method_6_code
def yX1_answerQueries : MethodName := ⟨RX1, "answerQueries", "()V"⟩
def RX2 : String := "GroveWorks$Net"
def TX2 : u_T := fun k => match k with
  | 0 => ("GroveWorks$Net", "wires", "[LGroveWorks$Wire;", true)
  | 1 => ("GroveWorks$Net", "ways", "LGroveWorks$Ways;", true)
  | 2 => ("GroveWorks$Net", "meeting", "[I", true)
  | 3 => ("GroveWorks$Net", "wireOfHost", "[I", true)
  | 4 => ("GroveWorks$Net", "time", "I", false)
  | _ => ("GroveWorks$Net", "tunnelsSent", "I", false)
def tyX2 : Nat → FieldType := fun k => match k with
  | 0 => .array (.object "GroveWorks$Wire")
  | 1 => .object "GroveWorks$Ways"
  | 2 => .array .int
  | 3 => .array .int
  | 4 => .int
  | _ => .int
theorem nmX2 : ∀ a, a < 6 → ∀ b, b < 6 → a ≠ b → (TX2 a).2.1 ≠ (TX2 b).2.1 := by decide +kernel
theorem tyX2_ok : ∀ k, k < 6 → parseFieldDescriptor (TX2 k).2.2.1 = some (tyX2 k) := by decide +kernel
abbrev cX2_init : ByteArray := prog_4_method_1_code
def yX2_init : MethodName := ⟨RX2, "<init>", "(I)V"⟩
abbrev cX2_targetOf : ByteArray := prog_4_method_2_code
def yX2_targetOf : MethodName := ⟨RX2, "targetOf", "(I)I"⟩
def RX3 : String := "GroveWorks$Port"
def TX3 : u_T := fun k => match k with
  | 0 => ("GroveWorks$Port", "net", "LGroveWorks$Net;", true)
  | 1 => ("GroveWorks$Port", "router", "I", true)
  | 2 => ("GroveWorks$Port", "wire", "LGroveWorks$Wire;", true)
  | 3 => ("GroveWorks$Port", "cost", "I", true)
  | 4 => ("GroveWorks$Port", "neighbours", "I", false)
  | 5 => ("GroveWorks$Port", "helloAt", "I", false)
  | 6 => ("GroveWorks$Port", "queryAt", "I", false)
  | 7 => ("GroveWorks$Port", "neighbourTill", "[I", true)
  | 8 => ("GroveWorks$Port", "membersTill", "[I", true)
  | 9 => ("GroveWorks$Port", "joinedTill", "[I", true)
  | 10 => ("GroveWorks$Port", "cutFrom", "[I", true)
  | 11 => ("GroveWorks$Port", "claims", "[I", true)
  | _ => ("GroveWorks$Port", "claimTill", "[I", true)
def tyX3 : Nat → FieldType := fun k => match k with
  | 0 => .object "GroveWorks$Net"
  | 1 => .int
  | 2 => .object "GroveWorks$Wire"
  | 3 => .int
  | 4 => .int
  | 5 => .int
  | 6 => .int
  | 7 => .array .int
  | 8 => .array .int
  | 9 => .array .int
  | 10 => .array .int
  | 11 => .array .int
  | _ => .array .int
theorem nmX3 : ∀ a, a < 13 → ∀ b, b < 13 → a ≠ b → (TX3 a).2.1 ≠ (TX3 b).2.1 := by decide +kernel
theorem tyX3_ok : ∀ k, k < 13 → parseFieldDescriptor (TX3 k).2.2.1 = some (tyX3 k) := by decide +kernel
abbrev cX3_init : ByteArray := prog_5_method_1_code
def yX3_init : MethodName := ⟨RX3, "<init>", "(LGroveWorks$Net;ILGroveWorks$Wire;I)V"⟩
abbrev cX3_forget : ByteArray := prog_5_method_2_code
def yX3_forget : MethodName := ⟨RX3, "forget", "()V"⟩
abbrev cX3_dropNeighbours : ByteArray := prog_5_method_3_code
def yX3_dropNeighbours : MethodName := ⟨RX3, "dropNeighbours", "()V"⟩
abbrev cX3_takeHello : ByteArray := prog_5_method_4_code
def yX3_takeHello : MethodName := ⟨RX3, "takeHello", "(I)V"⟩
abbrev cX3_isFirst : ByteArray := prog_5_method_5_code
def yX3_isFirst : MethodName := ⟨RX3, "isFirst", "()Z"⟩
abbrev cX3_isAsking : ByteArray := prog_5_method_6_code
def yX3_isAsking : MethodName := ⟨RX3, "isAsking", "()Z"⟩
abbrev cX3_timeToObject : ByteArray := prog_5_method_7_code
def yX3_timeToObject : MethodName := ⟨RX3, "timeToObject", "()I"⟩
abbrev cX3_hasMembers : ByteArray := prog_5_method_8_code
def yX3_hasMembers : MethodName := ⟨RX3, "hasMembers", "(I)Z"⟩
abbrev cX3_isOwn : ByteArray := prog_5_method_9_code
def yX3_isOwn : MethodName := ⟨RX3, "isOwn", "(I)Z"⟩
abbrev cX3_isJoined : ByteArray := prog_5_method_10_code
def yX3_isJoined : MethodName := ⟨RX3, "isJoined", "(II)Z"⟩
abbrev cX3_whenJoinEnds : ByteArray := prog_5_method_11_code
def yX3_whenJoinEnds : MethodName := ⟨RX3, "whenJoinEnds", "(II)I"⟩
abbrev cX3_isCutOff : ByteArray := prog_5_method_12_code
def yX3_isCutOff : MethodName := ⟨RX3, "isCutOff", "(II)Z"⟩
abbrev cX3_isShared : ByteArray := prog_5_method_13_code
def yX3_isShared : MethodName := ⟨RX3, "isShared", "(II)Z"⟩
abbrev cX3_isLost : ByteArray := prog_5_method_14_code
def yX3_isLost : MethodName := ⟨RX3, "isLost", "(III)Z"⟩
abbrev cX3_holds : ByteArray := prog_5_method_15_code
def yX3_holds : MethodName := ⟨RX3, "holds", "(II)Z"⟩
abbrev cX3_takeJoin : ByteArray := prog_5_method_16_code
def yX3_takeJoin : MethodName := ⟨RX3, "takeJoin", "(II)V"⟩
abbrev cX3_takeCuts : ByteArray := prog_5_method_17_code
def yX3_takeCuts : MethodName := ⟨RX3, "takeCuts", "(II)V"⟩
abbrev cX3_takePrune : ByteArray := prog_5_method_18_code
def yX3_takePrune : MethodName := ⟨RX3, "takePrune", "(II)V"⟩
abbrev cX3_keptClaim : ByteArray := prog_5_method_19_code
def yX3_keptClaim : MethodName := ⟨RX3, "keptClaim", "(II)I"⟩
abbrev cX3_claimant : ByteArray := prog_5_method_20_code
def yX3_claimant : MethodName := ⟨RX3, "claimant", "(II)I"⟩
abbrev cX3_takeClaim : ByteArray := prog_5_method_21_code
def yX3_takeClaim : MethodName := ⟨RX3, "takeClaim", "(III)V"⟩
def RX4 : String := "GroveWorks$Router"
def TX4 : u_T := fun k => match k with
  | 0 => ("GroveWorks$Router", "net", "LGroveWorks$Net;", true)
  | 1 => ("GroveWorks$Router", "number", "I", true)
  | 2 => ("GroveWorks$Router", "ports", "[LGroveWorks$Port;", true)
  | _ => ("GroveWorks$Router", "trees", "[LGroveWorks$Tree;", true)
def tyX4 : Nat → FieldType := fun k => match k with
  | 0 => .object "GroveWorks$Net"
  | 1 => .int
  | 2 => .array (.object "GroveWorks$Port")
  | _ => .array (.object "GroveWorks$Tree")
theorem nmX4 : ∀ a, a < 4 → ∀ b, b < 4 → a ≠ b → (TX4 a).2.1 ≠ (TX4 b).2.1 := by decide +kernel
theorem tyX4_ok : ∀ k, k < 4 → parseFieldDescriptor (TX4 k).2.2.1 = some (tyX4 k) := by decide +kernel
abbrev cX4_init : ByteArray := prog_6_method_1_code
def yX4_init : MethodName := ⟨RX4, "<init>", "(LGroveWorks$Net;I[LGroveWorks$Port;[LGroveWorks$Tree;)V"⟩
abbrev cX4_forgetPort : ByteArray := prog_6_method_2_code
def yX4_forgetPort : MethodName := ⟨RX4, "forgetPort", "(I)V"⟩
abbrev cX4_dropNeighbours : ByteArray := prog_6_method_3_code
def yX4_dropNeighbours : MethodName := ⟨RX4, "dropNeighbours", "()V"⟩
abbrev cX4_hear : ByteArray := prog_6_method_4_code
def yX4_hear : MethodName := ⟨RX4, "hear", "(LGroveWorks$Frame;I)V"⟩
abbrev cX4_doTimers : ByteArray := prog_6_method_5_code
def yX4_doTimers : MethodName := ⟨RX4, "doTimers", "()V"⟩
abbrev cX4_sayHello : ByteArray := prog_6_method_6_code
def yX4_sayHello : MethodName := ⟨RX4, "sayHello", "(LGroveWorks$Port;)V"⟩
abbrev cX4_askAll : ByteArray := prog_6_method_7_code
def yX4_askAll : MethodName := ⟨RX4, "askAll", "(LGroveWorks$Port;)V"⟩
def RX5 : String := "GroveWorks$Tree"
def TX5 : u_T := fun k => match k with
  | 0 => ("GroveWorks$Tree", "net", "LGroveWorks$Net;", true)
  | 1 => ("GroveWorks$Tree", "router", "I", true)
  | 2 => ("GroveWorks$Tree", "group", "I", true)
  | 3 => ("GroveWorks$Tree", "ports", "[LGroveWorks$Port;", true)
  | 4 => ("GroveWorks$Tree", "known", "I", false)
  | 5 => ("GroveWorks$Tree", "joinedBy", "[I", true)
  | 6 => ("GroveWorks$Tree", "joinAt", "[I", true)
  | 7 => ("GroveWorks$Tree", "toldCut", "I", false)
  | 8 => ("GroveWorks$Tree", "keptTill", "[I", true)
  | 9 => ("GroveWorks$Tree", "stoppedTill", "[I", true)
  | 10 => ("GroveWorks$Tree", "straightBy", "[I", true)
  | 11 => ("GroveWorks$Tree", "claim", "I", false)
  | 12 => ("GroveWorks$Tree", "lost", "I", false)
  | 13 => ("GroveWorks$Tree", "shared", "I", false)
  | 14 => ("GroveWorks$Tree", "all", "I", false)
  | _ => ("GroveWorks$Tree", "isWanted", "Z", false)
def tyX5 : Nat → FieldType := fun k => match k with
  | 0 => .object "GroveWorks$Net"
  | 1 => .int
  | 2 => .int
  | 3 => .array (.object "GroveWorks$Port")
  | 4 => .int
  | 5 => .array .int
  | 6 => .array .int
  | 7 => .int
  | 8 => .array .int
  | 9 => .array .int
  | 10 => .array .int
  | 11 => .int
  | 12 => .int
  | 13 => .int
  | 14 => .int
  | _ => .boolean
theorem nmX5 : ∀ a, a < 16 → ∀ b, b < 16 → a ≠ b → (TX5 a).2.1 ≠ (TX5 b).2.1 := by decide +kernel
theorem tyX5_ok : ∀ k, k < 16 → parseFieldDescriptor (TX5 k).2.2.1 = some (tyX5 k) := by decide +kernel
abbrev cX5_init : ByteArray := prog_7_method_1_code
def yX5_init : MethodName := ⟨RX5, "<init>", "(LGroveWorks$Net;II[LGroveWorks$Port;)V"⟩
abbrev cX5_isMeeting : ByteArray := prog_7_method_2_code
def yX5_isMeeting : MethodName := ⟨RX5, "isMeeting", "()Z"⟩
abbrev cX5_isStraight : ByteArray := prog_7_method_3_code
def yX5_isStraight : MethodName := ⟨RX5, "isStraight", "(I)Z"⟩
abbrev cX5_portToSource : ByteArray := prog_7_method_4_code
def yX5_portToSource : MethodName := ⟨RX5, "portToSource", "(I)I"⟩
abbrev cX5_portToMeeting : ByteArray := prog_7_method_5_code
def yX5_portToMeeting : MethodName := ⟨RX5, "portToMeeting", "()I"⟩
abbrev cX5_isDirect : ByteArray := prog_7_method_6_code
def yX5_isDirect : MethodName := ⟨RX5, "isDirect", "(I)Z"⟩
abbrev cX5_hasOwnPort : ByteArray := prog_7_method_7_code
def yX5_hasOwnPort : MethodName := ⟨RX5, "hasOwnPort", "()Z"⟩
abbrev cX5_base : ByteArray := prog_7_method_8_code
def yX5_base : MethodName := ⟨RX5, "base", "()I"⟩
abbrev cX5_ownClaim : ByteArray := prog_7_method_9_code
def yX5_ownClaim : MethodName := ⟨RX5, "ownClaim", "(I)I"⟩
abbrev cX5_look : ByteArray := prog_7_method_10_code
def yX5_look : MethodName := ⟨RX5, "look", "(I)V"⟩
abbrev cX5_wants : ByteArray := prog_7_method_11_code
def yX5_wants : MethodName := ⟨RX5, "wants", "(I)Z"⟩
abbrev cX5_up : ByteArray := prog_7_method_12_code
def yX5_up : MethodName := ⟨RX5, "up", "(I)I"⟩
abbrev cX5_toCutOff : ByteArray := prog_7_method_13_code
def yX5_toCutOff : MethodName := ⟨RX5, "toCutOff", "(I)I"⟩
abbrev cX5_forgetPort : ByteArray := prog_7_method_14_code
def yX5_forgetPort : MethodName := ⟨RX5, "forgetPort", "(I)V"⟩
abbrev cX5_joinNone : ByteArray := prog_7_method_15_code
def yX5_joinNone : MethodName := ⟨RX5, "joinNone", "(I)V"⟩
abbrev cX5_checkStraight : ByteArray := prog_7_method_16_code
def yX5_checkStraight : MethodName := ⟨RX5, "checkStraight", "()V"⟩
abbrev cX5_renewJoin : ByteArray := prog_7_method_17_code
def yX5_renewJoin : MethodName := ⟨RX5, "renewJoin", "(I)V"⟩
abbrev cX5_dropKnown : ByteArray := prog_7_method_18_code
def yX5_dropKnown : MethodName := ⟨RX5, "dropKnown", "()V"⟩
abbrev cX5_holds : ByteArray := prog_7_method_19_code
def yX5_holds : MethodName := ⟨RX5, "holds", "(I)Z"⟩
abbrev cX5_sendJoin : ByteArray := prog_7_method_20_code
def yX5_sendJoin : MethodName := ⟨RX5, "sendJoin", "(II)V"⟩
abbrev cX5_openUp : ByteArray := prog_7_method_21_code
def yX5_openUp : MethodName := ⟨RX5, "openUp", "(II)LGroveWorks$Frame;"⟩
abbrev cX5_probe : ByteArray := prog_7_method_22_code
def yX5_probe : MethodName := ⟨RX5, "probe", "()V"⟩
abbrev cX5_mayTunnel : ByteArray := prog_7_method_23_code
def yX5_mayTunnel : MethodName := ⟨RX5, "mayTunnel", "(I)Z"⟩
abbrev cX5_takeReport : ByteArray := prog_7_method_24_code
def yX5_takeReport : MethodName := ⟨RX5, "takeReport", "(LGroveWorks$Port;)V"⟩
abbrev cX5_takeLeave : ByteArray := prog_7_method_25_code
def yX5_takeLeave : MethodName := ⟨RX5, "takeLeave", "(LGroveWorks$Port;)V"⟩
abbrev cX5_takeJoinOrPrune : ByteArray := prog_7_method_26_code
def yX5_takeJoinOrPrune : MethodName := ⟨RX5, "takeJoinOrPrune", "(LGroveWorks$Frame;LGroveWorks$Port;)V"⟩
abbrev cX5_overhear : ByteArray := prog_7_method_27_code
def yX5_overhear : MethodName := ⟨RX5, "overhear", "(LGroveWorks$Frame;I)V"⟩
abbrev cX5_takeData : ByteArray := prog_7_method_28_code
def yX5_takeData : MethodName := ⟨RX5, "takeData", "(LGroveWorks$Frame;I)V"⟩
abbrev cX5_goesStraight : ByteArray := prog_7_method_29_code
def yX5_goesStraight : MethodName := ⟨RX5, "goesStraight", "(II)Z"⟩
abbrev cX5_findOut : ByteArray := prog_7_method_30_code
def yX5_findOut : MethodName := ⟨RX5, "findOut", "(IIZ)I"⟩
abbrev cX5_isBranch : ByteArray := prog_7_method_31_code
def yX5_isBranch : MethodName := ⟨RX5, "isBranch", "(II)Z"⟩
abbrev cX5_sendData : ByteArray := prog_7_method_32_code
def yX5_sendData : MethodName := ⟨RX5, "sendData", "(IIII)V"⟩
abbrev cX5_takeClaim : ByteArray := prog_7_method_33_code
def yX5_takeClaim : MethodName := ⟨RX5, "takeClaim", "(LGroveWorks$Frame;I)V"⟩
abbrev cX5_sendClaim : ByteArray := prog_7_method_34_code
def yX5_sendClaim : MethodName := ⟨RX5, "sendClaim", "(II)V"⟩
abbrev cX5_startTunnel : ByteArray := prog_7_method_35_code
def yX5_startTunnel : MethodName := ⟨RX5, "startTunnel", "(III)V"⟩
abbrev cX5_takeTunnel : ByteArray := prog_7_method_36_code
def yX5_takeTunnel : MethodName := ⟨RX5, "takeTunnel", "(LGroveWorks$Frame;)V"⟩
abbrev cX5_sendStop : ByteArray := prog_7_method_37_code
def yX5_sendStop : MethodName := ⟨RX5, "sendStop", "(II)V"⟩
abbrev cX5_takeStop : ByteArray := prog_7_method_38_code
def yX5_takeStop : MethodName := ⟨RX5, "takeStop", "(LGroveWorks$Frame;)V"⟩
abbrev cX5_passOn : ByteArray := prog_7_method_39_code
def yX5_passOn : MethodName := ⟨RX5, "passOn", "(LGroveWorks$Frame;I)V"⟩
abbrev cX5_openTo : ByteArray := prog_7_method_40_code
def yX5_openTo : MethodName := ⟨RX5, "openTo", "(III)LGroveWorks$Frame;"⟩
abbrev cX5_isLost : ByteArray := prog_7_method_41_code
def yX5_isLost : MethodName := ⟨RX5, "isLost", "(II)Z"⟩
abbrev cX5_tellStar : ByteArray := prog_7_method_42_code
def yX5_tellStar : MethodName := ⟨RX5, "tellStar", "(I)I"⟩
abbrev cX5_tellSource : ByteArray := prog_7_method_43_code
def yX5_tellSource : MethodName := ⟨RX5, "tellSource", "(II)I"⟩
abbrev cX5_joinedRouter : ByteArray := prog_7_method_44_code
def yX5_joinedRouter : MethodName := ⟨RX5, "joinedRouter", "(I)I"⟩
abbrev cX5_joinedPort : ByteArray := prog_7_method_45_code
def yX5_joinedPort : MethodName := ⟨RX5, "joinedPort", "(I)I"⟩
def RX6 : String := "GroveWorks$Ways"
def TX6 : u_T := fun k => match k with
  | 0 => ("GroveWorks$Ways", "size", "I", true)
  | 1 => ("GroveWorks$Ways", "wireAt", "[I", true)
  | 2 => ("GroveWorks$Ways", "costAt", "[I", true)
  | 3 => ("GroveWorks$Ways", "distances", "[I", true)
  | 4 => ("GroveWorks$Ways", "ports", "[I", true)
  | 5 => ("GroveWorks$Ways", "nexts", "[I", true)
  | _ => ("GroveWorks$Ways", "isStale", "Z", false)
def tyX6 : Nat → FieldType := fun k => match k with
  | 0 => .int
  | 1 => .array .int
  | 2 => .array .int
  | 3 => .array .int
  | 4 => .array .int
  | 5 => .array .int
  | _ => .boolean
theorem nmX6 : ∀ a, a < 7 → ∀ b, b < 7 → a ≠ b → (TX6 a).2.1 ≠ (TX6 b).2.1 := by decide +kernel
theorem tyX6_ok : ∀ k, k < 7 → parseFieldDescriptor (TX6 k).2.2.1 = some (tyX6 k) := by decide +kernel
abbrev cX6_init : ByteArray := prog_8_method_1_code
def yX6_init : MethodName := ⟨RX6, "<init>", "(I)V"⟩
abbrev cX6_put : ByteArray := prog_8_method_2_code
def yX6_put : MethodName := ⟨RX6, "put", "(IIII)V"⟩
abbrev cX6_distanceTo : ByteArray := prog_8_method_3_code
def yX6_distanceTo : MethodName := ⟨RX6, "distanceTo", "(II)I"⟩
abbrev cX6_portTo : ByteArray := prog_8_method_4_code
def yX6_portTo : MethodName := ⟨RX6, "portTo", "(II)I"⟩
abbrev cX6_routerTo : ByteArray := prog_8_method_5_code
def yX6_routerTo : MethodName := ⟨RX6, "routerTo", "(II)I"⟩
abbrev cX6_isDirect : ByteArray := prog_8_method_6_code
def yX6_isDirect : MethodName := ⟨RX6, "isDirect", "(II)Z"⟩
abbrev cX6_refresh : ByteArray := prog_8_method_7_code
def yX6_refresh : MethodName := ⟨RX6, "refresh", "([LGroveWorks$Wire;)V"⟩
abbrev cX6_measureSteps : ByteArray := prog_8_method_8_code
def yX6_measureSteps : MethodName := ⟨RX6, "measureSteps", "([LGroveWorks$Wire;)V"⟩
abbrev cX6_measureRouters : ByteArray := prog_8_method_9_code
def yX6_measureRouters : MethodName := ⟨RX6, "measureRouters", "()V"⟩
abbrev cX6_measureWires : ByteArray := prog_8_method_10_code
def yX6_measureWires : MethodName := ⟨RX6, "measureWires", "([LGroveWorks$Wire;)V"⟩
abbrev cX6_choosePort : ByteArray := prog_8_method_11_code
def yX6_choosePort : MethodName := ⟨RX6, "choosePort", "([LGroveWorks$Wire;II)V"⟩
def RX7 : String := "GroveWorks$Wire"
def TX7 : u_T := fun k => match k with
  | 0 => ("GroveWorks$Wire", "number", "I", true)
  | 1 => ("GroveWorks$Wire", "portOf", "[I", true)
  | 2 => ("GroveWorks$Wire", "isUp", "Z", false)
  | 3 => ("GroveWorks$Wire", "coming", "[LGroveWorks$Frame;", false)
  | 4 => ("GroveWorks$Wire", "waiting", "[LGroveWorks$Frame;", false)
  | 5 => ("GroveWorks$Wire", "comingCount", "I", false)
  | 6 => ("GroveWorks$Wire", "waitingCount", "I", false)
  | 7 => ("GroveWorks$Wire", "taken", "I", false)
  | 8 => ("GroveWorks$Wire", "sent", "I", false)
  | 9 => ("GroveWorks$Wire", "lost", "I", false)
  | 10 => ("GroveWorks$Wire", "dataSent", "I", false)
  | _ => ("GroveWorks$Wire", "claimsSent", "I", false)
def tyX7 : Nat → FieldType := fun k => match k with
  | 0 => .int
  | 1 => .array .int
  | 2 => .boolean
  | 3 => .array (.object "GroveWorks$Frame")
  | 4 => .array (.object "GroveWorks$Frame")
  | 5 => .int
  | 6 => .int
  | 7 => .int
  | 8 => .int
  | 9 => .int
  | 10 => .int
  | _ => .int
theorem nmX7 : ∀ a, a < 12 → ∀ b, b < 12 → a ≠ b → (TX7 a).2.1 ≠ (TX7 b).2.1 := by decide +kernel
theorem tyX7_ok : ∀ k, k < 12 → parseFieldDescriptor (TX7 k).2.2.1 = some (tyX7 k) := by decide +kernel
abbrev cX7_init : ByteArray := prog_9_method_1_code
def yX7_init : MethodName := ⟨RX7, "<init>", "(I)V"⟩
abbrev cX7_makeFrames : ByteArray := prog_9_method_2_code
def yX7_makeFrames : MethodName := ⟨RX7, "makeFrames", "()V"⟩
abbrev cX7_turnOver : ByteArray := prog_9_method_3_code
def yX7_turnOver : MethodName := ⟨RX7, "turnOver", "()V"⟩
abbrev cX7_open : ByteArray := prog_9_method_4_code
def yX7_open : MethodName := ⟨RX7, "open", "(II)LGroveWorks$Frame;"⟩
abbrev cX7_drop : ByteArray := prog_9_method_5_code
def yX7_drop : MethodName := ⟨RX7, "drop", "(I)Z"⟩
def RX8 : String := "GroveWorks"
def TX8 : u_T := fun k => match k with
  | 0 => ("GroveWorks", "net", "LGroveWorks$Net;", true)
  | 1 => ("GroveWorks", "routers", "[LGroveWorks$Router;", true)
  | 2 => ("GroveWorks", "hosts", "[LGroveWorks$Host;", true)
  | _ => ("GroveWorks", "numbers", "I", false)
def tyX8 : Nat → FieldType := fun k => match k with
  | 0 => .object "GroveWorks$Net"
  | 1 => .array (.object "GroveWorks$Router")
  | 2 => .array (.object "GroveWorks$Host")
  | _ => .int
theorem nmX8 : ∀ a, a < 4 → ∀ b, b < 4 → a ≠ b → (TX8 a).2.1 ≠ (TX8 b).2.1 := by decide +kernel
theorem tyX8_ok : ∀ k, k < 4 → parseFieldDescriptor (TX8 k).2.2.1 = some (tyX8 k) := by decide +kernel
abbrev cX8_init : ByteArray := prog_1_method_1_code
def yX8_init : MethodName := ⟨RX8, "<init>", "(I)V"⟩
abbrev cX8_makeRouter : ByteArray := prog_1_method_2_code
def yX8_makeRouter : MethodName := ⟨RX8, "makeRouter", "(LGroveWorks$Net;I)LGroveWorks$Router;"⟩
abbrev cX8_plug : ByteArray := prog_1_method_3_code
def yX8_plug : MethodName := ⟨RX8, "plug", "(IIII)Z"⟩
abbrev cX8_host : ByteArray := prog_1_method_4_code
def yX8_host : MethodName := ⟨RX8, "host", "(II)Z"⟩
abbrev cX8_meet : ByteArray := prog_1_method_5_code
def yX8_meet : MethodName := ⟨RX8, "meet", "(II)Z"⟩
abbrev cX8_cut : ByteArray := prog_1_method_6_code
def yX8_cut : MethodName := ⟨RX8, "cut", "(I)Z"⟩
abbrev cX8_mend : ByteArray := prog_1_method_7_code
def yX8_mend : MethodName := ⟨RX8, "mend", "(I)Z"⟩
abbrev cX8_join : ByteArray := prog_1_method_8_code
def yX8_join : MethodName := ⟨RX8, "join", "(II)Z"⟩
abbrev cX8_leave : ByteArray := prog_1_method_9_code
def yX8_leave : MethodName := ⟨RX8, "leave", "(II)Z"⟩
abbrev cX8_send : ByteArray := prog_1_method_10_code
def yX8_send : MethodName := ⟨RX8, "send", "(II)I"⟩
abbrev cX8_lose : ByteArray := prog_1_method_11_code
def yX8_lose : MethodName := ⟨RX8, "lose", "(II)Z"⟩
abbrev cX8_tick : ByteArray := prog_1_method_12_code
def yX8_tick : MethodName := ⟨RX8, "tick", "(I)I"⟩
abbrev cX8_beginTick : ByteArray := prog_1_method_13_code
def yX8_beginTick : MethodName := ⟨RX8, "beginTick", "()V"⟩
abbrev cX8_deliver : ByteArray := prog_1_method_14_code
def yX8_deliver : MethodName := ⟨RX8, "deliver", "(LGroveWorks$Wire;)V"⟩
abbrev cX8_got : ByteArray := prog_1_method_15_code
def yX8_got : MethodName := ⟨RX8, "got", "(II)I"⟩
abbrev cX8_frame : ByteArray := prog_1_method_16_code
def yX8_frame : MethodName := ⟨RX8, "frame", "(III)I"⟩
abbrev cX8_way : ByteArray := prog_1_method_17_code
def yX8_way : MethodName := ⟨RX8, "way", "(IZII)I"⟩
abbrev cX8_port : ByteArray := prog_1_method_18_code
def yX8_port : MethodName := ⟨RX8, "port", "(III)I"⟩
abbrev cX8_members : ByteArray := prog_1_method_19_code
def yX8_members : MethodName := ⟨RX8, "members", "(III)I"⟩
abbrev cX8_branch : ByteArray := prog_1_method_20_code
def yX8_branch : MethodName := ⟨RX8, "branch", "(IIIII)I"⟩
abbrev cX8_tree : ByteArray := prog_1_method_21_code
def yX8_tree : MethodName := ⟨RX8, "tree", "(IIII)I"⟩
abbrev cX8_count : ByteArray := prog_1_method_22_code
def yX8_count : MethodName := ⟨RX8, "count", "(I)I"⟩
abbrev cX8_countOnWires : ByteArray := prog_1_method_23_code
def yX8_countOnWires : MethodName := ⟨RX8, "countOnWires", "(I)I"⟩
abbrev cX8_isIn : ByteArray := prog_1_method_24_code
def yX8_isIn : MethodName := ⟨RX8, "isIn", "(II)Z"⟩
abbrev cX8_isSource : ByteArray := prog_1_method_25_code
def yX8_isSource : MethodName := ⟨RX8, "isSource", "(I)Z"⟩
abbrev cX8_isPort : ByteArray := prog_1_method_26_code
def yX8_isPort : MethodName := ⟨RX8, "isPort", "(II)Z"⟩
abbrev cX8_has : ByteArray := prog_1_method_27_code
def yX8_has : MethodName := ⟨RX8, "has", "(II)Z"⟩
abbrev cX8_isBetter : ByteArray := prog_1_method_28_code
def yX8_isBetter : MethodName := ⟨RX8, "isBetter", "(II)Z"⟩
def RX9 : String := "GroveWorksModel"
def TX9 : u_T := fun k => match k with
  | 0 => ("GroveWorksModel", "time", "I", false)
  | 1 => ("GroveWorksModel", "routers", "I", true)
  | 2 => ("GroveWorksModel", "numbers", "I", false)
  | 3 => ("GroveWorksModel", "sent", "I", false)
  | 4 => ("GroveWorksModel", "lost", "I", false)
  | 5 => ("GroveWorksModel", "dataSent", "I", false)
  | 6 => ("GroveWorksModel", "tunnelsSent", "I", false)
  | 7 => ("GroveWorksModel", "claimsSent", "I", false)
  | 8 => ("GroveWorksModel", "wireOf", "[I", true)
  | 9 => ("GroveWorksModel", "costOf", "[I", true)
  | 10 => ("GroveWorksModel", "isCut", "[Z", true)
  | 11 => ("GroveWorksModel", "hostWire", "[I", true)
  | 12 => ("GroveWorksModel", "meeting", "[I", true)
  | 13 => ("GroveWorksModel", "hostJoined", "[I", true)
  | 14 => ("GroveWorksModel", "hostAsked", "[I", true)
  | 15 => ("GroveWorksModel", "gotten", "[I", true)
  | 16 => ("GroveWorksModel", "many", "[I", true)
  | 17 => ("GroveWorksModel", "since", "[I", true)
  | 18 => ("GroveWorksModel", "frames", "[I", true)
  | 19 => ("GroveWorksModel", "nowMany", "[I", true)
  | 20 => ("GroveWorksModel", "now", "[I", true)
  | 21 => ("GroveWorksModel", "isOld", "Z", false)
  | 22 => ("GroveWorksModel", "distance", "[I", true)
  | 23 => ("GroveWorksModel", "wayPort", "[I", true)
  | 24 => ("GroveWorksModel", "wayRouter", "[I", true)
  | 25 => ("GroveWorksModel", "neighbourTill", "[I", true)
  | 26 => ("GroveWorksModel", "helloAt", "[I", true)
  | 27 => ("GroveWorksModel", "queryAt", "[I", true)
  | 28 => ("GroveWorksModel", "memberTill", "[I", true)
  | 29 => ("GroveWorksModel", "joinedTill", "[I", true)
  | 30 => ("GroveWorksModel", "cutFrom", "[I", true)
  | 31 => ("GroveWorksModel", "claimNumber", "[I", true)
  | 32 => ("GroveWorksModel", "claimTill", "[I", true)
  | 33 => ("GroveWorksModel", "byPort", "[I", true)
  | 34 => ("GroveWorksModel", "byRouter", "[I", true)
  | 35 => ("GroveWorksModel", "lastJoin", "[I", true)
  | 36 => ("GroveWorksModel", "lastBits", "[I", true)
  | 37 => ("GroveWorksModel", "keptTill", "[I", true)
  | 38 => ("GroveWorksModel", "stoppedTill", "[I", true)
  | _ => ("GroveWorksModel", "straightBy", "[I", true)
def tyX9 : Nat → FieldType := fun k => match k with
  | 0 => .int
  | 1 => .int
  | 2 => .int
  | 3 => .int
  | 4 => .int
  | 5 => .int
  | 6 => .int
  | 7 => .int
  | 8 => .array .int
  | 9 => .array .int
  | 10 => .array .boolean
  | 11 => .array .int
  | 12 => .array .int
  | 13 => .array .int
  | 14 => .array .int
  | 15 => .array .int
  | 16 => .array .int
  | 17 => .array .int
  | 18 => .array .int
  | 19 => .array .int
  | 20 => .array .int
  | 21 => .boolean
  | 22 => .array .int
  | 23 => .array .int
  | 24 => .array .int
  | 25 => .array .int
  | 26 => .array .int
  | 27 => .array .int
  | 28 => .array .int
  | 29 => .array .int
  | 30 => .array .int
  | 31 => .array .int
  | 32 => .array .int
  | 33 => .array .int
  | 34 => .array .int
  | 35 => .array .int
  | 36 => .array .int
  | 37 => .array .int
  | 38 => .array .int
  | _ => .array .int
theorem nmX9 : ∀ a, a < 40 → ∀ b, b < 40 → a ≠ b → (TX9 a).2.1 ≠ (TX9 b).2.1 := by decide +kernel
theorem tyX9_ok : ∀ k, k < 40 → parseFieldDescriptor (TX9 k).2.2.1 = some (tyX9 k) := by decide +kernel
abbrev cX9_init : ByteArray := prog_11_method_1_code
def yX9_init : MethodName := ⟨RX9, "<init>", "(I)V"⟩
abbrev cX9_isRouter : ByteArray := prog_11_method_3_code
def yX9_isRouter : MethodName := ⟨RX9, "isRouter", "(I)Z"⟩
abbrev cX9_isPort : ByteArray := prog_11_method_4_code
def yX9_isPort : MethodName := ⟨RX9, "isPort", "(I)Z"⟩
abbrev cX9_isWire : ByteArray := prog_11_method_5_code
def yX9_isWire : MethodName := ⟨RX9, "isWire", "(I)Z"⟩
abbrev cX9_isHost : ByteArray := prog_11_method_6_code
def yX9_isHost : MethodName := ⟨RX9, "isHost", "(I)Z"⟩
abbrev cX9_isGroup : ByteArray := prog_11_method_7_code
def yX9_isGroup : MethodName := ⟨RX9, "isGroup", "(I)Z"⟩
abbrev cX9_portOn : ByteArray := prog_11_method_8_code
def yX9_portOn : MethodName := ⟨RX9, "portOn", "(II)I"⟩
abbrev cX9_isUp : ByteArray := prog_11_method_9_code
def yX9_isUp : MethodName := ⟨RX9, "isUp", "(II)Z"⟩
abbrev cX9_plug : ByteArray := prog_11_method_10_code
def yX9_plug : MethodName := ⟨RX9, "plug", "(IIII)Z"⟩
abbrev cX9_host : ByteArray := prog_11_method_11_code
def yX9_host : MethodName := ⟨RX9, "host", "(II)Z"⟩
abbrev cX9_meet : ByteArray := prog_11_method_12_code
def yX9_meet : MethodName := ⟨RX9, "meet", "(II)Z"⟩
abbrev cX9_cut : ByteArray := prog_11_method_13_code
def yX9_cut : MethodName := ⟨RX9, "cut", "(I)Z"⟩
abbrev cX9_forget : ByteArray := prog_11_method_14_code
def yX9_forget : MethodName := ⟨RX9, "forget", "(II)V"⟩
abbrev cX9_mend : ByteArray := prog_11_method_15_code
def yX9_mend : MethodName := ⟨RX9, "mend", "(I)Z"⟩
abbrev cX9_reckon : ByteArray := prog_11_method_16_code
def yX9_reckon : MethodName := ⟨RX9, "reckon", "()V"⟩
abbrev cX9_isAt : ByteArray := prog_11_method_17_code
def yX9_isAt : MethodName := ⟨RX9, "isAt", "(II)Z"⟩
abbrev cX9_over : ByteArray := prog_11_method_18_code
def yX9_over : MethodName := ⟨RX9, "over", "(IIII)I"⟩
abbrev cX9_step : ByteArray := prog_11_method_19_code
def yX9_step : MethodName := ⟨RX9, "step", "(II)V"⟩
abbrev cX9_settle : ByteArray := prog_11_method_20_code
def yX9_settle : MethodName := ⟨RX9, "settle", "(II)V"⟩
abbrev cX9_toSource : ByteArray := prog_11_method_21_code
def yX9_toSource : MethodName := ⟨RX9, "toSource", "(II)I"⟩
abbrev cX9_toMeeting : ByteArray := prog_11_method_22_code
def yX9_toMeeting : MethodName := ⟨RX9, "toMeeting", "(II)I"⟩
abbrev cX9_portTo : ByteArray := prog_11_method_23_code
def yX9_portTo : MethodName := ⟨RX9, "portTo", "(I)I"⟩
abbrev cX9_isDirect : ByteArray := prog_11_method_24_code
def yX9_isDirect : MethodName := ⟨RX9, "isDirect", "(II)Z"⟩
abbrev cX9_way : ByteArray := prog_11_method_25_code
def yX9_way : MethodName := ⟨RX9, "way", "(IZII)I"⟩
abbrev cX9_put : ByteArray := prog_11_method_26_code
def yX9_put : MethodName := ⟨RX9, "put", "(IIIIIIIII)Z"⟩
abbrev cX9_lose : ByteArray := prog_11_method_27_code
def yX9_lose : MethodName := ⟨RX9, "lose", "(II)Z"⟩
abbrev cX9_frame : ByteArray := prog_11_method_28_code
def yX9_frame : MethodName := ⟨RX9, "frame", "(III)I"⟩
abbrev cX9_isNeighbour : ByteArray := prog_11_method_29_code
def yX9_isNeighbour : MethodName := ⟨RX9, "isNeighbour", "(III)Z"⟩
abbrev cX9_neighbours : ByteArray := prog_11_method_30_code
def yX9_neighbours : MethodName := ⟨RX9, "neighbours", "(II)I"⟩
abbrev cX9_hasTwo : ByteArray := prog_11_method_31_code
def yX9_hasTwo : MethodName := ⟨RX9, "hasTwo", "(II)Z"⟩
abbrev cX9_isFirst : ByteArray := prog_11_method_32_code
def yX9_isFirst : MethodName := ⟨RX9, "isFirst", "(II)Z"⟩
abbrev cX9_isAsking : ByteArray := prog_11_method_33_code
def yX9_isAsking : MethodName := ⟨RX9, "isAsking", "(II)Z"⟩
abbrev cX9_hasMembers : ByteArray := prog_11_method_34_code
def yX9_hasMembers : MethodName := ⟨RX9, "hasMembers", "(III)Z"⟩
abbrev cX9_heardAt : ByteArray := prog_11_method_35_code
def yX9_heardAt : MethodName := ⟨RX9, "heardAt", "(IIII)I"⟩
abbrev cX9_joined : ByteArray := prog_11_method_36_code
def yX9_joined : MethodName := ⟨RX9, "joined", "(IIII)I"⟩
abbrev cX9_isCutOff : ByteArray := prog_11_method_37_code
def yX9_isCutOff : MethodName := ⟨RX9, "isCutOff", "(IIII)Z"⟩
abbrev cX9_isOwn : ByteArray := prog_11_method_38_code
def yX9_isOwn : MethodName := ⟨RX9, "isOwn", "(III)Z"⟩
abbrev cX9_base : ByteArray := prog_11_method_39_code
def yX9_base : MethodName := ⟨RX9, "base", "(II)I"⟩
abbrev cX9_isStraight : ByteArray := prog_11_method_40_code
def yX9_isStraight : MethodName := ⟨RX9, "isStraight", "(III)Z"⟩
abbrev cX9_ownClaim : ByteArray := prog_11_method_41_code
def yX9_ownClaim : MethodName := ⟨RX9, "ownClaim", "(III)I"⟩
abbrev cX9_isBetter : ByteArray := prog_11_method_42_code
def yX9_isBetter : MethodName := ⟨RX9, "isBetter", "(II)Z"⟩
abbrev cX9_claimAt : ByteArray := prog_11_method_43_code
def yX9_claimAt : MethodName := ⟨RX9, "claimAt", "(IIII)I"⟩
abbrev cX9_isLost : ByteArray := prog_11_method_44_code
def yX9_isLost : MethodName := ⟨RX9, "isLost", "(IIII)Z"⟩
abbrev cX9_isInShared : ByteArray := prog_11_method_45_code
def yX9_isInShared : MethodName := ⟨RX9, "isInShared", "(IIII)Z"⟩
abbrev cX9_isInAll : ByteArray := prog_11_method_46_code
def yX9_isInAll : MethodName := ⟨RX9, "isInAll", "(IIII)Z"⟩
abbrev cX9_shared : ByteArray := prog_11_method_47_code
def yX9_shared : MethodName := ⟨RX9, "shared", "(III)I"⟩
abbrev cX9_all : ByteArray := prog_11_method_48_code
def yX9_all : MethodName := ⟨RX9, "all", "(III)I"⟩
abbrev cX9_isKept : ByteArray := prog_11_method_49_code
def yX9_isKept : MethodName := ⟨RX9, "isKept", "(III)Z"⟩
abbrev cX9_keep : ByteArray := prog_11_method_50_code
def yX9_keep : MethodName := ⟨RX9, "keep", "(III)V"⟩
abbrev cX9_wantsSource : ByteArray := prog_11_method_51_code
def yX9_wantsSource : MethodName := ⟨RX9, "wantsSource", "(III)Z"⟩
abbrev cX9_wants : ByteArray := prog_11_method_52_code
def yX9_wants : MethodName := ⟨RX9, "wants", "(III)Z"⟩
abbrev cX9_up : ByteArray := prog_11_method_53_code
def yX9_up : MethodName := ⟨RX9, "up", "(III)I"⟩
abbrev cX9_toCutOff : ByteArray := prog_11_method_54_code
def yX9_toCutOff : MethodName := ⟨RX9, "toCutOff", "(II)I"⟩
abbrev cX9_sendJoin : ByteArray := prog_11_method_55_code
def yX9_sendJoin : MethodName := ⟨RX9, "sendJoin", "(III)V"⟩
abbrev cX9_sendClaim : ByteArray := prog_11_method_56_code
def yX9_sendClaim : MethodName := ⟨RX9, "sendClaim", "(IIII)V"⟩
abbrev cX9_sendData : ByteArray := prog_11_method_57_code
def yX9_sendData : MethodName := ⟨RX9, "sendData", "(IIIIIII)V"⟩
abbrev cX9_sendBy : ByteArray := prog_11_method_58_code
def yX9_sendBy : MethodName := ⟨RX9, "sendBy", "(IIIIIIII)Z"⟩
abbrev cX9_sendTunnel : ByteArray := prog_11_method_59_code
def yX9_sendTunnel : MethodName := ⟨RX9, "sendTunnel", "(IIIII)V"⟩
abbrev cX9_sendStop : ByteArray := prog_11_method_60_code
def yX9_sendStop : MethodName := ⟨RX9, "sendStop", "(IIIII)V"⟩
abbrev cX9_comes : ByteArray := prog_11_method_61_code
def yX9_comes : MethodName := ⟨RX9, "comes", "(III)V"⟩
abbrev cX9_left : ByteArray := prog_11_method_62_code
def yX9_left : MethodName := ⟨RX9, "left", "(III)V"⟩
abbrev cX9_joins : ByteArray := prog_11_method_63_code
def yX9_joins : MethodName := ⟨RX9, "joins", "(IIIII)V"⟩
abbrev cX9_prunes : ByteArray := prog_11_method_64_code
def yX9_prunes : MethodName := ⟨RX9, "prunes", "(IIII)V"⟩
abbrev cX9_overhears : ByteArray := prog_11_method_65_code
def yX9_overhears : MethodName := ⟨RX9, "overhears", "(IIIIIII)V"⟩
abbrev cX9_data : ByteArray := prog_11_method_66_code
def yX9_data : MethodName := ⟨RX9, "data", "(IIIIII)V"⟩
abbrev cX9_hasOwn : ByteArray := prog_11_method_67_code
def yX9_hasOwn : MethodName := ⟨RX9, "hasOwn", "(II)Z"⟩
abbrev cX9_mayStraight : ByteArray := prog_11_method_68_code
def yX9_mayStraight : MethodName := ⟨RX9, "mayStraight", "(IIIIZ)Z"⟩
abbrev cX9_claimed : ByteArray := prog_11_method_69_code
def yX9_claimed : MethodName := ⟨RX9, "claimed", "(IIIII)V"⟩
abbrev cX9_tunnel : ByteArray := prog_11_method_70_code
def yX9_tunnel : MethodName := ⟨RX9, "tunnel", "(IIIIII)V"⟩
abbrev cX9_stop : ByteArray := prog_11_method_71_code
def yX9_stop : MethodName := ⟨RX9, "stop", "(IIIII)V"⟩
abbrev cX9_timers : ByteArray := prog_11_method_72_code
def yX9_timers : MethodName := ⟨RX9, "timers", "(I)V"⟩
abbrev cX9_bend : ByteArray := prog_11_method_73_code
def yX9_bend : MethodName := ⟨RX9, "bend", "(III)V"⟩
abbrev cX9_climb : ByteArray := prog_11_method_74_code
def yX9_climb : MethodName := ⟨RX9, "climb", "(III)V"⟩
abbrev cX9_remind : ByteArray := prog_11_method_75_code
def yX9_remind : MethodName := ⟨RX9, "remind", "(III)V"⟩
abbrev cX9_isIn : ByteArray := prog_11_method_76_code
def yX9_isIn : MethodName := ⟨RX9, "isIn", "(II)Z"⟩
abbrev cX9_join : ByteArray := prog_11_method_77_code
def yX9_join : MethodName := ⟨RX9, "join", "(II)Z"⟩
abbrev cX9_leave : ByteArray := prog_11_method_78_code
def yX9_leave : MethodName := ⟨RX9, "leave", "(II)Z"⟩
abbrev cX9_send : ByteArray := prog_11_method_79_code
def yX9_send : MethodName := ⟨RX9, "send", "(II)I"⟩
abbrev cX9_comesToHost : ByteArray := prog_11_method_80_code
def yX9_comesToHost : MethodName := ⟨RX9, "comesToHost", "(II)V"⟩
abbrev cX9_answers : ByteArray := prog_11_method_81_code
def yX9_answers : MethodName := ⟨RX9, "answers", "(I)V"⟩
abbrev cX9_got : ByteArray := prog_11_method_82_code
def yX9_got : MethodName := ⟨RX9, "got", "(II)I"⟩
abbrev cX9_one : ByteArray := prog_11_method_83_code
def yX9_one : MethodName := ⟨RX9, "one", "()V"⟩
abbrev cX9_deliver : ByteArray := prog_11_method_84_code
def yX9_deliver : MethodName := ⟨RX9, "deliver", "(II)V"⟩
abbrev cX9_tick : ByteArray := prog_11_method_85_code
def yX9_tick : MethodName := ⟨RX9, "tick", "(I)I"⟩
abbrev cX9_port : ByteArray := prog_11_method_86_code
def yX9_port : MethodName := ⟨RX9, "port", "(III)I"⟩
abbrev cX9_members : ByteArray := prog_11_method_87_code
def yX9_members : MethodName := ⟨RX9, "members", "(III)I"⟩
abbrev cX9_branch : ByteArray := prog_11_method_88_code
def yX9_branch : MethodName := ⟨RX9, "branch", "(IIIII)I"⟩
abbrev cX9_tree : ByteArray := prog_11_method_89_code
def yX9_tree : MethodName := ⟨RX9, "tree", "(IIII)I"⟩
abbrev cX9_ofSource : ByteArray := prog_11_method_90_code
def yX9_ofSource : MethodName := ⟨RX9, "ofSource", "(II)I"⟩
abbrev cX9_count : ByteArray := prog_11_method_91_code
def yX9_count : MethodName := ⟨RX9, "count", "(I)I"⟩
def RJ6 : String := "java/lang/Integer"
def TJ6 : u_T := fun k => match k with
  | _ => ("", "", "", false)
def tyJ6 : Nat → FieldType := fun k => match k with
  | _ => .int
theorem nmJ6 : ∀ a, a < 0 → ∀ b, b < 0 → a ≠ b → (TJ6 a).2.1 ≠ (TJ6 b).2.1 := by decide +kernel
theorem tyJ6_ok : ∀ k, k < 0 → parseFieldDescriptor (TJ6 k).2.2.1 = some (tyJ6 k) := by decide +kernel
abbrev cJ6_bitCount_0f7a4 : ByteArray := prog_12_method_49_code
def yJ6_bitCount_0f7a4 : MethodName := ⟨RJ6, "bitCount", "(I)I"⟩
def RJ9 : String := "java/lang/Math"
def TJ9 : u_T := fun k => match k with
  | _ => ("", "", "", false)
def tyJ9 : Nat → FieldType := fun k => match k with
  | _ => .int
theorem nmJ9 : ∀ a, a < 0 → ∀ b, b < 0 → a ≠ b → (TJ9 a).2.1 ≠ (TJ9 b).2.1 := by decide +kernel
theorem tyJ9_ok : ∀ k, k < 0 → parseFieldDescriptor (TJ9 k).2.2.1 = some (tyJ9 k) := by decide +kernel
abbrev cJ9_max_7cf53 : ByteArray := prog_13_method_65_code
def yJ9_max_7cf53 : MethodName := ⟨RJ9, "max", "(II)I"⟩
abbrev cJ9_min_7cf53 : ByteArray := prog_13_method_69_code
def yJ9_min_7cf53 : MethodName := ⟨RJ9, "min", "(II)I"⟩
def RJ7 : String := "java/util/Arrays"
def TJ7 : u_T := fun k => match k with
  | _ => ("", "", "", false)
def tyJ7 : Nat → FieldType := fun k => match k with
  | _ => .int
theorem nmJ7 : ∀ a, a < 0 → ∀ b, b < 0 → a ≠ b → (TJ7 a).2.1 ≠ (TJ7 b).2.1 := by decide +kernel
theorem tyJ7_ok : ∀ k, k < 0 → parseFieldDescriptor (TJ7 k).2.2.1 = some (tyJ7 k) := by decide +kernel
abbrev cJ7_fill_53178 : ByteArray := prog_14_method_103_code
def yJ7_fill_53178 : MethodName := ⟨RJ7, "fill", "([II)V"⟩
def RL : String := "GroveWorksLaw"
abbrev cL_cell : ByteArray := method_2_code
def yL_cell : MethodName := ⟨RL, "cell", "([II)I"⟩
abbrev cL_law : ByteArray := code
def yL_law : MethodName := ⟨RL, "law", "([I)Z"⟩
abbrev vwCl : List vw_C := [(RX0, TX0, 8), (RX1, TX1, 5), (RX2, TX2, 6), (RX3, TX3, 13), (RX4, TX4, 4), (RX5, TX5, 16), (RX6, TX6, 7), (RX7, TX7, 12), (RX8, TX8, 4), (RX9, TX9, 40)]
