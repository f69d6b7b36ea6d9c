section
-- ===== PART A: goes FIRST, ahead of the names: the tables' words, and 'selects' of the private methods out of them =====
/-- a private method of a class that the tables say can be made, by its rows of tables_1 -/
def lw_okq (q : MethodName × Nat) : Prop := (q.1.cls ≠ "java/lang/invoke/MethodHandle" ∧ q.1.cls ≠ "java/lang/invoke/VarHandle") ∧ Cond.instantiable q.1.cls q.2 ∈ tables_1 ∧ Cond.privateMethod q.1 ∈ tables_1 ∧ Cond.instanceMethod q.1 ∈ tables_1
theorem lw_p0 : lw_okq (⟨"CommandBus$Frames", "doEvents", "()V"⟩, 6) := ⟨⟨by decide +kernel, by decide +kernel⟩, List.mem_of_getElem? (i := 290) (by decide +kernel), List.mem_of_getElem? (i := 478) (by decide +kernel), List.mem_of_getElem? (i := 479) (by decide +kernel)⟩
theorem lw_p1 : lw_okq (⟨"CommandBus$Frames", "playLine", "(I)V"⟩, 6) := ⟨⟨by decide +kernel, by decide +kernel⟩, List.mem_of_getElem? (i := 290) (by decide +kernel), List.mem_of_getElem? (i := 517) (by decide +kernel), List.mem_of_getElem? (i := 518) (by decide +kernel)⟩
theorem lw_p2 : lw_okq (⟨"CommandBus$Frames", "hasTimeFor", "(I)Z"⟩, 6) := ⟨⟨by decide +kernel, by decide +kernel⟩, List.mem_of_getElem? (i := 290) (by decide +kernel), List.mem_of_getElem? (i := 526) (by decide +kernel), List.mem_of_getElem? (i := 527) (by decide +kernel)⟩
theorem lw_p3 : lw_okq (⟨"CommandBus$Trial", "send", "(III)I"⟩, 8) := ⟨⟨by decide +kernel, by decide +kernel⟩, List.mem_of_getElem? (i := 257) (by decide +kernel), List.mem_of_getElem? (i := 538) (by decide +kernel), List.mem_of_getElem? (i := 539) (by decide +kernel)⟩
theorem lw_p4 : lw_okq (⟨"CommandBus$Trial", "readySend", "(III)V"⟩, 8) := ⟨⟨by decide +kernel, by decide +kernel⟩, List.mem_of_getElem? (i := 257) (by decide +kernel), List.mem_of_getElem? (i := 542) (by decide +kernel), List.mem_of_getElem? (i := 543) (by decide +kernel)⟩
theorem lw_p5 : lw_okq (⟨"CommandBus$Trial", "say", "(I)I"⟩, 8) := ⟨⟨by decide +kernel, by decide +kernel⟩, List.mem_of_getElem? (i := 257) (by decide +kernel), List.mem_of_getElem? (i := 553) (by decide +kernel), List.mem_of_getElem? (i := 554) (by decide +kernel)⟩
theorem lw_p6 : lw_okq (⟨"CommandBus$Wires", "isStruck", "(II)Z"⟩, 6) := ⟨⟨by decide +kernel, by decide +kernel⟩, List.mem_of_getElem? (i := 77) (by decide +kernel), List.mem_of_getElem? (i := 561) (by decide +kernel), List.mem_of_getElem? (i := 562) (by decide +kernel)⟩
theorem lw_p7 : lw_okq (⟨"CommandBus$Trial", "reaches", "(II)Z"⟩, 8) := ⟨⟨by decide +kernel, by decide +kernel⟩, List.mem_of_getElem? (i := 257) (by decide +kernel), List.mem_of_getElem? (i := 569) (by decide +kernel), List.mem_of_getElem? (i := 570) (by decide +kernel)⟩
theorem lw_p8 : lw_okq (⟨"CommandBus$Trial", "noAnswer", "()I"⟩, 8) := ⟨⟨by decide +kernel, by decide +kernel⟩, List.mem_of_getElem? (i := 257) (by decide +kernel), List.mem_of_getElem? (i := 577) (by decide +kernel), List.mem_of_getElem? (i := 578) (by decide +kernel)⟩
theorem lw_p9 : lw_okq (⟨"CommandBus$Trial", "answer", "(II)I"⟩, 8) := ⟨⟨by decide +kernel, by decide +kernel⟩, List.mem_of_getElem? (i := 257) (by decide +kernel), List.mem_of_getElem? (i := 600) (by decide +kernel), List.mem_of_getElem? (i := 601) (by decide +kernel)⟩
theorem lw_p10 : lw_okq (⟨"CommandBus$Trial", "heedService", "(II)I"⟩, 8) := ⟨⟨by decide +kernel, by decide +kernel⟩, List.mem_of_getElem? (i := 257) (by decide +kernel), List.mem_of_getElem? (i := 608) (by decide +kernel), List.mem_of_getElem? (i := 609) (by decide +kernel)⟩
theorem lw_p11 : lw_okq (⟨"CommandBus$Trial", "get", "(III)I"⟩, 8) := ⟨⟨by decide +kernel, by decide +kernel⟩, List.mem_of_getElem? (i := 257) (by decide +kernel), List.mem_of_getElem? (i := 615) (by decide +kernel), List.mem_of_getElem? (i := 616) (by decide +kernel)⟩
theorem lw_p12 : lw_okq (⟨"CommandBus$Trial", "readyOut", "(IIII)I"⟩, 8) := ⟨⟨by decide +kernel, by decide +kernel⟩, List.mem_of_getElem? (i := 257) (by decide +kernel), List.mem_of_getElem? (i := 619) (by decide +kernel), List.mem_of_getElem? (i := 620) (by decide +kernel)⟩
theorem lw_p13 : lw_okq (⟨"CommandBus$Trial", "pass", "(IIIII)I"⟩, 8) := ⟨⟨by decide +kernel, by decide +kernel⟩, List.mem_of_getElem? (i := 257) (by decide +kernel), List.mem_of_getElem? (i := 643) (by decide +kernel), List.mem_of_getElem? (i := 644) (by decide +kernel)⟩
theorem lw_p14 : lw_okq (⟨"CommandBus$Trial", "sendAll", "(II)I"⟩, 8) := ⟨⟨by decide +kernel, by decide +kernel⟩, List.mem_of_getElem? (i := 257) (by decide +kernel), List.mem_of_getElem? (i := 647) (by decide +kernel), List.mem_of_getElem? (i := 648) (by decide +kernel)⟩
theorem lw_p15 : lw_okq (⟨"CommandBus$Trial", "mode", "(II)I"⟩, 8) := ⟨⟨by decide +kernel, by decide +kernel⟩, List.mem_of_getElem? (i := 257) (by decide +kernel), List.mem_of_getElem? (i := 651) (by decide +kernel), List.mem_of_getElem? (i := 652) (by decide +kernel)⟩
def lw_privs_1 : List (MethodName × Nat) := [(⟨"CommandBus$Frames", "doEvents", "()V"⟩, 6), (⟨"CommandBus$Frames", "playLine", "(I)V"⟩, 6), (⟨"CommandBus$Frames", "hasTimeFor", "(I)Z"⟩, 6), (⟨"CommandBus$Trial", "send", "(III)I"⟩, 8), (⟨"CommandBus$Trial", "readySend", "(III)V"⟩, 8), (⟨"CommandBus$Trial", "say", "(I)I"⟩, 8), (⟨"CommandBus$Wires", "isStruck", "(II)Z"⟩, 6), (⟨"CommandBus$Trial", "reaches", "(II)Z"⟩, 8), (⟨"CommandBus$Trial", "noAnswer", "()I"⟩, 8), (⟨"CommandBus$Trial", "answer", "(II)I"⟩, 8), (⟨"CommandBus$Trial", "heedService", "(II)I"⟩, 8), (⟨"CommandBus$Trial", "get", "(III)I"⟩, 8), (⟨"CommandBus$Trial", "readyOut", "(IIII)I"⟩, 8), (⟨"CommandBus$Trial", "pass", "(IIIII)I"⟩, 8), (⟨"CommandBus$Trial", "sendAll", "(II)I"⟩, 8), (⟨"CommandBus$Trial", "mode", "(II)I"⟩, 8)]
theorem lw_r1 : ∀ q ∈ lw_privs_1, lw_okq q := List.forall_mem_cons.mpr ⟨lw_p0, List.forall_mem_cons.mpr ⟨lw_p1, List.forall_mem_cons.mpr ⟨lw_p2, List.forall_mem_cons.mpr ⟨lw_p3, List.forall_mem_cons.mpr ⟨lw_p4, List.forall_mem_cons.mpr ⟨lw_p5, List.forall_mem_cons.mpr ⟨lw_p6, List.forall_mem_cons.mpr ⟨lw_p7, List.forall_mem_cons.mpr ⟨lw_p8, List.forall_mem_cons.mpr ⟨lw_p9, List.forall_mem_cons.mpr ⟨lw_p10, List.forall_mem_cons.mpr ⟨lw_p11, List.forall_mem_cons.mpr ⟨lw_p12, List.forall_mem_cons.mpr ⟨lw_p13, List.forall_mem_cons.mpr ⟨lw_p14, List.forall_mem_cons.mpr ⟨lw_p15, fun _ h => absurd h List.not_mem_nil⟩⟩⟩⟩⟩⟩⟩⟩⟩⟩⟩⟩⟩⟩⟩⟩
theorem lw_p16 : lw_okq (⟨"CommandBus$Trial", "readyMode", "(III)I"⟩, 8) := ⟨⟨by decide +kernel, by decide +kernel⟩, List.mem_of_getElem? (i := 257) (by decide +kernel), List.mem_of_getElem? (i := 655) (by decide +kernel), List.mem_of_getElem? (i := 656) (by decide +kernel)⟩
theorem lw_p17 : lw_okq (⟨"CommandBus$Frames", "noteLine", "(IIII)V"⟩, 6) := ⟨⟨by decide +kernel, by decide +kernel⟩, List.mem_of_getElem? (i := 290) (by decide +kernel), List.mem_of_getElem? (i := 681) (by decide +kernel), List.mem_of_getElem? (i := 682) (by decide +kernel)⟩
theorem lw_p18 : lw_okq (⟨"CommandBus$Frames", "askWanted", "()V"⟩, 6) := ⟨⟨by decide +kernel, by decide +kernel⟩, List.mem_of_getElem? (i := 290) (by decide +kernel), List.mem_of_getElem? (i := 686) (by decide +kernel), List.mem_of_getElem? (i := 687) (by decide +kernel)⟩
theorem lw_p19 : lw_okq (⟨"CommandBus$Frames", "passInSilence", "()V"⟩, 6) := ⟨⟨by decide +kernel, by decide +kernel⟩, List.mem_of_getElem? (i := 290) (by decide +kernel), List.mem_of_getElem? (i := 694) (by decide +kernel), List.mem_of_getElem? (i := 695) (by decide +kernel)⟩
theorem lw_p20 : lw_okq (⟨"CommandBus$Reader", "open", "(Ljava/lang/String;)V"⟩, 10) := ⟨⟨by decide +kernel, by decide +kernel⟩, List.mem_of_getElem? (i := 318) (by decide +kernel), List.mem_of_getElem? (i := 737) (by decide +kernel), List.mem_of_getElem? (i := 738) (by decide +kernel)⟩
theorem lw_p21 : lw_okq (⟨"CommandBus$Reader", "step", "()V"⟩, 10) := ⟨⟨by decide +kernel, by decide +kernel⟩, List.mem_of_getElem? (i := 318) (by decide +kernel), List.mem_of_getElem? (i := 741) (by decide +kernel), List.mem_of_getElem? (i := 742) (by decide +kernel)⟩
theorem lw_p22 : lw_okq (⟨"CommandBus$Reader", "readWord", "()V"⟩, 10) := ⟨⟨by decide +kernel, by decide +kernel⟩, List.mem_of_getElem? (i := 318) (by decide +kernel), List.mem_of_getElem? (i := 748) (by decide +kernel), List.mem_of_getElem? (i := 749) (by decide +kernel)⟩
theorem lw_p23 : lw_okq (⟨"CommandBus$Reader", "stands", "(I)Z"⟩, 10) := ⟨⟨by decide +kernel, by decide +kernel⟩, List.mem_of_getElem? (i := 318) (by decide +kernel), List.mem_of_getElem? (i := 800) (by decide +kernel), List.mem_of_getElem? (i := 801) (by decide +kernel)⟩
theorem lw_p24 : lw_okq (⟨"CommandBus$Reader", "readNumber", "()V"⟩, 10) := ⟨⟨by decide +kernel, by decide +kernel⟩, List.mem_of_getElem? (i := 318) (by decide +kernel), List.mem_of_getElem? (i := 807) (by decide +kernel), List.mem_of_getElem? (i := 808) (by decide +kernel)⟩
theorem lw_p25 : lw_okq (⟨"CommandBus$Reader", "beginsLine", "(ZI)Z"⟩, 10) := ⟨⟨by decide +kernel, by decide +kernel⟩, List.mem_of_getElem? (i := 318) (by decide +kernel), List.mem_of_getElem? (i := 813) (by decide +kernel), List.mem_of_getElem? (i := 814) (by decide +kernel)⟩
theorem lw_p26 : lw_okq (⟨"CommandBus$Reader", "fail", "(II)V"⟩, 10) := ⟨⟨by decide +kernel, by decide +kernel⟩, List.mem_of_getElem? (i := 318) (by decide +kernel), List.mem_of_getElem? (i := 817) (by decide +kernel), List.mem_of_getElem? (i := 818) (by decide +kernel)⟩
theorem lw_p27 : lw_okq (⟨"CommandBus$Reader", "readWhat", "(I)V"⟩, 10) := ⟨⟨by decide +kernel, by decide +kernel⟩, List.mem_of_getElem? (i := 318) (by decide +kernel), List.mem_of_getElem? (i := 821) (by decide +kernel), List.mem_of_getElem? (i := 822) (by decide +kernel)⟩
theorem lw_p28 : lw_okq (⟨"CommandBus$Reader", "number", "(II)I"⟩, 10) := ⟨⟨by decide +kernel, by decide +kernel⟩, List.mem_of_getElem? (i := 318) (by decide +kernel), List.mem_of_getElem? (i := 825) (by decide +kernel), List.mem_of_getElem? (i := 826) (by decide +kernel)⟩
theorem lw_p29 : lw_okq (⟨"CommandBus$Reader", "unitBut", "(I)I"⟩, 10) := ⟨⟨by decide +kernel, by decide +kernel⟩, List.mem_of_getElem? (i := 318) (by decide +kernel), List.mem_of_getElem? (i := 829) (by decide +kernel), List.mem_of_getElem? (i := 830) (by decide +kernel)⟩
theorem lw_p30 : lw_okq (⟨"CommandBus$Reader", "readWhen", "(I)V"⟩, 10) := ⟨⟨by decide +kernel, by decide +kernel⟩, List.mem_of_getElem? (i := 318) (by decide +kernel), List.mem_of_getElem? (i := 833) (by decide +kernel), List.mem_of_getElem? (i := 834) (by decide +kernel)⟩
theorem lw_p31 : lw_okq (⟨"CommandBus$Reader", "expect", "(II)V"⟩, 10) := ⟨⟨by decide +kernel, by decide +kernel⟩, List.mem_of_getElem? (i := 318) (by decide +kernel), List.mem_of_getElem? (i := 837) (by decide +kernel), List.mem_of_getElem? (i := 838) (by decide +kernel)⟩
def lw_privs_2 : List (MethodName × Nat) := [(⟨"CommandBus$Trial", "readyMode", "(III)I"⟩, 8), (⟨"CommandBus$Frames", "noteLine", "(IIII)V"⟩, 6), (⟨"CommandBus$Frames", "askWanted", "()V"⟩, 6), (⟨"CommandBus$Frames", "passInSilence", "()V"⟩, 6), (⟨"CommandBus$Reader", "open", "(Ljava/lang/String;)V"⟩, 10), (⟨"CommandBus$Reader", "step", "()V"⟩, 10), (⟨"CommandBus$Reader", "readWord", "()V"⟩, 10), (⟨"CommandBus$Reader", "stands", "(I)Z"⟩, 10), (⟨"CommandBus$Reader", "readNumber", "()V"⟩, 10), (⟨"CommandBus$Reader", "beginsLine", "(ZI)Z"⟩, 10), (⟨"CommandBus$Reader", "fail", "(II)V"⟩, 10), (⟨"CommandBus$Reader", "readWhat", "(I)V"⟩, 10), (⟨"CommandBus$Reader", "number", "(II)I"⟩, 10), (⟨"CommandBus$Reader", "unitBut", "(I)I"⟩, 10), (⟨"CommandBus$Reader", "readWhen", "(I)V"⟩, 10), (⟨"CommandBus$Reader", "expect", "(II)V"⟩, 10)]
theorem lw_r2 : ∀ q ∈ lw_privs_2, lw_okq q := List.forall_mem_cons.mpr ⟨lw_p16, List.forall_mem_cons.mpr ⟨lw_p17, List.forall_mem_cons.mpr ⟨lw_p18, List.forall_mem_cons.mpr ⟨lw_p19, List.forall_mem_cons.mpr ⟨lw_p20, List.forall_mem_cons.mpr ⟨lw_p21, List.forall_mem_cons.mpr ⟨lw_p22, List.forall_mem_cons.mpr ⟨lw_p23, List.forall_mem_cons.mpr ⟨lw_p24, List.forall_mem_cons.mpr ⟨lw_p25, List.forall_mem_cons.mpr ⟨lw_p26, List.forall_mem_cons.mpr ⟨lw_p27, List.forall_mem_cons.mpr ⟨lw_p28, List.forall_mem_cons.mpr ⟨lw_p29, List.forall_mem_cons.mpr ⟨lw_p30, List.forall_mem_cons.mpr ⟨lw_p31, fun _ h => absurd h List.not_mem_nil⟩⟩⟩⟩⟩⟩⟩⟩⟩⟩⟩⟩⟩⟩⟩⟩
theorem lw_p32 : lw_okq (⟨"CommandBus$Reader", "period", "()I"⟩, 10) := ⟨⟨by decide +kernel, by decide +kernel⟩, List.mem_of_getElem? (i := 318) (by decide +kernel), List.mem_of_getElem? (i := 841) (by decide +kernel), List.mem_of_getElem? (i := 842) (by decide +kernel)⟩
theorem lw_p33 : lw_okq (⟨"CommandBus$Plan", "timeOf", "(I)I"⟩, 8) := ⟨⟨by decide +kernel, by decide +kernel⟩, List.mem_of_getElem? (i := 132) (by decide +kernel), List.mem_of_getElem? (i := 853) (by decide +kernel), List.mem_of_getElem? (i := 854) (by decide +kernel)⟩
theorem lw_p34 : lw_okq (⟨"CommandBus$Plan", "layFixed", "([I)V"⟩, 8) := ⟨⟨by decide +kernel, by decide +kernel⟩, List.mem_of_getElem? (i := 132) (by decide +kernel), List.mem_of_getElem? (i := 857) (by decide +kernel), List.mem_of_getElem? (i := 858) (by decide +kernel)⟩
theorem lw_p35 : lw_okq (⟨"CommandBus$Plan", "pile", "([IIII)V"⟩, 8) := ⟨⟨by decide +kernel, by decide +kernel⟩, List.mem_of_getElem? (i := 132) (by decide +kernel), List.mem_of_getElem? (i := 861) (by decide +kernel), List.mem_of_getElem? (i := 862) (by decide +kernel)⟩
theorem lw_p36 : lw_okq (⟨"CommandBus$Plan", "lowestPhase", "(I)I"⟩, 8) := ⟨⟨by decide +kernel, by decide +kernel⟩, List.mem_of_getElem? (i := 132) (by decide +kernel), List.mem_of_getElem? (i := 866) (by decide +kernel), List.mem_of_getElem? (i := 867) (by decide +kernel)⟩
theorem lw_p37 : lw_okq (⟨"CommandBus$Reader", "readEvent", "(I)V"⟩, 10) := ⟨⟨by decide +kernel, by decide +kernel⟩, List.mem_of_getElem? (i := 318) (by decide +kernel), List.mem_of_getElem? (i := 879) (by decide +kernel), List.mem_of_getElem? (i := 880) (by decide +kernel)⟩
theorem lw_p38 : lw_okq (⟨"CommandBus$Plan", "greatestOf", "([I)I"⟩, 8) := ⟨⟨by decide +kernel, by decide +kernel⟩, List.mem_of_getElem? (i := 132) (by decide +kernel), List.mem_of_getElem? (i := 922) (by decide +kernel), List.mem_of_getElem? (i := 923) (by decide +kernel)⟩
theorem lw_p39 : lw_okq (⟨"CommandBus$Plan", "seek", "(II)V"⟩, 8) := ⟨⟨by decide +kernel, by decide +kernel⟩, List.mem_of_getElem? (i := 132) (by decide +kernel), List.mem_of_getElem? (i := 931) (by decide +kernel), List.mem_of_getElem? (i := 932) (by decide +kernel)⟩
theorem lw_p40 : lw_okq (⟨"CommandBus$Times", "goThrough", "(LCommandBus$World;I)V"⟩, 7) := ⟨⟨by decide +kernel, by decide +kernel⟩, List.mem_of_getElem? (i := 361) (by decide +kernel), List.mem_of_getElem? (i := 956) (by decide +kernel), List.mem_of_getElem? (i := 957) (by decide +kernel)⟩
theorem lw_p41 : lw_okq (⟨"CommandBus$Times", "part", "([JI)Z"⟩, 7) := ⟨⟨by decide +kernel, by decide +kernel⟩, List.mem_of_getElem? (i := 361) (by decide +kernel), List.mem_of_getElem? (i := 960) (by decide +kernel), List.mem_of_getElem? (i := 961) (by decide +kernel)⟩
theorem lw_p42 : lw_okq (⟨"CommandBus$Times", "shift", "([JI[J)V"⟩, 7) := ⟨⟨by decide +kernel, by decide +kernel⟩, List.mem_of_getElem? (i := 361) (by decide +kernel), List.mem_of_getElem? (i := 969) (by decide +kernel), List.mem_of_getElem? (i := 970) (by decide +kernel)⟩
theorem lw_p43 : lw_okq (⟨"CommandBus$Times", "has", "(I)Z"⟩, 7) := ⟨⟨by decide +kernel, by decide +kernel⟩, List.mem_of_getElem? (i := 361) (by decide +kernel), List.mem_of_getElem? (i := 992) (by decide +kernel), List.mem_of_getElem? (i := 993) (by decide +kernel)⟩
theorem lw_p44 : lw_okq (⟨"CommandBusModel", "noisesOn", "(I)I"⟩, 31) := ⟨⟨by decide +kernel, by decide +kernel⟩, List.mem_of_getElem? (i := 1097) (by decide +kernel), List.mem_of_getElem? (i := 1235) (by decide +kernel), List.mem_of_getElem? (i := 1236) (by decide +kernel)⟩
theorem lw_p45 : lw_okq (⟨"CommandBusModel", "tries", "(IIIIII)I"⟩, 31) := ⟨⟨by decide +kernel, by decide +kernel⟩, List.mem_of_getElem? (i := 1097) (by decide +kernel), List.mem_of_getElem? (i := 1243) (by decide +kernel), List.mem_of_getElem? (i := 1244) (by decide +kernel)⟩
theorem lw_p46 : lw_okq (⟨"CommandBusModel", "sends", "(IIII)I"⟩, 31) := ⟨⟨by decide +kernel, by decide +kernel⟩, List.mem_of_getElem? (i := 1097) (by decide +kernel), List.mem_of_getElem? (i := 1247) (by decide +kernel), List.mem_of_getElem? (i := 1248) (by decide +kernel)⟩
theorem lw_p47 : lw_okq (⟨"CommandBusModel", "saysSend", "(II)V"⟩, 31) := ⟨⟨by decide +kernel, by decide +kernel⟩, List.mem_of_getElem? (i := 1097) (by decide +kernel), List.mem_of_getElem? (i := 1254) (by decide +kernel), List.mem_of_getElem? (i := 1255) (by decide +kernel)⟩
def lw_privs_3 : List (MethodName × Nat) := [(⟨"CommandBus$Reader", "period", "()I"⟩, 10), (⟨"CommandBus$Plan", "timeOf", "(I)I"⟩, 8), (⟨"CommandBus$Plan", "layFixed", "([I)V"⟩, 8), (⟨"CommandBus$Plan", "pile", "([IIII)V"⟩, 8), (⟨"CommandBus$Plan", "lowestPhase", "(I)I"⟩, 8), (⟨"CommandBus$Reader", "readEvent", "(I)V"⟩, 10), (⟨"CommandBus$Plan", "greatestOf", "([I)I"⟩, 8), (⟨"CommandBus$Plan", "seek", "(II)V"⟩, 8), (⟨"CommandBus$Times", "goThrough", "(LCommandBus$World;I)V"⟩, 7), (⟨"CommandBus$Times", "part", "([JI)Z"⟩, 7), (⟨"CommandBus$Times", "shift", "([JI[J)V"⟩, 7), (⟨"CommandBus$Times", "has", "(I)Z"⟩, 7), (⟨"CommandBusModel", "noisesOn", "(I)I"⟩, 31), (⟨"CommandBusModel", "tries", "(IIIIII)I"⟩, 31), (⟨"CommandBusModel", "sends", "(IIII)I"⟩, 31), (⟨"CommandBusModel", "saysSend", "(II)V"⟩, 31)]
theorem lw_r3 : ∀ q ∈ lw_privs_3, lw_okq q := List.forall_mem_cons.mpr ⟨lw_p32, List.forall_mem_cons.mpr ⟨lw_p33, List.forall_mem_cons.mpr ⟨lw_p34, List.forall_mem_cons.mpr ⟨lw_p35, List.forall_mem_cons.mpr ⟨lw_p36, List.forall_mem_cons.mpr ⟨lw_p37, List.forall_mem_cons.mpr ⟨lw_p38, List.forall_mem_cons.mpr ⟨lw_p39, List.forall_mem_cons.mpr ⟨lw_p40, List.forall_mem_cons.mpr ⟨lw_p41, List.forall_mem_cons.mpr ⟨lw_p42, List.forall_mem_cons.mpr ⟨lw_p43, List.forall_mem_cons.mpr ⟨lw_p44, List.forall_mem_cons.mpr ⟨lw_p45, List.forall_mem_cons.mpr ⟨lw_p46, List.forall_mem_cons.mpr ⟨lw_p47, fun _ h => absurd h List.not_mem_nil⟩⟩⟩⟩⟩⟩⟩⟩⟩⟩⟩⟩⟩⟩⟩⟩
theorem lw_p48 : lw_okq (⟨"CommandBusModel", "lays", "(III)I"⟩, 31) := ⟨⟨by decide +kernel, by decide +kernel⟩, List.mem_of_getElem? (i := 1097) (by decide +kernel), List.mem_of_getElem? (i := 1258) (by decide +kernel), List.mem_of_getElem? (i := 1259) (by decide +kernel)⟩
theorem lw_p49 : lw_okq (⟨"CommandBusModel", "isHeld", "(I)Z"⟩, 31) := ⟨⟨by decide +kernel, by decide +kernel⟩, List.mem_of_getElem? (i := 1097) (by decide +kernel), List.mem_of_getElem? (i := 1262) (by decide +kernel), List.mem_of_getElem? (i := 1263) (by decide +kernel)⟩
theorem lw_p50 : lw_okq (⟨"CommandBusModel", "isNoise", "(I)Z"⟩, 31) := ⟨⟨by decide +kernel, by decide +kernel⟩, List.mem_of_getElem? (i := 1097) (by decide +kernel), List.mem_of_getElem? (i := 1266) (by decide +kernel), List.mem_of_getElem? (i := 1267) (by decide +kernel)⟩
theorem lw_p51 : lw_okq (⟨"CommandBusModel", "hears", "(IIIZ)V"⟩, 31) := ⟨⟨by decide +kernel, by decide +kernel⟩, List.mem_of_getElem? (i := 1097) (by decide +kernel), List.mem_of_getElem? (i := 1270) (by decide +kernel), List.mem_of_getElem? (i := 1271) (by decide +kernel)⟩
theorem lw_p52 : lw_okq (⟨"CommandBusModel", "trails", "(I)V"⟩, 31) := ⟨⟨by decide +kernel, by decide +kernel⟩, List.mem_of_getElem? (i := 1097) (by decide +kernel), List.mem_of_getElem? (i := 1277) (by decide +kernel), List.mem_of_getElem? (i := 1278) (by decide +kernel)⟩
theorem lw_p53 : lw_okq (⟨"CommandBusModel", "isHearing", "(II)Z"⟩, 31) := ⟨⟨by decide +kernel, by decide +kernel⟩, List.mem_of_getElem? (i := 1097) (by decide +kernel), List.mem_of_getElem? (i := 1281) (by decide +kernel), List.mem_of_getElem? (i := 1282) (by decide +kernel)⟩
theorem lw_p54 : lw_okq (⟨"CommandBusModel", "noAnswer", "()I"⟩, 31) := ⟨⟨by decide +kernel, by decide +kernel⟩, List.mem_of_getElem? (i := 1097) (by decide +kernel), List.mem_of_getElem? (i := 1285) (by decide +kernel), List.mem_of_getElem? (i := 1286) (by decide +kernel)⟩
theorem lw_p55 : lw_okq (⟨"CommandBusModel", "begins", "(II)V"⟩, 31) := ⟨⟨by decide +kernel, by decide +kernel⟩, List.mem_of_getElem? (i := 1097) (by decide +kernel), List.mem_of_getElem? (i := 1289) (by decide +kernel), List.mem_of_getElem? (i := 1290) (by decide +kernel)⟩
theorem lw_p56 : lw_okq (⟨"CommandBusModel", "tellsLast", "(I)V"⟩, 31) := ⟨⟨by decide +kernel, by decide +kernel⟩, List.mem_of_getElem? (i := 1097) (by decide +kernel), List.mem_of_getElem? (i := 1293) (by decide +kernel), List.mem_of_getElem? (i := 1294) (by decide +kernel)⟩
theorem lw_p57 : lw_okq (⟨"CommandBusModel", "statusOf", "(I)I"⟩, 31) := ⟨⟨by decide +kernel, by decide +kernel⟩, List.mem_of_getElem? (i := 1097) (by decide +kernel), List.mem_of_getElem? (i := 1297) (by decide +kernel), List.mem_of_getElem? (i := 1298) (by decide +kernel)⟩
theorem lw_p58 : lw_okq (⟨"CommandBusModel", "errs", "(I)V"⟩, 31) := ⟨⟨by decide +kernel, by decide +kernel⟩, List.mem_of_getElem? (i := 1097) (by decide +kernel), List.mem_of_getElem? (i := 1301) (by decide +kernel), List.mem_of_getElem? (i := 1302) (by decide +kernel)⟩
theorem lw_p59 : lw_okq (⟨"CommandBusModel", "isTakenIn", "(II)Z"⟩, 31) := ⟨⟨by decide +kernel, by decide +kernel⟩, List.mem_of_getElem? (i := 1097) (by decide +kernel), List.mem_of_getElem? (i := 1305) (by decide +kernel), List.mem_of_getElem? (i := 1306) (by decide +kernel)⟩
theorem lw_p60 : lw_okq (⟨"CommandBusModel", "isLegal", "(II)Z"⟩, 31) := ⟨⟨by decide +kernel, by decide +kernel⟩, List.mem_of_getElem? (i := 1097) (by decide +kernel), List.mem_of_getElem? (i := 1309) (by decide +kernel), List.mem_of_getElem? (i := 1310) (by decide +kernel)⟩
theorem lw_p61 : lw_okq (⟨"CommandBusModel", "ends", "(II)I"⟩, 31) := ⟨⟨by decide +kernel, by decide +kernel⟩, List.mem_of_getElem? (i := 1097) (by decide +kernel), List.mem_of_getElem? (i := 1313) (by decide +kernel), List.mem_of_getElem? (i := 1314) (by decide +kernel)⟩
theorem lw_p62 : lw_okq (⟨"CommandBusModel", "isShut", "(II)Z"⟩, 31) := ⟨⟨by decide +kernel, by decide +kernel⟩, List.mem_of_getElem? (i := 1097) (by decide +kernel), List.mem_of_getElem? (i := 1317) (by decide +kernel), List.mem_of_getElem? (i := 1318) (by decide +kernel)⟩
theorem lw_p63 : lw_okq (⟨"CommandBusModel", "answers", "(III)I"⟩, 31) := ⟨⟨by decide +kernel, by decide +kernel⟩, List.mem_of_getElem? (i := 1097) (by decide +kernel), List.mem_of_getElem? (i := 1321) (by decide +kernel), List.mem_of_getElem? (i := 1322) (by decide +kernel)⟩
def lw_privs_4 : List (MethodName × Nat) := [(⟨"CommandBusModel", "lays", "(III)I"⟩, 31), (⟨"CommandBusModel", "isHeld", "(I)Z"⟩, 31), (⟨"CommandBusModel", "isNoise", "(I)Z"⟩, 31), (⟨"CommandBusModel", "hears", "(IIIZ)V"⟩, 31), (⟨"CommandBusModel", "trails", "(I)V"⟩, 31), (⟨"CommandBusModel", "isHearing", "(II)Z"⟩, 31), (⟨"CommandBusModel", "noAnswer", "()I"⟩, 31), (⟨"CommandBusModel", "begins", "(II)V"⟩, 31), (⟨"CommandBusModel", "tellsLast", "(I)V"⟩, 31), (⟨"CommandBusModel", "statusOf", "(I)I"⟩, 31), (⟨"CommandBusModel", "errs", "(I)V"⟩, 31), (⟨"CommandBusModel", "isTakenIn", "(II)Z"⟩, 31), (⟨"CommandBusModel", "isLegal", "(II)Z"⟩, 31), (⟨"CommandBusModel", "ends", "(II)I"⟩, 31), (⟨"CommandBusModel", "isShut", "(II)Z"⟩, 31), (⟨"CommandBusModel", "answers", "(III)I"⟩, 31)]
theorem lw_r4 : ∀ q ∈ lw_privs_4, lw_okq q := List.forall_mem_cons.mpr ⟨lw_p48, List.forall_mem_cons.mpr ⟨lw_p49, List.forall_mem_cons.mpr ⟨lw_p50, List.forall_mem_cons.mpr ⟨lw_p51, List.forall_mem_cons.mpr ⟨lw_p52, List.forall_mem_cons.mpr ⟨lw_p53, List.forall_mem_cons.mpr ⟨lw_p54, List.forall_mem_cons.mpr ⟨lw_p55, List.forall_mem_cons.mpr ⟨lw_p56, List.forall_mem_cons.mpr ⟨lw_p57, List.forall_mem_cons.mpr ⟨lw_p58, List.forall_mem_cons.mpr ⟨lw_p59, List.forall_mem_cons.mpr ⟨lw_p60, List.forall_mem_cons.mpr ⟨lw_p61, List.forall_mem_cons.mpr ⟨lw_p62, List.forall_mem_cons.mpr ⟨lw_p63, fun _ h => absurd h List.not_mem_nil⟩⟩⟩⟩⟩⟩⟩⟩⟩⟩⟩⟩⟩⟩⟩⟩
theorem lw_p64 : lw_okq (⟨"CommandBusModel", "judged", "(I)I"⟩, 31) := ⟨⟨by decide +kernel, by decide +kernel⟩, List.mem_of_getElem? (i := 1097) (by decide +kernel), List.mem_of_getElem? (i := 1325) (by decide +kernel), List.mem_of_getElem? (i := 1326) (by decide +kernel)⟩
theorem lw_p65 : lw_okq (⟨"CommandBusModel", "gets", "(IIII)I"⟩, 31) := ⟨⟨by decide +kernel, by decide +kernel⟩, List.mem_of_getElem? (i := 1097) (by decide +kernel), List.mem_of_getElem? (i := 1329) (by decide +kernel), List.mem_of_getElem? (i := 1330) (by decide +kernel)⟩
theorem lw_p66 : lw_okq (⟨"CommandBusModel", "tellsWords", "(IIII)I"⟩, 31) := ⟨⟨by decide +kernel, by decide +kernel⟩, List.mem_of_getElem? (i := 1097) (by decide +kernel), List.mem_of_getElem? (i := 1333) (by decide +kernel), List.mem_of_getElem? (i := 1334) (by decide +kernel)⟩
theorem lw_p67 : lw_okq (⟨"CommandBusModel", "smooths", "(II)V"⟩, 31) := ⟨⟨by decide +kernel, by decide +kernel⟩, List.mem_of_getElem? (i := 1097) (by decide +kernel), List.mem_of_getElem? (i := 1337) (by decide +kernel), List.mem_of_getElem? (i := 1338) (by decide +kernel)⟩
theorem lw_p68 : lw_okq (⟨"CommandBusModel", "passes", "(IIIIII)I"⟩, 31) := ⟨⟨by decide +kernel, by decide +kernel⟩, List.mem_of_getElem? (i := 1097) (by decide +kernel), List.mem_of_getElem? (i := 1357) (by decide +kernel), List.mem_of_getElem? (i := 1358) (by decide +kernel)⟩
theorem lw_p69 : lw_okq (⟨"CommandBusModel", "tellsAll", "(III)I"⟩, 31) := ⟨⟨by decide +kernel, by decide +kernel⟩, List.mem_of_getElem? (i := 1097) (by decide +kernel), List.mem_of_getElem? (i := 1361) (by decide +kernel), List.mem_of_getElem? (i := 1362) (by decide +kernel)⟩
theorem lw_p70 : lw_okq (⟨"CommandBusModel", "modes", "(III)I"⟩, 31) := ⟨⟨by decide +kernel, by decide +kernel⟩, List.mem_of_getElem? (i := 1097) (by decide +kernel), List.mem_of_getElem? (i := 1365) (by decide +kernel), List.mem_of_getElem? (i := 1366) (by decide +kernel)⟩
theorem lw_p71 : lw_okq (⟨"CommandBusModel", "handsToFirst", "(I)I"⟩, 31) := ⟨⟨by decide +kernel, by decide +kernel⟩, List.mem_of_getElem? (i := 1097) (by decide +kernel), List.mem_of_getElem? (i := 1369) (by decide +kernel), List.mem_of_getElem? (i := 1370) (by decide +kernel)⟩
theorem lw_p72 : lw_okq (⟨"CommandBusModel", "does", "(III)V"⟩, 31) := ⟨⟨by decide +kernel, by decide +kernel⟩, List.mem_of_getElem? (i := 1097) (by decide +kernel), List.mem_of_getElem? (i := 1373) (by decide +kernel), List.mem_of_getElem? (i := 1374) (by decide +kernel)⟩
theorem lw_p73 : lw_okq (⟨"CommandBusModel", "tellsMode", "(III)I"⟩, 31) := ⟨⟨by decide +kernel, by decide +kernel⟩, List.mem_of_getElem? (i := 1097) (by decide +kernel), List.mem_of_getElem? (i := 1377) (by decide +kernel), List.mem_of_getElem? (i := 1378) (by decide +kernel)⟩
theorem lw_p74 : lw_okq (⟨"CommandBusModel", "counts", "(II)V"⟩, 31) := ⟨⟨by decide +kernel, by decide +kernel⟩, List.mem_of_getElem? (i := 1097) (by decide +kernel), List.mem_of_getElem? (i := 1381) (by decide +kernel), List.mem_of_getElem? (i := 1382) (by decide +kernel)⟩
theorem lw_p75 : lw_okq (⟨"CommandBusModel", "tapes", "(I)V"⟩, 31) := ⟨⟨by decide +kernel, by decide +kernel⟩, List.mem_of_getElem? (i := 1097) (by decide +kernel), List.mem_of_getElem? (i := 1389) (by decide +kernel), List.mem_of_getElem? (i := 1390) (by decide +kernel)⟩
theorem lw_p76 : lw_okq (⟨"CommandBusModel", "readsAll", "()Z"⟩, 31) := ⟨⟨by decide +kernel, by decide +kernel⟩, List.mem_of_getElem? (i := 1097) (by decide +kernel), List.mem_of_getElem? (i := 1401) (by decide +kernel), List.mem_of_getElem? (i := 1402) (by decide +kernel)⟩
theorem lw_p77 : lw_okq (⟨"CommandBusModel", "goesOn", "()V"⟩, 31) := ⟨⟨by decide +kernel, by decide +kernel⟩, List.mem_of_getElem? (i := 1097) (by decide +kernel), List.mem_of_getElem? (i := 1405) (by decide +kernel), List.mem_of_getElem? (i := 1406) (by decide +kernel)⟩
theorem lw_p78 : lw_okq (⟨"CommandBusModel", "isLetter", "()Z"⟩, 31) := ⟨⟨by decide +kernel, by decide +kernel⟩, List.mem_of_getElem? (i := 1097) (by decide +kernel), List.mem_of_getElem? (i := 1409) (by decide +kernel), List.mem_of_getElem? (i := 1410) (by decide +kernel)⟩
theorem lw_p79 : lw_okq (⟨"CommandBusModel", "wordOf", "()I"⟩, 31) := ⟨⟨by decide +kernel, by decide +kernel⟩, List.mem_of_getElem? (i := 1097) (by decide +kernel), List.mem_of_getElem? (i := 1413) (by decide +kernel), List.mem_of_getElem? (i := 1414) (by decide +kernel)⟩
def lw_privs_5 : List (MethodName × Nat) := [(⟨"CommandBusModel", "judged", "(I)I"⟩, 31), (⟨"CommandBusModel", "gets", "(IIII)I"⟩, 31), (⟨"CommandBusModel", "tellsWords", "(IIII)I"⟩, 31), (⟨"CommandBusModel", "smooths", "(II)V"⟩, 31), (⟨"CommandBusModel", "passes", "(IIIIII)I"⟩, 31), (⟨"CommandBusModel", "tellsAll", "(III)I"⟩, 31), (⟨"CommandBusModel", "modes", "(III)I"⟩, 31), (⟨"CommandBusModel", "handsToFirst", "(I)I"⟩, 31), (⟨"CommandBusModel", "does", "(III)V"⟩, 31), (⟨"CommandBusModel", "tellsMode", "(III)I"⟩, 31), (⟨"CommandBusModel", "counts", "(II)V"⟩, 31), (⟨"CommandBusModel", "tapes", "(I)V"⟩, 31), (⟨"CommandBusModel", "readsAll", "()Z"⟩, 31), (⟨"CommandBusModel", "goesOn", "()V"⟩, 31), (⟨"CommandBusModel", "isLetter", "()Z"⟩, 31), (⟨"CommandBusModel", "wordOf", "()I"⟩, 31)]
theorem lw_r5 : ∀ q ∈ lw_privs_5, lw_okq q := List.forall_mem_cons.mpr ⟨lw_p64, List.forall_mem_cons.mpr ⟨lw_p65, List.forall_mem_cons.mpr ⟨lw_p66, List.forall_mem_cons.mpr ⟨lw_p67, List.forall_mem_cons.mpr ⟨lw_p68, List.forall_mem_cons.mpr ⟨lw_p69, List.forall_mem_cons.mpr ⟨lw_p70, List.forall_mem_cons.mpr ⟨lw_p71, List.forall_mem_cons.mpr ⟨lw_p72, List.forall_mem_cons.mpr ⟨lw_p73, List.forall_mem_cons.mpr ⟨lw_p74, List.forall_mem_cons.mpr ⟨lw_p75, List.forall_mem_cons.mpr ⟨lw_p76, List.forall_mem_cons.mpr ⟨lw_p77, List.forall_mem_cons.mpr ⟨lw_p78, List.forall_mem_cons.mpr ⟨lw_p79, fun _ h => absurd h List.not_mem_nil⟩⟩⟩⟩⟩⟩⟩⟩⟩⟩⟩⟩⟩⟩⟩⟩
theorem lw_p80 : lw_okq (⟨"CommandBusModel", "is", "(Ljava/lang/String;)Z"⟩, 31) := ⟨⟨by decide +kernel, by decide +kernel⟩, List.mem_of_getElem? (i := 1097) (by decide +kernel), List.mem_of_getElem? (i := 1418) (by decide +kernel), List.mem_of_getElem? (i := 1419) (by decide +kernel)⟩
theorem lw_p81 : lw_okq (⟨"CommandBusModel", "eventWordOf", "()I"⟩, 31) := ⟨⟨by decide +kernel, by decide +kernel⟩, List.mem_of_getElem? (i := 1097) (by decide +kernel), List.mem_of_getElem? (i := 1433) (by decide +kernel), List.mem_of_getElem? (i := 1434) (by decide +kernel)⟩
theorem lw_p82 : lw_okq (⟨"CommandBusModel", "isDigit", "()Z"⟩, 31) := ⟨⟨by decide +kernel, by decide +kernel⟩, List.mem_of_getElem? (i := 1097) (by decide +kernel), List.mem_of_getElem? (i := 1446) (by decide +kernel), List.mem_of_getElem? (i := 1447) (by decide +kernel)⟩
theorem lw_p83 : lw_okq (⟨"CommandBusModel", "bad", "(I)Z"⟩, 31) := ⟨⟨by decide +kernel, by decide +kernel⟩, List.mem_of_getElem? (i := 1097) (by decide +kernel), List.mem_of_getElem? (i := 1450) (by decide +kernel), List.mem_of_getElem? (i := 1451) (by decide +kernel)⟩
theorem lw_p84 : lw_okq (⟨"CommandBusModel", "message", "()Z"⟩, 31) := ⟨⟨by decide +kernel, by decide +kernel⟩, List.mem_of_getElem? (i := 1097) (by decide +kernel), List.mem_of_getElem? (i := 1454) (by decide +kernel), List.mem_of_getElem? (i := 1455) (by decide +kernel)⟩
theorem lw_p85 : lw_okq (⟨"CommandBusModel", "number", "(III)Z"⟩, 31) := ⟨⟨by decide +kernel, by decide +kernel⟩, List.mem_of_getElem? (i := 1097) (by decide +kernel), List.mem_of_getElem? (i := 1458) (by decide +kernel), List.mem_of_getElem? (i := 1459) (by decide +kernel)⟩
theorem lw_p86 : lw_okq (⟨"CommandBusModel", "field", "(I)I"⟩, 31) := ⟨⟨by decide +kernel, by decide +kernel⟩, List.mem_of_getElem? (i := 1097) (by decide +kernel), List.mem_of_getElem? (i := 1462) (by decide +kernel), List.mem_of_getElem? (i := 1463) (by decide +kernel)⟩
theorem lw_p87 : lw_okq (⟨"CommandBusModel", "whenever", "()Z"⟩, 31) := ⟨⟨by decide +kernel, by decide +kernel⟩, List.mem_of_getElem? (i := 1097) (by decide +kernel), List.mem_of_getElem? (i := 1466) (by decide +kernel), List.mem_of_getElem? (i := 1467) (by decide +kernel)⟩
theorem lw_p88 : lw_okq (⟨"CommandBusModel", "need", "(I)Z"⟩, 31) := ⟨⟨by decide +kernel, by decide +kernel⟩, List.mem_of_getElem? (i := 1097) (by decide +kernel), List.mem_of_getElem? (i := 1470) (by decide +kernel), List.mem_of_getElem? (i := 1471) (by decide +kernel)⟩
theorem lw_p89 : lw_okq (⟨"CommandBusModel", "isRead", "(Z)V"⟩, 31) := ⟨⟨by decide +kernel, by decide +kernel⟩, List.mem_of_getElem? (i := 1097) (by decide +kernel), List.mem_of_getElem? (i := 1474) (by decide +kernel), List.mem_of_getElem? (i := 1475) (by decide +kernel)⟩
theorem lw_p90 : lw_okq (⟨"CommandBusModel", "told", "(II)I"⟩, 31) := ⟨⟨by decide +kernel, by decide +kernel⟩, List.mem_of_getElem? (i := 1097) (by decide +kernel), List.mem_of_getElem? (i := 1478) (by decide +kernel), List.mem_of_getElem? (i := 1479) (by decide +kernel)⟩
theorem lw_p91 : lw_okq (⟨"CommandBusModel", "laysPhase", "(I)V"⟩, 31) := ⟨⟨by decide +kernel, by decide +kernel⟩, List.mem_of_getElem? (i := 1097) (by decide +kernel), List.mem_of_getElem? (i := 1482) (by decide +kernel), List.mem_of_getElem? (i := 1483) (by decide +kernel)⟩
theorem lw_p92 : lw_okq (⟨"CommandBusModel", "greatestOf", "(I)I"⟩, 31) := ⟨⟨by decide +kernel, by decide +kernel⟩, List.mem_of_getElem? (i := 1097) (by decide +kernel), List.mem_of_getElem? (i := 1486) (by decide +kernel), List.mem_of_getElem? (i := 1487) (by decide +kernel)⟩
theorem lw_p93 : lw_okq (⟨"CommandBusModel", "isDue", "(II)Z"⟩, 31) := ⟨⟨by decide +kernel, by decide +kernel⟩, List.mem_of_getElem? (i := 1097) (by decide +kernel), List.mem_of_getElem? (i := 1490) (by decide +kernel), List.mem_of_getElem? (i := 1491) (by decide +kernel)⟩
theorem lw_p94 : lw_okq (⟨"CommandBusModel", "loadOf", "(II)I"⟩, 31) := ⟨⟨by decide +kernel, by decide +kernel⟩, List.mem_of_getElem? (i := 1097) (by decide +kernel), List.mem_of_getElem? (i := 1494) (by decide +kernel), List.mem_of_getElem? (i := 1495) (by decide +kernel)⟩
theorem lw_p95 : lw_okq (⟨"CommandBusModel", "timeOf", "(I)I"⟩, 31) := ⟨⟨by decide +kernel, by decide +kernel⟩, List.mem_of_getElem? (i := 1097) (by decide +kernel), List.mem_of_getElem? (i := 1498) (by decide +kernel), List.mem_of_getElem? (i := 1499) (by decide +kernel)⟩
def lw_privs_6 : List (MethodName × Nat) := [(⟨"CommandBusModel", "is", "(Ljava/lang/String;)Z"⟩, 31), (⟨"CommandBusModel", "eventWordOf", "()I"⟩, 31), (⟨"CommandBusModel", "isDigit", "()Z"⟩, 31), (⟨"CommandBusModel", "bad", "(I)Z"⟩, 31), (⟨"CommandBusModel", "message", "()Z"⟩, 31), (⟨"CommandBusModel", "number", "(III)Z"⟩, 31), (⟨"CommandBusModel", "field", "(I)I"⟩, 31), (⟨"CommandBusModel", "whenever", "()Z"⟩, 31), (⟨"CommandBusModel", "need", "(I)Z"⟩, 31), (⟨"CommandBusModel", "isRead", "(Z)V"⟩, 31), (⟨"CommandBusModel", "told", "(II)I"⟩, 31), (⟨"CommandBusModel", "laysPhase", "(I)V"⟩, 31), (⟨"CommandBusModel", "greatestOf", "(I)I"⟩, 31), (⟨"CommandBusModel", "isDue", "(II)Z"⟩, 31), (⟨"CommandBusModel", "loadOf", "(II)I"⟩, 31), (⟨"CommandBusModel", "timeOf", "(I)I"⟩, 31)]
theorem lw_r6 : ∀ q ∈ lw_privs_6, lw_okq q := List.forall_mem_cons.mpr ⟨lw_p80, List.forall_mem_cons.mpr ⟨lw_p81, List.forall_mem_cons.mpr ⟨lw_p82, List.forall_mem_cons.mpr ⟨lw_p83, List.forall_mem_cons.mpr ⟨lw_p84, List.forall_mem_cons.mpr ⟨lw_p85, List.forall_mem_cons.mpr ⟨lw_p86, List.forall_mem_cons.mpr ⟨lw_p87, List.forall_mem_cons.mpr ⟨lw_p88, List.forall_mem_cons.mpr ⟨lw_p89, List.forall_mem_cons.mpr ⟨lw_p90, List.forall_mem_cons.mpr ⟨lw_p91, List.forall_mem_cons.mpr ⟨lw_p92, List.forall_mem_cons.mpr ⟨lw_p93, List.forall_mem_cons.mpr ⟨lw_p94, List.forall_mem_cons.mpr ⟨lw_p95, fun _ h => absurd h List.not_mem_nil⟩⟩⟩⟩⟩⟩⟩⟩⟩⟩⟩⟩⟩⟩⟩⟩
theorem lw_p96 : lw_okq (⟨"CommandBusModel", "readsEvents", "()Z"⟩, 31) := ⟨⟨by decide +kernel, by decide +kernel⟩, List.mem_of_getElem? (i := 1097) (by decide +kernel), List.mem_of_getElem? (i := 1506) (by decide +kernel), List.mem_of_getElem? (i := 1507) (by decide +kernel)⟩
theorem lw_p97 : lw_okq (⟨"CommandBusModel", "eventOf", "()Z"⟩, 31) := ⟨⟨by decide +kernel, by decide +kernel⟩, List.mem_of_getElem? (i := 1097) (by decide +kernel), List.mem_of_getElem? (i := 1510) (by decide +kernel), List.mem_of_getElem? (i := 1511) (by decide +kernel)⟩
theorem lw_p98 : lw_okq (⟨"CommandBusModel", "greatest", "()I"⟩, 31) := ⟨⟨by decide +kernel, by decide +kernel⟩, List.mem_of_getElem? (i := 1097) (by decide +kernel), List.mem_of_getElem? (i := 1530) (by decide +kernel), List.mem_of_getElem? (i := 1531) (by decide +kernel)⟩
theorem lw_p99 : lw_okq (⟨"CommandBusModel", "best", "()I"⟩, 31) := ⟨⟨by decide +kernel, by decide +kernel⟩, List.mem_of_getElem? (i := 1097) (by decide +kernel), List.mem_of_getElem? (i := 1534) (by decide +kernel), List.mem_of_getElem? (i := 1535) (by decide +kernel)⟩
theorem lw_p100 : lw_okq (⟨"CommandBusModel", "bestFrom", "(II)I"⟩, 31) := ⟨⟨by decide +kernel, by decide +kernel⟩, List.mem_of_getElem? (i := 1097) (by decide +kernel), List.mem_of_getElem? (i := 1538) (by decide +kernel), List.mem_of_getElem? (i := 1539) (by decide +kernel)⟩
theorem lw_p101 : lw_okq (⟨"CommandBusModel", "firstOver", "()I"⟩, 31) := ⟨⟨by decide +kernel, by decide +kernel⟩, List.mem_of_getElem? (i := 1097) (by decide +kernel), List.mem_of_getElem? (i := 1542) (by decide +kernel), List.mem_of_getElem? (i := 1543) (by decide +kernel)⟩
theorem lw_p102 : lw_okq (⟨"CommandBusModel", "spreads", "(I)I"⟩, 31) := ⟨⟨by decide +kernel, by decide +kernel⟩, List.mem_of_getElem? (i := 1097) (by decide +kernel), List.mem_of_getElem? (i := 1551) (by decide +kernel), List.mem_of_getElem? (i := 1552) (by decide +kernel)⟩
theorem lw_p103 : lw_okq (⟨"CommandBusModel", "isToController", "(I)Z"⟩, 31) := ⟨⟨by decide +kernel, by decide +kernel⟩, List.mem_of_getElem? (i := 1097) (by decide +kernel), List.mem_of_getElem? (i := 1555) (by decide +kernel), List.mem_of_getElem? (i := 1556) (by decide +kernel)⟩
theorem lw_p104 : lw_okq (⟨"CommandBusModel", "comesThrough", "(II)Z"⟩, 31) := ⟨⟨by decide +kernel, by decide +kernel⟩, List.mem_of_getElem? (i := 1097) (by decide +kernel), List.mem_of_getElem? (i := 1559) (by decide +kernel), List.mem_of_getElem? (i := 1560) (by decide +kernel)⟩
theorem lw_p105 : lw_okq (⟨"CommandBusModel", "quietOf", "(I)I"⟩, 31) := ⟨⟨by decide +kernel, by decide +kernel⟩, List.mem_of_getElem? (i := 1097) (by decide +kernel), List.mem_of_getElem? (i := 1563) (by decide +kernel), List.mem_of_getElem? (i := 1564) (by decide +kernel)⟩
theorem lw_p106 : lw_okq (⟨"CommandBusModel", "longestDue", "(I)I"⟩, 31) := ⟨⟨by decide +kernel, by decide +kernel⟩, List.mem_of_getElem? (i := 1097) (by decide +kernel), List.mem_of_getElem? (i := 1567) (by decide +kernel), List.mem_of_getElem? (i := 1568) (by decide +kernel)⟩
theorem lw_p107 : lw_okq (⟨"CommandBusModel", "manyTo", "(I)I"⟩, 31) := ⟨⟨by decide +kernel, by decide +kernel⟩, List.mem_of_getElem? (i := 1097) (by decide +kernel), List.mem_of_getElem? (i := 1571) (by decide +kernel), List.mem_of_getElem? (i := 1572) (by decide +kernel)⟩
theorem lw_p108 : lw_okq (⟨"CommandBusModel", "framesOf", "(I)V"⟩, 31) := ⟨⟨by decide +kernel, by decide +kernel⟩, List.mem_of_getElem? (i := 1097) (by decide +kernel), List.mem_of_getElem? (i := 1587) (by decide +kernel), List.mem_of_getElem? (i := 1588) (by decide +kernel)⟩
theorem lw_p109 : lw_okq (⟨"CommandBusModel", "goesOnce", "()V"⟩, 31) := ⟨⟨by decide +kernel, by decide +kernel⟩, List.mem_of_getElem? (i := 1097) (by decide +kernel), List.mem_of_getElem? (i := 1591) (by decide +kernel), List.mem_of_getElem? (i := 1592) (by decide +kernel)⟩
theorem lw_p110 : lw_okq (⟨"CommandBusModel", "tellsEvents", "()V"⟩, 31) := ⟨⟨by decide +kernel, by decide +kernel⟩, List.mem_of_getElem? (i := 1097) (by decide +kernel), List.mem_of_getElem? (i := 1595) (by decide +kernel), List.mem_of_getElem? (i := 1596) (by decide +kernel)⟩
theorem lw_p111 : lw_okq (⟨"CommandBusModel", "laysSignals", "()V"⟩, 31) := ⟨⟨by decide +kernel, by decide +kernel⟩, List.mem_of_getElem? (i := 1097) (by decide +kernel), List.mem_of_getElem? (i := 1601) (by decide +kernel), List.mem_of_getElem? (i := 1602) (by decide +kernel)⟩
def lw_privs_7 : List (MethodName × Nat) := [(⟨"CommandBusModel", "readsEvents", "()Z"⟩, 31), (⟨"CommandBusModel", "eventOf", "()Z"⟩, 31), (⟨"CommandBusModel", "greatest", "()I"⟩, 31), (⟨"CommandBusModel", "best", "()I"⟩, 31), (⟨"CommandBusModel", "bestFrom", "(II)I"⟩, 31), (⟨"CommandBusModel", "firstOver", "()I"⟩, 31), (⟨"CommandBusModel", "spreads", "(I)I"⟩, 31), (⟨"CommandBusModel", "isToController", "(I)Z"⟩, 31), (⟨"CommandBusModel", "comesThrough", "(II)Z"⟩, 31), (⟨"CommandBusModel", "quietOf", "(I)I"⟩, 31), (⟨"CommandBusModel", "longestDue", "(I)I"⟩, 31), (⟨"CommandBusModel", "manyTo", "(I)I"⟩, 31), (⟨"CommandBusModel", "framesOf", "(I)V"⟩, 31), (⟨"CommandBusModel", "goesOnce", "()V"⟩, 31), (⟨"CommandBusModel", "tellsEvents", "()V"⟩, 31), (⟨"CommandBusModel", "laysSignals", "()V"⟩, 31)]
theorem lw_r7 : ∀ q ∈ lw_privs_7, lw_okq q := List.forall_mem_cons.mpr ⟨lw_p96, List.forall_mem_cons.mpr ⟨lw_p97, List.forall_mem_cons.mpr ⟨lw_p98, List.forall_mem_cons.mpr ⟨lw_p99, List.forall_mem_cons.mpr ⟨lw_p100, List.forall_mem_cons.mpr ⟨lw_p101, List.forall_mem_cons.mpr ⟨lw_p102, List.forall_mem_cons.mpr ⟨lw_p103, List.forall_mem_cons.mpr ⟨lw_p104, List.forall_mem_cons.mpr ⟨lw_p105, List.forall_mem_cons.mpr ⟨lw_p106, List.forall_mem_cons.mpr ⟨lw_p107, List.forall_mem_cons.mpr ⟨lw_p108, List.forall_mem_cons.mpr ⟨lw_p109, List.forall_mem_cons.mpr ⟨lw_p110, List.forall_mem_cons.mpr ⟨lw_p111, fun _ h => absurd h List.not_mem_nil⟩⟩⟩⟩⟩⟩⟩⟩⟩⟩⟩⟩⟩⟩⟩⟩
theorem lw_p112 : lw_okq (⟨"CommandBusModel", "isSilent", "()V"⟩, 31) := ⟨⟨by decide +kernel, by decide +kernel⟩, List.mem_of_getElem? (i := 1097) (by decide +kernel), List.mem_of_getElem? (i := 1607) (by decide +kernel), List.mem_of_getElem? (i := 1608) (by decide +kernel)⟩
theorem lw_p113 : lw_okq (⟨"CommandBusModel", "canControl", "(I)Z"⟩, 31) := ⟨⟨by decide +kernel, by decide +kernel⟩, List.mem_of_getElem? (i := 1097) (by decide +kernel), List.mem_of_getElem? (i := 1611) (by decide +kernel), List.mem_of_getElem? (i := 1612) (by decide +kernel)⟩
theorem lw_p114 : lw_okq (⟨"CommandBusModel", "controls", "(I)V"⟩, 31) := ⟨⟨by decide +kernel, by decide +kernel⟩, List.mem_of_getElem? (i := 1097) (by decide +kernel), List.mem_of_getElem? (i := 1615) (by decide +kernel), List.mem_of_getElem? (i := 1616) (by decide +kernel)⟩
theorem lw_p115 : lw_okq (⟨"CommandBusModel", "goes", "(I)Z"⟩, 31) := ⟨⟨by decide +kernel, by decide +kernel⟩, List.mem_of_getElem? (i := 1097) (by decide +kernel), List.mem_of_getElem? (i := 1619) (by decide +kernel), List.mem_of_getElem? (i := 1620) (by decide +kernel)⟩
theorem lw_p116 : lw_okq (⟨"CommandBusModel", "triesLine", "(I)V"⟩, 31) := ⟨⟨by decide +kernel, by decide +kernel⟩, List.mem_of_getElem? (i := 1097) (by decide +kernel), List.mem_of_getElem? (i := 1623) (by decide +kernel), List.mem_of_getElem? (i := 1624) (by decide +kernel)⟩
theorem lw_p117 : lw_okq (⟨"CommandBusModel", "isTooMuch", "(I)Z"⟩, 31) := ⟨⟨by decide +kernel, by decide +kernel⟩, List.mem_of_getElem? (i := 1097) (by decide +kernel), List.mem_of_getElem? (i := 1627) (by decide +kernel), List.mem_of_getElem? (i := 1628) (by decide +kernel)⟩
theorem lw_p118 : lw_okq (⟨"CommandBusModel", "asksWanted", "()V"⟩, 31) := ⟨⟨by decide +kernel, by decide +kernel⟩, List.mem_of_getElem? (i := 1097) (by decide +kernel), List.mem_of_getElem? (i := 1631) (by decide +kernel), List.mem_of_getElem? (i := 1632) (by decide +kernel)⟩
theorem lw_p119 : lw_okq (⟨"CommandBusModel", "has", "(II)I"⟩, 31) := ⟨⟨by decide +kernel, by decide +kernel⟩, List.mem_of_getElem? (i := 1097) (by decide +kernel), List.mem_of_getElem? (i := 1643) (by decide +kernel), List.mem_of_getElem? (i := 1644) (by decide +kernel)⟩
theorem lw_p120 : lw_okq (⟨"CommandBusModel", "more", "(I)I"⟩, 31) := ⟨⟨by decide +kernel, by decide +kernel⟩, List.mem_of_getElem? (i := 1097) (by decide +kernel), List.mem_of_getElem? (i := 1691) (by decide +kernel), List.mem_of_getElem? (i := 1692) (by decide +kernel)⟩
def lw_privs_8 : List (MethodName × Nat) := [(⟨"CommandBusModel", "isSilent", "()V"⟩, 31), (⟨"CommandBusModel", "canControl", "(I)Z"⟩, 31), (⟨"CommandBusModel", "controls", "(I)V"⟩, 31), (⟨"CommandBusModel", "goes", "(I)Z"⟩, 31), (⟨"CommandBusModel", "triesLine", "(I)V"⟩, 31), (⟨"CommandBusModel", "isTooMuch", "(I)Z"⟩, 31), (⟨"CommandBusModel", "asksWanted", "()V"⟩, 31), (⟨"CommandBusModel", "has", "(II)I"⟩, 31), (⟨"CommandBusModel", "more", "(I)I"⟩, 31)]
theorem lw_r8 : ∀ q ∈ lw_privs_8, lw_okq q := List.forall_mem_cons.mpr ⟨lw_p112, List.forall_mem_cons.mpr ⟨lw_p113, List.forall_mem_cons.mpr ⟨lw_p114, List.forall_mem_cons.mpr ⟨lw_p115, List.forall_mem_cons.mpr ⟨lw_p116, List.forall_mem_cons.mpr ⟨lw_p117, List.forall_mem_cons.mpr ⟨lw_p118, List.forall_mem_cons.mpr ⟨lw_p119, List.forall_mem_cons.mpr ⟨lw_p120, fun _ h => absurd h List.not_mem_nil⟩⟩⟩⟩⟩⟩⟩⟩⟩
def lw_privs : List (MethodName × Nat) := lw_privs_1 ++ (lw_privs_2 ++ (lw_privs_3 ++ (lw_privs_4 ++ (lw_privs_5 ++ (lw_privs_6 ++ (lw_privs_7 ++ (lw_privs_8)))))))
def lw_tbl : List Cond := k2_sels lw_privs ++ tables_1
theorem lw_privs_ok : ∀ q ∈ lw_privs, lw_okq q := by
  show ∀ q ∈ lw_privs_1 ++ (lw_privs_2 ++ (lw_privs_3 ++ (lw_privs_4 ++ (lw_privs_5 ++ (lw_privs_6 ++ (lw_privs_7 ++ (lw_privs_8))))))), lw_okq q
  exact List.forall_mem_append.mpr ⟨lw_r1, List.forall_mem_append.mpr ⟨lw_r2, List.forall_mem_append.mpr ⟨lw_r3, List.forall_mem_append.mpr ⟨lw_r4, List.forall_mem_append.mpr ⟨lw_r5, List.forall_mem_append.mpr ⟨lw_r6, List.forall_mem_append.mpr ⟨lw_r7, lw_r8⟩⟩⟩⟩⟩⟩⟩
/-- the streams that the claim lets the run draw from -/
abbrev lw_cs : List Choice := [Jvm.Choice.named "NaN.bits", Jvm.Choice.named "NaN.copy"]
theorem lw_bits : nanBits ∈ lw_cs := by first | decide | exact List.mem_cons_self | simp [lw_cs, nanBits]
end
section
/-! z_: a plain reading of bytecode: cells by number, ints, refs, longs, floats in tables of their own -/
abbrev z_I : Type := Nat → Nat → Int32
abbrev z_R : Type := Nat → Nat → Value
abbrev z_J : Type := Nat → Nat → Int64
abbrev z_F : Type := Nat → Nat → UInt32
abbrev z_L : Type := List (Option Value)
/-- pc, instruction, length; four numbers (target, class and field, callee ..), a constant, a switch's rows -/
abbrev z_E : Type := Nat × Instr × Nat × (Nat × Nat × Nat × Nat) × Int32 × List (Int32 × Nat)
def z_row {α : Type} (M : Nat → α) (a : Nat) (f : α) : Nat → α := fun b => if b = a then f else M b
def z_up {α : Type} (M : Nat → Nat → α) (a i : Nat) (v : α) : Nat → Nat → α := fun b => if b = a then (fun j => if j = i then v else M a j) else M b
abbrev z_K : Type := Nat → z_L → List Value → z_I → z_R → z_J → z_F → Nat → Nat → Nat → Prop
abbrev z_Q : Type := Option Value → z_I → z_R → z_J → z_F → Nat → Prop
abbrev z_C : Type := Nat → Nat → List Value → z_I → z_R → z_J → z_F → Nat → z_Q → Prop
/-- locals -/
def z_get : z_L → Nat → Option Value
  | [], _ => none
  | a :: _, 0 => a
  | _ :: l, i + 1 => z_get l i
def z_kill (a : Option Value) (i : Nat) : Option Value := match i with
  | 0 => match a with
    | some (.long _) => none
    | some (.double _) => none
    | b => b
  | _ => a
def z_set1 : z_L → Nat → Value → z_L
  | [], _, _ => []
  | _ :: l, 0, v => some v :: l
  | a :: l, i + 1, v => z_kill a i :: z_set1 l i v
def z_set2 : z_L → Nat → Value → z_L
  | [], _, _ => []
  | _ :: l, 0, v => some v :: (match l with
    | [] => []
    | _ :: l => none :: l)
  | a :: l, i + 1, v => z_kill a i :: z_set2 l i v
/-- the list's spine is laid open, so that later reads are short -/
def z_fc : z_L → (z_L → Prop) → Prop
  | [], k => k []
  | a :: l, k => z_fc l (fun l => k (a :: l))
def z_pop : Nat → List Value → List Value → (List Value → List Value → Prop) → Prop
  | 0, st, as, k => k as st
  | n + 1, v :: st, as, k => z_pop n st (v :: as) k
  | _ + 1, [], _, _ => False
def z_cat : List Value → Nat
  | [] => 0
  | v :: l => v.category + z_cat l
def z_int (L : z_L) (i : Nat) (k : Int32 → Prop) : Prop := match z_get L i with
  | some (.int x) => k x
  | _ => False
def z_ref (L : z_L) (i : Nat) (k : Nat → Prop) (ko : Nat → Prop) (kn : Prop) : Prop := match z_get L i with
  | some (.ref x) => k x
  | some (.retAddr x) => ko x
  | some .null => kn
  | _ => False
def z_flt (L : z_L) (i : Nat) (k : UInt32 → Prop) : Prop := match z_get L i with
  | some (.float x) => k x
  | _ => False
def z_lng (L : z_L) (i : Nat) (k : Int64 → Prop) : Prop := match z_get L i with
  | some (.long x) => k x
  | _ => False
def z_vi (st : List Value) (k : Int32 → List Value → Prop) : Prop := match st with
  | .int x :: t => k x t
  | _ => False
def z_vf (st : List Value) (k : UInt32 → List Value → Prop) : Prop := match st with
  | .float x :: t => k x t
  | _ => False
def z_vj (st : List Value) (k : Int64 → List Value → Prop) : Prop := match st with
  | .long x :: t => k x t
  | _ => False
def z_vr (st : List Value) (k : Nat → List Value → Prop) : Prop := match st with
  | .ref x :: t => k x t
  | _ => False
/-- a reference of any kind: an own cell, an outer one, null -/
def z_vo (st : List Value) (k : Nat → List Value → Prop) (ko : Nat → List Value → Prop) (kn : List Value → Prop) : Prop := match st with
  | .ref x :: t => k x t
  | .retAddr x :: t => ko x t
  | .null :: t => kn t
  | _ => False
/-- an int or a reference -/
def z_vir (st : List Value) (k : Int32 → List Value → Prop) (kr : Nat → List Value → Prop) : Prop := match st with
  | .int x :: t => k x t
  | .ref x :: t => kr x t
  | _ => False
def z_b (b : Bool) (k : Prop) : Prop := match b with
  | true => k
  | false => False
def z_ii (st : List Value) (f : Int32 → Int32 → Int32) (k : List Value → Prop) : Prop := z_vi st fun y t => z_vi t fun x t => k (.int (f x y) :: t)
def z_i1 (st : List Value) (f : Int32 → Int32) (k : List Value → Prop) : Prop := z_vi st fun x t => k (.int (f x) :: t)
def z_jj (st : List Value) (f : Int64 → Int64 → Int64) (k : List Value → Prop) : Prop := z_vj st fun y t => z_vj t fun x t => k (.long (f x y) :: t)
def z_ff (st : List Value) (f : UInt32 → UInt32 → UInt32) (k : List Value → Prop) : Prop := z_vf st fun y t => z_vf t fun x t => vf_n32 (f x y) ∧ k (.float (f x y) :: t)
def z_if1 (c : ClassFile.Cond) (x : Int32) (A B : Prop) : Prop := match c with
  | .eq => (x = 0 → A) ∧ (¬ x = 0 → B)
  | .ne => (¬ x = 0 → A) ∧ (x = 0 → B)
  | .lt => (x < 0 → A) ∧ (¬ x < 0 → B)
  | .ge => (0 ≤ x → A) ∧ (¬ 0 ≤ x → B)
  | .gt => (0 < x → A) ∧ (¬ 0 < x → B)
  | .le => (x ≤ 0 → A) ∧ (¬ x ≤ 0 → B)
def z_if2 (c : ClassFile.Cond) (x y : Int32) (A B : Prop) : Prop := match c with
  | .eq => (x = y → A) ∧ (¬ x = y → B)
  | .ne => (¬ x = y → A) ∧ (x = y → B)
  | .lt => (x < y → A) ∧ (¬ x < y → B)
  | .ge => (y ≤ x → A) ∧ (¬ y ≤ x → B)
  | .gt => (y < x → A) ∧ (¬ y < x → B)
  | .le => (x ≤ y → A) ∧ (¬ x ≤ y → B)
def z_sw (x : Int32) (k : Nat → Prop) (dflt : Nat) : List (Int32 × Nat) → Prop
  | [] => k dflt
  | (v, t) :: r => (x = v → k t) ∧ (¬ x = v → z_sw x k dflt r)
/-- what the run stands on and never changes: the cells' shapes by number (0 object of a class, 1 int[], 2 byte[], 3 long[], 4 float[]; class or length); the outer rows (kind, length, contents); the outer objects' fields; what a method may make (cells, slots) -/
abbrev z_X : Type := (Nat → Nat × Nat) × (Nat → Nat × Nat × (Nat → Int32)) × (Nat → Nat → Value) × (Nat → Nat × Nat)
def z_ild (X : z_X) (kd : Nat) (st : List Value) (I : z_I) (k : List Value → Prop) : Prop := z_vi st fun i t =>
  z_vo t (fun q t => z_b (Nat.beq (X.1 q).1 kd) (vp_in i (X.1 q).2 ∧ k (.int (I q i.toNatClampNeg) :: t)))
    (fun j t => z_b (Nat.beq (X.2.1 j).1 kd) (vp_in i (X.2.1 j).2.1 ∧ k (.int ((X.2.1 j).2.2 i.toNatClampNeg) :: t))) (fun _ => False)
def z_jld (X : z_X) (st : List Value) (J : z_J) (k : List Value → Prop) : Prop := z_vi st fun i t =>
  z_vr t fun q t => z_b (Nat.beq (X.1 q).1 3) (vp_in i (X.1 q).2 ∧ k (.long (J q i.toNatClampNeg) :: t))
def z_fld (X : z_X) (st : List Value) (F : z_F) (k : List Value → Prop) : Prop := z_vi st fun i t =>
  z_vr t fun q t => z_b (Nat.beq (X.1 q).1 4) (vp_in i (X.1 q).2 ∧ k (.float (F q i.toNatClampNeg) :: t))
def z_ist (X : z_X) (st : List Value) (I : z_I) (k : List Value → z_I → Prop) : Prop := z_vi st fun x t => z_vi t fun i t =>
  z_vr t fun q t => z_b (Nat.beq (X.1 q).1 1) (vp_in i (X.1 q).2 ∧ k t (z_up I q i.toNatClampNeg x))
def z_bst (X : z_X) (st : List Value) (I : z_I) (k : List Value → z_I → Prop) : Prop := z_vi st fun x t => z_vi t fun i t =>
  z_vr t fun q t => z_b (Nat.beq (X.1 q).1 2) (vp_in i (X.1 q).2 ∧ k t (z_up I q i.toNatClampNeg x.toInt8.toInt32))
def z_jst (X : z_X) (st : List Value) (J : z_J) (k : List Value → z_J → Prop) : Prop := z_vj st fun x t => z_vi t fun i t =>
  z_vr t fun q t => z_b (Nat.beq (X.1 q).1 3) (vp_in i (X.1 q).2 ∧ k t (z_up J q i.toNatClampNeg x))
def z_fst (X : z_X) (st : List Value) (F : z_F) (k : List Value → z_F → Prop) : Prop := z_vf st fun x t => z_vi t fun i t =>
  z_vr t fun q t => z_b (Nat.beq (X.1 q).1 4) (vp_in i (X.1 q).2 ∧ k t (z_up F q i.toNatClampNeg x))
def z_len (X : z_X) (st : List Value) (k : List Value → Prop) : Prop := z_vo st
  (fun q t => z_b (Nat.ble 1 (X.1 q).1) (k (.int (nI (X.1 q).2) :: t)))
  (fun j t => z_b (Nat.ble 1 (X.2.1 j).1) (k (.int (nI (X.2.1 j).2.1) :: t))) (fun _ => False)
/-- getfield: c = 0 int, 1 ref; 2, 3 of an outer object's -/
def z_gf (X : z_X) (a b c : Nat) (st : List Value) (I : z_I) (R : z_R) (k : List Value → Prop) : Prop := match c with
  | 0 => z_vr st fun q t => z_b (Nat.beq (X.1 q).1 0 && Nat.beq (X.1 q).2 a) (k (.int (I q b) :: t))
  | 1 => z_vr st fun q t => z_b (Nat.beq (X.1 q).1 0 && Nat.beq (X.1 q).2 a) (z_vo [R q b] (fun x _ => k (.ref x :: t)) (fun x _ => k (.retAddr x :: t)) (fun _ => k (.null :: t)))
  | 2 => z_vo st (fun _ _ => False) (fun j t => z_vi [X.2.2.1 j b] fun x _ => k (.int x :: t)) (fun _ => False)
  | 3 => z_vo st (fun _ _ => False) (fun j t => z_vo [X.2.2.1 j b] (fun _ _ => False) (fun x _ => k (.retAddr x :: t)) (fun _ => False)) (fun _ => False)
  | _ => False
/-- putfield: c = 0 int, 1 ref, 2 boolean -/
def z_pf (X : z_X) (a b c : Nat) (st : List Value) (I : z_I) (R : z_R) (k : List Value → z_I → z_R → Prop) : Prop := match c with
  | 0 => z_vi st fun x t => z_vr t fun q t => z_b (Nat.beq (X.1 q).1 0 && Nat.beq (X.1 q).2 a) (k t (z_up I q b x) R)
  | 1 => z_vo st (fun x t => z_vr t fun q t => z_b (Nat.beq (X.1 q).1 0 && Nat.beq (X.1 q).2 a) (k t I (z_up R q b (.ref x))))
    (fun x t => z_vr t fun q t => z_b (Nat.beq (X.1 q).1 0 && Nat.beq (X.1 q).2 a) (k t I (z_up R q b (.retAddr x))))
    (fun t => z_vr t fun q t => z_b (Nat.beq (X.1 q).1 0 && Nat.beq (X.1 q).2 a) (k t I (z_up R q b .null)))
  | 2 => z_vi st fun x t => z_vr t fun q t => z_b (Nat.beq (X.1 q).1 0 && Nat.beq (X.1 q).2 a) ((x = 0 ∨ x = 1) ∧ k t (z_up I q b x) R)
  | _ => False
/-- a new row: its place is the next number, its shape as foreseen -/
def z_na (X : z_X) (kd : Nat) (st : List Value) (I : z_I) (J : z_J) (F : z_F) (cn uc us mc ms : Nat) (k : List Value → z_I → z_J → z_F → Nat → Nat → Nat → Prop) : Prop := z_vi st fun n t =>
  z_b (Nat.beq (X.1 cn).1 kd) ((n = nI (X.1 cn).2 ∧ (X.1 cn).2 < 65536 ∧ uc + 1 ≤ mc ∧ us + (X.1 cn).2 ≤ ms) ∧ k (.ref cn :: t) (z_row I cn (fun _ => 0)) (z_row J cn (fun _ => 0)) (z_row F cn (fun _ => 0)) (cn + 1) (uc + 1) (us + (X.1 cn).2))
/-- a new object of class a with n fields -/
def z_no (X : z_X) (a n : Nat) (I : z_I) (R : z_R) (cn uc us mc ms : Nat) (k : Value → z_I → z_R → Nat → Nat → Nat → Prop) : Prop :=
  z_b (Nat.beq (X.1 cn).1 0 && Nat.beq (X.1 cn).2 a) ((uc + 1 ≤ mc ∧ us + n ≤ ms) ∧ k (.ref cn) (z_row I cn (fun _ => 0)) (z_row R cn (fun _ => .null)) (cn + 1) (uc + 1) (us + n))
def z_cpy {α : Type} (M : Nat → Nat → α) (p q sp dp n : Nat) : Nat → Nat → α := z_row M q (va_cpy (M p) (M q) sp dp n)
/-- System.arraycopy -/
def z_cp (X : z_X) (st : List Value) (I : z_I) (J : z_J) (F : z_F) (k : List Value → z_I → z_J → z_F → Prop) : Prop :=
  z_vi st fun n t => z_vi t fun dp t => z_vr t fun q t => z_vi t fun sp t => z_vr t fun p t =>
  z_b (Nat.beq (X.1 p).1 (X.1 q).1) ((¬ sp < 0 ∧ ¬ dp < 0 ∧ ¬ n < 0 ∧ sp.toNatClampNeg + n.toNatClampNeg ≤ (X.1 p).2 ∧ dp.toNatClampNeg + n.toNatClampNeg ≤ (X.1 q).2) ∧ (match (X.1 q).1 with
    | 1 => k t (z_cpy I p q sp.toNatClampNeg dp.toNatClampNeg n.toNatClampNeg) J F
    | 3 => k t I (z_cpy J p q sp.toNatClampNeg dp.toNatClampNeg n.toNatClampNeg) F
    | 4 => k t I J (z_cpy F p q sp.toNatClampNeg dp.toNatClampNeg n.toNatClampNeg)
    | _ => False))
def z_push (r : Option Value) (st : List Value) : List Value := match r with
  | none => st
  | some v => v :: st
/-- a call: c = 0 static, 1 virtual, 2 <init>, 3 virtual of an outer String; 4, 5, 6 of a nest mate's: static, virtual, <init> -/
def z_rcv (X : z_X) (c d : Nat) (as : List Value) (k : Prop) : Prop := match c with
  | 0 => k
  | 4 => k
  | 3 => z_vo as (fun _ _ => False) (fun _ _ => k) (fun _ => False)
  | _ => z_vr as fun q _ => z_b (Nat.beq (X.1 q).1 0 && Nat.beq (X.1 q).2 d) k
def z_call (X : z_X) (dp a b c d pc : Nat) (L : z_L) (st : List Value) (I : z_I) (R : z_R) (J : z_J) (F : z_F) (cn uc us mc ms : Nat) (K : z_K) (C : z_C) : Prop :=
  z_pop b st [] fun as t => z_b (Nat.ble (z_cat t) 8) (z_rcv X c d as (match dp with
    | 0 => False
    | dp + 1 => (match Nat.beq (X.2.2.2 a).1 0 && Nat.beq (X.2.2.2 a).2 0 with
        | true => C dp a as I R J F cn (fun r I R J F cn => K (pc + 3) L (z_push r t) I R J F cn uc us)
        | false => (uc + (X.2.2.2 a).1 ≤ mc ∧ us + (X.2.2.2 a).2 ≤ ms) ∧ C dp a as I R J F cn (fun r I R J F cn => K (pc + 3) L (z_push r t) I R J F cn (uc + (X.2.2.2 a).1) (us + (X.2.2.2 a).2)))))
/-- one instruction; rt: what the method answers (0 nothing, 1 int, 2 boolean, 3 byte, 4 char, 5 float, 6 long); mc, ms: what it may make -/
def z_step (X : z_X) (rt mc ms dp : Nat) (e : z_E) (L : z_L) (st : List Value) (I : z_I) (R : z_R) (J : z_J) (F : z_F) (cn uc us : Nat) (K : z_K) (C : z_C) (Q : z_Q) : Prop :=
  match e with
  | (pc, ins, len, (a, b, c, d), v, ps) =>
  match ins with
  | .iconst _ => K (pc + len) L (.int v :: st) I R J F cn uc us
  | .bipush _ => K (pc + len) L (.int v :: st) I R J F cn uc us
  | .sipush _ => K (pc + len) L (.int v :: st) I R J F cn uc us
  | .ldc _ => (match c with
    | 0 => K (pc + len) L (.int v :: st) I R J F cn uc us
    | 1 => K (pc + len) L (.float (UInt32.ofNat a) :: st) I R J F cn uc us
    | 2 => K (pc + len) L (.retAddr a :: st) I R J F cn uc us
    | _ => False)
  | .ldc_w _ => (match c with
    | 0 => K (pc + len) L (.int v :: st) I R J F cn uc us
    | _ => False)
  | .ldc2_w _ => K (pc + len) L (.long (Int64.ofNat a) :: st) I R J F cn uc us
  | .lconst n => K (pc + len) L (.long (Int64.ofNat n.1) :: st) I R J F cn uc us
  | .fconst n => (match n.1 with
    | 0 => K (pc + len) L (.float FP.fconst0 :: st) I R J F cn uc us
    | 1 => K (pc + len) L (.float FP.fconst1 :: st) I R J F cn uc us
    | _ => K (pc + len) L (.float FP.fconst2 :: st) I R J F cn uc us)
  | .aconst_null => K (pc + len) L (.null :: st) I R J F cn uc us
  | .iload i => z_int L i fun x => K (pc + len) L (.int x :: st) I R J F cn uc us
  | .iload_n i => z_int L i.1 fun x => K (pc + len) L (.int x :: st) I R J F cn uc us
  | .aload i => z_ref L i (fun x => K (pc + len) L (.ref x :: st) I R J F cn uc us) (fun x => K (pc + len) L (.retAddr x :: st) I R J F cn uc us) (K (pc + len) L (.null :: st) I R J F cn uc us)
  | .aload_n i => z_ref L i.1 (fun x => K (pc + len) L (.ref x :: st) I R J F cn uc us) (fun x => K (pc + len) L (.retAddr x :: st) I R J F cn uc us) (K (pc + len) L (.null :: st) I R J F cn uc us)
  | .fload i => z_flt L i fun x => K (pc + len) L (.float x :: st) I R J F cn uc us
  | .fload_n i => z_flt L i.1 fun x => K (pc + len) L (.float x :: st) I R J F cn uc us
  | .lload i => z_lng L i fun x => K (pc + len) L (.long x :: st) I R J F cn uc us
  | .lload_n i => z_lng L i.1 fun x => K (pc + len) L (.long x :: st) I R J F cn uc us
  | .istore i => z_vi st fun x t => z_fc (z_set1 L i (.int x)) fun L => K (pc + len) L t I R J F cn uc us
  | .istore_n i => z_vi st fun x t => z_fc (z_set1 L i.1 (.int x)) fun L => K (pc + len) L t I R J F cn uc us
  | .fstore i => z_vf st fun x t => z_fc (z_set1 L i (.float x)) fun L => K (pc + len) L t I R J F cn uc us
  | .fstore_n i => z_vf st fun x t => z_fc (z_set1 L i.1 (.float x)) fun L => K (pc + len) L t I R J F cn uc us
  | .astore i => z_vr st fun x t => z_fc (z_set1 L i (.ref x)) fun L => K (pc + len) L t I R J F cn uc us
  | .astore_n i => z_vr st fun x t => z_fc (z_set1 L i.1 (.ref x)) fun L => K (pc + len) L t I R J F cn uc us
  | .lstore i => z_vj st fun x t => z_fc (z_set2 L i (.long x)) fun L => K (pc + len) L t I R J F cn uc us
  | .lstore_n i => z_vj st fun x t => z_fc (z_set2 L i.1 (.long x)) fun L => K (pc + len) L t I R J F cn uc us
  | .iinc i _ => z_int L i fun x => z_fc (z_set1 L i (.int (x + v))) fun L => K (pc + len) L st I R J F cn uc us
  | .iadd => z_ii st (fun x y => x + y) fun st => K (pc + len) L st I R J F cn uc us
  | .isub => z_ii st (fun x y => x - y) fun st => K (pc + len) L st I R J F cn uc us
  | .imul => z_ii st (fun x y => x * y) fun st => K (pc + len) L st I R J F cn uc us
  | .iand => z_ii st (fun x y => x &&& y) fun st => K (pc + len) L st I R J F cn uc us
  | .ior => z_ii st (fun x y => x ||| y) fun st => K (pc + len) L st I R J F cn uc us
  | .ixor => z_ii st (fun x y => x ^^^ y) fun st => K (pc + len) L st I R J F cn uc us
  | .ishl => z_ii st (fun x y => x <<< (y &&& 31)) fun st => K (pc + len) L st I R J F cn uc us
  | .ishr => z_ii st (fun x y => x >>> (y &&& 31)) fun st => K (pc + len) L st I R J F cn uc us
  | .iushr => z_ii st (fun x y => (x.toUInt32 >>> (y.toUInt32 &&& Int32.toUInt32 31)).toInt32) fun st => K (pc + len) L st I R J F cn uc us
  | .idiv => z_vi st fun y t => z_vi t fun x t => ¬ y = 0 ∧ K (pc + len) L (.int (x / y) :: t) I R J F cn uc us
  | .irem => z_vi st fun y t => z_vi t fun x t => ¬ y = 0 ∧ K (pc + len) L (.int (x - x / y * y) :: t) I R J F cn uc us
  | .ineg => z_i1 st (fun x => -x) fun st => K (pc + len) L st I R J F cn uc us
  | .i2b => z_i1 st (fun x => x.toInt8.toInt32) fun st => K (pc + len) L st I R J F cn uc us
  | .i2c => z_i1 st (fun x => (x.toUInt32 % 65536).toInt32) fun st => K (pc + len) L st I R J F cn uc us
  | .ladd => z_jj st (fun x y => x + y) fun st => K (pc + len) L st I R J F cn uc us
  | .lsub => z_jj st (fun x y => x - y) fun st => K (pc + len) L st I R J F cn uc us
  | .land => z_jj st (fun x y => x &&& y) fun st => K (pc + len) L st I R J F cn uc us
  | .lor => z_jj st (fun x y => x ||| y) fun st => K (pc + len) L st I R J F cn uc us
  | .lxor => z_jj st (fun x y => x ^^^ y) fun st => K (pc + len) L st I R J F cn uc us
  | .lshl => z_vi st fun y t => z_vj t fun x t => K (pc + len) L (.long (x <<< (y.toInt64 &&& 63)) :: t) I R J F cn uc us
  | .lushr => z_vi st fun y t => z_vj t fun x t => K (pc + len) L (.long (x.toUInt64 >>> (y.toInt64.toUInt64 &&& Int64.toUInt64 63)).toInt64 :: t) I R J F cn uc us
  | .lcmp => z_vj st fun y t => z_vj t fun x t => K (pc + len) L (.int (lg_cmp x y) :: t) I R J F cn uc us
  | .l2i => z_vj st fun x t => K (pc + len) L (.int x.toInt32 :: t) I R J F cn uc us
  | .i2f => z_vi st fun x t => K (pc + len) L (.float (FP.i2f x) :: t) I R J F cn uc us
  | .f2i => z_vf st fun x t => K (pc + len) L (.int (FP.f2i x) :: t) I R J F cn uc us
  | .fneg => z_vf st fun x t => K (pc + len) L (.float (FP.fneg x) :: t) I R J F cn uc us
  | .fadd => z_ff st FP.fadd fun st => K (pc + len) L st I R J F cn uc us
  | .fsub => z_ff st FP.fsub fun st => K (pc + len) L st I R J F cn uc us
  | .fmul => z_ff st FP.fmul fun st => K (pc + len) L st I R J F cn uc us
  | .fdiv => z_ff st FP.fdiv fun st => K (pc + len) L st I R J F cn uc us
  | .fcmp op => z_vf st fun y t => z_vf t fun x t => K (pc + len) L (.int (Op.cmpValue (FP.fcmp x y) op) :: t) I R J F cn uc us
  | .dup => z_vir st (fun x t => K (pc + len) L (.int x :: .int x :: t) I R J F cn uc us) (fun x t => K (pc + len) L (.ref x :: .ref x :: t) I R J F cn uc us)
  | .dup2 => z_vi st fun x t => z_vr t fun y t => K (pc + len) L (.int x :: .ref y :: .int x :: .ref y :: t) I R J F cn uc us
  | .pop => z_vir st (fun _ t => K (pc + len) L t I R J F cn uc us) (fun _ t => K (pc + len) L t I R J F cn uc us)
  | .goto _ => K a L st I R J F cn uc us
  | .ifCond q _ => z_vi st fun x t => z_if1 q x (K a L t I R J F cn uc us) (K (pc + 3) L t I R J F cn uc us)
  | .if_icmp q _ => z_vi st fun y t => z_vi t fun x t => z_if2 q x y (K a L t I R J F cn uc us) (K (pc + 3) L t I R J F cn uc us)
  | .ifnull _ => z_vo st (fun _ t => K (pc + 3) L t I R J F cn uc us) (fun _ _ => False) (fun t => K a L t I R J F cn uc us)
  | .ifnonnull _ => z_vo st (fun _ t => K a L t I R J F cn uc us) (fun _ _ => False) (fun t => K (pc + 3) L t I R J F cn uc us)
  | .tableswitch _ _ _ _ => z_vi st fun x t => z_sw x (fun g => K g L t I R J F cn uc us) a ps
  | .lookupswitch _ _ => z_vi st fun x t => z_sw x (fun g => K g L t I R J F cn uc us) a ps
  | .getfield _ => z_gf X a b c st I R fun st => K (pc + len) L st I R J F cn uc us
  | .putfield _ => z_pf X a b c st I R fun t I R => K (pc + len) L t I R J F cn uc us
  | .getstatic _ => (match c with
    | 0 => K (pc + len) L (.int v :: st) I R J F cn uc us
    | 1 => K (pc + len) L (.retAddr a :: st) I R J F cn uc us
    | _ => False)
  | .iaload => z_ild X 1 st I fun st => K (pc + len) L st I R J F cn uc us
  | .baload => z_ild X 2 st I fun st => K (pc + len) L st I R J F cn uc us
  | .laload => z_jld X st J fun st => K (pc + len) L st I R J F cn uc us
  | .faload => z_fld X st F fun st => K (pc + len) L st I R J F cn uc us
  | .iastore => z_ist X st I fun t I => K (pc + len) L t I R J F cn uc us
  | .bastore => z_bst X st I fun t I => K (pc + len) L t I R J F cn uc us
  | .lastore => z_jst X st J fun t J => K (pc + len) L t I R J F cn uc us
  | .fastore => z_fst X st F fun t F => K (pc + len) L t I R J F cn uc us
  | .arraylength => z_len X st fun st => K (pc + len) L st I R J F cn uc us
  | .newarray _ => z_na X c st I J F cn uc us mc ms fun t I J F cn uc us => K (pc + len) L t I R J F cn uc us
  | .new _ => z_no X a b I R cn uc us mc ms fun w I R cn uc us => K (pc + len) L (w :: st) I R J F cn uc us
  | .invokestatic _ => (match c with
    | 10 => z_cp X st I J F fun t I J F => K (pc + len) L t I R J F cn uc us
    | 11 => z_vf st fun x t => K (pc + len) L (.int x.toInt32 :: t) I R J F cn uc us
    | 12 => z_vi st fun x t => vn_sni2f x = false ∧ K (pc + len) L (.float x.toUInt32 :: t) I R J F cn uc us
    | _ => z_call X dp a b c d pc L st I R J F cn uc us mc ms K C)
  | .invokevirtual _ => z_call X dp a b c d pc L st I R J F cn uc us mc ms K C
  | .invokespecial _ => (match c with
    | 13 => z_vr st fun _ t => K (pc + len) L t I R J F cn uc us
    | _ => z_call X dp a b c d pc L st I R J F cn uc us mc ms K C)
  | .ireturn => z_vi st fun x t => (match t, rt with
    | [], 1 => Q (some (.int x)) I R J F cn
    | [], 2 => (x = 0 ∨ x = 1) ∧ Q (some (.int x)) I R J F cn
    | [], 3 => x.toInt8.toInt32 = x ∧ Q (some (.int x)) I R J F cn
    | [], 4 => (x.toUInt32 % 65536).toInt32 = x ∧ Q (some (.int x)) I R J F cn
    | _, _ => False)
  | .freturn => z_vf st fun x t => (match t, rt with
    | [], 5 => Q (some (.float x)) I R J F cn
    | _, _ => False)
  | .lreturn => z_vj st fun x t => (match t, rt with
    | [], 6 => Q (some (.long x)) I R J F cn
    | _, _ => False)
  | .return_ => (match st, rt with
    | [], 0 => Q none I R J F cn
    | _, _ => False)
  | _ => False
/-- the rows from a pc on -/
def z_from (pc : Nat) : List z_E → List z_E
  | [] => []
  | e :: l => bif Nat.beq e.1 pc then e :: l else z_from pc l
def z_nx (pc : Nat) (cs cd : List z_E) : List z_E := match cs with
  | [] => z_from pc cd
  | e :: l => bif Nat.beq e.1 pc then e :: l else z_from pc cd
/-- the entry's locals: a long takes two places -/
def z_ent : Nat → List Value → z_L
  | 0, _ => []
  | n + 1, [] => none :: z_ent n []
  | n + 1, .long x :: l => some (.long x) :: (match n with
    | 0 => []
    | k + 1 => none :: z_ent k l)
  | n + 1, v :: l => some v :: z_ent n l
/-- the methods by number: what it answers, its locals, its rows -/
abbrev z_P : Type := Nat → Nat × Nat × List z_E
/-- n instructions at most -/
def z_run (X : z_X) (P : z_P) (m dp : Nat) : Nat → List z_E → z_L → List Value → z_I → z_R → z_J → z_F → Nat → Nat → Nat → z_K → z_C → z_Q → Prop
  | 0, cs, L, st, I, R, J, F, cn, uc, us, K, _, _ => (match cs with
    | [] => False
    | e :: _ => K e.1 L st I R J F cn uc us)
  | n + 1, cs, L, st, I, R, J, F, cn, uc, us, K, C, Q => (match cs with
    | [] => False
    | e :: cs => z_step X (P m).1 (X.2.2.2 m).1 (X.2.2.2 m).2 dp e L st I R J F cn uc us (fun pc L st I R J F cn uc us => z_run X P m dp n (z_nx pc cs (P m).2.2) L st I R J F cn uc us K C Q) C Q)
abbrev z_Z : Type := Nat → Nat → Nat → z_L → List Value → z_I → z_R → z_J → z_F → Nat → Nat → Nat → z_Q → Prop
def z_Mo (Z : z_Z) : Prop := ∀ (d m pc : Nat) (L : z_L) (st : List Value) (I : z_I) (R : z_R) (J : z_J) (F : z_F) (cn uc us : Nat) (Q Q' : z_Q), (∀ v I R J F cn, Q v I R J F cn → Q' v I R J F cn) → Z d m pc L st I R J F cn uc us Q → Z d m pc L st I R J F cn uc us Q'
def z_Cl (X : z_X) (P : z_P) (Z : z_Z) : Prop := ∀ (d m : Nat) (e : z_E) (L : z_L) (st : List Value) (I : z_I) (R : z_R) (J : z_J) (F : z_F) (cn uc us : Nat) (Q : z_Q), e ∈ (P m).2.2 →
  z_step X (P m).1 (X.2.2.2 m).1 (X.2.2.2 m).2 d e L st I R J F cn uc us (fun pc L st I R J F cn uc us => Z d m pc L st I R J F cn uc us Q) (fun d k as I R J F cn Q' => Z d k 0 (z_ent (P k).2.1 as) [] I R J F cn 0 0 Q') Q → Z d m e.1 L st I R J F cn uc us Q
/-- the plain reading comes to an end with Q -/
def z_WP (X : z_X) (P : z_P) : z_Z := fun d m pc L st I R J F cn uc us Q => ∀ Z : z_Z, z_Mo Z → z_Cl X P Z → Z d m pc L st I R J F cn uc us Q
/-- a call of a method -/
def z_M (X : z_X) (P : z_P) : z_C := fun d k as I R J F cn Q => z_WP X P d k 0 (z_ent (P k).2.1 as) [] I R J F cn 0 0 Q
end
section
/-! elimination rows -/
theorem z_vi_el {st : List Value} {k : Int32 → List Value → Prop} (h : z_vi st k) : ∃ x t, st = .int x :: t ∧ k x t := by
  unfold z_vi at h; split at h
  · exact ⟨_, _, rfl, h⟩
  · exact h.elim
theorem z_vf_el {st : List Value} {k : UInt32 → List Value → Prop} (h : z_vf st k) : ∃ x t, st = .float x :: t ∧ k x t := by
  unfold z_vf at h; split at h
  · exact ⟨_, _, rfl, h⟩
  · exact h.elim
theorem z_vj_el {st : List Value} {k : Int64 → List Value → Prop} (h : z_vj st k) : ∃ x t, st = .long x :: t ∧ k x t := by
  unfold z_vj at h; split at h
  · exact ⟨_, _, rfl, h⟩
  · exact h.elim
theorem z_vr_el {st : List Value} {k : Nat → List Value → Prop} (h : z_vr st k) : ∃ x t, st = .ref x :: t ∧ k x t := by
  unfold z_vr at h; split at h
  · exact ⟨_, _, rfl, h⟩
  · exact h.elim
theorem z_vo_el {st : List Value} {k ko : Nat → List Value → Prop} {kn : List Value → Prop} (h : z_vo st k ko kn) : (∃ x t, st = .ref x :: t ∧ k x t) ∨ (∃ x t, st = .retAddr x :: t ∧ ko x t) ∨ ∃ t, st = .null :: t ∧ kn t := by
  unfold z_vo at h; split at h
  · exact Or.inl ⟨_, _, rfl, h⟩
  · exact Or.inr (Or.inl ⟨_, _, rfl, h⟩)
  · exact Or.inr (Or.inr ⟨_, rfl, h⟩)
  · exact h.elim
theorem z_vir_el {st : List Value} {k : Int32 → List Value → Prop} {kr : Nat → List Value → Prop} (h : z_vir st k kr) : (∃ x t, st = .int x :: t ∧ k x t) ∨ (∃ x t, st = .ref x :: t ∧ kr x t) := by
  unfold z_vir at h; split at h
  · exact Or.inl ⟨_, _, rfl, h⟩
  · exact Or.inr ⟨_, _, rfl, h⟩
  · exact h.elim
theorem z_b_el {b : Bool} {k : Prop} (h : z_b b k) : b = true ∧ k := by
  unfold z_b at h; split at h
  · exact ⟨rfl, h⟩
  · exact h.elim
theorem z_int_el {L : z_L} {i : Nat} {k : Int32 → Prop} (h : z_int L i k) : ∃ x, z_get L i = some (.int x) ∧ k x := by
  unfold z_int at h; split at h
  · rename_i x e; exact ⟨x, e, h⟩
  · exact h.elim
theorem z_flt_el {L : z_L} {i : Nat} {k : UInt32 → Prop} (h : z_flt L i k) : ∃ x, z_get L i = some (.float x) ∧ k x := by
  unfold z_flt at h; split at h
  · rename_i x e; exact ⟨x, e, h⟩
  · exact h.elim
theorem z_lng_el {L : z_L} {i : Nat} {k : Int64 → Prop} (h : z_lng L i k) : ∃ x, z_get L i = some (.long x) ∧ k x := by
  unfold z_lng at h; split at h
  · rename_i x e; exact ⟨x, e, h⟩
  · exact h.elim
theorem z_ref_el {L : z_L} {i : Nat} {k ko : Nat → Prop} {kn : Prop} (h : z_ref L i k ko kn) : (∃ x, z_get L i = some (.ref x) ∧ k x) ∨ (∃ x, z_get L i = some (.retAddr x) ∧ ko x) ∨ (z_get L i = some .null ∧ kn) := by
  unfold z_ref at h; split at h
  · rename_i x e; exact Or.inl ⟨x, e, h⟩
  · rename_i x e; exact Or.inr (Or.inl ⟨x, e, h⟩)
  · rename_i e; exact Or.inr (Or.inr ⟨e, h⟩)
  · exact h.elim
theorem z_fc_iff : ∀ (l : z_L) (k : z_L → Prop), z_fc l k ↔ k l
  | [], k => Iff.rfl
  | a :: l, k => z_fc_iff l (fun l => k (a :: l))
theorem z_pop_el : ∀ (n : Nat) (st as : List Value) (k : List Value → List Value → Prop), z_pop n st as k → ∃ as' t, as'.length = n ∧ st = as'.reverse ++ t ∧ k (as' ++ as) t
  | 0, st, as, k, h => ⟨[], st, rfl, rfl, h⟩
  | n + 1, [], as, k, h => h.elim
  | n + 1, v :: st, as, k, h => by
    obtain ⟨as', t, e1, e2, h⟩ := z_pop_el n st (v :: as) k h
    refine ⟨as' ++ [v], t, by simp [e1], by simp [e2], ?_⟩
    simpa using h
theorem z_pop_in : ∀ (n : Nat) (st as : List Value) (k : List Value → List Value → Prop) (as' t : List Value), as'.length = n → st = as'.reverse ++ t → k (as' ++ as) t → z_pop n st as k
  | 0, st, as, k, as', t, e1, e2, h => by
    cases as' with
    | nil => subst e2; exact h
    | cons a l => simp at e1
  | n + 1, st, as, k, as', t, e1, e2, h => by
    rcases List.eq_nil_or_concat as' with rfl | ⟨l, b, rfl⟩
    · simp at e1
    · subst e2
      have e3 : l.length = n := by simpa using e1
      simp only [List.concat_eq_append, List.reverse_append, List.reverse_cons, List.reverse_nil, List.nil_append, List.cons_append]
      exact z_pop_in n (l.reverse ++ t) (b :: as) k l t e3 rfl (by simpa using h)
theorem z_if1_mono {c : ClassFile.Cond} {x : Int32} {A B A' B' : Prop} (hA : A → A') (hB : B → B') (h : z_if1 c x A B) : z_if1 c x A' B' := by
  cases c <;> exact ⟨fun q => hA (h.1 q), fun q => hB (h.2 q)⟩
theorem z_if2_mono {c : ClassFile.Cond} {x y : Int32} {A B A' B' : Prop} (hA : A → A') (hB : B → B') (h : z_if2 c x y A B) : z_if2 c x y A' B' := by
  cases c <;> exact ⟨fun q => hA (h.1 q), fun q => hB (h.2 q)⟩
theorem z_sw_mono {x : Int32} {k k' : Nat → Prop} {d : Nat} (hk : ∀ t, k t → k' t) : ∀ (ps : List (Int32 × Nat)), z_sw x k d ps → z_sw x k' d ps
  | [], h => hk _ h
  | (v, t) :: r, h => ⟨fun q => hk _ (h.1 q), fun q => z_sw_mono hk r (h.2 q)⟩
theorem z_ii_el {st : List Value} {f : Int32 → Int32 → Int32} {k : List Value → Prop} (h : z_ii st f k) : ∃ x y t, st = .int y :: .int x :: t ∧ k (.int (f x y) :: t) := by
  obtain ⟨y, t, rfl, h1⟩ := z_vi_el h
  obtain ⟨x, t, rfl, h2⟩ := z_vi_el h1
  exact ⟨x, y, t, rfl, h2⟩
theorem z_i1_el {st : List Value} {f : Int32 → Int32} {k : List Value → Prop} (h : z_i1 st f k) : ∃ x t, st = .int x :: t ∧ k (.int (f x) :: t) := z_vi_el h
theorem z_jj_el {st : List Value} {f : Int64 → Int64 → Int64} {k : List Value → Prop} (h : z_jj st f k) : ∃ x y t, st = .long y :: .long x :: t ∧ k (.long (f x y) :: t) := by
  obtain ⟨y, t, rfl, h1⟩ := z_vj_el h
  obtain ⟨x, t, rfl, h2⟩ := z_vj_el h1
  exact ⟨x, y, t, rfl, h2⟩
theorem z_ff_el {st : List Value} {f : UInt32 → UInt32 → UInt32} {k : List Value → Prop} (h : z_ff st f k) : ∃ x y t, st = .float y :: .float x :: t ∧ vf_n32 (f x y) ∧ k (.float (f x y) :: t) := by
  obtain ⟨y, t, rfl, h1⟩ := z_vf_el h
  obtain ⟨x, t, rfl, h2⟩ := z_vf_el h1
  exact ⟨x, y, t, rfl, h2⟩
/-! one instruction is monotone in what follows it -/
theorem z_vi_m {st : List Value} {k k' : Int32 → List Value → Prop} (h : ∀ x t, k x t → k' x t) (q : z_vi st k) : z_vi st k' := by
  obtain ⟨x, t, rfl, q⟩ := z_vi_el q; exact h _ _ q
theorem z_vf_m {st : List Value} {k k' : UInt32 → List Value → Prop} (h : ∀ x t, k x t → k' x t) (q : z_vf st k) : z_vf st k' := by
  obtain ⟨x, t, rfl, q⟩ := z_vf_el q; exact h _ _ q
theorem z_vj_m {st : List Value} {k k' : Int64 → List Value → Prop} (h : ∀ x t, k x t → k' x t) (q : z_vj st k) : z_vj st k' := by
  obtain ⟨x, t, rfl, q⟩ := z_vj_el q; exact h _ _ q
theorem z_vr_m {st : List Value} {k k' : Nat → List Value → Prop} (h : ∀ x t, k x t → k' x t) (q : z_vr st k) : z_vr st k' := by
  obtain ⟨x, t, rfl, q⟩ := z_vr_el q; exact h _ _ q
theorem z_vo_m {st : List Value} {k k' ko ko' : Nat → List Value → Prop} {kn kn' : List Value → Prop} (h : ∀ x t, k x t → k' x t) (ho : ∀ x t, ko x t → ko' x t) (hn : ∀ t, kn t → kn' t) (q : z_vo st k ko kn) : z_vo st k' ko' kn' := by
  rcases z_vo_el q with ⟨x, t, rfl, q⟩ | ⟨x, t, rfl, q⟩ | ⟨t, rfl, q⟩
  · exact h _ _ q
  · exact ho _ _ q
  · exact hn _ q
theorem z_vir_m {st : List Value} {k k' : Int32 → List Value → Prop} {kr kr' : Nat → List Value → Prop} (h : ∀ x t, k x t → k' x t) (hr : ∀ x t, kr x t → kr' x t) (q : z_vir st k kr) : z_vir st k' kr' := by
  rcases z_vir_el q with ⟨x, t, rfl, q⟩ | ⟨x, t, rfl, q⟩
  · exact h _ _ q
  · exact hr _ _ q
theorem z_b_m {b : Bool} {k k' : Prop} (h : k → k') (q : z_b b k) : z_b b k' := by
  obtain ⟨rfl, q⟩ := z_b_el q; exact h q
theorem z_int_m {L : z_L} {i : Nat} {k k' : Int32 → Prop} (h : ∀ x, k x → k' x) (q : z_int L i k) : z_int L i k' := by
  obtain ⟨x, e, q⟩ := z_int_el q; unfold z_int; rw [e]; exact h _ q
theorem z_flt_m {L : z_L} {i : Nat} {k k' : UInt32 → Prop} (h : ∀ x, k x → k' x) (q : z_flt L i k) : z_flt L i k' := by
  obtain ⟨x, e, q⟩ := z_flt_el q; unfold z_flt; rw [e]; exact h _ q
theorem z_lng_m {L : z_L} {i : Nat} {k k' : Int64 → Prop} (h : ∀ x, k x → k' x) (q : z_lng L i k) : z_lng L i k' := by
  obtain ⟨x, e, q⟩ := z_lng_el q; unfold z_lng; rw [e]; exact h _ q
theorem z_ref_m {L : z_L} {i : Nat} {k k' ko ko' : Nat → Prop} {kn kn' : Prop} (h : ∀ x, k x → k' x) (ho : ∀ x, ko x → ko' x) (hn : kn → kn') (q : z_ref L i k ko kn) : z_ref L i k' ko' kn' := by
  rcases z_ref_el q with ⟨x, e, q⟩ | ⟨x, e, q⟩ | ⟨e, q⟩ <;> unfold z_ref <;> rw [e]
  · exact h _ q
  · exact ho _ q
  · exact hn q
theorem z_fc_m {l : z_L} {k k' : z_L → Prop} (h : ∀ l, k l → k' l) (q : z_fc l k) : z_fc l k' := (z_fc_iff _ _).mpr (h _ ((z_fc_iff _ _).mp q))
theorem z_ii_m {st : List Value} {f : Int32 → Int32 → Int32} {k k' : List Value → Prop} (h : ∀ t, k t → k' t) (q : z_ii st f k) : z_ii st f k' := z_vi_m (fun _ _ => z_vi_m fun _ _ => h _) q
theorem z_i1_m {st : List Value} {f : Int32 → Int32} {k k' : List Value → Prop} (h : ∀ t, k t → k' t) (q : z_i1 st f k) : z_i1 st f k' := z_vi_m (fun _ _ => h _) q
theorem z_jj_m {st : List Value} {f : Int64 → Int64 → Int64} {k k' : List Value → Prop} (h : ∀ t, k t → k' t) (q : z_jj st f k) : z_jj st f k' := z_vj_m (fun _ _ => z_vj_m fun _ _ => h _) q
theorem z_ff_m {st : List Value} {f : UInt32 → UInt32 → UInt32} {k k' : List Value → Prop} (h : ∀ t, k t → k' t) (q : z_ff st f k) : z_ff st f k' := z_vf_m (fun _ _ => z_vf_m fun _ _ z => ⟨z.1, h _ z.2⟩) q
theorem z_pop_m {n : Nat} {st as : List Value} {k k' : List Value → List Value → Prop} (h : ∀ a t, k a t → k' a t) (q : z_pop n st as k) : z_pop n st as k' := by
  obtain ⟨as', t, e1, e2, q⟩ := z_pop_el n st as k q
  exact z_pop_in n st as k' as' t e1 e2 (h _ _ q)
theorem z_ild_m {X : z_X} {kd : Nat} {st : List Value} {I : z_I} {k k' : List Value → Prop} (h : ∀ t, k t → k' t) (q : z_ild X kd st I k) : z_ild X kd st I k' :=
  z_vi_m (fun _ _ => z_vo_m (fun _ _ => z_b_m fun z => ⟨z.1, h _ z.2⟩) (fun _ _ => z_b_m fun z => ⟨z.1, h _ z.2⟩) (fun _ z => z)) q
theorem z_jld_m {X : z_X} {st : List Value} {J : z_J} {k k' : List Value → Prop} (h : ∀ t, k t → k' t) (q : z_jld X st J k) : z_jld X st J k' :=
  z_vi_m (fun _ _ => z_vr_m fun _ _ => z_b_m fun z => ⟨z.1, h _ z.2⟩) q
theorem z_fld_m {X : z_X} {st : List Value} {F : z_F} {k k' : List Value → Prop} (h : ∀ t, k t → k' t) (q : z_fld X st F k) : z_fld X st F k' :=
  z_vi_m (fun _ _ => z_vr_m fun _ _ => z_b_m fun z => ⟨z.1, h _ z.2⟩) q
theorem z_ist_m {X : z_X} {st : List Value} {I : z_I} {k k' : List Value → z_I → Prop} (h : ∀ t I, k t I → k' t I) (q : z_ist X st I k) : z_ist X st I k' :=
  z_vi_m (fun _ _ => z_vi_m fun _ _ => z_vr_m fun _ _ => z_b_m fun z => ⟨z.1, h _ _ z.2⟩) q
theorem z_bst_m {X : z_X} {st : List Value} {I : z_I} {k k' : List Value → z_I → Prop} (h : ∀ t I, k t I → k' t I) (q : z_bst X st I k) : z_bst X st I k' :=
  z_vi_m (fun _ _ => z_vi_m fun _ _ => z_vr_m fun _ _ => z_b_m fun z => ⟨z.1, h _ _ z.2⟩) q
theorem z_jst_m {X : z_X} {st : List Value} {J : z_J} {k k' : List Value → z_J → Prop} (h : ∀ t I, k t I → k' t I) (q : z_jst X st J k) : z_jst X st J k' :=
  z_vj_m (fun _ _ => z_vi_m fun _ _ => z_vr_m fun _ _ => z_b_m fun z => ⟨z.1, h _ _ z.2⟩) q
theorem z_fst_m {X : z_X} {st : List Value} {F : z_F} {k k' : List Value → z_F → Prop} (h : ∀ t I, k t I → k' t I) (q : z_fst X st F k) : z_fst X st F k' :=
  z_vf_m (fun _ _ => z_vi_m fun _ _ => z_vr_m fun _ _ => z_b_m fun z => ⟨z.1, h _ _ z.2⟩) q
theorem z_len_m {X : z_X} {st : List Value} {k k' : List Value → Prop} (h : ∀ t, k t → k' t) (q : z_len X st k) : z_len X st k' :=
  z_vo_m (fun _ _ => z_b_m (h _)) (fun _ _ => z_b_m (h _)) (fun _ z => z) q
theorem z_gf_m {X : z_X} {a b c : Nat} {st : List Value} {I : z_I} {R : z_R} {k k' : List Value → Prop} (h : ∀ t, k t → k' t) (q : z_gf X a b c st I R k) : z_gf X a b c st I R k' := by
  unfold z_gf at q ⊢
  split at q
  · exact z_vr_m (fun _ _ => z_b_m (h _)) q
  · exact z_vr_m (fun _ _ => z_b_m (z_vo_m (fun _ _ => h _) (fun _ _ => h _) (fun _ => h _))) q
  · exact z_vo_m (fun _ _ z => z) (fun _ _ => z_vi_m (fun _ _ => h _)) (fun _ z => z) q
  · exact z_vo_m (fun _ _ z => z) (fun _ _ => z_vo_m (fun _ _ z => z) (fun _ _ => h _) (fun _ z => z)) (fun _ z => z) q
  · exact q.elim
theorem z_pf_m {X : z_X} {a b c : Nat} {st : List Value} {I : z_I} {R : z_R} {k k' : List Value → z_I → z_R → Prop} (h : ∀ t I R, k t I R → k' t I R) (q : z_pf X a b c st I R k) : z_pf X a b c st I R k' := by
  unfold z_pf at q ⊢
  split at q
  · exact z_vi_m (fun _ _ => z_vr_m fun _ _ => z_b_m (h _ _ _)) q
  · exact z_vo_m (fun _ _ => z_vr_m fun _ _ => z_b_m (h _ _ _)) (fun _ _ => z_vr_m fun _ _ => z_b_m (h _ _ _)) (fun _ => z_vr_m fun _ _ => z_b_m (h _ _ _)) q
  · exact z_vi_m (fun _ _ => z_vr_m fun _ _ => z_b_m fun z => ⟨z.1, h _ _ _ z.2⟩) q
  · exact q.elim
theorem z_na_m {X : z_X} {kd : Nat} {st : List Value} {I : z_I} {J : z_J} {F : z_F} {cn uc us mc ms : Nat} {k k' : List Value → z_I → z_J → z_F → Nat → Nat → Nat → Prop} (h : ∀ t I J F cn uc us, k t I J F cn uc us → k' t I J F cn uc us) (q : z_na X kd st I J F cn uc us mc ms k) : z_na X kd st I J F cn uc us mc ms k' :=
  z_vi_m (fun _ _ => z_b_m fun z => ⟨z.1, h _ _ _ _ _ _ _ z.2⟩) q
theorem z_no_m {X : z_X} {a n : Nat} {I : z_I} {R : z_R} {cn uc us mc ms : Nat} {k k' : Value → z_I → z_R → Nat → Nat → Nat → Prop} (h : ∀ t I R cn uc us, k t I R cn uc us → k' t I R cn uc us) (q : z_no X a n I R cn uc us mc ms k) : z_no X a n I R cn uc us mc ms k' :=
  z_b_m (fun z => ⟨z.1, h _ _ _ _ _ _ z.2⟩) q
theorem z_cp_m {X : z_X} {st : List Value} {I : z_I} {J : z_J} {F : z_F} {k k' : List Value → z_I → z_J → z_F → Prop} (h : ∀ t I J F, k t I J F → k' t I J F) (q : z_cp X st I J F k) : z_cp X st I J F k' := by
  refine z_vi_m (fun n _ => z_vi_m fun dp _ => z_vr_m fun q _ => z_vi_m fun sp _ => z_vr_m fun p _ => z_b_m fun z => ⟨z.1, ?_⟩) q
  have z := z.2
  split at z
  · exact h _ _ _ _ z
  · exact h _ _ _ _ z
  · exact h _ _ _ _ z
  · exact z.elim
theorem z_rcv_m {X : z_X} {c d : Nat} {as : List Value} {k k' : Prop} (h : k → k') (q : z_rcv X c d as k) : z_rcv X c d as k' := by
  unfold z_rcv at q ⊢
  split at q
  · exact h q
  · exact h q
  · exact z_vo_m (fun _ _ z => z) (fun _ _ => h) (fun _ z => z) q
  · exact z_vr_m (fun _ _ => z_b_m h) q
abbrev z_CM (C C' : z_C) : Prop := ∀ (d k : Nat) (as : List Value) (I : z_I) (R : z_R) (J : z_J) (F : z_F) (cn : Nat) (Q Q' : z_Q), (∀ v I R J F cn, Q v I R J F cn → Q' v I R J F cn) → C d k as I R J F cn Q → C' d k as I R J F cn Q'
abbrev z_KM (K K' : z_K) : Prop := ∀ pc L st I R J F cn uc us, K pc L st I R J F cn uc us → K' pc L st I R J F cn uc us
theorem z_call_m {X : z_X} {dp a b c d pc : Nat} {L : z_L} {st : List Value} {I : z_I} {R : z_R} {J : z_J} {F : z_F} {cn uc us mc ms : Nat} {K K' : z_K} {C C' : z_C} (hK : z_KM K K') (hC : z_CM C C') (q : z_call X dp a b c d pc L st I R J F cn uc us mc ms K C) : z_call X dp a b c d pc L st I R J F cn uc us mc ms K' C' := by
  refine z_pop_m (fun _ _ => z_b_m (z_rcv_m fun z => ?_)) q
  cases dp with
  | zero => exact z
  | succ dp =>
    simp only at z ⊢
    split at z
    · exact hC _ _ _ _ _ _ _ _ _ _ (fun _ _ _ _ _ _ => hK _ _ _ _ _ _ _ _ _ _) z
    · exact ⟨z.1, hC _ _ _ _ _ _ _ _ _ _ (fun _ _ _ _ _ _ => hK _ _ _ _ _ _ _ _ _ _) z.2⟩

theorem z_step_m {X : z_X} {rt mc ms dp : Nat} {e : z_E} {L : z_L} {st : List Value} {I : z_I} {R : z_R} {J : z_J} {F : z_F} {cn uc us : Nat} {K K' : z_K} {C C' : z_C} {Q : z_Q} (hK : z_KM K K') (hC : z_CM C C') (q : z_step X rt mc ms dp e L st I R J F cn uc us K C Q) : z_step X rt mc ms dp e L st I R J F cn uc us K' C' Q := by
  obtain ⟨pc, ins, len, ⟨a, b, c, d⟩, v, ps⟩ := e
  have g : ∀ {pc L st I R J F cn uc us}, K pc L st I R J F cn uc us → K' pc L st I R J F cn uc us := fun q => hK _ _ _ _ _ _ _ _ _ _ q
  cases ins <;> simp only [z_step] at q ⊢ <;> first
    | exact q
    | exact g q
    | exact z_ii_m (fun _ => g) q
    | exact z_i1_m (fun _ => g) q
    | exact z_jj_m (fun _ => g) q
    | exact z_ff_m (fun _ => g) q
    | exact z_int_m (fun _ => g) q
    | exact z_flt_m (fun _ => g) q
    | exact z_lng_m (fun _ => g) q
    | exact z_ref_m (fun _ => g) (fun _ => g) g q
    | exact z_vi_m (fun _ _ => z_fc_m fun _ => g) q
    | exact z_vf_m (fun _ _ => z_fc_m fun _ => g) q
    | exact z_vj_m (fun _ _ => z_fc_m fun _ => g) q
    | exact z_vr_m (fun _ _ => z_fc_m fun _ => g) q
    | exact z_int_m (fun _ => z_fc_m fun _ => g) q
    | exact z_vi_m (fun _ _ => g) q
    | exact z_vf_m (fun _ _ => g) q
    | exact z_vj_m (fun _ _ => g) q
    | exact z_vi_m (fun _ _ => z_vi_m fun _ _ z => ⟨z.1, g z.2⟩) q
    | exact z_vi_m (fun _ _ => z_vj_m fun _ _ => g) q
    | exact z_vj_m (fun _ _ => z_vj_m fun _ _ => g) q
    | exact z_vf_m (fun _ _ => z_vf_m fun _ _ => g) q
    | exact z_vi_m (fun _ _ => z_vr_m fun _ _ => g) q
    | exact z_vir_m (fun _ _ => g) (fun _ _ => g) q
    | exact z_vi_m (fun _ _ => z_if1_mono g g) q
    | exact z_vi_m (fun _ _ => z_vi_m fun _ _ => z_if2_mono g g) q
    | exact z_vo_m (fun _ _ => g) (fun _ _ z => z) (fun _ => g) q
    | exact z_vi_m (fun _ _ => z_sw_mono (fun _ => g) _) q
    | exact z_gf_m (fun _ => g) q
    | exact z_pf_m (fun _ _ _ => g) q
    | exact z_ild_m (fun _ => g) q
    | exact z_jld_m (fun _ => g) q
    | exact z_fld_m (fun _ => g) q
    | exact z_ist_m (fun _ _ => g) q
    | exact z_bst_m (fun _ _ => g) q
    | exact z_jst_m (fun _ _ => g) q
    | exact z_fst_m (fun _ _ => g) q
    | exact z_len_m (fun _ => g) q
    | exact z_na_m (fun _ _ _ _ _ _ _ => g) q
    | exact z_no_m (fun _ _ _ _ _ _ => g) q
    | exact z_call_m hK hC q
    | (split at q <;> first
      | exact q
      | exact g q
      | exact q.elim
      | exact z_cp_m (fun _ _ _ _ => g) q
      | exact z_vf_m (fun _ _ => g) q
      | exact z_vr_m (fun _ _ => g) q
      | exact z_vi_m (fun _ _ z => ⟨z.1, g z.2⟩) q
      | exact z_call_m hK hC q)
theorem z_from_sub {pc : Nat} : ∀ {l : List z_E} {e : z_E}, e ∈ z_from pc l → e ∈ l
  | [], _, h => h
  | a :: l, e, h => by
    unfold z_from at h
    cases hb : Nat.beq a.1 pc with
    | true => rw [hb] at h; exact h
    | false => rw [hb] at h; exact List.mem_cons_of_mem _ (z_from_sub h)
theorem z_from_hd {pc : Nat} : ∀ {l : List z_E} {e : z_E} {r : List z_E}, z_from pc l = e :: r → e.1 = pc
  | [], _, _, h => by cases h
  | a :: l, e, r, h => by
    unfold z_from at h
    cases hb : Nat.beq a.1 pc with
    | true => rw [hb] at h; cases h; exact Nat.eq_of_beq_eq_true hb
    | false => rw [hb] at h; exact z_from_hd h
theorem z_nx_sub {pc : Nat} {cs cd : List z_E} (hs : ∀ e ∈ cs, e ∈ cd) : ∀ e ∈ z_nx pc cs cd, e ∈ cd := by
  intro e h
  unfold z_nx at h
  split at h
  · exact z_from_sub h
  · rename_i a l
    cases hb : Nat.beq a.1 pc with
    | true => rw [hb] at h; exact hs e h
    | false => rw [hb] at h; exact z_from_sub h
theorem z_nx_hd {pc : Nat} {cs cd : List z_E} {e : z_E} {r : List z_E} (h : z_nx pc cs cd = e :: r) : e.1 = pc := by
  unfold z_nx at h
  split at h
  · exact z_from_hd h
  · rename_i a l
    cases hb : Nat.beq a.1 pc with
    | true => rw [hb] at h; cases h; exact Nat.eq_of_beq_eq_true hb
    | false => rw [hb] at h; exact z_from_hd h
theorem z_WP_mo {X : z_X} {P : z_P} : z_Mo (z_WP X P) := fun d m pc L st I R J F cn uc us Q Q' h w Z hm hc => hm _ _ _ _ _ _ _ _ _ _ _ _ Q Q' h (w Z hm hc)
theorem z_WP_cl {X : z_X} {P : z_P} : z_Cl X P (z_WP X P) := by
  intro d m e L st I R J F cn uc us Q he q Z hm hc
  refine hc d m e L st I R J F cn uc us Q he (z_step_m ?_ ?_ q)
  · exact fun _ _ _ _ _ _ _ _ _ _ w => w Z hm hc
  · exact fun _ _ _ _ _ _ _ _ Q1 Q2 h w => hm _ _ _ _ _ _ _ _ _ _ _ _ Q1 Q2 h (w Z hm hc)
theorem z_run_s (X : z_X) (P : z_P) (m d n : Nat) (e : z_E) (cs : List z_E) (L : z_L) (st : List Value) (I : z_I) (R : z_R) (J : z_J) (F : z_F) (cn uc us : Nat) (K : z_K) (C : z_C) (Q : z_Q) : z_run X P m d (n + 1) (e :: cs) L st I R J F cn uc us K C Q = z_step X (P m).1 (X.2.2.2 m).1 (X.2.2.2 m).2 d e L st I R J F cn uc us (fun pc L st I R J F cn uc us => z_run X P m d n (z_nx pc cs (P m).2.2) L st I R J F cn uc us K C Q) C Q := rfl
/-- a stretch of the plain reading, up to n instructions; what follows it is named by K and C, so that nothing unfolds there -/
theorem z_WP_go0 {X : z_X} {P : z_P} {d m : Nat} {Q : z_Q} : ∀ (n : Nat) (cs : List z_E) (L : z_L) (st : List Value) (I : z_I) (R : z_R) (J : z_J) (F : z_F) (cn uc us pc : Nat), (∀ e ∈ cs, e ∈ (P m).2.2) → (∀ e r, cs = e :: r → e.1 = pc) →
    z_run X P m d n cs L st I R J F cn uc us (fun pc L st I R J F cn uc us => z_WP X P d m pc L st I R J F cn uc us Q) (z_M X P) Q → z_WP X P d m pc L st I R J F cn uc us Q := by
  intro n
  induction n with
  | zero =>
    intro cs L st I R J F cn uc us pc hs hp q
    cases cs with
    | nil => exact q.elim
    | cons e r => rw [← hp e r rfl]; exact q
  | succ n ih =>
    intro cs L st I R J F cn uc us pc hs hp q
    cases cs with
    | nil => exact q.elim
    | cons e r =>
      rw [← hp e r rfl]
      rw [z_run_s] at q
      refine z_WP_cl d m e L st I R J F cn uc us Q (hs e List.mem_cons_self) (z_step_m ?_ ?_ q)
      · intro pc L st I R J F cn uc us q
        exact ih _ L st I R J F cn uc us pc (z_nx_sub fun e h => hs e (List.mem_cons_of_mem _ h)) (fun e r h => z_nx_hd h) q
      · exact fun _ _ _ _ _ _ _ _ Q1 Q2 h w => z_WP_mo _ _ _ _ _ _ _ _ _ _ _ _ Q1 Q2 h w
theorem z_run_m {X : z_X} {P : z_P} {m d : Nat} {K K' : z_K} {C C' : z_C} {Q : z_Q} (hK : z_KM K K') (hC : z_CM C C') : ∀ (n : Nat) (cs : List z_E) (L : z_L) (st : List Value) (I : z_I) (R : z_R) (J : z_J) (F : z_F) (cn uc us : Nat),
    z_run X P m d n cs L st I R J F cn uc us K C Q → z_run X P m d n cs L st I R J F cn uc us K' C' Q := by
  intro n
  induction n with
  | zero =>
    intro cs L st I R J F cn uc us q
    cases cs with
    | nil => exact q
    | cons e r => exact hK _ _ _ _ _ _ _ _ _ _ q
  | succ n ih =>
    intro cs L st I R J F cn uc us q
    cases cs with
    | nil => exact q
    | cons e r =>
      rw [z_run_s] at q ⊢
      exact z_step_m (fun _ _ _ _ _ _ _ _ _ _ q => ih _ _ _ _ _ _ _ _ _ _ _ q) hC q
theorem z_WP_go {X : z_X} {P : z_P} {d m pc : Nat} {L : z_L} {st : List Value} {I : z_I} {R : z_R} {J : z_J} {F : z_F} {cn uc us : Nat} {Q : z_Q} (n : Nat)
    (h : ∀ (K : z_K) (C : z_C), z_KM (fun pc L st I R J F cn uc us => z_WP X P d m pc L st I R J F cn uc us Q) K → z_CM (z_M X P) C → z_run X P m d n (z_from pc (P m).2.2) L st I R J F cn uc us K C Q) : z_WP X P d m pc L st I R J F cn uc us Q :=
  z_WP_go0 n (z_from pc (P m).2.2) L st I R J F cn uc us pc (fun _ h => z_from_sub h) (fun _ _ h => z_from_hd h) (h _ _ (fun _ _ _ _ _ _ _ _ _ _ q => q) (fun d k as I R J F cn Q Q' hq w => z_WP_mo _ _ _ _ _ _ _ _ _ _ _ _ Q Q' hq w))
end
