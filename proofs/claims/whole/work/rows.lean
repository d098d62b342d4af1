section
-- ===== PART A: goes FIRST, ahead of the names: the tables' words, and 'selects' of the private methods out of them =====
/-- a private method of a class that the tables say can be made, by its rows of tables_1 -/
def lw_okq (q : MethodName × Nat) : Prop := (q.1.cls ≠ "java/lang/invoke/MethodHandle" ∧ q.1.cls ≠ "java/lang/invoke/VarHandle") ∧ Cond.instantiable q.1.cls q.2 ∈ tables_1 ∧ Cond.privateMethod q.1 ∈ tables_1 ∧ Cond.instanceMethod q.1 ∈ tables_1
theorem lw_p0 : lw_okq (⟨"StreamWires", "flowAt", "(II)LStreamWires$Flow;"⟩, 2) := ⟨⟨by decide +kernel, by decide +kernel⟩, List.mem_of_getElem? (i := 12) (by decide +kernel), List.mem_of_getElem? (i := 264) (by decide +kernel), List.mem_of_getElem? (i := 265) (by decide +kernel)⟩
theorem lw_p1 : lw_okq (⟨"StreamWires", "sideAt", "(I)LStreamWires$Side;"⟩, 2) := ⟨⟨by decide +kernel, by decide +kernel⟩, List.mem_of_getElem? (i := 12) (by decide +kernel), List.mem_of_getElem? (i := 268) (by decide +kernel), List.mem_of_getElem? (i := 269) (by decide +kernel)⟩
theorem lw_p2 : lw_okq (⟨"StreamWires$Flow", "becomeOpen", "()V"⟩, 13) := ⟨⟨by decide +kernel, by decide +kernel⟩, List.mem_of_getElem? (i := 93) (by decide +kernel), List.mem_of_getElem? (i := 280) (by decide +kernel), List.mem_of_getElem? (i := 281) (by decide +kernel)⟩
theorem lw_p3 : lw_okq (⟨"StreamWires", "putItem", "(IIIZ)I"⟩, 2) := ⟨⟨by decide +kernel, by decide +kernel⟩, List.mem_of_getElem? (i := 12) (by decide +kernel), List.mem_of_getElem? (i := 288) (by decide +kernel), List.mem_of_getElem? (i := 289) (by decide +kernel)⟩
theorem lw_p4 : lw_okq (⟨"StreamWires$Side", "freeCells", "()I"⟩, 15) := ⟨⟨by decide +kernel, by decide +kernel⟩, List.mem_of_getElem? (i := 64) (by decide +kernel), List.mem_of_getElem? (i := 296) (by decide +kernel), List.mem_of_getElem? (i := 297) (by decide +kernel)⟩
theorem lw_p5 : lw_okq (⟨"StreamWires$Side", "itemsOut", "()I"⟩, 15) := ⟨⟨by decide +kernel, by decide +kernel⟩, List.mem_of_getElem? (i := 64) (by decide +kernel), List.mem_of_getElem? (i := 300) (by decide +kernel), List.mem_of_getElem? (i := 301) (by decide +kernel)⟩
theorem lw_p6 : lw_okq (⟨"StreamWires$Frames", "slotAt", "(I)LStreamWires$Frame;"⟩, 3) := ⟨⟨by decide +kernel, by decide +kernel⟩, List.mem_of_getElem? (i := 167) (by decide +kernel), List.mem_of_getElem? (i := 312) (by decide +kernel), List.mem_of_getElem? (i := 313) (by decide +kernel)⟩
theorem lw_p7 : lw_okq (⟨"StreamWires$Cells", "holds", "(I)Z"⟩, 4) := ⟨⟨by decide +kernel, by decide +kernel⟩, List.mem_of_getElem? (i := 70) (by decide +kernel), List.mem_of_getElem? (i := 337) (by decide +kernel), List.mem_of_getElem? (i := 338) (by decide +kernel)⟩
theorem lw_p8 : lw_okq (⟨"StreamWires$Side", "streamToGrant", "()I"⟩, 15) := ⟨⟨by decide +kernel, by decide +kernel⟩, List.mem_of_getElem? (i := 64) (by decide +kernel), List.mem_of_getElem? (i := 418) (by decide +kernel), List.mem_of_getElem? (i := 419) (by decide +kernel)⟩
theorem lw_p9 : lw_okq (⟨"StreamWires$Side", "sendGrant", "(I)V"⟩, 15) := ⟨⟨by decide +kernel, by decide +kernel⟩, List.mem_of_getElem? (i := 64) (by decide +kernel), List.mem_of_getElem? (i := 422) (by decide +kernel), List.mem_of_getElem? (i := 423) (by decide +kernel)⟩
theorem lw_p10 : lw_okq (⟨"StreamWires$Side", "beginNumbered", "(III)V"⟩, 15) := ⟨⟨by decide +kernel, by decide +kernel⟩, List.mem_of_getElem? (i := 64) (by decide +kernel), List.mem_of_getElem? (i := 427) (by decide +kernel), List.mem_of_getElem? (i := 428) (by decide +kernel)⟩
theorem lw_p11 : lw_okq (⟨"StreamWires$Side", "sendNumbered", "()V"⟩, 15) := ⟨⟨by decide +kernel, by decide +kernel⟩, List.mem_of_getElem? (i := 64) (by decide +kernel), List.mem_of_getElem? (i := 444) (by decide +kernel), List.mem_of_getElem? (i := 445) (by decide +kernel)⟩
theorem lw_p12 : lw_okq (⟨"StreamWires$Frame", "sumBefore", "(I)I"⟩, 2) := ⟨⟨by decide +kernel, by decide +kernel⟩, List.mem_of_getElem? (i := 179) (by decide +kernel), List.mem_of_getElem? (i := 452) (by decide +kernel), List.mem_of_getElem? (i := 453) (by decide +kernel)⟩
theorem lw_p13 : lw_okq (⟨"StreamWires$Side", "sendDraft", "()V"⟩, 15) := ⟨⟨by decide +kernel, by decide +kernel⟩, List.mem_of_getElem? (i := 64) (by decide +kernel), List.mem_of_getElem? (i := 467) (by decide +kernel), List.mem_of_getElem? (i := 468) (by decide +kernel)⟩
theorem lw_p14 : lw_okq (⟨"StreamWires$Side", "streamToSend", "()I"⟩, 15) := ⟨⟨by decide +kernel, by decide +kernel⟩, List.mem_of_getElem? (i := 64) (by decide +kernel), List.mem_of_getElem? (i := 471) (by decide +kernel), List.mem_of_getElem? (i := 472) (by decide +kernel)⟩
theorem lw_p15 : lw_okq (⟨"StreamWires$Side", "streamAfter", "(I)I"⟩, 15) := ⟨⟨by decide +kernel, by decide +kernel⟩, List.mem_of_getElem? (i := 64) (by decide +kernel), List.mem_of_getElem? (i := 480) (by decide +kernel), List.mem_of_getElem? (i := 481) (by decide +kernel)⟩
def lw_privs_1 : List (MethodName × Nat) := [(⟨"StreamWires", "flowAt", "(II)LStreamWires$Flow;"⟩, 2), (⟨"StreamWires", "sideAt", "(I)LStreamWires$Side;"⟩, 2), (⟨"StreamWires$Flow", "becomeOpen", "()V"⟩, 13), (⟨"StreamWires", "putItem", "(IIIZ)I"⟩, 2), (⟨"StreamWires$Side", "freeCells", "()I"⟩, 15), (⟨"StreamWires$Side", "itemsOut", "()I"⟩, 15), (⟨"StreamWires$Frames", "slotAt", "(I)LStreamWires$Frame;"⟩, 3), (⟨"StreamWires$Cells", "holds", "(I)Z"⟩, 4), (⟨"StreamWires$Side", "streamToGrant", "()I"⟩, 15), (⟨"StreamWires$Side", "sendGrant", "(I)V"⟩, 15), (⟨"StreamWires$Side", "beginNumbered", "(III)V"⟩, 15), (⟨"StreamWires$Side", "sendNumbered", "()V"⟩, 15), (⟨"StreamWires$Frame", "sumBefore", "(I)I"⟩, 2), (⟨"StreamWires$Side", "sendDraft", "()V"⟩, 15), (⟨"StreamWires$Side", "streamToSend", "()I"⟩, 15), (⟨"StreamWires$Side", "streamAfter", "(I)I"⟩, 15)]
theorem lw_r1 : ∀ q ∈ lw_privs_1, lw_okq q := List.forall_mem_cons.mpr ⟨lw_p0, List.forall_mem_cons.mpr ⟨lw_p1, List.forall_mem_cons.mpr ⟨lw_p2, List.forall_mem_cons.mpr ⟨lw_p3, List.forall_mem_cons.mpr ⟨lw_p4, List.forall_mem_cons.mpr ⟨lw_p5, List.forall_mem_cons.mpr ⟨lw_p6, List.forall_mem_cons.mpr ⟨lw_p7, List.forall_mem_cons.mpr ⟨lw_p8, List.forall_mem_cons.mpr ⟨lw_p9, List.forall_mem_cons.mpr ⟨lw_p10, List.forall_mem_cons.mpr ⟨lw_p11, List.forall_mem_cons.mpr ⟨lw_p12, List.forall_mem_cons.mpr ⟨lw_p13, List.forall_mem_cons.mpr ⟨lw_p14, List.forall_mem_cons.mpr ⟨lw_p15, fun _ h => absurd h List.not_mem_nil⟩⟩⟩⟩⟩⟩⟩⟩⟩⟩⟩⟩⟩⟩⟩⟩
theorem lw_p16 : lw_okq (⟨"StreamWires$Side", "sendInTurn", "(I)V"⟩, 15) := ⟨⟨by decide +kernel, by decide +kernel⟩, List.mem_of_getElem? (i := 64) (by decide +kernel), List.mem_of_getElem? (i := 484) (by decide +kernel), List.mem_of_getElem? (i := 485) (by decide +kernel)⟩
theorem lw_p17 : lw_okq (⟨"StreamWires$Side", "beginTurn", "(I)V"⟩, 15) := ⟨⟨by decide +kernel, by decide +kernel⟩, List.mem_of_getElem? (i := 64) (by decide +kernel), List.mem_of_getElem? (i := 488) (by decide +kernel), List.mem_of_getElem? (i := 489) (by decide +kernel)⟩
theorem lw_p18 : lw_okq (⟨"StreamWires$Side", "draftData", "(LStreamWires$Flow;I)V"⟩, 15) := ⟨⟨by decide +kernel, by decide +kernel⟩, List.mem_of_getElem? (i := 64) (by decide +kernel), List.mem_of_getElem? (i := 492) (by decide +kernel), List.mem_of_getElem? (i := 493) (by decide +kernel)⟩
theorem lw_p19 : lw_okq (⟨"StreamWires$Side", "countTurn", "()V"⟩, 15) := ⟨⟨by decide +kernel, by decide +kernel⟩, List.mem_of_getElem? (i := 64) (by decide +kernel), List.mem_of_getElem? (i := 502) (by decide +kernel), List.mem_of_getElem? (i := 503) (by decide +kernel)⟩
theorem lw_p20 : lw_okq (⟨"StreamWires$Side", "sendAck", "()V"⟩, 15) := ⟨⟨by decide +kernel, by decide +kernel⟩, List.mem_of_getElem? (i := 64) (by decide +kernel), List.mem_of_getElem? (i := 506) (by decide +kernel), List.mem_of_getElem? (i := 507) (by decide +kernel)⟩
theorem lw_p21 : lw_okq (⟨"StreamWires$Frame", "lengthTold", "()I"⟩, 2) := ⟨⟨by decide +kernel, by decide +kernel⟩, List.mem_of_getElem? (i := 179) (by decide +kernel), List.mem_of_getElem? (i := 527) (by decide +kernel), List.mem_of_getElem? (i := 528) (by decide +kernel)⟩
theorem lw_p22 : lw_okq (⟨"StreamWires$Frame", "isSoundForKind", "(LStreamWires$Limits;)Z"⟩, 2) := ⟨⟨by decide +kernel, by decide +kernel⟩, List.mem_of_getElem? (i := 179) (by decide +kernel), List.mem_of_getElem? (i := 548) (by decide +kernel), List.mem_of_getElem? (i := 549) (by decide +kernel)⟩
theorem lw_p23 : lw_okq (⟨"StreamWires$Frame", "areMarksSound", "()Z"⟩, 2) := ⟨⟨by decide +kernel, by decide +kernel⟩, List.mem_of_getElem? (i := 179) (by decide +kernel), List.mem_of_getElem? (i := 552) (by decide +kernel), List.mem_of_getElem? (i := 553) (by decide +kernel)⟩
theorem lw_p24 : lw_okq (⟨"StreamWires$Side", "refuse", "()I"⟩, 15) := ⟨⟨by decide +kernel, by decide +kernel⟩, List.mem_of_getElem? (i := 64) (by decide +kernel), List.mem_of_getElem? (i := 568) (by decide +kernel), List.mem_of_getElem? (i := 569) (by decide +kernel)⟩
theorem lw_p25 : lw_okq (⟨"StreamWires$Side", "settleBefore", "(I)V"⟩, 15) := ⟨⟨by decide +kernel, by decide +kernel⟩, List.mem_of_getElem? (i := 64) (by decide +kernel), List.mem_of_getElem? (i := 573) (by decide +kernel), List.mem_of_getElem? (i := 574) (by decide +kernel)⟩
theorem lw_p26 : lw_okq (⟨"StreamWires$Flow", "canBeFilled", "()Z"⟩, 13) := ⟨⟨by decide +kernel, by decide +kernel⟩, List.mem_of_getElem? (i := 93) (by decide +kernel), List.mem_of_getElem? (i := 593) (by decide +kernel), List.mem_of_getElem? (i := 594) (by decide +kernel)⟩
theorem lw_p27 : lw_okq (⟨"StreamWires$Flow", "layDown", "(LStreamWires$Frame;)V"⟩, 13) := ⟨⟨by decide +kernel, by decide +kernel⟩, List.mem_of_getElem? (i := 93) (by decide +kernel), List.mem_of_getElem? (i := 603) (by decide +kernel), List.mem_of_getElem? (i := 604) (by decide +kernel)⟩
theorem lw_p28 : lw_okq (⟨"StreamWires", "frameAt", "(II)LStreamWires$Frame;"⟩, 2) := ⟨⟨by decide +kernel, by decide +kernel⟩, List.mem_of_getElem? (i := 12) (by decide +kernel), List.mem_of_getElem? (i := 619) (by decide +kernel), List.mem_of_getElem? (i := 620) (by decide +kernel)⟩
theorem lw_p29 : lw_okq (⟨"StreamWiresModel", "isStream", "(II)Z"⟩, 40) := ⟨⟨by decide +kernel, by decide +kernel⟩, List.mem_of_getElem? (i := 667) (by decide +kernel), List.mem_of_getElem? (i := 801) (by decide +kernel), List.mem_of_getElem? (i := 802) (by decide +kernel)⟩
theorem lw_p30 : lw_okq (⟨"StreamWiresModel", "begin", "(I)V"⟩, 40) := ⟨⟨by decide +kernel, by decide +kernel⟩, List.mem_of_getElem? (i := 667) (by decide +kernel), List.mem_of_getElem? (i := 808) (by decide +kernel), List.mem_of_getElem? (i := 809) (by decide +kernel)⟩
theorem lw_p31 : lw_okq (⟨"StreamWiresModel", "put", "(IIIZ)I"⟩, 40) := ⟨⟨by decide +kernel, by decide +kernel⟩, List.mem_of_getElem? (i := 667) (by decide +kernel), List.mem_of_getElem? (i := 816) (by decide +kernel), List.mem_of_getElem? (i := 817) (by decide +kernel)⟩
def lw_privs_2 : List (MethodName × Nat) := [(⟨"StreamWires$Side", "sendInTurn", "(I)V"⟩, 15), (⟨"StreamWires$Side", "beginTurn", "(I)V"⟩, 15), (⟨"StreamWires$Side", "draftData", "(LStreamWires$Flow;I)V"⟩, 15), (⟨"StreamWires$Side", "countTurn", "()V"⟩, 15), (⟨"StreamWires$Side", "sendAck", "()V"⟩, 15), (⟨"StreamWires$Frame", "lengthTold", "()I"⟩, 2), (⟨"StreamWires$Frame", "isSoundForKind", "(LStreamWires$Limits;)Z"⟩, 2), (⟨"StreamWires$Frame", "areMarksSound", "()Z"⟩, 2), (⟨"StreamWires$Side", "refuse", "()I"⟩, 15), (⟨"StreamWires$Side", "settleBefore", "(I)V"⟩, 15), (⟨"StreamWires$Flow", "canBeFilled", "()Z"⟩, 13), (⟨"StreamWires$Flow", "layDown", "(LStreamWires$Frame;)V"⟩, 13), (⟨"StreamWires", "frameAt", "(II)LStreamWires$Frame;"⟩, 2), (⟨"StreamWiresModel", "isStream", "(II)Z"⟩, 40), (⟨"StreamWiresModel", "begin", "(I)V"⟩, 40), (⟨"StreamWiresModel", "put", "(IIIZ)I"⟩, 40)]
theorem lw_r2 : ∀ q ∈ lw_privs_2, lw_okq q := List.forall_mem_cons.mpr ⟨lw_p16, List.forall_mem_cons.mpr ⟨lw_p17, List.forall_mem_cons.mpr ⟨lw_p18, List.forall_mem_cons.mpr ⟨lw_p19, List.forall_mem_cons.mpr ⟨lw_p20, List.forall_mem_cons.mpr ⟨lw_p21, List.forall_mem_cons.mpr ⟨lw_p22, List.forall_mem_cons.mpr ⟨lw_p23, List.forall_mem_cons.mpr ⟨lw_p24, List.forall_mem_cons.mpr ⟨lw_p25, List.forall_mem_cons.mpr ⟨lw_p26, List.forall_mem_cons.mpr ⟨lw_p27, List.forall_mem_cons.mpr ⟨lw_p28, List.forall_mem_cons.mpr ⟨lw_p29, List.forall_mem_cons.mpr ⟨lw_p30, List.forall_mem_cons.mpr ⟨lw_p31, fun _ h => absurd h List.not_mem_nil⟩⟩⟩⟩⟩⟩⟩⟩⟩⟩⟩⟩⟩⟩⟩⟩
theorem lw_p32 : lw_okq (⟨"StreamWiresModel", "free", "(I)I"⟩, 40) := ⟨⟨by decide +kernel, by decide +kernel⟩, List.mem_of_getElem? (i := 667) (by decide +kernel), List.mem_of_getElem? (i := 820) (by decide +kernel), List.mem_of_getElem? (i := 821) (by decide +kernel)⟩
theorem lw_p33 : lw_okq (⟨"StreamWiresModel", "beginFrame", "(IIII)V"⟩, 40) := ⟨⟨by decide +kernel, by decide +kernel⟩, List.mem_of_getElem? (i := 667) (by decide +kernel), List.mem_of_getElem? (i := 848) (by decide +kernel), List.mem_of_getElem? (i := 849) (by decide +kernel)⟩
theorem lw_p34 : lw_okq (⟨"StreamWiresModel", "add", "(I)V"⟩, 40) := ⟨⟨by decide +kernel, by decide +kernel⟩, List.mem_of_getElem? (i := 667) (by decide +kernel), List.mem_of_getElem? (i := 852) (by decide +kernel), List.mem_of_getElem? (i := 853) (by decide +kernel)⟩
theorem lw_p35 : lw_okq (⟨"StreamWiresModel", "finish", "(I)V"⟩, 40) := ⟨⟨by decide +kernel, by decide +kernel⟩, List.mem_of_getElem? (i := 667) (by decide +kernel), List.mem_of_getElem? (i := 856) (by decide +kernel), List.mem_of_getElem? (i := 857) (by decide +kernel)⟩
theorem lw_p36 : lw_okq (⟨"StreamWiresModel", "sumOf", "(I)I"⟩, 40) := ⟨⟨by decide +kernel, by decide +kernel⟩, List.mem_of_getElem? (i := 667) (by decide +kernel), List.mem_of_getElem? (i := 860) (by decide +kernel), List.mem_of_getElem? (i := 861) (by decide +kernel)⟩
theorem lw_p37 : lw_okq (⟨"StreamWiresModel", "ontoWire", "(I)V"⟩, 40) := ⟨⟨by decide +kernel, by decide +kernel⟩, List.mem_of_getElem? (i := 667) (by decide +kernel), List.mem_of_getElem? (i := 865) (by decide +kernel), List.mem_of_getElem? (i := 866) (by decide +kernel)⟩
theorem lw_p38 : lw_okq (⟨"StreamWiresModel", "hasSome", "(II)Z"⟩, 40) := ⟨⟨by decide +kernel, by decide +kernel⟩, List.mem_of_getElem? (i := 667) (by decide +kernel), List.mem_of_getElem? (i := 869) (by decide +kernel), List.mem_of_getElem? (i := 870) (by decide +kernel)⟩
theorem lw_p39 : lw_okq (⟨"StreamWiresModel", "sendOf", "(II)V"⟩, 40) := ⟨⟨by decide +kernel, by decide +kernel⟩, List.mem_of_getElem? (i := 667) (by decide +kernel), List.mem_of_getElem? (i := 873) (by decide +kernel), List.mem_of_getElem? (i := 874) (by decide +kernel)⟩
theorem lw_p40 : lw_okq (⟨"StreamWiresModel", "dropOldest", "(I)V"⟩, 40) := ⟨⟨by decide +kernel, by decide +kernel⟩, List.mem_of_getElem? (i := 667) (by decide +kernel), List.mem_of_getElem? (i := 886) (by decide +kernel), List.mem_of_getElem? (i := 887) (by decide +kernel)⟩
theorem lw_p41 : lw_okq (⟨"StreamWiresModel", "isFrame", "()Z"⟩, 40) := ⟨⟨by decide +kernel, by decide +kernel⟩, List.mem_of_getElem? (i := 667) (by decide +kernel), List.mem_of_getElem? (i := 890) (by decide +kernel), List.mem_of_getElem? (i := 891) (by decide +kernel)⟩
theorem lw_p42 : lw_okq (⟨"StreamWiresModel", "kind", "()I"⟩, 40) := ⟨⟨by decide +kernel, by decide +kernel⟩, List.mem_of_getElem? (i := 667) (by decide +kernel), List.mem_of_getElem? (i := 894) (by decide +kernel), List.mem_of_getElem? (i := 895) (by decide +kernel)⟩
theorem lw_p43 : lw_okq (⟨"StreamWiresModel", "countIn", "()I"⟩, 40) := ⟨⟨by decide +kernel, by decide +kernel⟩, List.mem_of_getElem? (i := 667) (by decide +kernel), List.mem_of_getElem? (i := 898) (by decide +kernel), List.mem_of_getElem? (i := 899) (by decide +kernel)⟩
theorem lw_p44 : lw_okq (⟨"StreamWiresModel", "streamIn", "()I"⟩, 40) := ⟨⟨by decide +kernel, by decide +kernel⟩, List.mem_of_getElem? (i := 667) (by decide +kernel), List.mem_of_getElem? (i := 902) (by decide +kernel), List.mem_of_getElem? (i := 903) (by decide +kernel)⟩
theorem lw_p45 : lw_okq (⟨"StreamWiresModel", "confirm", "(II)V"⟩, 40) := ⟨⟨by decide +kernel, by decide +kernel⟩, List.mem_of_getElem? (i := 667) (by decide +kernel), List.mem_of_getElem? (i := 907) (by decide +kernel), List.mem_of_getElem? (i := 908) (by decide +kernel)⟩
theorem lw_p46 : lw_okq (⟨"StreamWiresModel", "canBe", "(I)Z"⟩, 40) := ⟨⟨by decide +kernel, by decide +kernel⟩, List.mem_of_getElem? (i := 667) (by decide +kernel), List.mem_of_getElem? (i := 911) (by decide +kernel), List.mem_of_getElem? (i := 912) (by decide +kernel)⟩
theorem lw_p47 : lw_okq (⟨"StreamWiresModel", "take", "(I)V"⟩, 40) := ⟨⟨by decide +kernel, by decide +kernel⟩, List.mem_of_getElem? (i := 667) (by decide +kernel), List.mem_of_getElem? (i := 915) (by decide +kernel), List.mem_of_getElem? (i := 916) (by decide +kernel)⟩
def lw_privs_3 : List (MethodName × Nat) := [(⟨"StreamWiresModel", "free", "(I)I"⟩, 40), (⟨"StreamWiresModel", "beginFrame", "(IIII)V"⟩, 40), (⟨"StreamWiresModel", "add", "(I)V"⟩, 40), (⟨"StreamWiresModel", "finish", "(I)V"⟩, 40), (⟨"StreamWiresModel", "sumOf", "(I)I"⟩, 40), (⟨"StreamWiresModel", "ontoWire", "(I)V"⟩, 40), (⟨"StreamWiresModel", "hasSome", "(II)Z"⟩, 40), (⟨"StreamWiresModel", "sendOf", "(II)V"⟩, 40), (⟨"StreamWiresModel", "dropOldest", "(I)V"⟩, 40), (⟨"StreamWiresModel", "isFrame", "()Z"⟩, 40), (⟨"StreamWiresModel", "kind", "()I"⟩, 40), (⟨"StreamWiresModel", "countIn", "()I"⟩, 40), (⟨"StreamWiresModel", "streamIn", "()I"⟩, 40), (⟨"StreamWiresModel", "confirm", "(II)V"⟩, 40), (⟨"StreamWiresModel", "canBe", "(I)Z"⟩, 40), (⟨"StreamWiresModel", "take", "(I)V"⟩, 40)]
theorem lw_r3 : ∀ q ∈ lw_privs_3, lw_okq q := List.forall_mem_cons.mpr ⟨lw_p32, List.forall_mem_cons.mpr ⟨lw_p33, List.forall_mem_cons.mpr ⟨lw_p34, List.forall_mem_cons.mpr ⟨lw_p35, List.forall_mem_cons.mpr ⟨lw_p36, List.forall_mem_cons.mpr ⟨lw_p37, List.forall_mem_cons.mpr ⟨lw_p38, List.forall_mem_cons.mpr ⟨lw_p39, List.forall_mem_cons.mpr ⟨lw_p40, List.forall_mem_cons.mpr ⟨lw_p41, List.forall_mem_cons.mpr ⟨lw_p42, List.forall_mem_cons.mpr ⟨lw_p43, List.forall_mem_cons.mpr ⟨lw_p44, List.forall_mem_cons.mpr ⟨lw_p45, List.forall_mem_cons.mpr ⟨lw_p46, List.forall_mem_cons.mpr ⟨lw_p47, fun _ h => absurd h List.not_mem_nil⟩⟩⟩⟩⟩⟩⟩⟩⟩⟩⟩⟩⟩⟩⟩⟩
def lw_privs : List (MethodName × Nat) := lw_privs_1 ++ (lw_privs_2 ++ (lw_privs_3))
def lw_tbl : List Cond := k2_sels lw_privs ++ tables_1
theorem lw_privs_ok : ∀ q ∈ lw_privs, lw_okq q := by
  show ∀ q ∈ lw_privs_1 ++ (lw_privs_2 ++ (lw_privs_3)), lw_okq q
  exact List.forall_mem_append.mpr ⟨lw_r1, List.forall_mem_append.mpr ⟨lw_r2, lw_r3⟩⟩
end
section
def RX0 : String := "StreamWires$Cells"
def TX0 : u_T := fun k => match k with
  | 0 => ("StreamWires$Cells", "words", "[I", true)
  | 1 => ("StreamWires$Cells", "marks", "[Z", true)
  | 2 => ("StreamWires$Cells", "next", "[I", true)
  | _ => ("StreamWires$Cells", "spare", "I", false)
def tyX0 : Nat → FieldType := fun k => match k with
  | 0 => .array .int
  | 1 => .array .boolean
  | 2 => .array .int
  | _ => .int
abbrev wsX00 : List Cond := u_ws RX0 TX0 4
theorem nmX0 : ∀ a, a < 4 → ∀ b, b < 4 → a ≠ b → (TX0 a).2.1 ≠ (TX0 b).2.1 := by decide +kernel
theorem tyX0_ok : ∀ k, k < 4 → parseFieldDescriptor (TX0 k).2.2.1 = some (tyX0 k) := by decide +kernel
abbrev cX0_init : ByteArray := prog_2_method_1_code
def yX0_init : MethodName := ⟨RX0, "<init>", "(I)V"⟩
abbrev cX0_holds : ByteArray := prog_2_method_2_code
def yX0_holds : MethodName := ⟨RX0, "holds", "(I)Z"⟩
abbrev cX0_fill : ByteArray := prog_2_method_3_code
def yX0_fill : MethodName := ⟨RX0, "fill", "(IZ)I"⟩
abbrev cX0_chain : ByteArray := prog_2_method_4_code
def yX0_chain : MethodName := ⟨RX0, "chain", "(II)V"⟩
abbrev cX0_giveBack : ByteArray := prog_2_method_5_code
def yX0_giveBack : MethodName := ⟨RX0, "giveBack", "(I)I"⟩
abbrev cX0_wordIn : ByteArray := prog_2_method_6_code
def yX0_wordIn : MethodName := ⟨RX0, "wordIn", "(I)I"⟩
abbrev cX0_isMark : ByteArray := prog_2_method_7_code
def yX0_isMark : MethodName := ⟨RX0, "isMark", "(I)Z"⟩
def RX1 : String := "StreamWires$Flow"
def TX1 : u_T := fun k => match k with
  | 0 => ("StreamWires$Flow", "toSend", "LStreamWires$Queue;", true)
  | 1 => ("StreamWires$Flow", "lying", "LStreamWires$Queue;", true)
  | 2 => ("StreamWires$Flow", "kept", "I", true)
  | 3 => ("StreamWires$Flow", "state", "I", false)
  | 4 => ("StreamWires$Flow", "weight", "I", false)
  | 5 => ("StreamWires$Flow", "credit", "I", false)
  | 6 => ("StreamWires$Flow", "due", "I", false)
  | 7 => ("StreamWires$Flow", "openingToSend", "Z", false)
  | 8 => ("StreamWires$Flow", "endToSend", "Z", false)
  | 9 => ("StreamWires$Flow", "shut", "Z", false)
  | 10 => ("StreamWires$Flow", "openingCame", "Z", false)
  | 11 => ("StreamWires$Flow", "wordsTaken", "I", false)
  | _ => ("StreamWires$Flow", "marksTaken", "I", false)
def tyX1 : Nat → FieldType := fun k => match k with
  | 0 => .object "StreamWires$Queue"
  | 1 => .object "StreamWires$Queue"
  | 2 => .int
  | 3 => .int
  | 4 => .int
  | 5 => .int
  | 6 => .int
  | 7 => .boolean
  | 8 => .boolean
  | 9 => .boolean
  | 10 => .boolean
  | 11 => .int
  | _ => .int
abbrev wsX10 : List Cond := u_ws RX1 TX1 13
theorem nmX1 : ∀ a, a < 13 → ∀ b, b < 13 → a ≠ b → (TX1 a).2.1 ≠ (TX1 b).2.1 := by decide +kernel
theorem tyX1_ok : ∀ k, k < 13 → parseFieldDescriptor (TX1 k).2.2.1 = some (tyX1 k) := by decide +kernel
abbrev cX1_init : ByteArray := prog_3_method_1_code
def yX1_init : MethodName := ⟨RX1, "<init>", "(LStreamWires$Cells;I)V"⟩
abbrev cX1_begin : ByteArray := prog_3_method_2_code
def yX1_begin : MethodName := ⟨RX1, "begin", "()Z"⟩
abbrev cX1_finish : ByteArray := prog_3_method_3_code
def yX1_finish : MethodName := ⟨RX1, "finish", "()Z"⟩
abbrev cX1_becomeOpen : ByteArray := prog_3_method_4_code
def yX1_becomeOpen : MethodName := ⟨RX1, "becomeOpen", "()V"⟩
abbrev cX1_hasToSend : ByteArray := prog_3_method_5_code
def yX1_hasToSend : MethodName := ⟨RX1, "hasToSend", "()Z"⟩
abbrev cX1_isShut : ByteArray := prog_3_method_6_code
def yX1_isShut : MethodName := ⟨RX1, "isShut", "()Z"⟩
abbrev cX1_dropTaken : ByteArray := prog_3_method_7_code
def yX1_dropTaken : MethodName := ⟨RX1, "dropTaken", "()V"⟩
abbrev cX1_canTake : ByteArray := prog_3_method_8_code
def yX1_canTake : MethodName := ⟨RX1, "canTake", "(LStreamWires$Frame;)Z"⟩
abbrev cX1_canBeFilled : ByteArray := prog_3_method_9_code
def yX1_canBeFilled : MethodName := ⟨RX1, "canBeFilled", "()Z"⟩
abbrev cX1_take : ByteArray := prog_3_method_10_code
def yX1_take : MethodName := ⟨RX1, "take", "(LStreamWires$Frame;)V"⟩
abbrev cX1_layDown : ByteArray := prog_3_method_11_code
def yX1_layDown : MethodName := ⟨RX1, "layDown", "(LStreamWires$Frame;)V"⟩
abbrev cX1_tell : ByteArray := prog_3_method_12_code
def yX1_tell : MethodName := ⟨RX1, "tell", "(I)I"⟩
def RX2 : String := "StreamWires$Frame"
def TX2 : u_T := fun k => match k with
  | 0 => ("StreamWires$Frame", "words", "[I", true)
  | _ => ("StreamWires$Frame", "length", "I", false)
def tyX2 : Nat → FieldType := fun k => match k with
  | 0 => .array .int
  | _ => .int
abbrev wsX20 : List Cond := u_ws RX2 TX2 2
theorem nmX2 : ∀ a, a < 2 → ∀ b, b < 2 → a ≠ b → (TX2 a).2.1 ≠ (TX2 b).2.1 := by decide +kernel
theorem tyX2_ok : ∀ k, k < 2 → parseFieldDescriptor (TX2 k).2.2.1 = some (tyX2 k) := by decide +kernel
abbrev cX2_init : ByteArray := prog_4_method_1_code
def yX2_init : MethodName := ⟨RX2, "<init>", "(I)V"⟩
abbrev cX2_begin : ByteArray := prog_4_method_2_code
def yX2_begin : MethodName := ⟨RX2, "begin", "(I)V"⟩
abbrev cX2_put : ByteArray := prog_4_method_3_code
def yX2_put : MethodName := ⟨RX2, "put", "(I)V"⟩
abbrev cX2_copyFrom : ByteArray := prog_4_method_4_code
def yX2_copyFrom : MethodName := ⟨RX2, "copyFrom", "(LStreamWires$Frame;)V"⟩
abbrev cX2_wordAt : ByteArray := prog_4_method_5_code
def yX2_wordAt : MethodName := ⟨RX2, "wordAt", "(I)I"⟩
abbrev cX2_flip : ByteArray := prog_4_method_6_code
def yX2_flip : MethodName := ⟨RX2, "flip", "(II)Z"⟩
abbrev cX2_seal : ByteArray := prog_4_method_7_code
def yX2_seal : MethodName := ⟨RX2, "seal", "()V"⟩
abbrev cX2_renew : ByteArray := prog_4_method_8_code
def yX2_renew : MethodName := ⟨RX2, "renew", "(I)V"⟩
abbrev cX2_kind : ByteArray := prog_4_method_9_code
def yX2_kind : MethodName := ⟨RX2, "kind", "()I"⟩
abbrev cX2_streamNumber : ByteArray := prog_4_method_10_code
def yX2_streamNumber : MethodName := ⟨RX2, "streamNumber", "()I"⟩
abbrev cX2_number : ByteArray := prog_4_method_11_code
def yX2_number : MethodName := ⟨RX2, "number", "()I"⟩
abbrev cX2_wanted : ByteArray := prog_4_method_12_code
def yX2_wanted : MethodName := ⟨RX2, "wanted", "()I"⟩
abbrev cX2_count : ByteArray := prog_4_method_13_code
def yX2_count : MethodName := ⟨RX2, "count", "()I"⟩
abbrev cX2_isMark : ByteArray := prog_4_method_14_code
def yX2_isMark : MethodName := ⟨RX2, "isMark", "(I)Z"⟩
abbrev cX2_itemWord : ByteArray := prog_4_method_15_code
def yX2_itemWord : MethodName := ⟨RX2, "itemWord", "(I)I"⟩
abbrev cX2_granted : ByteArray := prog_4_method_16_code
def yX2_granted : MethodName := ⟨RX2, "granted", "()I"⟩
abbrev cX2_isSound : ByteArray := prog_4_method_17_code
def yX2_isSound : MethodName := ⟨RX2, "isSound", "(LStreamWires$Limits;)Z"⟩
abbrev cX2_lengthTold : ByteArray := prog_4_method_18_code
def yX2_lengthTold : MethodName := ⟨RX2, "lengthTold", "()I"⟩
abbrev cX2_isSoundForKind : ByteArray := prog_4_method_19_code
def yX2_isSoundForKind : MethodName := ⟨RX2, "isSoundForKind", "(LStreamWires$Limits;)Z"⟩
abbrev cX2_areMarksSound : ByteArray := prog_4_method_20_code
def yX2_areMarksSound : MethodName := ⟨RX2, "areMarksSound", "()Z"⟩
abbrev cX2_sumBefore : ByteArray := prog_4_method_21_code
def yX2_sumBefore : MethodName := ⟨RX2, "sumBefore", "(I)I"⟩
def RX3 : String := "StreamWires$Frames"
def TX3 : u_T := fun k => match k with
  | 0 => ("StreamWires$Frames", "ring", "[LStreamWires$Frame;", true)
  | 1 => ("StreamWires$Frames", "first", "I", false)
  | _ => ("StreamWires$Frames", "size", "I", false)
def tyX3 : Nat → FieldType := fun k => match k with
  | 0 => .array (.object "StreamWires$Frame")
  | 1 => .int
  | _ => .int
abbrev wsX30 : List Cond := u_ws RX3 TX3 3
theorem nmX3 : ∀ a, a < 3 → ∀ b, b < 3 → a ≠ b → (TX3 a).2.1 ≠ (TX3 b).2.1 := by decide +kernel
theorem tyX3_ok : ∀ k, k < 3 → parseFieldDescriptor (TX3 k).2.2.1 = some (tyX3 k) := by decide +kernel
abbrev cX3_init : ByteArray := prog_5_method_1_code
def yX3_init : MethodName := ⟨RX3, "<init>", "(II)V"⟩
abbrev cX3_size : ByteArray := prog_5_method_2_code
def yX3_size : MethodName := ⟨RX3, "size", "()I"⟩
abbrev cX3_hasRoom : ByteArray := prog_5_method_3_code
def yX3_hasRoom : MethodName := ⟨RX3, "hasRoom", "()Z"⟩
abbrev cX3_frameAt : ByteArray := prog_5_method_4_code
def yX3_frameAt : MethodName := ⟨RX3, "frameAt", "(I)LStreamWires$Frame;"⟩
abbrev cX3_add : ByteArray := prog_5_method_5_code
def yX3_add : MethodName := ⟨RX3, "add", "(LStreamWires$Frame;)V"⟩
abbrev cX3_dropFirst : ByteArray := prog_5_method_6_code
def yX3_dropFirst : MethodName := ⟨RX3, "dropFirst", "()Z"⟩
abbrev cX3_slotAt : ByteArray := prog_5_method_7_code
def yX3_slotAt : MethodName := ⟨RX3, "slotAt", "(I)LStreamWires$Frame;"⟩
def RX4 : String := "StreamWires$Limits"
def TX4 : u_T := fun k => match k with
  | 0 => ("StreamWires$Limits", "streams", "I", true)
  | 1 => ("StreamWires$Limits", "most", "I", true)
  | 2 => ("StreamWires$Limits", "window", "I", true)
  | 3 => ("StreamWires$Limits", "cells", "I", true)
  | 4 => ("StreamWires$Limits", "wireRoom", "I", true)
  | _ => ("StreamWires$Limits", "kept", "I", true)
def tyX4 : Nat → FieldType := fun k => match k with
  | 0 => .int
  | 1 => .int
  | 2 => .int
  | 3 => .int
  | 4 => .int
  | _ => .int
abbrev wsX40 : List Cond := u_ws RX4 TX4 6
theorem nmX4 : ∀ a, a < 6 → ∀ b, b < 6 → a ≠ b → (TX4 a).2.1 ≠ (TX4 b).2.1 := by decide +kernel
theorem tyX4_ok : ∀ k, k < 6 → parseFieldDescriptor (TX4 k).2.2.1 = some (tyX4 k) := by decide +kernel
abbrev cX4_init : ByteArray := prog_6_method_1_code
def yX4_init : MethodName := ⟨RX4, "<init>", "(IIIII)V"⟩
abbrev cX4_longestFrame : ByteArray := prog_6_method_2_code
def yX4_longestFrame : MethodName := ⟨RX4, "longestFrame", "()I"⟩
abbrev cX4_numberBehind : ByteArray := prog_6_method_3_code
def yX4_numberBehind : MethodName := ⟨RX4, "numberBehind", "(II)I"⟩
abbrev cX4_stepsBetween : ByteArray := prog_6_method_4_code
def yX4_stepsBetween : MethodName := ⟨RX4, "stepsBetween", "(II)I"⟩
def RX5 : String := "StreamWires$Queue"
def TX5 : u_T := fun k => match k with
  | 0 => ("StreamWires$Queue", "cells", "LStreamWires$Cells;", true)
  | 1 => ("StreamWires$Queue", "oldest", "I", false)
  | 2 => ("StreamWires$Queue", "newest", "I", false)
  | _ => ("StreamWires$Queue", "size", "I", false)
def tyX5 : Nat → FieldType := fun k => match k with
  | 0 => .object "StreamWires$Cells"
  | 1 => .int
  | 2 => .int
  | _ => .int
abbrev wsX50 : List Cond := u_ws RX5 TX5 4
theorem nmX5 : ∀ a, a < 4 → ∀ b, b < 4 → a ≠ b → (TX5 a).2.1 ≠ (TX5 b).2.1 := by decide +kernel
theorem tyX5_ok : ∀ k, k < 4 → parseFieldDescriptor (TX5 k).2.2.1 = some (tyX5 k) := by decide +kernel
abbrev cX5_init : ByteArray := prog_7_method_1_code
def yX5_init : MethodName := ⟨RX5, "<init>", "(LStreamWires$Cells;)V"⟩
abbrev cX5_size : ByteArray := prog_7_method_2_code
def yX5_size : MethodName := ⟨RX5, "size", "()I"⟩
abbrev cX5_put : ByteArray := prog_7_method_3_code
def yX5_put : MethodName := ⟨RX5, "put", "(IZ)V"⟩
abbrev cX5_oldestWord : ByteArray := prog_7_method_4_code
def yX5_oldestWord : MethodName := ⟨RX5, "oldestWord", "()I"⟩
abbrev cX5_oldestIsMark : ByteArray := prog_7_method_5_code
def yX5_oldestIsMark : MethodName := ⟨RX5, "oldestIsMark", "()Z"⟩
abbrev cX5_dropOldest : ByteArray := prog_7_method_6_code
def yX5_dropOldest : MethodName := ⟨RX5, "dropOldest", "()V"⟩
def RX6 : String := "StreamWires$Side"
def TX6 : u_T := fun k => match k with
  | 0 => ("StreamWires$Side", "limits", "LStreamWires$Limits;", true)
  | 1 => ("StreamWires$Side", "flows", "[LStreamWires$Flow;", true)
  | 2 => ("StreamWires$Side", "out", "LStreamWires$Frames;", true)
  | 3 => ("StreamWires$Side", "line", "LStreamWires$Frames;", true)
  | 4 => ("StreamWires$Side", "draft", "LStreamWires$Frame;", true)
  | 5 => ("StreamWires$Side", "oldestOut", "I", false)
  | 6 => ("StreamWires$Side", "waitedFor", "I", false)
  | 7 => ("StreamWires$Side", "turn", "I", false)
  | 8 => ("StreamWires$Side", "turnLeft", "I", false)
  | 9 => ("StreamWires$Side", "owesAck", "Z", false)
  | 10 => ("StreamWires$Side", "lastWord", "I", false)
  | 11 => ("StreamWires$Side", "sent", "I", false)
  | 12 => ("StreamWires$Side", "taken", "I", false)
  | 13 => ("StreamWires$Side", "spoilt", "I", false)
  | _ => ("StreamWires$Side", "late", "I", false)
def tyX6 : Nat → FieldType := fun k => match k with
  | 0 => .object "StreamWires$Limits"
  | 1 => .array (.object "StreamWires$Flow")
  | 2 => .object "StreamWires$Frames"
  | 3 => .object "StreamWires$Frames"
  | 4 => .object "StreamWires$Frame"
  | 5 => .int
  | 6 => .int
  | 7 => .int
  | 8 => .int
  | 9 => .boolean
  | 10 => .int
  | 11 => .int
  | 12 => .int
  | 13 => .int
  | _ => .int
abbrev wsX60 : List Cond := u_ws RX6 TX6 15
theorem nmX6 : ∀ a, a < 15 → ∀ b, b < 15 → a ≠ b → (TX6 a).2.1 ≠ (TX6 b).2.1 := by decide +kernel
theorem tyX6_ok : ∀ k, k < 15 → parseFieldDescriptor (TX6 k).2.2.1 = some (tyX6 k) := by decide +kernel
abbrev cX6_init : ByteArray := prog_8_method_1_code
def yX6_init : MethodName := ⟨RX6, "<init>", "(LStreamWires$Limits;)V"⟩
abbrev cX6_flowAt : ByteArray := prog_8_method_2_code
def yX6_flowAt : MethodName := ⟨RX6, "flowAt", "(I)LStreamWires$Flow;"⟩
abbrev cX6_queueItem : ByteArray := prog_8_method_3_code
def yX6_queueItem : MethodName := ⟨RX6, "queueItem", "(LStreamWires$Flow;IZ)I"⟩
abbrev cX6_takeItem : ByteArray := prog_8_method_4_code
def yX6_takeItem : MethodName := ⟨RX6, "takeItem", "(LStreamWires$Flow;)I"⟩
abbrev cX6_freeCells : ByteArray := prog_8_method_5_code
def yX6_freeCells : MethodName := ⟨RX6, "freeCells", "()I"⟩
abbrev cX6_itemsOut : ByteArray := prog_8_method_6_code
def yX6_itemsOut : MethodName := ⟨RX6, "itemsOut", "()I"⟩
abbrev cX6_sendNext : ByteArray := prog_8_method_7_code
def yX6_sendNext : MethodName := ⟨RX6, "sendNext", "()I"⟩
abbrev cX6_streamToGrant : ByteArray := prog_8_method_8_code
def yX6_streamToGrant : MethodName := ⟨RX6, "streamToGrant", "()I"⟩
abbrev cX6_streamToSend : ByteArray := prog_8_method_9_code
def yX6_streamToSend : MethodName := ⟨RX6, "streamToSend", "()I"⟩
abbrev cX6_sendGrant : ByteArray := prog_8_method_10_code
def yX6_sendGrant : MethodName := ⟨RX6, "sendGrant", "(I)V"⟩
abbrev cX6_sendInTurn : ByteArray := prog_8_method_11_code
def yX6_sendInTurn : MethodName := ⟨RX6, "sendInTurn", "(I)V"⟩
abbrev cX6_streamAfter : ByteArray := prog_8_method_12_code
def yX6_streamAfter : MethodName := ⟨RX6, "streamAfter", "(I)I"⟩
abbrev cX6_beginTurn : ByteArray := prog_8_method_13_code
def yX6_beginTurn : MethodName := ⟨RX6, "beginTurn", "(I)V"⟩
abbrev cX6_countTurn : ByteArray := prog_8_method_14_code
def yX6_countTurn : MethodName := ⟨RX6, "countTurn", "()V"⟩
abbrev cX6_draftData : ByteArray := prog_8_method_15_code
def yX6_draftData : MethodName := ⟨RX6, "draftData", "(LStreamWires$Flow;I)V"⟩
abbrev cX6_beginNumbered : ByteArray := prog_8_method_16_code
def yX6_beginNumbered : MethodName := ⟨RX6, "beginNumbered", "(III)V"⟩
abbrev cX6_sendNumbered : ByteArray := prog_8_method_17_code
def yX6_sendNumbered : MethodName := ⟨RX6, "sendNumbered", "()V"⟩
abbrev cX6_sendAck : ByteArray := prog_8_method_18_code
def yX6_sendAck : MethodName := ⟨RX6, "sendAck", "()V"⟩
abbrev cX6_sendDraft : ByteArray := prog_8_method_19_code
def yX6_sendDraft : MethodName := ⟨RX6, "sendDraft", "()V"⟩
abbrev cX6_sendAgain : ByteArray := prog_8_method_20_code
def yX6_sendAgain : MethodName := ⟨RX6, "sendAgain", "()I"⟩
abbrev cX6_meet : ByteArray := prog_8_method_21_code
def yX6_meet : MethodName := ⟨RX6, "meet", "(LStreamWires$Frame;)I"⟩
abbrev cX6_refuse : ByteArray := prog_8_method_22_code
def yX6_refuse : MethodName := ⟨RX6, "refuse", "()I"⟩
abbrev cX6_settleBefore : ByteArray := prog_8_method_23_code
def yX6_settleBefore : MethodName := ⟨RX6, "settleBefore", "(I)V"⟩
abbrev cX6_tell : ByteArray := prog_8_method_24_code
def yX6_tell : MethodName := ⟨RX6, "tell", "(I)I"⟩
def RX7 : String := "StreamWires"
def TX7 : u_T := fun k => match k with
  | 0 => ("StreamWires", "zero", "LStreamWires$Side;", true)
  | _ => ("StreamWires", "one", "LStreamWires$Side;", true)
def tyX7 : Nat → FieldType := fun k => match k with
  | 0 => .object "StreamWires$Side"
  | _ => .object "StreamWires$Side"
abbrev wsX70 : List Cond := u_ws RX7 TX7 2
theorem nmX7 : ∀ a, a < 2 → ∀ b, b < 2 → a ≠ b → (TX7 a).2.1 ≠ (TX7 b).2.1 := by decide +kernel
theorem tyX7_ok : ∀ k, k < 2 → parseFieldDescriptor (TX7 k).2.2.1 = some (tyX7 k) := by decide +kernel
abbrev cX7_init : ByteArray := prog_1_method_1_code
def yX7_init : MethodName := ⟨RX7, "<init>", "(IIIII)V"⟩
abbrev cX7_open : ByteArray := prog_1_method_2_code
def yX7_open : MethodName := ⟨RX7, "open", "(II)I"⟩
abbrev cX7_send : ByteArray := prog_1_method_3_code
def yX7_send : MethodName := ⟨RX7, "send", "(III)I"⟩
abbrev cX7_mark : ByteArray := prog_1_method_4_code
def yX7_mark : MethodName := ⟨RX7, "mark", "(II)I"⟩
abbrev cX7_close : ByteArray := prog_1_method_5_code
def yX7_close : MethodName := ⟨RX7, "close", "(II)I"⟩
abbrev cX7_receive : ByteArray := prog_1_method_6_code
def yX7_receive : MethodName := ⟨RX7, "receive", "(II)I"⟩
abbrev cX7_word : ByteArray := prog_1_method_7_code
def yX7_word : MethodName := ⟨RX7, "word", "(I)I"⟩
abbrev cX7_weight : ByteArray := prog_1_method_8_code
def yX7_weight : MethodName := ⟨RX7, "weight", "(III)I"⟩
abbrev cX7_pump : ByteArray := prog_1_method_9_code
def yX7_pump : MethodName := ⟨RX7, "pump", "(I)I"⟩
abbrev cX7_drain : ByteArray := prog_1_method_10_code
def yX7_drain : MethodName := ⟨RX7, "drain", "(II)I"⟩
abbrev cX7_deliver : ByteArray := prog_1_method_11_code
def yX7_deliver : MethodName := ⟨RX7, "deliver", "(I)I"⟩
abbrev cX7_lose : ByteArray := prog_1_method_12_code
def yX7_lose : MethodName := ⟨RX7, "lose", "(I)Z"⟩
abbrev cX7_corrupt : ByteArray := prog_1_method_13_code
def yX7_corrupt : MethodName := ⟨RX7, "corrupt", "(III)Z"⟩
abbrev cX7_timeout : ByteArray := prog_1_method_14_code
def yX7_timeout : MethodName := ⟨RX7, "timeout", "(I)I"⟩
abbrev cX7_wire : ByteArray := prog_1_method_15_code
def yX7_wire : MethodName := ⟨RX7, "wire", "(III)I"⟩
abbrev cX7_stream : ByteArray := prog_1_method_16_code
def yX7_stream : MethodName := ⟨RX7, "stream", "(III)I"⟩
abbrev cX7_side : ByteArray := prog_1_method_17_code
def yX7_side : MethodName := ⟨RX7, "side", "(II)I"⟩
abbrev cX7_sideAt : ByteArray := prog_1_method_18_code
def yX7_sideAt : MethodName := ⟨RX7, "sideAt", "(I)LStreamWires$Side;"⟩
abbrev cX7_flowAt : ByteArray := prog_1_method_19_code
def yX7_flowAt : MethodName := ⟨RX7, "flowAt", "(II)LStreamWires$Flow;"⟩
abbrev cX7_frameAt : ByteArray := prog_1_method_20_code
def yX7_frameAt : MethodName := ⟨RX7, "frameAt", "(II)LStreamWires$Frame;"⟩
abbrev cX7_putItem : ByteArray := prog_1_method_21_code
def yX7_putItem : MethodName := ⟨RX7, "putItem", "(IIIZ)I"⟩
abbrev cX7_within : ByteArray := prog_1_method_22_code
def yX7_within : MethodName := ⟨RX7, "within", "(III)I"⟩
abbrev cX7_bit : ByteArray := prog_1_method_23_code
def yX7_bit : MethodName := ⟨RX7, "bit", "(Z)I"⟩
def RX8 : String := "StreamWiresModel"
def TX8 : u_T := fun k => match k with
  | 0 => ("StreamWiresModel", "streams", "I", true)
  | 1 => ("StreamWiresModel", "most", "I", true)
  | 2 => ("StreamWiresModel", "window", "I", true)
  | 3 => ("StreamWiresModel", "cells", "I", true)
  | 4 => ("StreamWiresModel", "wire1", "I", true)
  | 5 => ("StreamWiresModel", "kept", "I", true)
  | 6 => ("StreamWiresModel", "how", "[I", true)
  | 7 => ("StreamWiresModel", "shut", "[Z", true)
  | 8 => ("StreamWiresModel", "credit", "[I", true)
  | 9 => ("StreamWiresModel", "due", "[I", true)
  | 10 => ("StreamWiresModel", "weight", "[I", true)
  | 11 => ("StreamWiresModel", "openingWaits", "[Z", true)
  | 12 => ("StreamWiresModel", "endWaits", "[Z", true)
  | 13 => ("StreamWiresModel", "openingCame", "[Z", true)
  | 14 => ("StreamWiresModel", "words", "[I", true)
  | 15 => ("StreamWiresModel", "marks", "[I", true)
  | 16 => ("StreamWiresModel", "queued", "[I", true)
  | 17 => ("StreamWiresModel", "queueWord", "[I", true)
  | 18 => ("StreamWiresModel", "queueMark", "[Z", true)
  | 19 => ("StreamWiresModel", "lying", "[I", true)
  | 20 => ("StreamWiresModel", "lyingWord", "[I", true)
  | 21 => ("StreamWiresModel", "lyingMark", "[Z", true)
  | 22 => ("StreamWiresModel", "out", "[I", true)
  | 23 => ("StreamWiresModel", "outSize", "[I", true)
  | 24 => ("StreamWiresModel", "outWord", "[I", true)
  | 25 => ("StreamWiresModel", "on", "[I", true)
  | 26 => ("StreamWiresModel", "onSize", "[I", true)
  | 27 => ("StreamWiresModel", "onWord", "[I", true)
  | 28 => ("StreamWiresModel", "next", "[I", true)
  | 29 => ("StreamWiresModel", "wanted", "[I", true)
  | 30 => ("StreamWiresModel", "turn", "[I", true)
  | 31 => ("StreamWiresModel", "left", "[I", true)
  | 32 => ("StreamWiresModel", "heard", "[Z", true)
  | 33 => ("StreamWiresModel", "sent", "[I", true)
  | 34 => ("StreamWiresModel", "taken", "[I", true)
  | 35 => ("StreamWiresModel", "spoilt", "[I", true)
  | 36 => ("StreamWiresModel", "late", "[I", true)
  | 37 => ("StreamWiresModel", "last", "[I", true)
  | 38 => ("StreamWiresModel", "frame", "[I", true)
  | _ => ("StreamWiresModel", "size", "I", false)
def tyX8 : Nat → FieldType := fun k => match k with
  | 0 => .int
  | 1 => .int
  | 2 => .int
  | 3 => .int
  | 4 => .int
  | 5 => .int
  | 6 => .array .int
  | 7 => .array .boolean
  | 8 => .array .int
  | 9 => .array .int
  | 10 => .array .int
  | 11 => .array .boolean
  | 12 => .array .boolean
  | 13 => .array .boolean
  | 14 => .array .int
  | 15 => .array .int
  | 16 => .array .int
  | 17 => .array .int
  | 18 => .array .boolean
  | 19 => .array .int
  | 20 => .array .int
  | 21 => .array .boolean
  | 22 => .array .int
  | 23 => .array .int
  | 24 => .array .int
  | 25 => .array .int
  | 26 => .array .int
  | 27 => .array .int
  | 28 => .array .int
  | 29 => .array .int
  | 30 => .array .int
  | 31 => .array .int
  | 32 => .array .boolean
  | 33 => .array .int
  | 34 => .array .int
  | 35 => .array .int
  | 36 => .array .int
  | 37 => .array .int
  | 38 => .array .int
  | _ => .int
abbrev wsX80 : List Cond := u_ws RX8 TX8 40
theorem nmX8 : ∀ a, a < 40 → ∀ b, b < 40 → a ≠ b → (TX8 a).2.1 ≠ (TX8 b).2.1 := by decide +kernel
theorem tyX8_ok : ∀ k, k < 40 → parseFieldDescriptor (TX8 k).2.2.1 = some (tyX8 k) := by decide +kernel
abbrev cX8_within : ByteArray := prog_10_method_1_code
def yX8_within : MethodName := ⟨RX8, "within", "(III)I"⟩
abbrev cX8_init : ByteArray := prog_10_method_2_code
def yX8_init : MethodName := ⟨RX8, "<init>", "(IIIII)V"⟩
abbrev cX8_isSide : ByteArray := prog_10_method_3_code
def yX8_isSide : MethodName := ⟨RX8, "isSide", "(I)Z"⟩
abbrev cX8_isStream : ByteArray := prog_10_method_4_code
def yX8_isStream : MethodName := ⟨RX8, "isStream", "(II)Z"⟩
abbrev cX8_free : ByteArray := prog_10_method_5_code
def yX8_free : MethodName := ⟨RX8, "free", "(I)I"⟩
abbrev cX8_open : ByteArray := prog_10_method_6_code
def yX8_open : MethodName := ⟨RX8, "open", "(II)I"⟩
abbrev cX8_begin : ByteArray := prog_10_method_7_code
def yX8_begin : MethodName := ⟨RX8, "begin", "(I)V"⟩
abbrev cX8_put : ByteArray := prog_10_method_8_code
def yX8_put : MethodName := ⟨RX8, "put", "(IIIZ)I"⟩
abbrev cX8_send : ByteArray := prog_10_method_9_code
def yX8_send : MethodName := ⟨RX8, "send", "(III)I"⟩
abbrev cX8_mark : ByteArray := prog_10_method_10_code
def yX8_mark : MethodName := ⟨RX8, "mark", "(II)I"⟩
abbrev cX8_close : ByteArray := prog_10_method_11_code
def yX8_close : MethodName := ⟨RX8, "close", "(II)I"⟩
abbrev cX8_receive : ByteArray := prog_10_method_12_code
def yX8_receive : MethodName := ⟨RX8, "receive", "(II)I"⟩
abbrev cX8_word : ByteArray := prog_10_method_13_code
def yX8_word : MethodName := ⟨RX8, "word", "(I)I"⟩
abbrev cX8_weight : ByteArray := prog_10_method_14_code
def yX8_weight : MethodName := ⟨RX8, "weight", "(III)I"⟩
abbrev cX8_sumOf : ByteArray := prog_10_method_15_code
def yX8_sumOf : MethodName := ⟨RX8, "sumOf", "(I)I"⟩
abbrev cX8_beginFrame : ByteArray := prog_10_method_16_code
def yX8_beginFrame : MethodName := ⟨RX8, "beginFrame", "(IIII)V"⟩
abbrev cX8_add : ByteArray := prog_10_method_17_code
def yX8_add : MethodName := ⟨RX8, "add", "(I)V"⟩
abbrev cX8_finish : ByteArray := prog_10_method_18_code
def yX8_finish : MethodName := ⟨RX8, "finish", "(I)V"⟩
abbrev cX8_ontoWire : ByteArray := prog_10_method_19_code
def yX8_ontoWire : MethodName := ⟨RX8, "ontoWire", "(I)V"⟩
abbrev cX8_hasSome : ByteArray := prog_10_method_20_code
def yX8_hasSome : MethodName := ⟨RX8, "hasSome", "(II)Z"⟩
abbrev cX8_sendOf : ByteArray := prog_10_method_21_code
def yX8_sendOf : MethodName := ⟨RX8, "sendOf", "(II)V"⟩
abbrev cX8_pump : ByteArray := prog_10_method_22_code
def yX8_pump : MethodName := ⟨RX8, "pump", "(I)I"⟩
abbrev cX8_drain : ByteArray := prog_10_method_23_code
def yX8_drain : MethodName := ⟨RX8, "drain", "(II)I"⟩
abbrev cX8_dropOldest : ByteArray := prog_10_method_24_code
def yX8_dropOldest : MethodName := ⟨RX8, "dropOldest", "(I)V"⟩
abbrev cX8_kind : ByteArray := prog_10_method_25_code
def yX8_kind : MethodName := ⟨RX8, "kind", "()I"⟩
abbrev cX8_streamIn : ByteArray := prog_10_method_26_code
def yX8_streamIn : MethodName := ⟨RX8, "streamIn", "()I"⟩
abbrev cX8_countIn : ByteArray := prog_10_method_27_code
def yX8_countIn : MethodName := ⟨RX8, "countIn", "()I"⟩
abbrev cX8_isFrame : ByteArray := prog_10_method_28_code
def yX8_isFrame : MethodName := ⟨RX8, "isFrame", "()Z"⟩
abbrev cX8_confirm : ByteArray := prog_10_method_29_code
def yX8_confirm : MethodName := ⟨RX8, "confirm", "(II)V"⟩
abbrev cX8_canBe : ByteArray := prog_10_method_30_code
def yX8_canBe : MethodName := ⟨RX8, "canBe", "(I)Z"⟩
abbrev cX8_take : ByteArray := prog_10_method_31_code
def yX8_take : MethodName := ⟨RX8, "take", "(I)V"⟩
abbrev cX8_deliver : ByteArray := prog_10_method_32_code
def yX8_deliver : MethodName := ⟨RX8, "deliver", "(I)I"⟩
abbrev cX8_lose : ByteArray := prog_10_method_33_code
def yX8_lose : MethodName := ⟨RX8, "lose", "(I)Z"⟩
abbrev cX8_corrupt : ByteArray := prog_10_method_34_code
def yX8_corrupt : MethodName := ⟨RX8, "corrupt", "(III)Z"⟩
abbrev cX8_timeout : ByteArray := prog_10_method_35_code
def yX8_timeout : MethodName := ⟨RX8, "timeout", "(I)I"⟩
abbrev cX8_wire : ByteArray := prog_10_method_36_code
def yX8_wire : MethodName := ⟨RX8, "wire", "(III)I"⟩
abbrev cX8_stream : ByteArray := prog_10_method_37_code
def yX8_stream : MethodName := ⟨RX8, "stream", "(III)I"⟩
abbrev cX8_side : ByteArray := prog_10_method_38_code
def yX8_side : MethodName := ⟨RX8, "side", "(II)I"⟩
def RJ9 : String := "java/lang/Math"
def TJ9 : u_T := fun k => match k with
  | _ => ("", "", "", false)
def tyJ9 : Nat → FieldType := fun k => match k with
  | _ => .int
abbrev wsJ90 : List Cond := u_ws RJ9 TJ9 0
theorem nmJ9 : ∀ a, a < 0 → ∀ b, b < 0 → a ≠ b → (TJ9 a).2.1 ≠ (TJ9 b).2.1 := by decide +kernel
theorem tyJ9_ok : ∀ k, k < 0 → parseFieldDescriptor (TJ9 k).2.2.1 = some (tyJ9 k) := by decide +kernel
abbrev cJ9_max_7cf53 : ByteArray := prog_11_method_65_code
def yJ9_max_7cf53 : MethodName := ⟨RJ9, "max", "(II)I"⟩
abbrev cJ9_min_7cf53 : ByteArray := prog_11_method_69_code
def yJ9_min_7cf53 : MethodName := ⟨RJ9, "min", "(II)I"⟩
def RL : String := "StreamWiresLaw"
abbrev cL_cell : ByteArray := method_2_code
def yL_cell : MethodName := ⟨RL, "cell", "([II)I"⟩
abbrev cL_law : ByteArray := code
def yL_law : MethodName := ⟨RL, "law", "([I)Z"⟩
abbrev vwCl : List vw_C := [(RX0, TX0, 4), (RX1, TX1, 13), (RX2, TX2, 2), (RX3, TX3, 3), (RX4, TX4, 6), (RX5, TX5, 4), (RX6, TX6, 15), (RX7, TX7, 2), (RX8, TX8, 40)]
theorem inX0 : ∀ w ∈ wsX00, w ∈ lw_tbl := by decide +kernel
theorem inX1 : ∀ w ∈ wsX10, w ∈ lw_tbl := by decide +kernel
theorem inX2 : ∀ w ∈ wsX20, w ∈ lw_tbl := by decide +kernel
theorem inX3 : ∀ w ∈ wsX30, w ∈ lw_tbl := by decide +kernel
theorem inX4 : ∀ w ∈ wsX40, w ∈ lw_tbl := by decide +kernel
theorem inX5 : ∀ w ∈ wsX50, w ∈ lw_tbl := by decide +kernel
theorem inX6 : ∀ w ∈ wsX60, w ∈ lw_tbl := by decide +kernel
theorem inX7 : ∀ w ∈ wsX70, w ∈ lw_tbl := by decide +kernel
theorem inX8 : ∀ w ∈ wsX80, w ∈ lw_tbl := by decide +kernel
end
section
/-! The abstract machine of one method: values, stores, locals; the layout of the kinds; one step; many steps -/
abbrev sw_V : Type := Int32 ⊕ Option (Nat × Nat)
abbrev sw_S : Type := Nat → Nat → Nat → Int32
abbrev sw_L : Type := List (Option sw_V)
abbrev sw_I : Type := Nat × Nat × Nat × Nat × Int32
abbrev sw_F : Type := List sw_V → sw_S → Prop × (Option sw_V × sw_S)
abbrev sw_A : Type := Nat → Nat → Nat
abbrev sw_R : Type := Nat → Nat → Nat → Nat
abbrev sw_C : Type := List (Nat × Nat × Nat × sw_F)
abbrev sw_T : Type := Nat → List (Int32 × Nat)
def sw_up (σ : sw_S) (c k j : Nat) (v : Int32) : sw_S := fun c' k' j' => if c' = c ∧ k' = k ∧ j' = j then v else σ c' k' j'
def sw_get : sw_L → Nat → Option sw_V
  | [], _ => none
  | x :: _, 0 => x
  | _ :: l, n + 1 => sw_get l n
def sw_set : sw_L → Nat → sw_V → sw_L
  | [], _, _ => []
  | _ :: l, 0, v => some v :: l
  | x :: l, n + 1, v => x :: sw_set l n v
def sw_nth : List Nat → Nat → Option Nat
  | [], _ => none
  | x :: _, 0 => some x
  | _ :: l, n + 1 => sw_nth l n
def sw_tk : Nat → List sw_V → List sw_V → Option (List sw_V × List sw_V)
  | 0, st, acc => some (acc, st)
  | n + 1, v :: st, acc => sw_tk n st (v :: acc)
  | _ + 1, [], _ => none
def sw_lk : sw_C → Nat → Option (Nat × Nat × sw_F)
  | [], _ => none
  | q :: l, i => bif Nat.beq q.1 i then some q.2 else sw_lk l i
def sw_fl : List (Nat × Nat × Nat) → Nat → Option (Nat × Nat)
  | [], _ => none
  | q :: l, i => bif Nat.beq q.1 i then some q.2 else sw_fl l i
def sw_cn : List (Nat × Int32) → Nat → Option Int32
  | [], _ => none
  | q :: l, i => bif Nat.beq q.1 i then some q.2 else sw_cn l i
/-- a call's receiver: md 0 is static, md k + 1 wants an object of kind k -/
def sw_rc (md b : Nat) (avs : List sw_V) : Bool := match md with
  | 0 => Nat.beq b 1
  | c0 + 1 => Nat.beq b 0 && (match avs with
    | .inr (some q) :: _ => Nat.beq q.1 c0
    | _ => false)
def sw_bo (x : Int32) : Prop := x = 0 ∨ x = 1
def sw_ushr (x y : Int32) : Int32 := (x.toUInt32 >>> (y.toUInt32 &&& Int32.toUInt32 31)).toInt32
def sw_rem (x y : Int32) : Int32 := x - x / y * y
def sw_ar (a : Nat) (x y : Int32) : Int32 := match a with
  | 0 => x + y
  | 1 => x - y
  | 2 => x * y
  | 3 => x &&& y
  | 4 => x ||| y
  | 5 => x ^^^ y
  | 6 => x <<< (y &&& 31)
  | 7 => x >>> (y &&& 31)
  | _ => sw_ushr x y
def sw_br (a : Nat) (x y : Int32) (T F : Prop) : Prop := match a with
  | 0 => (x = y → T) ∧ (¬ x = y → F)
  | 1 => (¬ x = y → T) ∧ (x = y → F)
  | 2 => (x < y → T) ∧ (¬ x < y → F)
  | 3 => (y ≤ x → T) ∧ (¬ y ≤ x → F)
  | 4 => (y < x → T) ∧ (¬ y < x → F)
  | _ => (x ≤ y → T) ∧ (¬ x ≤ y → F)
def sw_sw (x : Int32) (d : Nat) (K : Nat → Prop) : List (Int32 × Nat) → Prop
  | [] => K d
  | q :: l => (x = q.1 → K q.2) ∧ (¬ x = q.1 → sw_sw x d K l)
def sw_lay (c : Nat) : List Nat ⊕ Nat := match c with
  | 0 => .inl [12, 13, 14, 0]
  | 1 => .inl [8, 8, 2, 0, 0, 0, 0, 1, 1, 1, 1, 0, 0]
  | 2 => .inl [15, 0]
  | 3 => .inl [16, 0, 0]
  | 4 => .inl [2, 2, 2, 2, 2, 2]
  | 5 => .inl [3, 0, 0, 0]
  | 6 => .inl [7, 17, 6, 6, 5, 0, 0, 0, 0, 1, 0, 0, 0, 0, 0]
  | 7 => .inl [9, 9]
  | 8 => .inl [2, 2, 2, 2, 2, 2, 18, 19, 18, 18, 18, 19, 19, 19, 18, 18, 18, 18, 19, 18, 18, 19, 18, 18, 18, 18, 18, 18, 18, 18, 18, 18, 19, 18, 18, 18, 18, 18, 18, 0]
  | 9 => .inr 0
  | 10 => .inr 1
  | 11 => .inr 0
  | 12 => .inr 0
  | 13 => .inr 4
  | 14 => .inr 3
  | 15 => .inr 0
  | 16 => .inr 1
  | _ => .inr 9999
/-- one instruction: (which, a, b, the next pc, a number) -/
def sw_st (rf : sw_R) (ln : sw_A) (CT : sw_C) (TS : List (Int32 × Nat)) (rt : Nat) (Q : Option sw_V → sw_S → Prop) (K : Nat → sw_L → List sw_V → sw_S → Prop) (i : sw_I) (ls : sw_L) (st : List sw_V) (σ : sw_S) : Prop :=
  match i with
  | (0, _, _, nx, v) => K nx ls (.inl v :: st) σ
  | (1, a, _, nx, _) => match sw_get ls a with
    | some (.inl x) => K nx ls (.inl x :: st) σ
    | _ => False
  | (2, a, _, nx, _) => match sw_get ls a with
    | some (.inr r) => K nx ls (.inr r :: st) σ
    | _ => False
  | (3, a, _, nx, _) => match st with
    | .inl x :: st' => bif Nat.blt a ls.length then K nx (sw_set ls a (.inl x)) st' σ else False
    | _ => False
  | (4, a, _, nx, _) => match st with
    | .inr r :: st' => bif Nat.blt a ls.length then K nx (sw_set ls a (.inr r)) st' σ else False
    | _ => False
  | (5, a, _, nx, v) => match sw_get ls a with
    | some (.inl x) => K nx (sw_set ls a (.inl (x + v))) st σ
    | _ => False
  | (6, a, _, nx, _) => match st with
    | .inl y :: .inl x :: st' => K nx ls (.inl (sw_ar a x y) :: st') σ
    | _ => False
  | (7, a, b, nx, _) => match st with
    | .inr (some q) :: st' => bif Nat.beq q.1 a then (match sw_lay a with
      | .inl ds => match sw_nth ds b with
        | some d => K nx ls ((bif Nat.blt d 3 then .inl (σ a q.2 b) else .inr (some (d - 3, rf a q.2 b))) :: st') σ
        | none => False
      | _ => False) else False
    | _ => False
  | (8, a, b, nx, _) => match st with
    | .inl x :: .inr (some q) :: st' => bif Nat.beq q.1 a then (match sw_lay a with
      | .inl ds => match sw_nth ds b with
        | some 0 => K nx ls st' (sw_up σ a q.2 b x)
        | some 1 => sw_bo x ∧ K nx ls st' (sw_up σ a q.2 b x)
        | _ => False
      | _ => False) else False
    | _ => False
  | (9, a, _, nx, _) => match st with
    | .inl j :: .inr (some q) :: st' => (match sw_lay q.1 with
      | .inr t => vp_in j (ln q.1 q.2) ∧ (match a with
        | 2 => (bif Nat.ble 2 t then K nx ls (.inr (some (t - 2, rf q.1 q.2 j.toNatClampNeg)) :: st') σ else False)
        | _ => (bif Nat.beq t a then K nx ls (.inl (σ q.1 q.2 j.toNatClampNeg) :: st') σ else False))
      | _ => False)
    | _ => False
  | (10, a, _, nx, _) => match st with
    | .inl x :: .inl j :: .inr (some q) :: st' => (match sw_lay q.1 with
      | .inr t => bif Nat.beq t a then (vp_in j (ln q.1 q.2) ∧ (match a with
        | 0 => K nx ls st' (sw_up σ q.1 q.2 j.toNatClampNeg x)
        | _ => sw_bo x ∧ K nx ls st' (sw_up σ q.1 q.2 j.toNatClampNeg x))) else False
      | _ => False)
    | _ => False
  | (11, _, _, nx, _) => match st with
    | .inr (some q) :: st' => (match sw_lay q.1 with
      | .inr t => bif Nat.ble t 4 then K nx ls (.inl (nI (ln q.1 q.2)) :: st') σ else False
      | _ => False)
    | _ => False
  | (12, a, b, nx, _) => match st with
    | .inl x :: st' => sw_br a x 0 (K b ls st' σ) (K nx ls st' σ)
    | _ => False
  | (13, a, b, nx, _) => match st with
    | .inl y :: .inl x :: st' => sw_br a x y (K b ls st' σ) (K nx ls st' σ)
    | _ => False
  | (14, _, b, nx, _) => match st with
    | .inr none :: st' => K b ls st' σ
    | .inr (some _) :: st' => K nx ls st' σ
    | _ => False
  | (15, _, b, nx, _) => match st with
    | .inr none :: st' => K nx ls st' σ
    | .inr (some _) :: st' => K b ls st' σ
    | _ => False
  | (16, _, b, _, _) => K b ls st σ
  | (17, a, _, _, _) => match st with
    | .inl x :: st' => sw_sw x a (fun t => K t ls st' σ) TS
    | _ => False
  | (18, a, b, nx, _) => match sw_lk CT a with
    | some (n, md, f) => (match sw_tk n st [] with
      | some (avs, st') => bif sw_rc md b avs && Nat.ble st'.length 8 then ((f avs σ).1 ∧ K nx ls ((f avs σ).2.1.toList ++ st') (f avs σ).2.2) else False
      | none => False)
    | none => False
  | (19, _, _, _, _) => match st with
    | [.inl x] => (match rt with
      | 1 => Q (some (.inl x)) σ
      | 2 => sw_bo x ∧ Q (some (.inl x)) σ
      | _ => False)
    | _ => False
  | (20, _, _, _, _) => match st with
    | [.inr r] => (match rt with
      | 3 => Q (some (.inr r)) σ
      | _ => False)
    | _ => False
  | (21, _, _, _, _) => match st with
    | [] => (match rt with
      | 0 => Q none σ
      | _ => False)
    | _ => False
  | (22, _, _, nx, _) => match st with
    | x :: st' => K nx ls (x :: x :: st') σ
    | _ => False
  | (23, _, _, nx, _) => match st with
    | x :: y :: st' => K nx ls (x :: y :: x :: y :: st') σ
    | _ => False
  | (24, _, _, nx, _) => match st with
    | _ :: st' => K nx ls st' σ
    | _ => False
  | (25, _, _, nx, _) => K nx ls (.inr none :: st) σ
  | (26, _, _, nx, _) => match st with
    | .inl y :: .inl x :: st' => ¬ y = 0 ∧ K nx ls (.inl (x / y) :: st') σ
    | _ => False
  | (27, _, _, nx, _) => match st with
    | .inl y :: .inl x :: st' => ¬ y = 0 ∧ K nx ls (.inl (sw_rem x y) :: st') σ
    | _ => False
  | _ => False
/-- the code of a method: a table up to a last pc -/
def sw_tab (N : Nat) (tree : Nat → sw_I) (pc : Nat) : sw_I := bif Nat.ble pc N then tree pc else (99, 0, 0, 0, 0)
def sw_wp (rf : sw_R) (ln : sw_A) (CT : sw_C) (TS : sw_T) (rt N : Nat) (tree : Nat → sw_I) (Q : Option sw_V → sw_S → Prop) : Nat → Nat → sw_L → List sw_V → sw_S → Prop
  | 0, _, _, _, _ => False
  | n + 1, pc, ls, st, σ => sw_st rf ln CT (TS pc) rt Q (sw_wp rf ln CT TS rt N tree Q n) (sw_tab N tree pc) ls st σ
theorem sw_br_mono {a : Nat} {x y : Int32} {T F T' F' : Prop} (hT : T → T') (hF : F → F') (h : sw_br a x y T F) : sw_br a x y T' F' := by
  unfold sw_br at h ⊢
  split at h <;> exact ⟨fun z => by first | exact hT (h.1 z), fun z => by first | exact hF (h.2 z)⟩
theorem sw_sw_mono {x : Int32} {d : Nat} {K K' : Nat → Prop} (hK : ∀ t, K t → K' t) : ∀ l : List (Int32 × Nat), sw_sw x d K l → sw_sw x d K' l
  | [], h => hK _ h
  | q :: l, h => ⟨fun z => hK _ (h.1 z), fun z => sw_sw_mono hK l (h.2 z)⟩
end
section
/-! The world: static addresses, references, lengths; a store of ints -/
def sw_tbl : List Cond := lw_tbl.filter goodWord
theorem sw_tbl_lw {w : Cond} (h : w ∈ sw_tbl) : w ∈ lw_tbl := (List.mem_filter.mp h).1
theorem sw_tbl_good : GoodIn sw_tbl sw_tbl := fun w h => ⟨h, good_of_word (List.mem_filter.mp h).2⟩
theorem sw_good_cons {w : Cond} (h : w ∈ sw_tbl) : GoodIn sw_tbl (w :: sw_tbl) := fun v hv => by
  rcases List.mem_cons.mp hv with rfl | h2
  · exact sw_tbl_good _ h
  · exact sw_tbl_good _ h2
def sw_em (ad : sw_A) : sw_V → Value
  | .inl x => .int x
  | .inr none => .null
  | .inr (some q) => .ref (ad q.1 q.2)
def sw_ov (V : Nat → Nat → Prop) : sw_V → Prop
  | .inl _ => True
  | .inr none => True
  | .inr (some q) => V q.1 q.2
theorem sw_em_cat (ad : sw_A) (v : sw_V) : (sw_em ad v).category = 1 := by
  rcases v with x | _ | q <;> rfl
def sw_wf (ad : sw_A) (V : Nat → Nat → Prop) (rf : sw_R) (ln : sw_A) : Prop :=
  (∀ c k c' k', V c k → V c' k' → ad c k = ad c' k' → c = c' ∧ k = k') ∧
  (∀ c k ds j d, V c k → sw_lay c = .inl ds → sw_nth ds j = some d → 3 ≤ d → V (d - 3) (rf c k j)) ∧
  (∀ c k t j, V c k → sw_lay c = .inr t → 2 ≤ t → j < ln c k → V (t - 2) (rf c k j)) ∧
  (∀ c k, V c k → c < 17)
def sw_fv (ad : sw_A) (rf : sw_R) (c k : Nat) (r : Nat → Int32) (j d : Nat) : Value := bif Nat.blt d 3 then .int (r j) else .ref (ad (d - 3) (rf c k j))
def sw_fs (ad : sw_A) (rf : sw_R) (c k : Nat) (r : Nat → Int32) : List Nat → Nat → List Value
  | [], _ => []
  | d :: l, j => sw_fv ad rf c k r j d :: sw_fs ad rf c k r l (j + 1)
def sw_en (ad : sw_A) (rf : sw_R) (ln : sw_A) (ca : Nat → ClassId) (c k : Nat) (r : Nat → Int32) : va_E := match sw_lay c with
  | .inl ds => .inr (c, sw_fs ad rf c k r ds 0)
  | .inr t => bif Nat.blt t 2 then .inl (ca t, ln c k, .inl r) else .inl (ca t, ln c k, .inr (.inr (.inr (.inr (fun j => some (ad (t - 2) (rf c k j)))))))
def sw_w (ad : sw_A) (V : Nat → Nat → Prop) (rf : sw_R) (ln : sw_A) (ca : Nat → ClassId) (D : va_G) (σ : sw_S) (H : Heap) : Prop := ∀ c k, V c k → va_at D vwCl (ad c k, sw_en ad rf ln ca c k (σ c k)) H
def sw_ty (ca : Nat → ClassId) : List (ClassId × FieldType) := [(ca 0, .int), (ca 1, .boolean), (ca 3, .object "StreamWires$Flow"), (ca 4, .object "StreamWires$Frame")]
def sw_ad (ad : sw_A) (V : Nat → Nat → Prop) : Nat → Prop := fun q => ∃ c k, V c k ∧ ad c k = q
def sw_cl : Nat → vw_C
  | 0 => (RX0, TX0, 4)
  | 1 => (RX1, TX1, 13)
  | 2 => (RX2, TX2, 2)
  | 3 => (RX3, TX3, 3)
  | 4 => (RX4, TX4, 6)
  | 5 => (RX5, TX5, 4)
  | 6 => (RX6, TX6, 15)
  | 7 => (RX7, TX7, 2)
  | _ => (RX8, TX8, 40)
def sw_tc : Nat → Nat → FieldType
  | 0 => tyX0
  | 1 => tyX1
  | 2 => tyX2
  | 3 => tyX3
  | 4 => tyX4
  | 5 => tyX5
  | 6 => tyX6
  | 7 => tyX7
  | _ => tyX8
theorem sw_lay_lt {c : Nat} {ds : List Nat} (h : sw_lay c = .inl ds) : c < 9 := by
  match c, h with
  | 0, _ => decide
  | 1, _ => decide
  | 2, _ => decide
  | 3, _ => decide
  | 4, _ => decide
  | 5, _ => decide
  | 6, _ => decide
  | 7, _ => decide
  | 8, _ => decide
  | 9, h => cases h
  | 10, h => cases h
  | 11, h => cases h
  | 12, h => cases h
  | 13, h => cases h
  | 14, h => cases h
  | 15, h => cases h
  | 16, h => cases h
  | n + 17, h => cases h
theorem sw_9 {P : Nat → Prop} (h0 : P 0) (h1 : P 1) (h2 : P 2) (h3 : P 3) (h4 : P 4) (h5 : P 5) (h6 : P 6) (h7 : P 7) (h8 : P 8) {c : Nat} (h : c < 9) : P c := by
  match c, h with
  | 0, _ => exact h0
  | 1, _ => exact h1
  | 2, _ => exact h2
  | 3, _ => exact h3
  | 4, _ => exact h4
  | 5, _ => exact h5
  | 6, _ => exact h6
  | 7, _ => exact h7
  | 8, _ => exact h8
theorem sw_cl_at {c : Nat} (h : c < 9) : vwCl[c]? = some (sw_cl c) := sw_9 (P := fun c => vwCl[c]? = some (sw_cl c)) rfl rfl rfl rfl rfl rfl rfl rfl rfl h
theorem sw_cl_in {c : Nat} (h : c < 9) : ∀ w ∈ u_ws (sw_cl c).1 (sw_cl c).2.1 (sw_cl c).2.2, w ∈ sw_tbl :=
  sw_9 (P := fun c => ∀ w ∈ u_ws (sw_cl c).1 (sw_cl c).2.1 (sw_cl c).2.2, w ∈ sw_tbl) (by decide +kernel) (by decide +kernel) (by decide +kernel) (by decide +kernel) (by decide +kernel) (by decide +kernel) (by decide +kernel) (by decide +kernel) (by decide +kernel) h
theorem sw_cl_ty {c : Nat} (h : c < 9) : ∀ k, k < (sw_cl c).2.2 → parseFieldDescriptor ((sw_cl c).2.1 k).2.2.1 = some (sw_tc c k) :=
  sw_9 (P := fun c => ∀ k, k < (sw_cl c).2.2 → parseFieldDescriptor ((sw_cl c).2.1 k).2.2.1 = some (sw_tc c k)) tyX0_ok tyX1_ok tyX2_ok tyX3_ok tyX4_ok tyX5_ok tyX6_ok tyX7_ok tyX8_ok h
theorem sw_cl_nm {c : Nat} (h : c < 9) : ∀ a, a < (sw_cl c).2.2 → ∀ b, b < (sw_cl c).2.2 → a ≠ b → ((sw_cl c).2.1 a).2.1 ≠ ((sw_cl c).2.1 b).2.1 :=
  sw_9 (P := fun c => ∀ a, a < (sw_cl c).2.2 → ∀ b, b < (sw_cl c).2.2 → a ≠ b → ((sw_cl c).2.1 a).2.1 ≠ ((sw_cl c).2.1 b).2.1) nmX0 nmX1 nmX2 nmX3 nmX4 nmX5 nmX6 nmX7 nmX8 h
def sw_fok (c : Nat) : Bool := match sw_lay c with
  | .inl ds => Nat.beq ds.length (sw_cl c).2.2 && (List.range (sw_cl c).2.2).all (fun j => match sw_nth ds j with
    | some 0 => decide (sw_tc c j = .int ∧ ((sw_cl c).2.1 j).2.2.2 = false)
    | some 1 => decide (sw_tc c j = .boolean ∧ ((sw_cl c).2.1 j).2.2.2 = false)
    | some _ => true
    | none => false)
  | _ => false
theorem sw_fok_all : ∀ c, c < 9 → sw_fok c = true := by decide +kernel
theorem sw_nth_lt : ∀ {l : List Nat} {j d : Nat}, sw_nth l j = some d → j < l.length
  | [], _, _, h => by cases h
  | _ :: l, 0, _, _ => Nat.zero_lt_succ _
  | _ :: l, j + 1, _, h => Nat.succ_lt_succ (sw_nth_lt (l := l) h)
theorem sw_f_lt {c j d : Nat} {ds : List Nat} (hl : sw_lay c = .inl ds) (hd : sw_nth ds j = some d) : j < (sw_cl c).2.2 := by
  have h := sw_fok_all c (sw_lay_lt hl)
  unfold sw_fok at h
  rw [hl] at h
  simp only [Bool.and_eq_true] at h
  rw [← Nat.eq_of_beq_eq_true h.1]
  exact sw_nth_lt hd
theorem sw_f_ty {c j d : Nat} {ds : List Nat} (hl : sw_lay c = .inl ds) (hd : sw_nth ds j = some d) : (d = 0 → sw_tc c j = .int ∧ ((sw_cl c).2.1 j).2.2.2 = false) ∧ (d = 1 → sw_tc c j = .boolean ∧ ((sw_cl c).2.1 j).2.2.2 = false) := by
  have hj := sw_f_lt hl hd
  have h := sw_fok_all c (sw_lay_lt hl)
  unfold sw_fok at h
  rw [hl] at h
  simp only [Bool.and_eq_true] at h
  have h2 := List.all_eq_true.mp h.2 j (List.mem_range.mpr hj)
  rw [hd] at h2
  refine ⟨fun e => ?_, fun e => ?_⟩
  · subst e
    exact of_decide_eq_true h2
  · subst e
    exact of_decide_eq_true h2
theorem sw_fs_at (ad : sw_A) (rf : sw_R) (c k : Nat) (r : Nat → Int32) : ∀ (ds : List Nat) (j0 j : Nat), (sw_fs ad rf c k r ds j0)[j]? = (sw_nth ds j).map (fun d => sw_fv ad rf c k r (j0 + j) d)
  | [], _, _ => by simp [sw_fs, sw_nth]
  | d :: l, j0, 0 => by simp [sw_fs, sw_nth]
  | d :: l, j0, j + 1 => by
    simp only [sw_fs, sw_nth, List.getElem?_cons_succ]
    rw [sw_fs_at ad rf c k r l (j0 + 1) j]
    rw [show j0 + 1 + j = j0 + (j + 1) by omega]
theorem sw_w.one {ad : sw_A} {V : Nat → Nat → Prop} {rf : sw_R} {ln : sw_A} {ca : Nat → ClassId} {D : va_G} {σ : sw_S} {H : Heap} (h : sw_w ad V rf ln ca D σ H) {c k : Nat} (hV : V c k) {E : va_E} (hE : sw_en ad rf ln ca c k (σ c k) = E) : va_P D vwCl [(ad c k, E)] H := by
  intro i q hq
  subst hE
  match i, hq with
  | 0, hq => cases hq; exact h c k hV
  | i + 1, hq => simp at hq
theorem sw_up_self (σ : sw_S) (c k j : Nat) (x : Int32) : sw_up σ c k j x c k = upd (σ c k) j x := by
  funext i
  simp only [sw_up, true_and, upd]
theorem sw_up_ne (σ : sw_S) (c k j : Nat) (x : Int32) {c' k' : Nat} (h : ¬ (c' = c ∧ k' = k)) : sw_up σ c k j x c' k' = σ c' k' := by
  funext i
  simp only [sw_up]
  rw [if_neg]
  exact fun z => h ⟨z.1, z.2.1⟩
/-- a cell is written: the world with the new entry -/
theorem sw_w.put {ad : sw_A} {V : Nat → Nat → Prop} {rf : sw_R} {ln : sw_A} {ca : Nat → ClassId} {D : va_G} {σ : sw_S} {H H1 : Heap} (hG : sw_wf ad V rf ln) (h : sw_w ad V rf ln ca D σ H) {c k j : Nat} {x : Int32} (hV : V c k) (he : va_at D vwCl (ad c k, sw_en ad rf ln ca c k (upd (σ c k) j x)) H1) (oq : ∀ q : Nat, q ≠ ad c k → H1[q]? = H[q]?) : sw_w ad V rf ln ca D (sw_up σ c k j x) H1 := by
  intro c' k' hV'
  by_cases hc : c' = c ∧ k' = k
  · obtain ⟨rfl, rfl⟩ := hc
    rw [sw_up_self]
    exact he
  · rw [sw_up_ne σ c k j x hc]
    exact (h c' k' hV').kept (oq _ (fun z => hc (hG.1 c' k' c k hV' hV z)))
theorem sw_w.kept {ad : sw_A} {V : Nat → Nat → Prop} {rf : sw_R} {ln : sw_A} {ca : Nat → ClassId} {D : va_G} {σ : sw_S} {H H1 : Heap} (h : sw_w ad V rf ln ca D σ H) (oq : ∀ c k, V c k → H1[ad c k]? = H[ad c k]?) : sw_w ad V rf ln ca D σ H1 := fun c k hV => (h c k hV).kept (oq c k hV)
end
section
/-! The rows of the heap over the world -/
section swRows
variable {p : Program} {l : Launch} {e : Env} {R : Room} {s : State} {m : MethodId} {args : Array Value} {below : List Frame} {meth : Method} {c : Code} {H : Heap} {locs : List Loc} {cells slots : Nat} {Q : State → Prop}
variable {cc : ByteArray} {pc : Nat} {ls : Array Slot} {rest : List Value} {ad : sw_A} {V : Nat → Nat → Prop} {rf : sw_R} {ln : sw_A} {ca : Nat → ClassId} {D : va_G} {σ : sw_S}
theorem sw_en_o {ck k : Nat} {r : Nat → Int32} {ds : List Nat} (hl : sw_lay ck = .inl ds) : sw_en ad rf ln ca ck k r = .inr (ck, sw_fs ad rf ck k r ds 0) := by
  unfold sw_en
  rw [hl]
theorem sw_en_a {ck k t : Nat} {r : Nat → Int32} (hl : sw_lay ck = .inr t) (ht : t < 2) : sw_en ad rf ln ca ck k r = .inl (ca t, ln ck k, .inl r) := by
  unfold sw_en
  rw [hl]
  have h2 : Nat.blt t 2 = true := Nat.ble_eq.mpr ht
  simp only [h2, cond_true]
theorem sw_en_q {ck k t : Nat} {r : Nat → Int32} (hl : sw_lay ck = .inr t) (ht : 2 ≤ t) : sw_en ad rf ln ca ck k r = .inl (ca t, ln ck k, .inr (.inr (.inr (.inr (fun j => some (ad (t - 2) (rf ck k j))))))) := by
  unfold sw_en
  rw [hl]
  have h2 : Nat.blt t 2 = false := by
    rw [← Bool.not_eq_true]
    intro h
    exact absurd (Nat.le_of_ble_eq_true h) (by omega)
  simp only [h2, cond_false]
theorem sw_getf (hx : p.tables.exec = Jvm.exec) (hb : c.code = cc) {own : String} {idx : Nat} (hts : ∀ w ∈ sw_tbl, w.before args s = true) (hown : s.vm.findClass own = some m.cls) (hK : va_K D vwCl (sw_ty ca) s) (hw : sw_w ad V rf ln ca D σ H) {ck k j d : Nat} {ds : List Nat} (hV : V ck k) (hl : sw_lay ck = .inl ds) (hd : sw_nth ds j = some d)
    (hlink : Cond.fieldLink own idx ((sw_cl ck).2.1 j).1 ((sw_cl ck).2.1 j).2.1 ((sw_cl ck).2.1 j).2.2.1 ∈ sw_tbl) (hdg : decode cc pc = .ok (.getfield idx, 3))
    (kk : W p l e R s m args below meth c H locs cells slots Q (F0 m (pc + 3) ls (sw_fv ad rf ck k (σ ck k) j d :: rest))) : W p l e R s m args below meth c H locs cells slots Q (F0 m pc ls (.ref (ad ck k) :: rest)) := by
  have hP := hw.one hV (sw_en_o hl)
  refine va_get (C := (sw_cl ck).1) (T := (sw_cl ck).2.1) (N := (sw_cl ck).2.2) (ci := ck) hx hb hts (sw_cl_in (sw_lay_lt hl)) hown hK hP 0 rfl (sw_cl_at (sw_lay_lt hl)) j (sw_f_lt hl hd) (hts _ hlink) (fun _ h => h) ?_ hdg kk
  rw [sw_fs_at, hd, Nat.zero_add]
  rfl
theorem sw_putf (hx : p.tables.exec = Jvm.exec) (hb : c.code = cc) {own : String} {idx : Nat} (hts : ∀ w ∈ sw_tbl, w.before args s = true) (hown : s.vm.findClass own = some m.cls) (hK : va_K D vwCl (sw_ty ca) s) (hG : sw_wf ad V rf ln) (hw : sw_w ad V rf ln ca D σ H) (hS : va_S (sw_ad ad V) s.heap H locs) {ck k j d : Nat} {ds : List Nat} {x : Int32} (hV : V ck k) (hl : sw_lay ck = .inl ds) (hd : sw_nth ds j = some d) (hd2 : d = 0 ∨ (d = 1 ∧ sw_bo x))
    (hlink : Cond.fieldLink own idx ((sw_cl ck).2.1 j).1 ((sw_cl ck).2.1 j).2.1 ((sw_cl ck).2.1 j).2.2.1 ∈ sw_tbl) (hdg : decode cc pc = .ok (.putfield idx, 3))
    (kk : ∀ (H1 : Heap) (locs1 : List Loc), sw_w ad V rf ln ca D (sw_up σ ck k j x) H1 → va_S (sw_ad ad V) s.heap H1 locs1 → W p l e R s m args below meth c H1 locs1 cells slots Q (F0 m (pc + 3) ls rest)) : W p l e R s m args below meth c H locs cells slots Q (F0 m pc ls (.int x :: .ref (ad ck k) :: rest)) := by
  have h9 := sw_lay_lt hl
  have hj := sw_f_lt hl hd
  have hty := sw_f_ty hl hd
  have hpd := sw_cl_ty h9 j hj
  have hfin : ((sw_cl ck).2.1 j).2.2.2 = false := by
    rcases hd2 with h | h
    · exact (hty.1 h).2
    · exact (hty.2 h.1).2
  have hnf : narrow (sw_tc ck j) (.int x) = .int x ∧ fits (sw_tc ck j) (.int x) = true := by
    rcases hd2 with h | ⟨h, hbx⟩
    · rw [(hty.1 h).1]
      exact ⟨rfl, rfl⟩
    · rw [(hty.2 h).1]
      rcases hbx with rfl | rfl <;> exact ⟨rfl, rfl⟩
  have hap := va_apart (own := own) hts (sw_cl_in h9) (sw_tc ck) (sw_cl_ty h9) (sw_cl_nm h9) hK (sw_cl_at h9)
  have hat := hw ck k hV
  rw [sw_en_o hl] at hat
  obtain ⟨r, h1, cell, q1, q2, q3, q4⟩ := hat
  have hr : r = sw_cl ck := Option.some.inj (h1.symm.trans (sw_cl_at h9))
  subst hr
  obtain ⟨hSl, hfc, kC, hkC, hkind⟩ := hK.1 ck _ (sw_cl_at h9)
  obtain ⟨cf, kf, fi, f, hi, hsl⟩ := hSl j hj
  have hlay := hts _ (sw_cl_in h9 _ (u_in_lay hj))
  unfold u_lay at hlay
  rw [if_neg (by rw [hfin]; decide)] at hlay
  have hst := (u_facts hfc hkC (u_lays hts (sw_cl_in h9) hj) hi).1
  have h6 := u_store hfc hkC hkind hlay hi hpd hnf.1 hnf.2
  refine W.putK hx hb (f := f) ⟨hown, hts _ hlink, ⟨_, _, _, hi⟩, hst⟩ (by rw [q2]; exact h6) q1 q3 (by rw [hsl]; exact k2_hasslot (q4 j hj)) rfl rfl hdg fun H' e1 e2 e3 => ?_
  rw [hsl] at e1 ⊢
  refine kk H' _ (hw.put hG hV ?_ e3) (hS.put e2 e3 ⟨ck, k, hV, rfl⟩)
  rw [sw_en_o hl]
  refine ⟨_, sw_cl_at h9, t_OB.to (V := updV (vp_V (sw_fs ad rf ck k (σ ck k) ds 0)) j (.int x)) ⟨_, e1, q2, q3, t_set q4 hap hj (.int x)⟩ (fun i _ => ?_)⟩
  have hd3 : Nat.blt d 3 = true := by rcases hd2 with h | h <;> (first | rw [h] | rw [h.1]) <;> rfl
  simp only [vp_V, List.getD_eq_getElem?_getD, sw_fs_at, Nat.zero_add, updV]
  by_cases hij : i = j
  · subst hij
    simp only [if_true, hd, Option.map_some, Option.getD_some, sw_fv, hd3, cond_true, upd]
  · rw [if_neg hij]
    have : ∀ d', sw_fv ad rf ck k (σ ck k) i d' = sw_fv ad rf ck k (upd (σ ck k) j x) i d' := fun d' => by simp only [sw_fv, upd, if_neg hij]
    simp only [this]
theorem sw_ald (hx : p.tables.exec = Jvm.exec) (hb : c.code = cc) (hK : va_K D vwCl (sw_ty ca) s) (hw : sw_w ad V rf ln ca D σ H) {ck k : Nat} {j : Int32} (hV : V ck k) (hin : vp_in j (ln ck k))
    (hh : (sw_lay ck = .inr 0 ∧ decode cc pc = .ok (.iaload, 1)) ∨ (sw_lay ck = .inr 1 ∧ decode cc pc = .ok (.baload, 1)))
    (kk : W p l e R s m args below meth c H locs cells slots Q (F0 m (pc + 1) ls (.int (σ ck k j.toNatClampNeg) :: rest))) : W p l e R s m args below meth c H locs cells slots Q (F0 m pc ls (.int j :: .ref (ad ck k) :: rest)) := by
  rcases hh with ⟨hl, hdg⟩ | ⟨hl, hdg⟩
  · exact va_iald hx hb hK (hw.one hV (sw_en_a hl (by decide))) 0 0 rfl rfl hin hdg kk
  · exact va_zald hx hb hK (hw.one hV (sw_en_a hl (by decide))) 0 1 rfl rfl hin hdg kk
theorem sw_lay_q {ck t : Nat} (h17 : ck < 17) (hl : sw_lay ck = .inr t) (ht : 2 ≤ t) : t = 3 ∨ t = 4 := by
  match ck, h17, hl with
  | 9, _, hl => cases hl; exact absurd ht (by decide)
  | 10, _, hl => cases hl; exact absurd ht (by decide)
  | 11, _, hl => cases hl; exact absurd ht (by decide)
  | 12, _, hl => cases hl; exact absurd ht (by decide)
  | 13, _, hl => cases hl; exact Or.inr rfl
  | 14, _, hl => cases hl; exact Or.inl rfl
  | 15, _, hl => cases hl; exact absurd ht (by decide)
  | 16, _, hl => cases hl; exact absurd ht (by decide)
  | n + 17, h, _ => exact absurd h (by omega)
theorem sw_aldq (hx : p.tables.exec = Jvm.exec) (hb : c.code = cc) (hK : va_K D vwCl (sw_ty ca) s) (hG : sw_wf ad V rf ln) (hw : sw_w ad V rf ln ca D σ H) {ck k t : Nat} {j : Int32} (hV : V ck k) (hin : vp_in j (ln ck k)) (hl : sw_lay ck = .inr t) (ht : 2 ≤ t) (hdg : decode cc pc = .ok (.aaload, 1))
    (kk : W p l e R s m args below meth c H locs cells slots Q (F0 m (pc + 1) ls (.ref (ad (t - 2) (rf ck k j.toNatClampNeg)) :: rest))) : W p l e R s m args below meth c H locs cells slots Q (F0 m pc ls (.int j :: .ref (ad ck k) :: rest)) := by
  have h17 := hG.2.2.2 ck k hV
  have hP := hw.one hV (sw_en_q hl ht)
  rcases sw_lay_q h17 hl ht with rfl | rfl
  · exact va_aldq hx hb hK hP 0 2 rfl rfl hin hdg kk
  · exact va_aldq hx hb hK hP 0 3 rfl rfl hin hdg kk
theorem sw_len (hx : p.tables.exec = Jvm.exec) (hb : c.code = cc) (hK : va_K D vwCl (sw_ty ca) s) (hG : sw_wf ad V rf ln) (hw : sw_w ad V rf ln ca D σ H) {ck k t : Nat} (hV : V ck k) (hl : sw_lay ck = .inr t) (hdg : decode cc pc = .ok (.arraylength, 1))
    (kk : W p l e R s m args below meth c H locs cells slots Q (F0 m (pc + 1) ls (.int (nI (ln ck k)) :: rest))) : W p l e R s m args below meth c H locs cells slots Q (F0 m pc ls (.ref (ad ck k) :: rest)) := by
  have h17 := hG.2.2.2 ck k hV
  by_cases ht : t < 2
  · have hP := hw.one hV (sw_en_a hl ht)
    rcases (show t = 0 ∨ t = 1 by omega) with rfl | rfl
    · exact va_alen hx hb hK hP 0 0 rfl rfl rfl hdg kk
    · exact va_alen hx hb hK hP 0 1 rfl rfl rfl hdg kk
  · have hP := hw.one hV (sw_en_q hl (by omega))
    rcases sw_lay_q h17 hl (by omega) with rfl | rfl
    · exact va_alen hx hb hK hP 0 2 rfl rfl rfl hdg kk
    · exact va_alen hx hb hK hP 0 3 rfl rfl rfl hdg kk
theorem sw_ast (hx : p.tables.exec = Jvm.exec) (hb : c.code = cc) (hK : va_K D vwCl (sw_ty ca) s) (hG : sw_wf ad V rf ln) (hw : sw_w ad V rf ln ca D σ H) (hS : va_S (sw_ad ad V) s.heap H locs) {ck k : Nat} {j x : Int32} (hV : V ck k) (hin : vp_in j (ln ck k))
    (hh : (sw_lay ck = .inr 0 ∧ decode cc pc = .ok (.iastore, 1)) ∨ (sw_lay ck = .inr 1 ∧ sw_bo x ∧ decode cc pc = .ok (.bastore, 1)))
    (kk : ∀ (H1 : Heap) (locs1 : List Loc), sw_w ad V rf ln ca D (sw_up σ ck k j.toNatClampNeg x) H1 → va_S (sw_ad ad V) s.heap H1 locs1 → W p l e R s m args below meth c H1 locs1 cells slots Q (F0 m (pc + 1) ls rest)) : W p l e R s m args below meth c H locs cells slots Q (F0 m pc ls (.int x :: .int j :: .ref (ad ck k) :: rest)) := by
  rcases hh with ⟨hl, hdg⟩ | ⟨hl, hbx, hdg⟩
  · have hat := hw ck k hV
    rw [sw_en_a hl (by decide)] at hat
    refine W.iast hx hb hat ((hK.2 0 _ rfl).1 (ln ck k) (fun i => .int (σ ck k i))) (fun q => by cases q) (by show ¬ (j < 0 ∨ (arrV _ _ _).slots.size ≤ _); rw [arrV_size]; exact hin) rfl rfl hdg fun H1 e1 e2 e3 => ?_
    refine kk H1 _ (hw.put hG hV ?_ e3) (hS.put e2 e3 ⟨ck, k, hV, rfl⟩)
    rw [sw_en_a hl (by decide)]
    show H1[ad ck k]? = some (vp_cell _ _)
    rw [e1]
    rw [vp_cell_i, vp_cell_i, arrV_store]
    congr 2
    funext q
    by_cases hq : q = j.toNatClampNeg
    · subst hq
      simp [updV, upd]
    · simp [updV, upd, hq]
  · have hat := hw ck k hV
    rw [sw_en_a hl (by decide)] at hat
    refine W.zast hx hb hat ((hK.2 1 _ rfl).1 (ln ck k) (fun i => .int (σ ck k i))) (fun q => by cases q) (by show ¬ (j < 0 ∨ (arrV _ _ _).slots.size ≤ _); rw [arrV_size]; exact hin) rfl rfl hdg fun H1 e1 e2 e3 => ?_
    have hnx : narrow .boolean (.int x) = .int x := by rcases hbx with rfl | rfl <;> rfl
    rw [hnx] at e1
    refine kk H1 _ (hw.put hG hV ?_ e3) (hS.put e2 e3 ⟨ck, k, hV, rfl⟩)
    rw [sw_en_a hl (by decide)]
    show H1[ad ck k]? = some (vp_cell _ _)
    rw [e1]
    rw [vp_cell_i, vp_cell_i, arrV_store]
    congr 2
    funext q
    by_cases hq : q = j.toNatClampNeg
    · subst hq
      simp [updV, upd]
    · simp [updV, upd, hq]
/-! locals -/
def sw_lh (ad : sw_A) (nL : Nat) (lsA : Array Slot) (L : sw_L) : Prop := lsA.size = nL ∧ lv_wf lsA ∧ L.length = nL ∧ ∀ (i : Nat) (v : sw_V), sw_get L i = some v → lsA[i]? = some (.val (sw_em ad v))
def sw_lp (ad : sw_A) : sw_L → Nat → List (Nat × Value)
  | [], _ => []
  | none :: l, i => sw_lp ad l (i + 1)
  | some v :: l, i => (i, sw_em ad v) :: sw_lp ad l (i + 1)
theorem sw_lp_in (ad : sw_A) : ∀ (L : sw_L) (i0 i : Nat) (v : sw_V), sw_get L i = some v → (i0 + i, sw_em ad v) ∈ sw_lp ad L i0
  | [], _, _, _, h => by cases h
  | none :: l, i0, 0, v, h => by cases h
  | some w :: l, i0, 0, v, h => by cases h; exact List.mem_cons_self
  | none :: l, i0, i + 1, v, h => by
    have := sw_lp_in ad l (i0 + 1) i v h
    rw [show i0 + (i + 1) = i0 + 1 + i by omega]
    exact this
  | some w :: l, i0, i + 1, v, h => by
    have := sw_lp_in ad l (i0 + 1) i v h
    rw [show i0 + (i + 1) = i0 + 1 + i by omega]
    exact List.mem_cons_of_mem _ this
theorem sw_lp_of (ad : sw_A) : ∀ (L : sw_L) (i0 : Nat) (q : Nat × Value), q ∈ sw_lp ad L i0 → ∃ (i : Nat) (v : sw_V), sw_get L i = some v ∧ q = (i0 + i, sw_em ad v)
  | [], _, _, h => by cases h
  | none :: l, i0, q, h => by
    obtain ⟨i, v, h1, h2⟩ := sw_lp_of ad l (i0 + 1) q h
    exact ⟨i + 1, v, h1, by rw [h2, show i0 + 1 + i = i0 + (i + 1) by omega]⟩
  | some w :: l, i0, q, h => by
    rcases List.mem_cons.mp h with rfl | h
    · exact ⟨0, w, rfl, rfl⟩
    · obtain ⟨i, v, h1, h2⟩ := sw_lp_of ad l (i0 + 1) q h
      exact ⟨i + 1, v, h1, by rw [h2, show i0 + 1 + i = i0 + (i + 1) by omega]⟩
theorem sw_lh.has {nL : Nat} {L : sw_L} (h : sw_lh ad nL ls L) : lv_has ls nL (sw_lp ad L 0) := ⟨h.1, h.2.1, fun q hq => by
  obtain ⟨i, v, h1, rfl⟩ := sw_lp_of ad L 0 q hq
  rw [Nat.zero_add]
  exact h.2.2.2 i v h1⟩
theorem sw_set_len : ∀ (L : sw_L) (i : Nat) (v : sw_V), (sw_set L i v).length = L.length
  | [], _, _ => rfl
  | _ :: l, 0, _ => rfl
  | _ :: l, i + 1, v => congrArg Nat.succ (sw_set_len l i v)
theorem sw_get_set : ∀ (L : sw_L) (i j : Nat) (v : sw_V), sw_get (sw_set L i v) j = if j = i ∧ i < L.length then some v else sw_get L j
  | [], i, j, v => by simp [sw_set, sw_get]
  | x :: l, 0, 0, v => by simp [sw_set, sw_get]
  | x :: l, 0, j + 1, v => by simp [sw_set, sw_get]
  | x :: l, i + 1, 0, v => by simp [sw_set, sw_get]
  | x :: l, i + 1, j + 1, v => by
    simp only [sw_set, sw_get, sw_get_set l i j v, List.length_cons, Nat.add_right_cancel_iff, Nat.add_lt_add_iff_right]
theorem sw_get_lt : ∀ {L : sw_L} {i : Nat} {v : sw_V}, sw_get L i = some v → i < L.length
  | [], _, _, h => by cases h
  | _ :: l, 0, _, _ => Nat.zero_lt_succ _
  | _ :: l, i + 1, _, h => Nat.succ_lt_succ (sw_get_lt (L := l) h)
/-- behind a store into a local -/
theorem sw_lh.set {nL i : Nat} {L : sw_L} {v : sw_V} {ls' : Array Slot} (h : sw_lh ad nL ls L) (hi : i < nL) (h' : lv_has ls' nL ((i, sw_em ad v) :: (sw_lp ad L 0).filter (fun q => !(q.1 == i) && !(q.1 + 1 == i && q.2.category == 2)))) : sw_lh ad nL ls' (sw_set L i v) := by
  refine ⟨h'.1, h'.2.1, by rw [sw_set_len]; exact h.2.2.1, fun j w hj => ?_⟩
  rw [sw_get_set] at hj
  by_cases hji : j = i
  · subst hji
    rw [if_pos ⟨rfl, by rw [h.2.2.1]; exact hi⟩] at hj
    cases hj
    exact h'.2.2 _ List.mem_cons_self
  · rw [if_neg (fun z => hji z.1)] at hj
    refine h'.2.2 (j, sw_em ad w) (List.mem_cons_of_mem _ (List.mem_filter.mpr ⟨by have := sw_lp_in ad L 0 j w hj; rwa [Nat.zero_add] at this, ?_⟩))
    simp [hji, sw_em_cat]
end swRows
end
section
/-! The encoder of instructions, and: each step of the abstract machine is the machine's -/
def sw_cc : Jvm.ClassFile.Cond → Nat
  | .eq => 0
  | .ne => 1
  | .lt => 2
  | .ge => 3
  | .gt => 4
  | .le => 5
abbrev sw_bad : sw_I := (99, 0, 0, 0, 0)
def sw_ln (n k : Nat) (i : sw_I) : sw_I := bif Nat.beq n k then i else sw_bad
def sw_tg (pc : Nat) (off : Int) (f : Nat → sw_I) : sw_I := if 0 ≤ (pc : Int) + off then f ((pc : Int) + off).toNat else sw_bad
def sw_tsk (pc : Nat) (lo hi : Int) (offs : List Int) (TS : List (Int32 × Nat)) : Bool :=
  decide (TS.length = offs.length) && decide (hi - lo + 1 = (offs.length : Int)) && decide (TS.map (fun q => q.1.toInt) = (List.range offs.length).map (fun i : Nat => lo + (i : Int))) && decide (offs.map (fun o => (pc : Int) + o) = TS.map (fun q => (q.2 : Int)))
def sw_lsk (pc : Nat) (ps : List (Int × Int)) (TS : List (Int32 × Nat)) : Bool :=
  decide (ps = TS.map (fun q => (q.1.toInt, (q.2 : Int) - (pc : Int)))) && (ps.zip (ps.drop 1)).all (fun (a, next) => a.1 < next.1)
def sw_o {α : Type} (o : Option α) (f : α → sw_I) : sw_I := match o with
  | some q => f q
  | none => sw_bad
def sw_ec (fl : List (Nat × Nat × Nat)) (cn : List (Nat × Int32)) (TS : List (Int32 × Nat)) (pc n : Nat) : Instr → sw_I
  | .iconst z => sw_ln n 1 (0, 0, 0, pc + 1, Int32.ofInt z)
  | .bipush z => sw_ln n 2 (0, 0, 0, pc + 2, (Int8.ofInt z).toInt32)
  | .sipush z => sw_ln n 3 (0, 0, 0, pc + 3, (Int16.ofInt z).toInt32)
  | .ldc idx => sw_ln n 2 (sw_o (sw_cn cn idx) (fun v => (0, 0, 0, pc + 2, v)))
  | .iload i => sw_ln n 2 (1, i, 0, pc + 2, 0)
  | .iload_n i => sw_ln n 1 (1, i.val, 0, pc + 1, 0)
  | .aload i => sw_ln n 2 (2, i, 0, pc + 2, 0)
  | .aload_n i => sw_ln n 1 (2, i.val, 0, pc + 1, 0)
  | .istore i => sw_ln n 2 (3, i, 0, pc + 2, 0)
  | .istore_n i => sw_ln n 1 (3, i.val, 0, pc + 1, 0)
  | .astore i => sw_ln n 2 (4, i, 0, pc + 2, 0)
  | .astore_n i => sw_ln n 1 (4, i.val, 0, pc + 1, 0)
  | .iinc i z => sw_ln n 3 (5, i, 0, pc + 3, Int32.ofInt z)
  | .iadd => sw_ln n 1 (6, 0, 0, pc + 1, 0)
  | .isub => sw_ln n 1 (6, 1, 0, pc + 1, 0)
  | .imul => sw_ln n 1 (6, 2, 0, pc + 1, 0)
  | .iand => sw_ln n 1 (6, 3, 0, pc + 1, 0)
  | .ior => sw_ln n 1 (6, 4, 0, pc + 1, 0)
  | .ixor => sw_ln n 1 (6, 5, 0, pc + 1, 0)
  | .ishl => sw_ln n 1 (6, 6, 0, pc + 1, 0)
  | .ishr => sw_ln n 1 (6, 7, 0, pc + 1, 0)
  | .iushr => sw_ln n 1 (6, 8, 0, pc + 1, 0)
  | .idiv => sw_ln n 1 (26, 0, 0, pc + 1, 0)
  | .irem => sw_ln n 1 (27, 0, 0, pc + 1, 0)
  | .getfield idx => sw_ln n 3 (sw_o (sw_fl fl idx) (fun q => (7, q.1, q.2, pc + 3, 0)))
  | .putfield idx => sw_ln n 3 (sw_o (sw_fl fl idx) (fun q => (8, q.1, q.2, pc + 3, 0)))
  | .iaload => sw_ln n 1 (9, 0, 0, pc + 1, 0)
  | .baload => sw_ln n 1 (9, 1, 0, pc + 1, 0)
  | .aaload => sw_ln n 1 (9, 2, 0, pc + 1, 0)
  | .iastore => sw_ln n 1 (10, 0, 0, pc + 1, 0)
  | .bastore => sw_ln n 1 (10, 1, 0, pc + 1, 0)
  | .arraylength => sw_ln n 1 (11, 0, 0, pc + 1, 0)
  | .ifCond cd off => sw_ln n 3 (sw_tg pc off (fun t => (12, sw_cc cd, t, pc + 3, 0)))
  | .if_icmp cd off => sw_ln n 3 (sw_tg pc off (fun t => (13, sw_cc cd, t, pc + 3, 0)))
  | .ifnull off => sw_ln n 3 (sw_tg pc off (fun t => (14, 0, t, pc + 3, 0)))
  | .ifnonnull off => sw_ln n 3 (sw_tg pc off (fun t => (15, 0, t, pc + 3, 0)))
  | .goto off => sw_ln n 3 (sw_tg pc off (fun t => (16, 0, t, 0, 0)))
  | .tableswitch d lo hi offs => bif sw_tsk pc lo hi offs.toList TS then sw_tg pc d (fun t => (17, t, 0, 0, 0)) else sw_bad
  | .lookupswitch d ps => bif sw_lsk pc ps.toList TS then sw_tg pc d (fun t => (17, t, 0, 0, 0)) else sw_bad
  | .invokevirtual idx => sw_ln n 3 (18, idx, 0, pc + 3, 0)
  | .invokestatic idx => sw_ln n 3 (18, idx, 1, pc + 3, 0)
  | .ireturn => sw_ln n 1 (19, 0, 0, 0, 0)
  | .areturn => sw_ln n 1 (20, 0, 0, 0, 0)
  | .return_ => sw_ln n 1 (21, 0, 0, 0, 0)
  | .dup => sw_ln n 1 (22, 0, 0, pc + 1, 0)
  | .dup2 => sw_ln n 1 (23, 0, 0, pc + 1, 0)
  | .pop => sw_ln n 1 (24, 0, 0, pc + 1, 0)
  | .aconst_null => sw_ln n 1 (25, 0, 0, pc + 1, 0)
  | _ => sw_bad
section swStep
variable {rf : sw_R} {ln : sw_A} {CT : sw_C} {TS : List (Int32 × Nat)} {rt : Nat} {Qr : Option sw_V → sw_S → Prop} {K : Nat → sw_L → List sw_V → sw_S → Prop} {L : sw_L} {st : List sw_V} {σ : sw_S}
theorem sw_ln_st {n k : Nat} {i : sw_I} (h : sw_st rf ln CT TS rt Qr K (sw_ln n k i) L st σ) : n = k ∧ sw_st rf ln CT TS rt Qr K i L st σ := by
  unfold sw_ln at h
  by_cases hb : Nat.beq n k = true
  · rw [hb, cond_true] at h
    exact ⟨Nat.eq_of_beq_eq_true hb, h⟩
  · rw [Bool.not_eq_true] at hb
    rw [hb, cond_false] at h
    exact False.elim h
theorem sw_tg_st {pc : Nat} {off : Int} {f : Nat → sw_I} (h : sw_st rf ln CT TS rt Qr K (sw_tg pc off f) L st σ) : ∃ t : Nat, (pc : Int) + off = (t : Int) ∧ sw_st rf ln CT TS rt Qr K (f t) L st σ := by
  unfold sw_tg at h
  by_cases hb : 0 ≤ (pc : Int) + off
  · rw [if_pos hb] at h
    exact ⟨_, (Int.toNat_of_nonneg hb).symm, h⟩
  · rw [if_neg hb] at h
    exact False.elim h
theorem sw_if_st {b : Bool} {i : sw_I} (h : sw_st rf ln CT TS rt Qr K (bif b then i else sw_bad) L st σ) : b = true ∧ sw_st rf ln CT TS rt Qr K i L st σ := by
  cases b with
  | true => exact ⟨rfl, h⟩
  | false => exact False.elim h
theorem sw_op_st {α : Type} {o : Option α} {f : α → sw_I} (h : sw_st rf ln CT TS rt Qr K (sw_o o f) L st σ) : ∃ q, o = some q ∧ sw_st rf ln CT TS rt Qr K (f q) L st σ := by
  cases o with
  | none => exact False.elim h
  | some q => exact ⟨q, rfl, h⟩
end swStep
theorem sw_fl_in : ∀ {fl : List (Nat × Nat × Nat)} {i : Nat} {q : Nat × Nat}, sw_fl fl i = some q → (i, q) ∈ fl
  | [], _, _, h => by cases h
  | x :: l, i, q, h => by
    unfold sw_fl at h
    by_cases hb : Nat.beq x.1 i = true
    · rw [hb, cond_true] at h
      have h1 := Nat.eq_of_beq_eq_true hb
      have h2 := Option.some.inj h
      rw [← h1, ← h2]
      exact List.mem_cons_self
    · rw [Bool.not_eq_true] at hb
      rw [hb, cond_false] at h
      exact List.mem_cons_of_mem _ (sw_fl_in h)
theorem sw_cn_in : ∀ {fl : List (Nat × Int32)} {i : Nat} {q : Int32}, sw_cn fl i = some q → (i, q) ∈ fl
  | [], _, _, h => by cases h
  | x :: l, i, q, h => by
    unfold sw_cn at h
    by_cases hb : Nat.beq x.1 i = true
    · rw [hb, cond_true] at h
      have h1 := Nat.eq_of_beq_eq_true hb
      have h2 := Option.some.inj h
      rw [← h1, ← h2]
      exact List.mem_cons_self
    · rw [Bool.not_eq_true] at hb
      rw [hb, cond_false] at h
      exact List.mem_cons_of_mem _ (sw_cn_in h)
theorem sw_lk_in : ∀ {CT : sw_C} {i : Nat} {q : Nat × Nat × sw_F}, sw_lk CT i = some q → (i, q) ∈ CT
  | [], _, _, h => by cases h
  | x :: l, i, q, h => by
    unfold sw_lk at h
    by_cases hb : Nat.beq x.1 i = true
    · rw [hb, cond_true] at h
      have h1 := Nat.eq_of_beq_eq_true hb
      have h2 := Option.some.inj h
      rw [← h1, ← h2]
      exact List.mem_cons_self
    · rw [Bool.not_eq_true] at hb
      rw [hb, cond_false] at h
      exact List.mem_cons_of_mem _ (sw_lk_in h)
theorem sw_tk_of : ∀ {n : Nat} {st acc avs rest : List sw_V}, sw_tk n st acc = some (avs, rest) → acc.reverse ++ avs.drop 0 = acc.reverse ++ avs ∧ avs.length = n + acc.length ∧ ∃ pre : List sw_V, st = pre ++ rest ∧ avs = pre.reverse ++ acc
  | 0, st, acc, avs, rest, h => by
    cases h
    exact ⟨rfl, by omega, [], rfl, rfl⟩
  | n + 1, [], acc, avs, rest, h => by cases h
  | n + 1, v :: st, acc, avs, rest, h => by
    obtain ⟨-, h2, pre, h3, h4⟩ := sw_tk_of (n := n) (st := st) (acc := v :: acc) h
    refine ⟨rfl, by rw [h2, List.length_cons]; omega, v :: pre, by rw [h3]; rfl, by rw [h4]; simp⟩
theorem sw_sw_at {x : Int32} {d : Nat} {K : Nat → Prop} : ∀ {l : List (Int32 × Nat)}, sw_sw x d K l → ∀ (i : Nat) (q : Int32 × Nat), l[i]? = some q → q.1 = x → (∀ (j : Nat) (q' : Int32 × Nat), j < i → l[j]? = some q' → ¬ q'.1 = x) → K q.2
  | [], _, i, q, hq, _, _ => by simp at hq
  | a :: l, h, 0, q, hq, hx, _ => by
    cases hq
    exact h.1 hx.symm
  | a :: l, h, i + 1, q, hq, hx, ho => sw_sw_at (l := l) (h.2 (fun z => ho 0 a (Nat.zero_lt_succ _) rfl z.symm)) i q hq hx (fun j q' hj hq' => ho (j + 1) q' (Nat.succ_lt_succ hj) hq')
theorem sw_sw_no {x : Int32} {d : Nat} {K : Nat → Prop} : ∀ {l : List (Int32 × Nat)}, sw_sw x d K l → (∀ (j : Nat) (q' : Int32 × Nat), l[j]? = some q' → ¬ q'.1 = x) → K d
  | [], h, _ => h
  | a :: l, h, ho => sw_sw_no (l := l) (h.2 (fun z => ho 0 a rfl z.symm)) (fun j q' hq' => ho (j + 1) q' hq')
theorem sw_sw_look {x : Int32} {d : Nat} {K : Nat → Prop} {pc : Nat} {dd : Int} (hd : (pc : Int) + dd = (d : Int)) : ∀ {l : List (Int32 × Nat)}, sw_sw x d K l → ∃ t : Nat, (pc : Int) + Op.lookupswitch.offset (l.map (fun q => (q.1.toInt, (q.2 : Int) - (pc : Int)))) dd x.toInt = (t : Int) ∧ K t
  | [], h => ⟨d, hd, h⟩
  | a :: l, h => by
    rw [List.map_cons, Op.lookupswitch.offset_cons]
    by_cases hx : a.1.toInt = x.toInt
    · rw [if_pos hx]
      exact ⟨a.2, by omega, h.1 (Int32.toInt_inj.mp hx).symm⟩
    · rw [if_neg hx]
      exact sw_sw_look hd (h.2 (fun z => hx (by rw [z])))
end
section
/-! A call, as a step; and the step theorem -/
def sw_cok (p : Program) (l : Launch) (e : Env) (R : Room) (s : State) (m : MethodId) (args : Array Value) (below : List Frame) (meth : Method) (c : Code) (ad : sw_A) (V : Nat → Nat → Prop) (rf : sw_R) (ln : sw_A) (ca : Nat → ClassId) (D : va_G) (cc : ByteArray) (nL : Nat) (q : Nat × Nat × Nat × sw_F) : Prop :=
  ∀ (Qw : State → Prop) (pc : Nat) (H : Heap) (locs : List Loc) (lsA : Array Slot) (avs : List sw_V) (rest : List Value) (σ : sw_S),
    ((q.2.2.1 = 0 ∧ decode cc pc = .ok (.invokestatic q.1, 3)) ∨ (∃ c0 k tl, q.2.2.1 = c0 + 1 ∧ avs = .inr (some (c0, k)) :: tl ∧ decode cc pc = .ok (.invokevirtual q.1, 3))) →
    avs.length = q.2.1 → (∀ v ∈ avs, sw_ov V v) → sw_w ad V rf ln ca D σ H → va_S (sw_ad ad V) s.heap H locs → (q.2.2.2 avs σ).1 → (rest.map fun v => v.category).sum ≤ 8 → lsA.size = nL →
    (∀ (H1 : Heap) (locs1 : List Loc), sw_w ad V rf ln ca D (q.2.2.2 avs σ).2.2 H1 → va_S (sw_ad ad V) s.heap H1 locs1 → (∀ v, (q.2.2.2 avs σ).2.1 = some v → sw_ov V v) → W p l e R s m args below meth c H1 locs1 0 0 Qw (F0 m (pc + 3) lsA (((q.2.2.2 avs σ).2.1.toList).map (sw_em ad) ++ rest))) →
    W p l e R s m args below meth c H locs 0 0 Qw (F0 m pc lsA ((avs.map (sw_em ad)).reverse ++ rest))
def sw_rt (rt : Nat) (ret : Option FieldType) : Prop := (rt = 0 → ret = none) ∧ (rt = 1 → ret = some .int) ∧ (rt = 2 → ret = some .boolean) ∧ (rt = 3 → ∃ n, ret = some (.object n))
/-- the machine stands at a point of the method, in a world: it comes to the method's end -/
def sw_at (p : Program) (l : Launch) (e : Env) (R : Room) (s : State) (m : MethodId) (args : Array Value) (below : List Frame) (meth : Method) (c : Code) (ad : sw_A) (V : Nat → Nat → Prop) (rf : sw_R) (ln : sw_A) (ca : Nat → ClassId) (D : va_G) (nL : Nat) (Qc : Array Value → State → Outcome → State → Prop) (pc : Nat) (L : sw_L) (st : List sw_V) (σ : sw_S) : Prop :=
  ∀ (H : Heap) (locs : List Loc) (lsA : Array Slot), sw_w ad V rf ln ca D σ H → va_S (sw_ad ad V) s.heap H locs → sw_lh ad nL lsA L → (∀ (i : Nat) (v : sw_V), sw_get L i = some v → sw_ov V v) → (∀ v ∈ st, sw_ov V v) →
    W p l e R s m args below meth c H locs 0 0 (MQ below Qc args s 0 0 (sw_ad ad V)) (F0 m pc lsA (st.map (sw_em ad)))
theorem sw_oc {V : Nat → Nat → Prop} {v : sw_V} {st : List sw_V} (h1 : sw_ov V v) (h : ∀ v ∈ st, sw_ov V v) : ∀ w ∈ v :: st, sw_ov V w := List.forall_mem_cons.mpr ⟨h1, h⟩
theorem sw_ot {V : Nat → Nat → Prop} {v : sw_V} {st : List sw_V} (h : ∀ w ∈ v :: st, sw_ov V w) : ∀ w ∈ st, sw_ov V w := (List.forall_mem_cons.mp h).2
theorem sw_oh {V : Nat → Nat → Prop} {v : sw_V} {st : List sw_V} (h : ∀ w ∈ v :: st, sw_ov V w) : sw_ov V v := (List.forall_mem_cons.mp h).1
theorem sw_os {V : Nat → Nat → Prop} {v : sw_V} {L : sw_L} {i : Nat} (h1 : sw_ov V v) (h : ∀ (i : Nat) (v : sw_V), sw_get L i = some v → sw_ov V v) : ∀ (j : Nat) (w : sw_V), sw_get (sw_set L i v) j = some w → sw_ov V w := by
  intro j w hj
  rw [sw_get_set] at hj
  by_cases hc : j = i ∧ i < L.length
  · rw [if_pos hc] at hj
    cases hj
    exact h1
  · rw [if_neg hc] at hj
    exact h j w hj
theorem sw_cats (ad : sw_A) : ∀ st : List sw_V, ((st.map (sw_em ad)).map fun v => v.category).sum = st.length
  | [] => rfl
  | v :: st => by
    rw [List.map_cons, List.map_cons, List.sum_cons, sw_cats ad st, sw_em_cat, List.length_cons]
    omega
theorem sw_bif {b : Bool} {P : Prop} (h : bif b then P else False) : b = true ∧ P := by
  cases b with
  | true => exact ⟨rfl, h⟩
  | false => exact False.elim h
theorem sw_rc_of0 {md : Nat} {avs : List sw_V} {cc : ByteArray} {pc idx : Nat} (h : sw_rc md 0 avs = true) (hd : decode cc pc = .ok (.invokevirtual idx, 3)) : (md = 0 ∧ decode cc pc = .ok (.invokestatic idx, 3)) ∨ (∃ c0 k tl, md = c0 + 1 ∧ avs = .inr (some (c0, k)) :: tl ∧ decode cc pc = .ok (.invokevirtual idx, 3)) := by
  match md, avs, h with
  | 0, _, h => cases h
  | c0 + 1, [], h => cases h
  | c0 + 1, .inl _ :: _, h => cases h
  | c0 + 1, .inr none :: _, h => cases h
  | c0 + 1, .inr (some q) :: tl, h =>
    have h1 : q.1 = c0 := Nat.eq_of_beq_eq_true h
    exact Or.inr ⟨c0, q.2, tl, rfl, by rw [← h1], hd⟩
theorem sw_rc_of1 {md : Nat} {avs : List sw_V} {cc : ByteArray} {pc idx : Nat} (h : sw_rc md 1 avs = true) (hd : decode cc pc = .ok (.invokestatic idx, 3)) : (md = 0 ∧ decode cc pc = .ok (.invokestatic idx, 3)) ∨ (∃ c0 k tl, md = c0 + 1 ∧ avs = .inr (some (c0, k)) :: tl ∧ decode cc pc = .ok (.invokevirtual idx, 3)) := by
  match md, h with
  | 0, _ => exact Or.inl ⟨rfl, hd⟩
  | c0 + 1, h => cases h
theorem sw_em_r (ad : sw_A) (r : Option (Nat × Nat)) : sw_em ad (.inr r) = .null ∨ ∃ a, sw_em ad (.inr r) = .ref a := by
  cases r with
  | none => exact Or.inl rfl
  | some q => exact Or.inr ⟨_, rfl⟩
section swStep2
variable {p : Program} {l : Launch} {e : Env} {R : Room} {s : State} {m : MethodId} {args : Array Value} {below : List Frame} {meth : Method} {c : Code} {ad : sw_A} {V : Nat → Nat → Prop} {rf : sw_R} {ln : sw_A} {ca : Nat → ClassId} {D : va_G} {nL : Nat} {Qc : Array Value → State → Outcome → State → Prop}
variable {CT : sw_C} {TS : List (Int32 × Nat)} {rt : Nat} {Qr : Option sw_V → sw_S → Prop} {K : Nat → sw_L → List sw_V → sw_S → Prop} {L : sw_L} {st : List sw_V} {σ : sw_S} {cc : ByteArray} {fl : List (Nat × Nat × Nat)} {cn : List (Nat × Int32)} {own : String} {pc n : Nat} {ins : Instr} {ret : Option FieldType}
set_option maxHeartbeats 4000000 in
theorem sw_step (hx : p.tables.exec = Jvm.exec) (hb : c.code = cc) (hml : c.maxLocals = nL) (hr : meth.sig.returnType = ret) (hrt : sw_rt rt ret) (hlocks : meth.locks = false) (hown : s.vm.findClass own = some m.cls) (hts : ∀ w ∈ sw_tbl, w.before args s = true) (hT : va_K D vwCl (sw_ty ca) s) (hG : sw_wf ad V rf ln)
    (hfl : ∀ q ∈ fl, Cond.fieldLink own q.1 ((sw_cl q.2.1).2.1 q.2.2).1 ((sw_cl q.2.1).2.1 q.2.2).2.1 ((sw_cl q.2.1).2.1 q.2.2).2.2.1 ∈ sw_tbl) (hcn : ∀ q ∈ cn, Jvm.Cond.constant own q.1 q.2 ∈ sw_tbl) (hct : ∀ q ∈ CT, sw_cok p l e R s m args below meth c ad V rf ln ca D cc nL q)
    (hQ : ∀ (r : Option sw_V) (σ' : sw_S) (H : Heap) (locs : List Loc), Qr r σ' → (∀ v, r = some v → sw_ov V v) → sw_w ad V rf ln ca D σ' H → va_S (sw_ad ad V) s.heap H locs → ∀ t : State, t.heap = H → s.WarmedH t.vm → Qc args s (.returned (r.map (sw_em ad))) t)
    (hd : decode cc pc = .ok (ins, n)) (h : sw_st rf ln CT TS rt Qr K (sw_ec fl cn TS pc n ins) L st σ) (hk : ∀ pc' L' st' σ', K pc' L' st' σ' → sw_at p l e R s m args below meth c ad V rf ln ca D nL Qc pc' L' st' σ') :
    sw_at p l e R s m args below meth c ad V rf ln ca D nL Qc pc L st σ := by
  intro H locs lsA hw hS hL hLo hst
  cases ins
  case iconst z =>
    obtain ⟨hn, h0⟩ := sw_ln_st h
    clear h
    subst hn
    have h := h0
    clear h0
    exact lv_iconst hx hb hd rfl (hk _ _ _ _ h H locs lsA hw hS hL hLo (sw_oc trivial hst))
  case bipush z =>
    obtain ⟨hn, h0⟩ := sw_ln_st h
    clear h
    subst hn
    have h := h0
    clear h0
    exact lv_bipush hx hb hd rfl (hk _ _ _ _ h H locs lsA hw hS hL hLo (sw_oc trivial hst))
  case sipush z =>
    obtain ⟨hn, h0⟩ := sw_ln_st h
    clear h
    subst hn
    have h := h0
    clear h0
    exact lv_sipush hx hb hd rfl (hk _ _ _ _ h H locs lsA hw hS hL hLo (sw_oc trivial hst))
  case ldc idx =>
    obtain ⟨hn, h0⟩ := sw_ln_st h
    clear h
    subst hn
    have h := h0
    clear h0
    obtain ⟨v, hv, h⟩ := sw_op_st h
    exact lv_ldc hx hb hown (hts _ (hcn _ (sw_cn_in hv))) hd (hk _ _ _ _ h H locs lsA hw hS hL hLo (sw_oc trivial hst))
  case iload i =>
    obtain ⟨hn, h0⟩ := sw_ln_st h
    clear h
    subst hn
    have h := h0
    clear h0
    replace h : (match sw_get L i with
      | some (.inl x) => K (pc + 2) L (.inl x :: st) σ
      | _ => False) := h
    cases hg : sw_get L i with
    | none => rw [hg] at h; exact h.elim
    | some v =>
      rw [hg] at h
      rcases v with x | r
      · exact lv_iload hx hb hd (hL.2.2.2 i _ hg) (hk _ _ _ _ h H locs lsA hw hS hL hLo (sw_oc trivial hst))
      · exact h.elim
  case iload_n i =>
    obtain ⟨hn, h0⟩ := sw_ln_st h
    clear h
    subst hn
    have h := h0
    clear h0
    replace h : (match sw_get L i.val with
      | some (.inl x) => K (pc + 1) L (.inl x :: st) σ
      | _ => False) := h
    cases hg : sw_get L i.val with
    | none => rw [hg] at h; exact h.elim
    | some v =>
      rw [hg] at h
      rcases v with x | r
      · exact lv_iload_n hx hb hd rfl (hL.2.2.2 i.val _ hg) (hk _ _ _ _ h H locs lsA hw hS hL hLo (sw_oc trivial hst))
      · exact h.elim
  case aload i =>
    obtain ⟨hn, h0⟩ := sw_ln_st h
    clear h
    subst hn
    have h := h0
    clear h0
    replace h : (match sw_get L i with
      | some (.inr r) => K (pc + 2) L (.inr r :: st) σ
      | _ => False) := h
    cases hg : sw_get L i with
    | none => rw [hg] at h; exact h.elim
    | some v =>
      rw [hg] at h
      rcases v with x | _ | r
      · exact h.elim
      · exact lv_aloadN hx hb hd (hL.2.2.2 i _ hg) (hk _ _ _ _ h H locs lsA hw hS hL hLo (sw_oc (hLo i _ hg) hst))
      · exact lv_aload hx hb hd (hL.2.2.2 i _ hg) (hk _ _ _ _ h H locs lsA hw hS hL hLo (sw_oc (hLo i _ hg) hst))
  case aload_n i =>
    obtain ⟨hn, h0⟩ := sw_ln_st h
    clear h
    subst hn
    have h := h0
    clear h0
    replace h : (match sw_get L i.val with
      | some (.inr r) => K (pc + 1) L (.inr r :: st) σ
      | _ => False) := h
    cases hg : sw_get L i.val with
    | none => rw [hg] at h; exact h.elim
    | some v =>
      rw [hg] at h
      rcases v with x | _ | r
      · exact h.elim
      · exact lv_aload_nN hx hb hd rfl (hL.2.2.2 i.val _ hg) (hk _ _ _ _ h H locs lsA hw hS hL hLo (sw_oc (hLo i.val _ hg) hst))
      · exact lv_aload_n hx hb hd rfl (hL.2.2.2 i.val _ hg) (hk _ _ _ _ h H locs lsA hw hS hL hLo (sw_oc (hLo i.val _ hg) hst))
  case istore i =>
    obtain ⟨hn, h0⟩ := sw_ln_st h
    clear h
    subst hn
    have h := h0
    clear h0
    rcases st with _ | ⟨x | r, st⟩
    · exact False.elim h
    · obtain ⟨hi, h⟩ := sw_bif h
      have hi : i < nL := by rw [← hL.2.2.1]; exact Nat.le_of_ble_eq_true hi
      exact lv_istore hx hb hd hL.has hi rfl (fun ls' h' => hk _ _ _ _ h H locs ls' hw hS (hL.set (v := .inl x) hi h') (sw_os trivial hLo) (sw_ot hst))
    · exact False.elim h
  case istore_n i =>
    obtain ⟨hn, h0⟩ := sw_ln_st h
    clear h
    subst hn
    have h := h0
    clear h0
    rcases st with _ | ⟨x | r, st⟩
    · exact False.elim h
    · obtain ⟨hi, h⟩ := sw_bif h
      have hi : i.val < nL := by rw [← hL.2.2.1]; exact Nat.le_of_ble_eq_true hi
      exact lv_istore_n hx hb hd rfl hL.has hi rfl (fun ls' h' => hk _ _ _ _ h H locs ls' hw hS (hL.set (v := .inl x) hi h') (sw_os trivial hLo) (sw_ot hst))
    · exact False.elim h
  case astore i =>
    obtain ⟨hn, h0⟩ := sw_ln_st h
    clear h
    subst hn
    have h := h0
    clear h0
    rcases st with _ | ⟨x | _ | r, st⟩
    · exact False.elim h
    · exact False.elim h
    · obtain ⟨hi, h⟩ := sw_bif h
      have hi : i < nL := by rw [← hL.2.2.1]; exact Nat.le_of_ble_eq_true hi
      exact lv_astoreN hx hb hd hL.has hi rfl (fun ls' h' => hk _ _ _ _ h H locs ls' hw hS (hL.set (v := .inr none) hi h') (sw_os trivial hLo) (sw_ot hst))
    · obtain ⟨hi, h⟩ := sw_bif h
      have hi : i < nL := by rw [← hL.2.2.1]; exact Nat.le_of_ble_eq_true hi
      exact lv_astore hx hb hd hL.has hi rfl (fun ls' h' => hk _ _ _ _ h H locs ls' hw hS (hL.set (v := .inr (some r)) hi h') (sw_os (sw_oh hst) hLo) (sw_ot hst))
  case astore_n i =>
    obtain ⟨hn, h0⟩ := sw_ln_st h
    clear h
    subst hn
    have h := h0
    clear h0
    rcases st with _ | ⟨x | _ | r, st⟩
    · exact False.elim h
    · exact False.elim h
    · obtain ⟨hi, h⟩ := sw_bif h
      have hi : i.val < nL := by rw [← hL.2.2.1]; exact Nat.le_of_ble_eq_true hi
      exact lv_astore_nN hx hb hd rfl hL.has hi rfl (fun ls' h' => hk _ _ _ _ h H locs ls' hw hS (hL.set (v := .inr none) hi h') (sw_os trivial hLo) (sw_ot hst))
    · obtain ⟨hi, h⟩ := sw_bif h
      have hi : i.val < nL := by rw [← hL.2.2.1]; exact Nat.le_of_ble_eq_true hi
      exact lv_astore_n hx hb hd rfl hL.has hi rfl (fun ls' h' => hk _ _ _ _ h H locs ls' hw hS (hL.set (v := .inr (some r)) hi h') (sw_os (sw_oh hst) hLo) (sw_ot hst))
  case iinc i z =>
    obtain ⟨hn, h0⟩ := sw_ln_st h
    clear h
    subst hn
    have h := h0
    clear h0
    replace h : (match sw_get L i with
      | some (.inl x) => K (pc + 3) (sw_set L i (.inl (x + Int32.ofInt z))) st σ
      | _ => False) := h
    cases hg : sw_get L i with
    | none => rw [hg] at h; exact h.elim
    | some v =>
      rw [hg] at h
      rcases v with x | r
      · have hi : i < nL := by rw [← hL.2.2.1]; exact sw_get_lt hg
        obtain ⟨q, hq⟩ := List.getElem?_of_mem (sw_lp_in ad L 0 i _ hg)
        rw [Nat.zero_add] at hq
        exact lv_iinc hx hb hd hL.has hq rfl hi rfl (fun ls' h' => hk _ _ _ _ h H locs ls' hw hS (hL.set (v := .inl (x + Int32.ofInt z)) hi h') (sw_os trivial hLo) hst)
      · exact h.elim
  case iadd =>
    obtain ⟨hn, h0⟩ := sw_ln_st h
    clear h
    subst hn
    have h := h0
    clear h0
    rcases st with _ | ⟨y | r, _ | ⟨x | r', st⟩⟩
    · exact False.elim h
    · exact False.elim h
    · exact lv_iadd hx hb hd (hk _ _ _ _ h H locs lsA hw hS hL hLo (sw_oc trivial (sw_ot (sw_ot hst))))
    · exact False.elim h
    · exact False.elim h
    · exact False.elim h
    · exact False.elim h
  case isub =>
    obtain ⟨hn, h0⟩ := sw_ln_st h
    clear h
    subst hn
    have h := h0
    clear h0
    rcases st with _ | ⟨y | r, _ | ⟨x | r', st⟩⟩
    · exact False.elim h
    · exact False.elim h
    · exact lv_isub hx hb hd (hk _ _ _ _ h H locs lsA hw hS hL hLo (sw_oc trivial (sw_ot (sw_ot hst))))
    · exact False.elim h
    · exact False.elim h
    · exact False.elim h
    · exact False.elim h
  case imul =>
    obtain ⟨hn, h0⟩ := sw_ln_st h
    clear h
    subst hn
    have h := h0
    clear h0
    rcases st with _ | ⟨y | r, _ | ⟨x | r', st⟩⟩
    · exact False.elim h
    · exact False.elim h
    · exact lv_imul hx hb hd (hk _ _ _ _ h H locs lsA hw hS hL hLo (sw_oc trivial (sw_ot (sw_ot hst))))
    · exact False.elim h
    · exact False.elim h
    · exact False.elim h
    · exact False.elim h
  case iand =>
    obtain ⟨hn, h0⟩ := sw_ln_st h
    clear h
    subst hn
    have h := h0
    clear h0
    rcases st with _ | ⟨y | r, _ | ⟨x | r', st⟩⟩
    · exact False.elim h
    · exact False.elim h
    · exact lv_iand hx hb hd (hk _ _ _ _ h H locs lsA hw hS hL hLo (sw_oc trivial (sw_ot (sw_ot hst))))
    · exact False.elim h
    · exact False.elim h
    · exact False.elim h
    · exact False.elim h
  case ior =>
    obtain ⟨hn, h0⟩ := sw_ln_st h
    clear h
    subst hn
    have h := h0
    clear h0
    rcases st with _ | ⟨y | r, _ | ⟨x | r', st⟩⟩
    · exact False.elim h
    · exact False.elim h
    · exact lv_ior hx hb hd (hk _ _ _ _ h H locs lsA hw hS hL hLo (sw_oc trivial (sw_ot (sw_ot hst))))
    · exact False.elim h
    · exact False.elim h
    · exact False.elim h
    · exact False.elim h
  case ixor =>
    obtain ⟨hn, h0⟩ := sw_ln_st h
    clear h
    subst hn
    have h := h0
    clear h0
    rcases st with _ | ⟨y | r, _ | ⟨x | r', st⟩⟩
    · exact False.elim h
    · exact False.elim h
    · exact lv_ixor hx hb hd (hk _ _ _ _ h H locs lsA hw hS hL hLo (sw_oc trivial (sw_ot (sw_ot hst))))
    · exact False.elim h
    · exact False.elim h
    · exact False.elim h
    · exact False.elim h
  case ishl =>
    obtain ⟨hn, h0⟩ := sw_ln_st h
    clear h
    subst hn
    have h := h0
    clear h0
    rcases st with _ | ⟨y | r, _ | ⟨x | r', st⟩⟩
    · exact False.elim h
    · exact False.elim h
    · exact lv_ishl hx hb hd (hk _ _ _ _ h H locs lsA hw hS hL hLo (sw_oc trivial (sw_ot (sw_ot hst))))
    · exact False.elim h
    · exact False.elim h
    · exact False.elim h
    · exact False.elim h
  case ishr =>
    obtain ⟨hn, h0⟩ := sw_ln_st h
    clear h
    subst hn
    have h := h0
    clear h0
    rcases st with _ | ⟨y | r, _ | ⟨x | r', st⟩⟩
    · exact False.elim h
    · exact False.elim h
    · exact lv_ishr hx hb hd (hk _ _ _ _ h H locs lsA hw hS hL hLo (sw_oc trivial (sw_ot (sw_ot hst))))
    · exact False.elim h
    · exact False.elim h
    · exact False.elim h
    · exact False.elim h
  case iushr =>
    obtain ⟨hn, h0⟩ := sw_ln_st h
    clear h
    subst hn
    have h := h0
    clear h0
    rcases st with _ | ⟨y | r, _ | ⟨x | r', st⟩⟩
    · exact False.elim h
    · exact False.elim h
    · exact lv_iushr hx hb hd rfl (hk _ _ _ _ h H locs lsA hw hS hL hLo (sw_oc trivial (sw_ot (sw_ot hst))))
    · exact False.elim h
    · exact False.elim h
    · exact False.elim h
    · exact False.elim h
  case idiv =>
    obtain ⟨hn, h0⟩ := sw_ln_st h
    clear h
    subst hn
    have h := h0
    clear h0
    rcases st with _ | ⟨y | r, _ | ⟨x | r', st⟩⟩
    · exact False.elim h
    · exact False.elim h
    · exact lv_idiv hx hb hd h.1 (hk _ _ _ _ h.2 H locs lsA hw hS hL hLo (sw_oc trivial (sw_ot (sw_ot hst))))
    · exact False.elim h
    · exact False.elim h
    · exact False.elim h
    · exact False.elim h
  case irem =>
    obtain ⟨hn, h0⟩ := sw_ln_st h
    clear h
    subst hn
    have h := h0
    clear h0
    rcases st with _ | ⟨y | r, _ | ⟨x | r', st⟩⟩
    · exact False.elim h
    · exact False.elim h
    · exact lv_irem hx hb hd h.1 (hk _ _ _ _ h.2 H locs lsA hw hS hL hLo (sw_oc trivial (sw_ot (sw_ot hst))))
    · exact False.elim h
    · exact False.elim h
    · exact False.elim h
    · exact False.elim h
  case getfield idx =>
    obtain ⟨hn, h0⟩ := sw_ln_st h
    clear h
    subst hn
    have h := h0
    clear h0
    obtain ⟨⟨a, b⟩, hv, h⟩ := sw_op_st h
    have hlink := hfl _ (sw_fl_in hv)
    rcases st with _ | ⟨x | _ | ⟨q1, k⟩, st⟩
    · exact False.elim h
    · exact False.elim h
    · exact False.elim h
    · obtain ⟨ha, h⟩ := sw_bif h
      have ha : q1 = a := Nat.eq_of_beq_eq_true ha
      subst ha
      have hV : V q1 k := sw_oh hst
      cases hl : sw_lay q1 with
      | inr t => rw [hl] at h; exact h.elim
      | inl ds =>
        rw [hl] at h
        replace h : (match sw_nth ds b with
          | some d => K (pc + 3) L ((bif Nat.blt d 3 then .inl (σ q1 k b) else .inr (some (d - 3, rf q1 k b))) :: st) σ
          | none => False) := h
        cases hdd : sw_nth ds b with
        | none => rw [hdd] at h; exact h.elim
        | some d =>
          rw [hdd] at h
          refine sw_getf hx hb hts hown hT hw hV hl hdd hlink hd ?_
          unfold sw_fv
          cases h3 : Nat.blt d 3 with
          | true =>
            replace h : K (pc + 3) L ((bif Nat.blt d 3 then .inl (σ q1 k b) else .inr (some (d - 3, rf q1 k b))) :: st) σ := h
            rw [h3] at h
            exact hk _ _ _ _ h H locs lsA hw hS hL hLo (sw_oc trivial (sw_ot hst))
          | false =>
            replace h : K (pc + 3) L ((bif Nat.blt d 3 then .inl (σ q1 k b) else .inr (some (d - 3, rf q1 k b))) :: st) σ := h
            rw [h3] at h
            refine hk _ _ _ _ h H locs lsA hw hS hL hLo (sw_oc (hG.2.1 q1 k ds b d hV hl hdd ?_) (sw_ot hst))
            rcases Nat.lt_or_ge d 3 with z | z
            · exact absurd (Nat.ble_eq.mpr z) (by show ¬ Nat.blt d 3 = true; rw [h3]; decide)
            · exact z
  case putfield idx =>
    obtain ⟨hn, h0⟩ := sw_ln_st h
    clear h
    subst hn
    have h := h0
    clear h0
    obtain ⟨⟨a, b⟩, hv, h⟩ := sw_op_st h
    have hlink := hfl _ (sw_fl_in hv)
    rcases st with _ | ⟨x | r, _ | ⟨y | _ | ⟨q1, k⟩, st⟩⟩
    · exact False.elim h
    · exact False.elim h
    · exact False.elim h
    · exact False.elim h
    · obtain ⟨ha, h⟩ := sw_bif h
      have ha : q1 = a := Nat.eq_of_beq_eq_true ha
      subst ha
      have hV : V q1 k := sw_oh (sw_ot hst)
      cases hl : sw_lay q1 with
      | inr t => rw [hl] at h; exact h.elim
      | inl ds =>
        rw [hl] at h
        replace h : (match sw_nth ds b with
          | some 0 => K (pc + 3) L st (sw_up σ q1 k b x)
          | some 1 => sw_bo x ∧ K (pc + 3) L st (sw_up σ q1 k b x)
          | _ => False) := h
        cases hdd : sw_nth ds b with
        | none => rw [hdd] at h; exact h.elim
        | some d =>
          rw [hdd] at h
          match d, hdd, h with
          | 0, hdd, h => exact sw_putf hx hb hts hown hT hG hw hS hV hl hdd (Or.inl rfl) hlink hd (fun H1 locs1 hw1 hS1 => hk _ _ _ _ h H1 locs1 lsA hw1 hS1 hL hLo (sw_ot (sw_ot hst)))
          | 1, hdd, h => exact sw_putf hx hb hts hown hT hG hw hS hV hl hdd (Or.inr ⟨rfl, h.1⟩) hlink hd (fun H1 locs1 hw1 hS1 => hk _ _ _ _ h.2 H1 locs1 lsA hw1 hS1 hL hLo (sw_ot (sw_ot hst)))
          | d + 2, hdd, h => exact False.elim h
    all_goals exact False.elim h
  case iaload =>
    obtain ⟨hn, h0⟩ := sw_ln_st h
    clear h
    subst hn
    have h := h0
    clear h0
    rcases st with _ | ⟨j | r, _ | ⟨y | _ | ⟨q1, k⟩, st⟩⟩
    · exact False.elim h
    · exact False.elim h
    · exact False.elim h
    · exact False.elim h
    · have hV : V q1 k := sw_oh (sw_ot hst)
      cases hl : sw_lay q1 with
      | inl ds => replace h : (match sw_lay q1 with
          | .inr t => vp_in j (ln q1 k) ∧ (bif Nat.beq t 0 then K (pc + 1) L (.inl (σ q1 k j.toNatClampNeg) :: st) σ else False)
          | _ => False) := h
                  rw [hl] at h; exact h.elim
      | inr t =>
        replace h : (match sw_lay q1 with
          | .inr t => vp_in j (ln q1 k) ∧ (bif Nat.beq t 0 then K (pc + 1) L (.inl (σ q1 k j.toNatClampNeg) :: st) σ else False)
          | _ => False) := h
        rw [hl] at h
        obtain ⟨hin, h⟩ := h
        obtain ⟨ht, h⟩ := sw_bif h
        have ht : t = 0 := Nat.eq_of_beq_eq_true ht
        subst ht
        exact sw_ald hx hb hT hw hV hin (Or.inl ⟨hl, hd⟩) (hk _ _ _ _ h H locs lsA hw hS hL hLo (sw_oc trivial (sw_ot (sw_ot hst))))
    all_goals exact False.elim h
  case baload =>
    obtain ⟨hn, h0⟩ := sw_ln_st h
    clear h
    subst hn
    have h := h0
    clear h0
    rcases st with _ | ⟨j | r, _ | ⟨y | _ | ⟨q1, k⟩, st⟩⟩
    · exact False.elim h
    · exact False.elim h
    · exact False.elim h
    · exact False.elim h
    · have hV : V q1 k := sw_oh (sw_ot hst)
      cases hl : sw_lay q1 with
      | inl ds => replace h : (match sw_lay q1 with
          | .inr t => vp_in j (ln q1 k) ∧ (bif Nat.beq t 1 then K (pc + 1) L (.inl (σ q1 k j.toNatClampNeg) :: st) σ else False)
          | _ => False) := h
                  rw [hl] at h; exact h.elim
      | inr t =>
        replace h : (match sw_lay q1 with
          | .inr t => vp_in j (ln q1 k) ∧ (bif Nat.beq t 1 then K (pc + 1) L (.inl (σ q1 k j.toNatClampNeg) :: st) σ else False)
          | _ => False) := h
        rw [hl] at h
        obtain ⟨hin, h⟩ := h
        obtain ⟨ht, h⟩ := sw_bif h
        have ht : t = 1 := Nat.eq_of_beq_eq_true ht
        subst ht
        exact sw_ald hx hb hT hw hV hin (Or.inr ⟨hl, hd⟩) (hk _ _ _ _ h H locs lsA hw hS hL hLo (sw_oc trivial (sw_ot (sw_ot hst))))
    all_goals exact False.elim h
  case aaload =>
    obtain ⟨hn, h0⟩ := sw_ln_st h
    clear h
    subst hn
    have h := h0
    clear h0
    rcases st with _ | ⟨j | r, _ | ⟨y | _ | ⟨q1, k⟩, st⟩⟩
    · exact False.elim h
    · exact False.elim h
    · exact False.elim h
    · exact False.elim h
    · have hV : V q1 k := sw_oh (sw_ot hst)
      replace h : (match sw_lay q1 with
          | .inr t => vp_in j (ln q1 k) ∧ (bif Nat.ble 2 t then K (pc + 1) L (.inr (some (t - 2, rf q1 k j.toNatClampNeg)) :: st) σ else False)
          | _ => False) := h
      cases hl : sw_lay q1 with
      | inl ds => rw [hl] at h; exact h.elim
      | inr t =>
        rw [hl] at h
        obtain ⟨hin, h⟩ := h
        obtain ⟨ht, h⟩ := sw_bif h
        have ht : 2 ≤ t := Nat.le_of_ble_eq_true ht
        have hj : j.toNatClampNeg < ln q1 k := Nat.not_le.mp fun z => hin (Or.inr z)
        exact sw_aldq hx hb hT hG hw hV hin hl ht hd (hk _ _ _ _ h H locs lsA hw hS hL hLo (sw_oc (hG.2.2.1 q1 k t _ hV hl ht hj) (sw_ot (sw_ot hst))))
    all_goals exact False.elim h
  case iastore =>
    obtain ⟨hn, h0⟩ := sw_ln_st h
    clear h
    subst hn
    have h := h0
    clear h0
    rcases st with _ | ⟨x | r, _ | ⟨j | r, _ | ⟨y | _ | ⟨q1, k⟩, st⟩⟩⟩
    · exact False.elim h
    · exact False.elim h
    · exact False.elim h
    · exact False.elim h
    · exact False.elim h
    · have hV : V q1 k := sw_oh (sw_ot (sw_ot hst))
      replace h : (match sw_lay q1 with
          | .inr t => bif Nat.beq t 0 then (vp_in j (ln q1 k) ∧ K (pc + 1) L st (sw_up σ q1 k j.toNatClampNeg x)) else False
          | _ => False) := h
      cases hl : sw_lay q1 with
      | inl ds => rw [hl] at h; exact h.elim
      | inr t =>
        rw [hl] at h
        obtain ⟨ht, h⟩ := sw_bif h
        have ht : t = 0 := Nat.eq_of_beq_eq_true ht
        subst ht
        obtain ⟨hin, h⟩ := h
        exact sw_ast hx hb hT hG hw hS hV hin (Or.inl ⟨hl, hd⟩) (fun H1 locs1 hw1 hS1 => hk _ _ _ _ h H1 locs1 lsA hw1 hS1 hL hLo (sw_ot (sw_ot (sw_ot hst))))
    all_goals exact False.elim h
  case bastore =>
    obtain ⟨hn, h0⟩ := sw_ln_st h
    clear h
    subst hn
    have h := h0
    clear h0
    rcases st with _ | ⟨x | r, _ | ⟨j | r, _ | ⟨y | _ | ⟨q1, k⟩, st⟩⟩⟩
    · exact False.elim h
    · exact False.elim h
    · exact False.elim h
    · exact False.elim h
    · exact False.elim h
    · have hV : V q1 k := sw_oh (sw_ot (sw_ot hst))
      replace h : (match sw_lay q1 with
          | .inr t => bif Nat.beq t 1 then (vp_in j (ln q1 k) ∧ (sw_bo x ∧ K (pc + 1) L st (sw_up σ q1 k j.toNatClampNeg x))) else False
          | _ => False) := h
      cases hl : sw_lay q1 with
      | inl ds => rw [hl] at h; exact h.elim
      | inr t =>
        rw [hl] at h
        obtain ⟨ht, h⟩ := sw_bif h
        have ht : t = 1 := Nat.eq_of_beq_eq_true ht
        subst ht
        obtain ⟨hin, h⟩ := h
        exact sw_ast hx hb hT hG hw hS hV hin (Or.inr ⟨hl, h.1, hd⟩) (fun H1 locs1 hw1 hS1 => hk _ _ _ _ h.2 H1 locs1 lsA hw1 hS1 hL hLo (sw_ot (sw_ot (sw_ot hst))))
    all_goals exact False.elim h
  case arraylength =>
    obtain ⟨hn, h0⟩ := sw_ln_st h
    clear h
    subst hn
    have h := h0
    clear h0
    rcases st with _ | ⟨y | _ | ⟨q1, k⟩, st⟩
    · exact False.elim h
    · exact False.elim h
    · exact False.elim h
    · have hV : V q1 k := sw_oh hst
      replace h : (match sw_lay q1 with
          | .inr t => bif Nat.ble t 4 then K (pc + 1) L (.inl (nI (ln q1 k)) :: st) σ else False
          | _ => False) := h
      cases hl : sw_lay q1 with
      | inl ds => rw [hl] at h; exact h.elim
      | inr t =>
        rw [hl] at h
        obtain ⟨ht, h⟩ := sw_bif h
        exact sw_len hx hb hT hG hw hV hl hd (hk _ _ _ _ h H locs lsA hw hS hL hLo (sw_oc trivial (sw_ot hst)))
  case ifCond cd off =>
    obtain ⟨hn, h0⟩ := sw_ln_st h
    clear h
    subst hn
    have h := h0
    clear h0
    obtain ⟨t, ht, h⟩ := sw_tg_st h
    rcases st with _ | ⟨x | r, st⟩
    · exact False.elim h
    · cases cd
      · exact lv_if_eq hx hb hd ht (fun z => hk _ _ _ _ (h.1 z) H locs lsA hw hS hL hLo (sw_ot hst)) (fun z => hk _ _ _ _ (h.2 z) H locs lsA hw hS hL hLo (sw_ot hst))
      · exact lv_if_ne hx hb hd ht (fun z => hk _ _ _ _ (h.1 z) H locs lsA hw hS hL hLo (sw_ot hst)) (fun z => hk _ _ _ _ (h.2 z) H locs lsA hw hS hL hLo (sw_ot hst))
      · exact lv_if_lt hx hb hd ht (fun z => hk _ _ _ _ (h.1 z) H locs lsA hw hS hL hLo (sw_ot hst)) (fun z => hk _ _ _ _ (h.2 z) H locs lsA hw hS hL hLo (sw_ot hst))
      · exact lv_if_ge hx hb hd ht (fun z => hk _ _ _ _ (h.1 z) H locs lsA hw hS hL hLo (sw_ot hst)) (fun z => hk _ _ _ _ (h.2 z) H locs lsA hw hS hL hLo (sw_ot hst))
      · exact lv_if_gt hx hb hd ht (fun z => hk _ _ _ _ (h.1 z) H locs lsA hw hS hL hLo (sw_ot hst)) (fun z => hk _ _ _ _ (h.2 z) H locs lsA hw hS hL hLo (sw_ot hst))
      · exact lv_if_le hx hb hd ht (fun z => hk _ _ _ _ (h.1 z) H locs lsA hw hS hL hLo (sw_ot hst)) (fun z => hk _ _ _ _ (h.2 z) H locs lsA hw hS hL hLo (sw_ot hst))
    · exact False.elim h
  case if_icmp cd off =>
    obtain ⟨hn, h0⟩ := sw_ln_st h
    clear h
    subst hn
    have h := h0
    clear h0
    obtain ⟨t, ht, h⟩ := sw_tg_st h
    rcases st with _ | ⟨y | r, _ | ⟨x | r', st⟩⟩
    · exact False.elim h
    · exact False.elim h
    · cases cd
      · exact lv_icmp_eq hx hb hd ht (fun z => hk _ _ _ _ (h.1 z) H locs lsA hw hS hL hLo (sw_ot (sw_ot hst))) (fun z => hk _ _ _ _ (h.2 z) H locs lsA hw hS hL hLo (sw_ot (sw_ot hst)))
      · exact lv_icmp_ne hx hb hd ht (fun z => hk _ _ _ _ (h.1 z) H locs lsA hw hS hL hLo (sw_ot (sw_ot hst))) (fun z => hk _ _ _ _ (h.2 z) H locs lsA hw hS hL hLo (sw_ot (sw_ot hst)))
      · exact lv_icmp_lt hx hb hd ht (fun z => hk _ _ _ _ (h.1 z) H locs lsA hw hS hL hLo (sw_ot (sw_ot hst))) (fun z => hk _ _ _ _ (h.2 z) H locs lsA hw hS hL hLo (sw_ot (sw_ot hst)))
      · exact lv_icmp_ge hx hb hd ht (fun z => hk _ _ _ _ (h.1 z) H locs lsA hw hS hL hLo (sw_ot (sw_ot hst))) (fun z => hk _ _ _ _ (h.2 z) H locs lsA hw hS hL hLo (sw_ot (sw_ot hst)))
      · exact lv_icmp_gt hx hb hd ht (fun z => hk _ _ _ _ (h.1 z) H locs lsA hw hS hL hLo (sw_ot (sw_ot hst))) (fun z => hk _ _ _ _ (h.2 z) H locs lsA hw hS hL hLo (sw_ot (sw_ot hst)))
      · exact lv_icmp_le hx hb hd ht (fun z => hk _ _ _ _ (h.1 z) H locs lsA hw hS hL hLo (sw_ot (sw_ot hst))) (fun z => hk _ _ _ _ (h.2 z) H locs lsA hw hS hL hLo (sw_ot (sw_ot hst)))
    all_goals exact False.elim h
  case ifnull off =>
    obtain ⟨hn, h0⟩ := sw_ln_st h
    clear h
    subst hn
    have h := h0
    clear h0
    obtain ⟨t, ht, h⟩ := sw_tg_st h
    rcases st with _ | ⟨x | _ | q, st⟩
    · exact False.elim h
    · exact False.elim h
    · exact lv_ifnullN hx hb hd ht (hk _ _ _ _ h H locs lsA hw hS hL hLo (sw_ot hst))
    · exact lv_ifnull hx hb hd (hk _ _ _ _ h H locs lsA hw hS hL hLo (sw_ot hst))
  case ifnonnull off =>
    obtain ⟨hn, h0⟩ := sw_ln_st h
    clear h
    subst hn
    have h := h0
    clear h0
    obtain ⟨t, ht, h⟩ := sw_tg_st h
    rcases st with _ | ⟨x | _ | q, st⟩
    · exact False.elim h
    · exact False.elim h
    · exact lv_ifnonnullN hx hb hd (hk _ _ _ _ h H locs lsA hw hS hL hLo (sw_ot hst))
    · exact lv_ifnonnull hx hb hd ht (hk _ _ _ _ h H locs lsA hw hS hL hLo (sw_ot hst))
  case goto off =>
    obtain ⟨hn, h0⟩ := sw_ln_st h
    clear h
    subst hn
    have h := h0
    clear h0
    obtain ⟨t, ht, h⟩ := sw_tg_st h
    exact lv_goto hx hb hd ht (hk _ _ _ _ h H locs lsA hw hS hL hLo hst)
  case tableswitch d lo hi offs =>
    obtain ⟨hc, h⟩ := sw_if_st h
    obtain ⟨t, ht, h⟩ := sw_tg_st h
    rcases st with _ | ⟨x | r, st⟩
    · exact False.elim h
    · replace h : sw_sw x t (fun t => K t L st σ) TS := h
      simp only [sw_tsk, Bool.and_eq_true, decide_eq_true_eq] at hc
      obtain ⟨⟨⟨c1, c2⟩, c3⟩, c4⟩ := hc
      have key : ∀ (i : Nat) (q : Int32 × Nat), TS[i]? = some q → q.1.toInt = lo + (i : Int) := by
        intro i q hq
        have e1 : (TS.map (fun q => q.1.toInt))[i]? = some q.1.toInt := by rw [List.getElem?_map, hq]; rfl
        rw [c3, List.getElem?_map] at e1
        have hi : i < offs.toList.length := by rw [← c1]; exact (List.getElem?_eq_some_iff.mp hq).1
        rw [List.getElem?_range hi] at e1
        exact (Option.some.inj e1).symm
      by_cases hr1 : x.toInt < lo ∨ hi < x.toInt
      · refine lv_tableOut hx hb hd hr1 ht (hk _ _ _ _ (sw_sw_no h fun j q' hq' z => ?_) H locs lsA hw hS hL hLo (sw_ot hst))
        have hj := key j q' hq'
        have hlt : j < offs.toList.length := by rw [← c1]; exact (List.getElem?_eq_some_iff.mp hq').1
        rw [z] at hj
        omega
      · have h1 : ¬ x.toInt < lo := fun z => hr1 (Or.inl z)
        have h2 : ¬ hi < x.toInt := fun z => hr1 (Or.inr z)
        have hi : (x.toInt - lo).toNat < offs.toList.length := by omega
        have hi2 : (x.toInt - lo).toNat < TS.length := by rw [c1]; exact hi
        obtain ⟨q, hq⟩ : ∃ q, TS[(x.toInt - lo).toNat]? = some q := ⟨_, List.getElem?_eq_getElem hi2⟩
        obtain ⟨o, ho⟩ : ∃ o, offs.toList[(x.toInt - lo).toNat]? = some o := ⟨_, List.getElem?_eq_getElem hi⟩
        have e1 : (offs.toList.map (fun o => (pc : Int) + o))[(x.toInt - lo).toNat]? = some ((pc : Int) + o) := by rw [List.getElem?_map, ho]; rfl
        rw [c4, List.getElem?_map, hq] at e1
        have e2 : (pc : Int) + o = (q.2 : Int) := (Option.some.inj e1).symm
        have hqx : q.1 = x := Int32.toInt_inj.mp (by rw [key _ q hq]; omega)
        refine lv_tableIn hx hb hd h1 h2 (by rw [← Array.getElem?_toList]; exact ho) e2 (hk _ _ _ _ (sw_sw_at h _ q hq hqx fun j q' hj hq' z => ?_) H locs lsA hw hS hL hLo (sw_ot hst))
        have := key j q' hq'
        rw [z] at this
        omega
    · exact False.elim h
  case lookupswitch d ps =>
    obtain ⟨hc, h⟩ := sw_if_st h
    obtain ⟨t, ht, h⟩ := sw_tg_st h
    rcases st with _ | ⟨x | r, st⟩
    · exact False.elim h
    · replace h : sw_sw x t (fun t => K t L st σ) TS := h
      simp only [sw_lsk, Bool.and_eq_true, decide_eq_true_eq] at hc
      obtain ⟨u, hu, h⟩ := sw_sw_look ht h
      rw [← hc.1] at hu
      exact lv_lookup hx hb hd hc.2 rfl hu (hk _ _ _ _ h H locs lsA hw hS hL hLo (sw_ot hst))
    · exact False.elim h
  case dup =>
    obtain ⟨hn, h0⟩ := sw_ln_st h
    clear h
    subst hn
    have h := h0
    clear h0
    rcases st with _ | ⟨x, st⟩
    · exact False.elim h
    · exact lv_dup hx hb hd (sw_em_cat ad x) (hk _ _ _ _ h H locs lsA hw hS hL hLo (sw_oc (sw_oh hst) hst))
  case dup2 =>
    obtain ⟨hn, h0⟩ := sw_ln_st h
    clear h
    subst hn
    have h := h0
    clear h0
    rcases st with _ | ⟨x, _ | ⟨y, st⟩⟩
    · exact False.elim h
    · exact False.elim h
    · exact lv_dup2_11 hx hb hd (sw_em_cat ad x) (sw_em_cat ad y) (hk _ _ _ _ h H locs lsA hw hS hL hLo (sw_oc (sw_oh hst) (sw_oc (sw_oh (sw_ot hst)) hst)))
  case pop =>
    obtain ⟨hn, h0⟩ := sw_ln_st h
    clear h
    subst hn
    have h := h0
    clear h0
    rcases st with _ | ⟨x, st⟩
    · exact False.elim h
    · exact lv_pop hx hb hd (sw_em_cat ad x) (hk _ _ _ _ h H locs lsA hw hS hL hLo (sw_ot hst))
  case aconst_null =>
    obtain ⟨hn, h0⟩ := sw_ln_st h
    clear h
    subst hn
    have h := h0
    clear h0
    exact lv_null hx hb hd (hk _ _ _ _ h H locs lsA hw hS hL hLo (sw_oc trivial hst))
  case ireturn =>
    obtain ⟨hn, h0⟩ := sw_ln_st h
    clear h
    subst hn
    have h := h0
    clear h0
    rcases st with _ | ⟨x | r, _ | ⟨y, st⟩⟩
    · exact False.elim h
    · match rt, hrt, h with
      | 0, hrt, h => exact False.elim h
      | 1, hrt, h =>
        have hr1 : meth.sig.returnType = some .int := hr.trans (hrt.2.1 rfl)
        exact W.zret hx hb hr1 rfl (fun t ht hW => hQ (some (.inl x)) σ H locs h (fun v hv => by cases hv; trivial) hw hS t ht hW) hS.2.2 hd
      | 2, hrt, h =>
        have hr1 : meth.sig.returnType = some .boolean := hr.trans (hrt.2.2.1 rfl)
        exact W.zret hx hb hr1 (by rcases h.1 with rfl | rfl <;> rfl) (fun t ht hW => hQ (some (.inl x)) σ H locs h.2 (fun v hv => by cases hv; trivial) hw hS t ht hW) hS.2.2 hd
      | n + 3, hrt, h => exact False.elim h
    all_goals exact False.elim h
  case areturn =>
    obtain ⟨hn, h0⟩ := sw_ln_st h
    clear h
    subst hn
    have h := h0
    clear h0
    rcases st with _ | ⟨x | r, _ | ⟨y, st⟩⟩
    · exact False.elim h
    · exact False.elim h
    · exact False.elim h
    · match rt, hrt, h with
      | 0, hrt, h => exact False.elim h
      | 1, hrt, h => exact False.elim h
      | 2, hrt, h => exact False.elim h
      | 3, hrt, h =>
        obtain ⟨nm, hnm⟩ := hrt.2.2.2 rfl
        exact W.aret (v := sw_em ad (.inr r)) hx hb (hr.trans hnm) (Or.inl ⟨nm, rfl⟩) (sw_em_r ad r) (fun t ht hW => hQ (some (.inr r)) σ H locs h (fun v hv => by cases hv; exact sw_oh hst) hw hS t ht hW) hS.2.2 hd
      | n + 4, hrt, h => exact False.elim h
    · exact False.elim h
  case return_ =>
    obtain ⟨hn, h0⟩ := sw_ln_st h
    clear h
    subst hn
    have h := h0
    clear h0
    rcases st with _ | ⟨x, st⟩
    · match rt, hrt, h with
      | 0, hrt, h =>
        have hr1 : meth.sig.returnType = none := hr.trans (hrt.1 rfl)
        exact W.vret hx hb hr1 (fun t ht hW => hQ none σ H locs h (fun v hv => by cases hv) hw hS t ht hW) hS.2.2 hd
      | n + 1, hrt, h => exact False.elim h
    · exact False.elim h
  case invokevirtual idx =>
    obtain ⟨hn, h0⟩ := sw_ln_st h
    clear h
    subst hn
    have h := h0
    clear h0
    replace h : (match sw_lk CT idx with
      | some (n, md, f) => (match sw_tk n st [] with
        | some (avs, st') => bif sw_rc md 0 avs && Nat.ble st'.length 8 then ((f avs σ).1 ∧ K (pc + 3) L ((f avs σ).2.1.toList ++ st') (f avs σ).2.2) else False
        | none => False)
      | none => False) := h
    cases hq : sw_lk CT idx with
    | none => rw [hq] at h; exact h.elim
    | some q =>
      obtain ⟨n, md, f⟩ := q
      rw [hq] at h
      replace h : (match sw_tk n st [] with
        | some (avs, st') => bif sw_rc md 0 avs && Nat.ble st'.length 8 then ((f avs σ).1 ∧ K (pc + 3) L ((f avs σ).2.1.toList ++ st') (f avs σ).2.2) else False
        | none => False) := h
      cases htk : sw_tk n st [] with
      | none => rw [htk] at h; exact h.elim
      | some q2 =>
        obtain ⟨avs, st'⟩ := q2
        rw [htk] at h
        obtain ⟨hrc, hf, h9⟩ := sw_bif h
        clear h
        rw [Bool.and_eq_true] at hrc
        obtain ⟨hrc, h8⟩ := hrc
        obtain ⟨-, hlen, pre, e1, e2⟩ := sw_tk_of htk
        rw [List.append_nil] at e2
        have e3 : pre = avs.reverse := by rw [e2, List.reverse_reverse]
        subst e1
        have hva : ∀ v ∈ avs, sw_ov V v := fun v hv => hst v (List.mem_append_left _ (by rw [e3]; exact List.mem_reverse.mpr hv))
        have hvr : ∀ v ∈ st', sw_ov V v := fun v hv => hst v (List.mem_append_right _ hv)
        have hc := hct _ (sw_lk_in hq) (MQ below Qc args s 0 0 (sw_ad ad V)) pc H locs lsA avs (st'.map (sw_em ad)) σ (sw_rc_of0 hrc hd) hlen hva hw hS hf (by rw [sw_cats]; exact Nat.le_of_ble_eq_true h8) hL.1 (fun H1 locs1 hw1 hS1 hv1 => by
          have := hk _ _ _ _ h9 H1 locs1 lsA hw1 hS1 hL hLo (fun v hv => by
            rcases List.mem_append.mp hv with z | z
            · exact hv1 v (by simpa using z)
            · exact hvr v z)
          rw [List.map_append] at this
          exact this)
        rw [List.map_append, e3, List.map_reverse]
        exact hc
  case invokestatic idx =>
    obtain ⟨hn, h0⟩ := sw_ln_st h
    clear h
    subst hn
    have h := h0
    clear h0
    replace h : (match sw_lk CT idx with
      | some (n, md, f) => (match sw_tk n st [] with
        | some (avs, st') => bif sw_rc md 1 avs && Nat.ble st'.length 8 then ((f avs σ).1 ∧ K (pc + 3) L ((f avs σ).2.1.toList ++ st') (f avs σ).2.2) else False
        | none => False)
      | none => False) := h
    cases hq : sw_lk CT idx with
    | none => rw [hq] at h; exact h.elim
    | some q =>
      obtain ⟨n, md, f⟩ := q
      rw [hq] at h
      replace h : (match sw_tk n st [] with
        | some (avs, st') => bif sw_rc md 1 avs && Nat.ble st'.length 8 then ((f avs σ).1 ∧ K (pc + 3) L ((f avs σ).2.1.toList ++ st') (f avs σ).2.2) else False
        | none => False) := h
      cases htk : sw_tk n st [] with
      | none => rw [htk] at h; exact h.elim
      | some q2 =>
        obtain ⟨avs, st'⟩ := q2
        rw [htk] at h
        obtain ⟨hrc, hf, h9⟩ := sw_bif h
        clear h
        rw [Bool.and_eq_true] at hrc
        obtain ⟨hrc, h8⟩ := hrc
        obtain ⟨-, hlen, pre, e1, e2⟩ := sw_tk_of htk
        rw [List.append_nil] at e2
        have e3 : pre = avs.reverse := by rw [e2, List.reverse_reverse]
        subst e1
        have hva : ∀ v ∈ avs, sw_ov V v := fun v hv => hst v (List.mem_append_left _ (by rw [e3]; exact List.mem_reverse.mpr hv))
        have hvr : ∀ v ∈ st', sw_ov V v := fun v hv => hst v (List.mem_append_right _ hv)
        have hc := hct _ (sw_lk_in hq) (MQ below Qc args s 0 0 (sw_ad ad V)) pc H locs lsA avs (st'.map (sw_em ad)) σ (sw_rc_of1 hrc hd) hlen hva hw hS hf (by rw [sw_cats]; exact Nat.le_of_ble_eq_true h8) hL.1 (fun H1 locs1 hw1 hS1 hv1 => by
          have := hk _ _ _ _ h9 H1 locs1 lsA hw1 hS1 hL hLo (fun v hv => by
            rcases List.mem_append.mp hv with z | z
            · exact hv1 v (by simpa using z)
            · exact hvr v z)
          rw [List.map_append] at this
          exact this)
        rw [List.map_append, e3, List.map_reverse]
        exact hc
  all_goals exact False.elim h
end swStep2
end
section
/-! A method out of its code: the check of the table, the run, the contract, the calls -/
def sw_chk (cc : ByteArray) (fl : List (Nat × Nat × Nat)) (cn : List (Nat × Int32)) (TS : sw_T) (N : Nat) (tree : Nat → sw_I) : Bool :=
  (List.range (N + 1)).all (fun pc => Nat.beq (tree pc).1 99 || (match decode cc pc with
    | .ok q => decide (sw_ec fl cn (TS pc) pc q.2 q.1 = tree pc)
    | _ => false))
theorem sw_chk_ok {cc : ByteArray} {fl : List (Nat × Nat × Nat)} {cn : List (Nat × Int32)} {TS : sw_T} {N : Nat} {tree : Nat → sw_I} (h : sw_chk cc fl cn TS N tree = true) (pc : Nat) : (sw_tab N tree pc).1 = 99 ∨ ∃ ins n, decode cc pc = .ok (ins, n) ∧ sw_ec fl cn (TS pc) pc n ins = sw_tab N tree pc := by
  unfold sw_tab
  cases hb : Nat.ble pc N with
  | false => exact Or.inl rfl
  | true =>
    rw [cond_true]
    have h1 := List.all_eq_true.mp h pc (List.mem_range.mpr (Nat.lt_succ_of_le (Nat.le_of_ble_eq_true hb)))
    rw [Bool.or_eq_true] at h1
    rcases h1 with h1 | h1
    · exact Or.inl (Nat.eq_of_beq_eq_true h1)
    · right
      cases hd : decode cc pc with
      | error z => rw [hd] at h1; cases h1
      | ok q =>
        rw [hd] at h1
        exact ⟨q.1, q.2, rfl, of_decide_eq_true h1⟩
def sw_ent : Nat → List sw_V → sw_L
  | 0, _ => []
  | n + 1, [] => none :: sw_ent n []
  | n + 1, v :: avs => some v :: sw_ent n avs
theorem sw_ent_len : ∀ (n : Nat) (avs : List sw_V), (sw_ent n avs).length = n
  | 0, _ => rfl
  | n + 1, [] => congrArg Nat.succ (sw_ent_len n [])
  | n + 1, _ :: avs => congrArg Nat.succ (sw_ent_len n avs)
theorem sw_ent_get : ∀ (n : Nat) (avs : List sw_V) (i : Nat) (v : sw_V), sw_get (sw_ent n avs) i = some v → avs[i]? = some v
  | 0, _, _, _, h => by cases h
  | n + 1, [], 0, _, h => by cases h
  | n + 1, [], i + 1, v, h => by
    have := sw_ent_get n [] i v h
    simp at this
  | n + 1, w :: avs, 0, v, h => by cases h; rfl
  | n + 1, w :: avs, i + 1, v, h => sw_ent_get n avs i v h
theorem sw_args_in (ad : sw_A) : ∀ (avs : List sw_V) (i0 i : Nat) (v : sw_V), avs[i]? = some v → (i0 + i, sw_em ad v) ∈ lv_args i0 (avs.map (sw_em ad))
  | [], _, _, _, h => by simp at h
  | w :: avs, i0, 0, v, h => by
    cases h
    exact List.mem_cons_self
  | w :: avs, i0, i + 1, v, h => by
    have h1 := sw_args_in ad avs (i0 + 1) i v h
    rw [List.map_cons]
    refine List.mem_cons_of_mem _ ?_
    rw [if_neg (by rw [sw_em_cat]; decide), show i0 + (i + 1) = i0 + 1 + i by omega]
    exact h1
theorem sw_sl_len (ad : sw_A) : ∀ avs : List sw_V, (lg_sl (avs.map (sw_em ad))).length = avs.length
  | [] => rfl
  | v :: avs => by
    have h := sw_sl_len ad avs
    unfold lg_sl at h ⊢
    rw [List.map_cons, List.flatMap_cons, if_neg (by rw [sw_em_cat]; decide), List.length_append, h, List.length_cons, List.length_cons, List.length_nil]
    omega
def sw_nw (U : State) : Prop := va_Nw (.methodLinkNest RX1 102 yX7_bit RX7) U ∧ va_Nw (.methodLinkNest RX6 286 yX7_bit RX7) U
def sw_Pw (ad : sw_A) (V : Nat → Nat → Prop) (rf : sw_R) (ln : sw_A) (ca : Nat → ClassId) (D : va_G) (σ : sw_S) (U : State) : Prop := sw_w ad V rf ln ca D σ U.heap ∧ va_K D vwCl (sw_ty ca) U ∧ sw_nw U
def sw_Qc (ad : sw_A) (V : Nat → Nat → Prop) (rf : sw_R) (ln : sw_A) (ca : Nat → ClassId) (D : va_G) (r : Option sw_V) (σ : sw_S) : Array Value → State → Outcome → State → Prop := fun _ st o t =>
  o = .returned (r.map (sw_em ad)) ∧ sw_w ad V rf ln ca D σ t.heap ∧ (∀ v, r = some v → sw_ov V v) ∧ va_F (sw_ad ad V) st t
def sw_met (l : Launch) (ad : sw_A) (V : Nat → Nat → Prop) (rf : sw_R) (ln : sw_A) (ca : Nat → ClassId) (D : va_G) (y : MethodName) (cc : ByteArray) (maxL : Nat) (ret : Option FieldType) (rm : Room) (n : Nat) (f : sw_F) : Prop :=
  ∀ (avs : List sw_V) (σ : sw_S), avs.length = n → (∀ v ∈ avs, sw_ov V v) → (f avs σ).1 → Met l y (Cond.code y cc maxL ret :: sw_tbl) rm (va_Pc (avs.map (sw_em ad)) (sw_Pw ad V rf ln ca D σ)) (sw_Qc ad V rf ln ca D (f avs σ).2.1 (f avs σ).2.2) 0 0 (sw_ad ad V)
theorem sw_nw.same {u U : State} (h : u.vm = U.vm) (hn : sw_nw u) : sw_nw U := ⟨va_Nw.same rfl h hn.1, va_Nw.same rfl h hn.2⟩
theorem sw_nw.warm {s U : State} (hW : s.WarmedH U.vm) (hn : sw_nw s) : sw_nw U := ⟨va_Nw.warmM hW hn.1, va_Nw.warmM hW hn.2⟩
section swMeth
variable {l : Launch} {ad : sw_A} {V : Nat → Nat → Prop} {rf : sw_R} {ln : sw_A} {ca : Nat → ClassId} {D : va_G}
theorem sw_meth (hG : sw_wf ad V rf ln) {y : MethodName} {cc : ByteArray} {maxL n rt N : Nat} {ret : Option FieldType} {rm : Room} {tree : Nat → sw_I} {fl : List (Nat × Nat × Nat)} {cn : List (Nat × Int32)} {TS : sw_T} {CT : sw_C} {f : sw_F} (hy : plainName y.cls = true) (hrt : sw_rt rt ret) (hnL : n ≤ maxL)
    (hchk : sw_chk cc fl cn TS N tree = true)
    (hfl : ∀ q ∈ fl, Cond.fieldLink y.cls q.1 ((sw_cl q.2.1).2.1 q.2.2).1 ((sw_cl q.2.1).2.1 q.2.2).2.1 ((sw_cl q.2.1).2.1 q.2.2).2.2.1 ∈ sw_tbl) (hcn : ∀ q ∈ cn, Jvm.Cond.constant y.cls q.1 q.2 ∈ sw_tbl)
    (hct : ∀ (p : Program) (e : Env) (s : State) (m : MethodId) (args : Array Value) (below : List Frame) (meth : Method) (c : Code), CallFix p m c cc maxL s args sw_tbl y.cls → va_K D vwCl (sw_ty ca) s → sw_nw s → ∀ q ∈ CT, sw_cok p l e rm s m args below meth c ad V rf ln ca D cc maxL q)
    (hwp : ∀ (avs : List sw_V) (σ : sw_S), avs.length = n → (f avs σ).1 → ∃ fuel, sw_wp rf ln CT TS rt N tree (fun r σ' => r = (f avs σ).2.1 ∧ σ' = (f avs σ).2.2) fuel 0 (sw_ent maxL avs) [] σ) :
    sw_met l ad V rf ln ca D y cc maxL ret rm n f := by
  intro avs σ hlen hva hf
  obtain ⟨fuel, hw0⟩ := hwp avs σ hlen hf
  refine Met.ofW (cc := cc) (maxL := maxL) (ret := ret) hy rfl ?_
  intro p e s m args below meth c s₁ B hml hv
  obtain ⟨rfl, hw, hT, hnw⟩ := hv
  have hx := B.exec
  have hb := B.bytes
  have hr := B.returns
  have hts0 := atoms_spec (ws := Cond.code y cc maxL ret :: sw_tbl) B.pre
  have hts : ∀ w ∈ sw_tbl, w.before (avs.map (sw_em ad)).toArray s = true := fun w h => hts0 w (List.mem_cons_of_mem _ h)
  have hown : s.vm.findClass y.cls = some m.cls := findClass_of_methodNamed B.named
  have hlocks := B.notSynchronized
  have hS : va_S (sw_ad ad V) s.heap s.heap [] := va_S.rf
  have hrun : ∀ (k pc : Nat) (L : sw_L) (st : List sw_V) (σ0 : sw_S), sw_wp rf ln CT TS rt N tree (fun r σ' => r = (f avs σ).2.1 ∧ σ' = (f avs σ).2.2) k pc L st σ0 → sw_at p l e rm s m (avs.map (sw_em ad)).toArray below meth c ad V rf ln ca D maxL (sw_Qc ad V rf ln ca D (f avs σ).2.1 (f avs σ).2.2) pc L st σ0 := by
    intro k
    induction k with
    | zero => intro pc L st σ0 h; exact False.elim h
    | succ k ih =>
      intro pc L st σ0 h
      rcases sw_chk_ok hchk pc with h99 | ⟨ins, nn, hd, hec⟩
      · replace h : sw_st rf ln CT (TS pc) rt _ (sw_wp rf ln CT TS rt N tree _ k) (sw_tab N tree pc) L st σ0 := h
        generalize sw_tab N tree pc = i at h h99
        obtain ⟨i1, i2, i3, i4, i5⟩ := i
        subst h99
        exact False.elim h
      · replace h : sw_st rf ln CT (TS pc) rt _ (sw_wp rf ln CT TS rt N tree _ k) (sw_tab N tree pc) L st σ0 := h
        rw [← hec] at h
        refine sw_step hx hb hml hr hrt hlocks hown hts hT hG hfl hcn (hct p e s m _ below meth c ⟨hx, hb, hml, hown, hts⟩ hT hnw) ?_ hd h ih
        intro r σ' H locs hq hov hwq hSq t ht hW
        obtain ⟨rfl, rfl⟩ := hq
        exact ⟨rfl, by rw [ht]; exact hwq, hov, hSq.F ht⟩
  have hl := lv_entry (avs.map (sw_em ad)) (n := maxL) (by rw [sw_sl_len, hlen]; exact hnL)
  rw [lg_entry_eq]
  generalize (lg_sl (avs.map (sw_em ad)) ++ List.replicate (maxL - (lg_sl (avs.map (sw_em ad))).length) Slot.unset).toArray = ls at hl ⊢
  refine hrun fuel 0 (sw_ent maxL avs) [] σ hw0 s.heap [] ls hw hS ⟨hl.1, hl.2.1, sw_ent_len _ _, fun i v hi => ?_⟩ (fun i v hi => hva v (List.mem_of_getElem? (sw_ent_get _ _ _ _ hi))) (fun v hv => by cases hv)
  have := sw_args_in ad avs 0 i v (sw_ent_get _ _ _ _ hi)
  rw [Nat.zero_add] at this
  exact hl.2.2 _ this
/-- what a call leaves: the caller goes on -/
theorem sw_call {p : Program} {e : Env} {R : Room} {s : State} {m : MethodId} {args : Array Value} {below : List Frame} {meth : Method} {c : Code} {H : Heap} {locs : List Loc} {Qw : State → Prop} {pc : Nat} {ls : Array Slot} {st0 rest : List Value} {r : Option sw_V} {σ : sw_S} {a : Array Value}
    (hr : va_Run p l e R s m args below meth c H locs 0 0 0 0 (F0 m pc ls st0) rest (sw_Qc ad V rf ln ca D r σ a) (sw_ad ad V)) (hS : va_S (sw_ad ad V) s.heap H locs)
    (kk : ∀ (H1 : Heap) (locs1 : List Loc), sw_w ad V rf ln ca D σ H1 → va_S (sw_ad ad V) s.heap H1 locs1 → (∀ v, r = some v → sw_ov V v) → W p l e R s m args below meth c H1 locs1 0 0 Qw (F0 m (pc + 3) ls ((r.toList).map (sw_em ad) ++ rest))) : W p l e R s m args below meth c H locs 0 0 Qw (F0 m pc ls st0) := by
  intro T hT X
  obtain ⟨v, st₀, t, T', L, h0, X', hL, e1, e2, ⟨hv, hw, hov, hz, hk⟩, st⟩ := hr T hT X
  cases hv
  rw [h0] at hz hk
  obtain ⟨t2, a1, b1⟩ := kk T'.heap (locs ++ L) (by rw [e1]; exact hw) ⟨Nat.le_trans hS.1 (by rw [e1]; exact hz), fun q h1 h2 => by rw [e1, hk q (Nat.lt_of_lt_of_le h1 hS.1) h2]; exact hS.2.1 q h1 h2, fun q hq => by
      rcases List.mem_append.mp hq with h | h
      · exact hS.2.2 q h
      · exact hL q h⟩ hov T' rfl X'
  refine ⟨t2, st t2 ?_, b1⟩
  have e3 : (Option.map (sw_em ad) r).toList = (r.toList).map (sw_em ad) := by cases r <;> rfl
  rw [e3]
  exact a1
theorem sw_blind {avs : List sw_V} {σ : sw_S} : FrameBlind (va_Pc (avs.map (sw_em ad)) (sw_Pw ad V rf ln ca D σ)) := fun a U g mk q => by
  obtain ⟨q0, q1, q2, q3⟩ := q
  exact ⟨q0, q1, va_K.moved (u := U) (U := U.calling g mk a) (Vm.Alike.refl U.vm) q2, sw_nw.same (u := U) (U := U.calling g mk a) rfl q3⟩
theorem sw_cokV {p : Program} {e : Env} {R : Room} {s : State} {m : MethodId} {args : Array Value} {below : List Frame} {meth : Method} {c : Code} {cc : ByteArray} {nL : Nat} {own : String} (S : CallFix p m c cc nL s args sw_tbl own) (hT : va_K D vwCl (sw_ty ca) s) (hnw : sw_nw s)
    {y : MethodName} {cc' : ByteArray} {maxL' n : Nat} {ret' : Option FieldType} {rm' : Room} {f : sw_F} (M : sw_met l ad V rf ln ca D y cc' maxL' ret' rm' (n + 1) f) (idx c0 : Nat) (h9 : c0 < 9)
    (hw : Cond.methodLink own idx y ∈ sw_tbl ∧ Cond.instanceMethod y ∈ sw_tbl ∧ Cond.selects y.cls y y ∈ sw_tbl ∧ Cond.initialized y.cls ∈ sw_tbl ∧ Cond.code y cc' maxL' ret' ∈ sw_tbl)
    (hd : y.cls = (sw_cl c0).1 ∧ y.cls ≠ "java/lang/invoke/MethodHandle" ∧ y.cls ≠ "java/lang/invoke/VarHandle" ∧ (parseMethodDescriptor y.desc).map (fun d => d.parameters.length) = some n) (hrc : rm'.cells = 0 ∧ rm'.slots = 0) (hR : rm'.frames + 1 ≤ R.frames ∧ 8 + (maxL' + 11) + rm'.locals ≤ R.locals) :
    sw_cok p l e R s m args below meth c ad V rf ln ca D cc nL (idx, n + 1, c0 + 1, f) := by
  intro Qw pc H locs lsA avs rest σ hdec hlen hva hwσ hS hf h8 hsz kk
  rcases hdec with ⟨h0, -⟩ | ⟨c1, k, tl, h0, rfl, hdg⟩
  · cases h0
  · cases h0
    have hV : V c0 k := sw_oh hva
    have hrec := va_recv hT (hwσ.one hV rfl) (ci := c0) (q := sw_cl c0) (q0 := 0) (fs := match sw_lay c0 with
      | .inl ds => sw_fs ad rf c0 k (σ c0 k) ds 0
      | _ => []) (sw_cl_at h9) (by
        have : ∃ ds, sw_lay c0 = .inl ds := sw_9 (P := fun c0 => ∃ ds, sw_lay c0 = .inl ds) ⟨_, rfl⟩ ⟨_, rfl⟩ ⟨_, rfl⟩ ⟨_, rfl⟩ ⟨_, rfl⟩ ⟨_, rfl⟩ ⟨_, rfl⟩ ⟨_, rfl⟩ ⟨_, rfl⟩ h9
        obtain ⟨ds, hds⟩ := this
        rw [sw_en_o hds, hds]
        rfl)
    rw [← hd.1] at hrec
    have hrun := va_runV (e := e) (below := below) (meth := meth) (R := R) (locs := locs) (As := tl.map (sw_em ad)) (rest := rest) (g := F0 m pc lsA ((((.inr (some (c0, k)) :: tl : List sw_V)).map (sw_em ad)).reverse ++ rest)) S (M _ σ hlen hva hf)
      (cwV n S.2.2.2.2 (fun w hw2 => by
        rcases List.mem_append.mp hw2 with h | h
        · simp only [List.mem_cons, List.not_mem_nil, or_false] at h
          rcases h with rfl | rfl | rfl | rfl
          · exact sw_tbl_good _ hw.1
          · exact sw_tbl_good _ hw.2.1
          · exact sw_tbl_good _ hw.2.2.1
          · exact sw_tbl_good _ hw.2.2.2.1
        · exact sw_good_cons hw.2.2.2.2 _ h) rfl hrc.1 hrc.2 ⟨rfl, hd.2⟩ hR)
      ⟨sw_blind, hrec, fun U hU hW => ⟨rfl, by rw [hU]; exact hwσ, va_K.moved hW.alike hT, sw_nw.warm hW hnw⟩⟩ rfl (by rw [List.length_map]; exact Nat.succ.inj hlen) hsz (by simp [sw_em]) (lv_room h8) hdg ⟨Nat.zero_le _, Nat.zero_le _⟩
    exact sw_call hrun hS kk
theorem sw_cokS {p : Program} {e : Env} {R : Room} {s : State} {m : MethodId} {args : Array Value} {below : List Frame} {meth : Method} {c : Code} {cc : ByteArray} {nL : Nat} {own : String} (S : CallFix p m c cc nL s args sw_tbl own) (hT : va_K D vwCl (sw_ty ca) s) (hnw : sw_nw s)
    {y : MethodName} {cc' : ByteArray} {maxL' n : Nat} {ret' : Option FieldType} {rm' : Room} {f : sw_F} (M : sw_met l ad V rf ln ca D y cc' maxL' ret' rm' n f) (idx : Nat)
    (hw : Cond.methodLink own idx y ∈ sw_tbl ∧ Cond.static y ∈ sw_tbl ∧ Cond.initialized own ∈ sw_tbl ∧ Cond.code y cc' maxL' ret' ∈ sw_tbl)
    (hd : y.cls = own ∧ y.cls ≠ "java/lang/invoke/MethodHandle" ∧ y.cls ≠ "java/lang/invoke/VarHandle" ∧ (parseMethodDescriptor y.desc).map (fun d => d.parameters.length) = some n) (hrc : rm'.cells = 0 ∧ rm'.slots = 0) (hR : rm'.frames + 1 ≤ R.frames ∧ 8 + (maxL' + 11) + rm'.locals ≤ R.locals) :
    sw_cok p l e R s m args below meth c ad V rf ln ca D cc nL (idx, n, 0, f) := by
  intro Qw pc H locs lsA avs rest σ hdec hlen hva hwσ hS hf h8 hsz kk
  rcases hdec with ⟨-, hdg⟩ | ⟨c1, k, tl, h0, -, -⟩
  · have hrun := va_runS (e := e) (below := below) (meth := meth) (R := R) (locs := locs) (As := avs.map (sw_em ad)) (rest := rest) (g := F0 m pc lsA ((avs.map (sw_em ad)).reverse ++ rest)) S (M _ σ hlen hva hf)
      (cwS n S.2.2.2.2 (fun w hw2 => by
        rcases List.mem_append.mp hw2 with h | h
        · simp only [List.mem_cons, List.not_mem_nil, or_false] at h
          rcases h with rfl | rfl | rfl
          · exact sw_tbl_good _ hw.1
          · exact sw_tbl_good _ hw.2.1
          · exact sw_tbl_good _ hw.2.2.1
        · exact sw_good_cons hw.2.2.2 _ h) rfl hrc.1 hrc.2 hd hR)
      ⟨sw_blind, fun U hU hW => ⟨rfl, by rw [hU]; exact hwσ, va_K.moved hW.alike hT, sw_nw.warm hW hnw⟩⟩ rfl (by rw [List.length_map]; exact hlen) hsz rfl (lv_room h8) hdg ⟨Nat.zero_le _, Nat.zero_le _⟩
    exact sw_call hrun hS kk
  · cases h0
theorem sw_cokN {p : Program} {e : Env} {R : Room} {s : State} {m : MethodId} {args : Array Value} {below : List Frame} {meth : Method} {c : Code} {cc : ByteArray} {nL : Nat} {own host : String} (S : CallFix p m c cc nL s args sw_tbl own) (hT : va_K D vwCl (sw_ty ca) s) (hnw : sw_nw s)
    {y : MethodName} {cc' : ByteArray} {maxL' n : Nat} {ret' : Option FieldType} {rm' : Room} {f : sw_F} (M : sw_met l ad V rf ln ca D y cc' maxL' ret' rm' n f) (idx : Nat) (hl : va_Nw (.methodLinkNest own idx y host) s)
    (hw : Cond.static y ∈ sw_tbl ∧ Cond.initialized y.cls ∈ sw_tbl ∧ Cond.code y cc' maxL' ret' ∈ sw_tbl)
    (hd : y.cls ≠ "java/lang/invoke/MethodHandle" ∧ y.cls ≠ "java/lang/invoke/VarHandle" ∧ (parseMethodDescriptor y.desc).map (fun d => d.parameters.length) = some n) (hrc : rm'.cells = 0 ∧ rm'.slots = 0) (hR : rm'.frames + 1 ≤ R.frames ∧ 8 + (maxL' + 11) + rm'.locals ≤ R.locals) :
    sw_cok p l e R s m args below meth c ad V rf ln ca D cc nL (idx, n, 0, f) := by
  intro Qw pc H locs lsA avs rest σ hdec hlen hva hwσ hS hf h8 hsz kk
  rcases hdec with ⟨-, hdg⟩ | ⟨c1, k, tl, h0, -, -⟩
  · have hrun := va_runSN (e := e) (below := below) (meth := meth) (R := R) (locs := locs) (As := avs.map (sw_em ad)) (rest := rest) (g := F0 m pc lsA ((avs.map (sw_em ad)).reverse ++ rest)) S (M _ σ hlen hva hf)
      ⟨va_cnB n S.2.2.2.2 (sw_good_cons hw.2.2) rfl hrc.1 hrc.2 hl (S.2.2.2.2 _ hw.2.1) hd hR, S.2.2.2.2 _ hw.1, trivial⟩
      ⟨sw_blind, fun U hU hW => ⟨rfl, by rw [hU]; exact hwσ, va_K.moved hW.alike hT, sw_nw.warm hW hnw⟩⟩ rfl (by rw [List.length_map]; exact hlen) hsz rfl (lv_room h8) hdg ⟨Nat.zero_le _, Nat.zero_le _⟩
    exact sw_call hrun hS kk
  · cases h0
def sw_max : sw_F := fun avs σ => match avs with
  | [.inl x, .inl y] => (True, some (.inl (if x < y then y else x)), σ)
  | _ => (False, none, σ)
def sw_min : sw_F := fun avs σ => match avs with
  | [.inl x, .inl y] => (True, some (.inl (if y < x then y else x)), σ)
  | _ => (False, none, σ)
theorem sw_cokX {p : Program} {e : Env} {R : Room} {s : State} {m : MethodId} {args : Array Value} {below : List Frame} {meth : Method} {c : Code} {cc : ByteArray} {nL : Nat} {own : String} (S : CallFix p m c cc nL s args sw_tbl own) (idx : Nat)
    (hw : Cond.methodLink own idx Lib.Math.max.name ∈ sw_tbl) (hR : 1 ≤ R.frames ∧ 21 ≤ R.locals) :
    sw_cok p l e R s m args below meth c ad V rf ln ca D cc nL (idx, 2, 0, sw_max) := by
  intro Qw pc H locs lsA avs rest σ hdec hlen hva hwσ hS hf h8 hsz kk
  rcases hdec with ⟨-, hdg⟩ | ⟨c1, k, tl, h0, -, -⟩
  · match avs, hf, kk with
    | [.inl x, .inl y], hf, kk =>
      exact va_mmax (rest := rest) S.1 S.2.1 (S.2.2.1.trans hsz.symm) S.2.2.2.1 (S.2.2.2.2 _ hw) (S.2.2.2.2 _ (by decide +kernel)) (S.2.2.2.2 _ (by decide +kernel)) (S.2.2.2.2 _ (by decide +kernel)) hR.1 (by have := hR.2; omega) (Nat.zero_le _) (Nat.zero_le _) hdg (kk H locs hwσ hS (fun v hv => by cases hv; trivial))
  · cases h0
theorem sw_cokM {p : Program} {e : Env} {R : Room} {s : State} {m : MethodId} {args : Array Value} {below : List Frame} {meth : Method} {c : Code} {cc : ByteArray} {nL : Nat} {own : String} (S : CallFix p m c cc nL s args sw_tbl own) (idx : Nat)
    (hw : Cond.methodLink own idx Lib.Math.min.name ∈ sw_tbl) (hR : 1 ≤ R.frames ∧ 21 ≤ R.locals) :
    sw_cok p l e R s m args below meth c ad V rf ln ca D cc nL (idx, 2, 0, sw_min) := by
  intro Qw pc H locs lsA avs rest σ hdec hlen hva hwσ hS hf h8 hsz kk
  rcases hdec with ⟨-, hdg⟩ | ⟨c1, k, tl, h0, -, -⟩
  · match avs, hf, kk with
    | [.inl x, .inl y], hf, kk =>
      exact va_mmin (rest := rest) S.1 S.2.1 (S.2.2.1.trans hsz.symm) S.2.2.2.1 (S.2.2.2.2 _ hw) (S.2.2.2.2 _ (by decide +kernel)) (S.2.2.2.2 _ (by decide +kernel)) (S.2.2.2.2 _ (by decide +kernel)) hR.1 (by have := hR.2; omega) (Nat.zero_le _) (Nat.zero_le _) hdg (kk H locs hwσ hS (fun v hv => by cases hv; trivial))
  · cases h0
end swMeth
end
section
/-! More fuel does no harm; a run from a point, by any fuel -/
section swMono
variable {rf : sw_R} {ln : sw_A} {CT : sw_C} {rt N : Nat} {tree : Nat → sw_I} {Qr : Option sw_V → sw_S → Prop}
theorem sw_st_mono {TS : List (Int32 × Nat)} {K K' : Nat → sw_L → List sw_V → sw_S → Prop} (hK : ∀ pc L st σ, K pc L st σ → K' pc L st σ) (i : sw_I) (L : sw_L) (st : List sw_V) (σ : sw_S) (h : sw_st rf ln CT TS rt Qr K i L st σ) : sw_st rf ln CT TS rt Qr K' i L st σ := by
  obtain ⟨op, a, b, nx, v⟩ := i
  match op, h with
  | 0, h => exact hK _ _ _ _ h
  | 1, h =>
    replace h : (match sw_get L a with
      | some (.inl x) => K nx L (.inl x :: st) σ
      | _ => False) := h
    show (match sw_get L a with
      | some (.inl x) => K' nx L (.inl x :: st) σ
      | _ => False)
    cases hg : sw_get L a with
    | none => rw [hg] at h; exact h.elim
    | some w =>
      rw [hg] at h
      rcases w with x | r
      · first | exact hK _ _ _ _ h | exact False.elim h
      · first | exact hK _ _ _ _ h | exact False.elim h
  | 2, h =>
    replace h : (match sw_get L a with
      | some (.inr r) => K nx L (.inr r :: st) σ
      | _ => False) := h
    show (match sw_get L a with
      | some (.inr r) => K' nx L (.inr r :: st) σ
      | _ => False)
    cases hg : sw_get L a with
    | none => rw [hg] at h; exact h.elim
    | some w =>
      rw [hg] at h
      rcases w with x | r
      · first | exact hK _ _ _ _ h | exact False.elim h
      · first | exact hK _ _ _ _ h | exact False.elim h
  | 3, h =>
    rcases st with _ | ⟨x | r, st⟩
    · exact False.elim h
    · obtain ⟨h1, h⟩ := sw_bif h
      show bif Nat.blt a L.length then _ else False
      rw [h1]
      exact hK _ _ _ _ h
    · exact False.elim h
  | 4, h =>
    rcases st with _ | ⟨x | r, st⟩
    · exact False.elim h
    · exact False.elim h
    · obtain ⟨h1, h⟩ := sw_bif h
      show bif Nat.blt a L.length then _ else False
      rw [h1]
      exact hK _ _ _ _ h
  | 5, h =>
    replace h : (match sw_get L a with
      | some (.inl x) => K nx (sw_set L a (.inl (x + v))) st σ
      | _ => False) := h
    show (match sw_get L a with
      | some (.inl x) => K' nx (sw_set L a (.inl (x + v))) st σ
      | _ => False)
    cases hg : sw_get L a with
    | none => rw [hg] at h; exact h.elim
    | some w =>
      rw [hg] at h
      rcases w with x | r
      · first | exact hK _ _ _ _ h | exact False.elim h
      · first | exact hK _ _ _ _ h | exact False.elim h
  | 6, h =>
    rcases st with _ | ⟨y | r, _ | ⟨x | r', st⟩⟩
    · exact False.elim h
    · exact False.elim h
    · exact hK _ _ _ _ h
    all_goals exact False.elim h
  | 7, h =>
    rcases st with _ | ⟨x | _ | ⟨q1, k⟩, st⟩
    · exact False.elim h
    · exact False.elim h
    · exact False.elim h
    · replace h : (bif Nat.beq q1 a then (match sw_lay a with
      | .inl ds => match sw_nth ds b with
        | some d => K nx L ((bif Nat.blt d 3 then .inl (σ a k b) else .inr (some (d - 3, rf a k b))) :: st) σ
        | none => False
      | _ => False) else False) := h
      show (bif Nat.beq q1 a then (match sw_lay a with
      | .inl ds => match sw_nth ds b with
        | some d => K' nx L ((bif Nat.blt d 3 then .inl (σ a k b) else .inr (some (d - 3, rf a k b))) :: st) σ
        | none => False
      | _ => False) else False)
      obtain ⟨h1, h2⟩ := sw_bif h
      clear h
      rw [h1, cond_true]
      split at h2
      · split at h2
        · exact hK _ _ _ _ h2
        · exact False.elim h2
      · exact False.elim h2
  | 8, h =>
    rcases st with _ | ⟨x | r, _ | ⟨y | _ | ⟨q1, k⟩, st⟩⟩
    · exact False.elim h
    · exact False.elim h
    · exact False.elim h
    · exact False.elim h
    · replace h : (bif Nat.beq q1 a then (match sw_lay a with
      | .inl ds => match sw_nth ds b with
        | some 0 => K nx L st (sw_up σ a k b x)
        | some 1 => sw_bo x ∧ K nx L st (sw_up σ a k b x)
        | _ => False
      | _ => False) else False) := h
      show (bif Nat.beq q1 a then (match sw_lay a with
      | .inl ds => match sw_nth ds b with
        | some 0 => K' nx L st (sw_up σ a k b x)
        | some 1 => sw_bo x ∧ K' nx L st (sw_up σ a k b x)
        | _ => False
      | _ => False) else False)
      obtain ⟨h1, h2⟩ := sw_bif h
      clear h
      rw [h1, cond_true]
      split at h2
      · split at h2
        · exact hK _ _ _ _ h2
        · exact ⟨h2.1, hK _ _ _ _ h2.2⟩
        · exact False.elim h2
      · exact False.elim h2
    all_goals exact False.elim h
  | 9, h =>
    rcases st with _ | ⟨j | r, _ | ⟨y | _ | ⟨q1, k⟩, st⟩⟩
    · exact False.elim h
    · exact False.elim h
    · exact False.elim h
    · exact False.elim h
    · rcases a with _ | _ | _ | a
      · replace h : (match sw_lay q1 with
        | .inr t => vp_in j (ln q1 k) ∧ (bif Nat.beq t (0) then K nx L (.inl (σ q1 k j.toNatClampNeg) :: st) σ else False)
        | _ => False) := h
        show (match sw_lay q1 with
        | .inr t => vp_in j (ln q1 k) ∧ (bif Nat.beq t (0) then K' nx L (.inl (σ q1 k j.toNatClampNeg) :: st) σ else False)
        | _ => False)
        split at h
        · obtain ⟨h0, h2⟩ := h
          obtain ⟨h1, h3⟩ := sw_bif h2
          refine ⟨h0, ?_⟩
          rw [h1]
          exact hK _ _ _ _ h3
        · exact False.elim h
      · replace h : (match sw_lay q1 with
        | .inr t => vp_in j (ln q1 k) ∧ (bif Nat.beq t (1) then K nx L (.inl (σ q1 k j.toNatClampNeg) :: st) σ else False)
        | _ => False) := h
        show (match sw_lay q1 with
        | .inr t => vp_in j (ln q1 k) ∧ (bif Nat.beq t (1) then K' nx L (.inl (σ q1 k j.toNatClampNeg) :: st) σ else False)
        | _ => False)
        split at h
        · obtain ⟨h0, h2⟩ := h
          obtain ⟨h1, h3⟩ := sw_bif h2
          refine ⟨h0, ?_⟩
          rw [h1]
          exact hK _ _ _ _ h3
        · exact False.elim h
      · replace h : (match sw_lay q1 with
        | .inr t => vp_in j (ln q1 k) ∧ (bif Nat.ble 2 t then K nx L (.inr (some (t - 2, rf q1 k j.toNatClampNeg)) :: st) σ else False)
        | _ => False) := h
        show (match sw_lay q1 with
        | .inr t => vp_in j (ln q1 k) ∧ (bif Nat.ble 2 t then K' nx L (.inr (some (t - 2, rf q1 k j.toNatClampNeg)) :: st) σ else False)
        | _ => False)
        split at h
        · obtain ⟨h0, h2⟩ := h
          obtain ⟨h1, h3⟩ := sw_bif h2
          refine ⟨h0, ?_⟩
          rw [h1]
          exact hK _ _ _ _ h3
        · exact False.elim h
      · replace h : (match sw_lay q1 with
        | .inr t => vp_in j (ln q1 k) ∧ (bif Nat.beq t (a + 3) then K nx L (.inl (σ q1 k j.toNatClampNeg) :: st) σ else False)
        | _ => False) := h
        show (match sw_lay q1 with
        | .inr t => vp_in j (ln q1 k) ∧ (bif Nat.beq t (a + 3) then K' nx L (.inl (σ q1 k j.toNatClampNeg) :: st) σ else False)
        | _ => False)
        split at h
        · obtain ⟨h0, h2⟩ := h
          obtain ⟨h1, h3⟩ := sw_bif h2
          refine ⟨h0, ?_⟩
          rw [h1]
          exact hK _ _ _ _ h3
        · exact False.elim h
    all_goals exact False.elim h
  | 10, h =>
    rcases st with _ | ⟨x | r, _ | ⟨j | r, _ | ⟨y | _ | ⟨q1, k⟩, st⟩⟩⟩
    · exact False.elim h
    · exact False.elim h
    · exact False.elim h
    · exact False.elim h
    · exact False.elim h
    · rcases a with _ | a
      · replace h : (match sw_lay q1 with
        | .inr t => bif Nat.beq t (0) then (vp_in j (ln q1 k) ∧ K nx L st (sw_up σ q1 k j.toNatClampNeg x)) else False
        | _ => False) := h
        show (match sw_lay q1 with
        | .inr t => bif Nat.beq t (0) then (vp_in j (ln q1 k) ∧ K' nx L st (sw_up σ q1 k j.toNatClampNeg x)) else False
        | _ => False)
        split at h
        · obtain ⟨h1, h2⟩ := sw_bif h
          rw [h1, cond_true]
          exact ⟨h2.1, hK _ _ _ _ h2.2⟩
        · exact False.elim h
      · replace h : (match sw_lay q1 with
        | .inr t => bif Nat.beq t (a + 1) then (vp_in j (ln q1 k) ∧ (sw_bo x ∧ K nx L st (sw_up σ q1 k j.toNatClampNeg x))) else False
        | _ => False) := h
        show (match sw_lay q1 with
        | .inr t => bif Nat.beq t (a + 1) then (vp_in j (ln q1 k) ∧ (sw_bo x ∧ K' nx L st (sw_up σ q1 k j.toNatClampNeg x))) else False
        | _ => False)
        split at h
        · obtain ⟨h1, h2⟩ := sw_bif h
          rw [h1, cond_true]
          exact ⟨h2.1, h2.2.1, hK _ _ _ _ h2.2.2⟩
        · exact False.elim h
    all_goals exact False.elim h
  | 11, h =>
    rcases st with _ | ⟨y | _ | ⟨q1, k⟩, st⟩
    · exact False.elim h
    · exact False.elim h
    · exact False.elim h
    · replace h : (match sw_lay q1 with
      | .inr t => bif Nat.ble t 4 then K nx L (.inl (nI (ln q1 k)) :: st) σ else False
      | _ => False) := h
      show (match sw_lay q1 with
      | .inr t => bif Nat.ble t 4 then K' nx L (.inl (nI (ln q1 k)) :: st) σ else False
      | _ => False)
      split at h
      · obtain ⟨h1, h2⟩ := sw_bif h
        rw [h1]
        exact hK _ _ _ _ h2
      · exact False.elim h
  | 12, h =>
    rcases st with _ | ⟨x | r, st⟩
    · exact False.elim h
    · exact sw_br_mono (hK _ _ _ _) (hK _ _ _ _) h
    · exact False.elim h
  | 13, h =>
    rcases st with _ | ⟨y | r, _ | ⟨x | r', st⟩⟩
    · exact False.elim h
    · exact False.elim h
    · exact sw_br_mono (hK _ _ _ _) (hK _ _ _ _) h
    all_goals exact False.elim h
  | 14, h =>
    rcases st with _ | ⟨x | _ | q, st⟩
    · exact False.elim h
    · exact False.elim h
    · exact hK _ _ _ _ h
    · exact hK _ _ _ _ h
  | 15, h =>
    rcases st with _ | ⟨x | _ | q, st⟩
    · exact False.elim h
    · exact False.elim h
    · exact hK _ _ _ _ h
    · exact hK _ _ _ _ h
  | 16, h => exact hK _ _ _ _ h
  | 17, h =>
    rcases st with _ | ⟨x | r, st⟩
    · exact False.elim h
    · exact sw_sw_mono (fun t => hK _ _ _ _) _ h
    · exact False.elim h
  | 18, h =>
    replace h : (match sw_lk CT a with
    | some (n, md, f) => (match sw_tk n st [] with
      | some (avs, st') => bif sw_rc md b avs && Nat.ble st'.length 8 then ((f avs σ).1 ∧ K nx L ((f avs σ).2.1.toList ++ st') (f avs σ).2.2) else False
      | none => False)
    | none => False) := h
    show (match sw_lk CT a with
    | some (n, md, f) => (match sw_tk n st [] with
      | some (avs, st') => bif sw_rc md b avs && Nat.ble st'.length 8 then ((f avs σ).1 ∧ K' nx L ((f avs σ).2.1.toList ++ st') (f avs σ).2.2) else False
      | none => False)
    | none => False)
    split at h
    · split at h
      · obtain ⟨h1, h2⟩ := sw_bif h
        rw [h1, cond_true]
        exact ⟨h2.1, hK _ _ _ _ h2.2⟩
      · exact False.elim h
    · exact False.elim h
  | 19, h => exact h
  | 20, h => exact h
  | 21, h => exact h
  | 22, h =>
    rcases st with _ | ⟨x, st⟩
    · exact False.elim h
    · exact hK _ _ _ _ h
  | 23, h =>
    rcases st with _ | ⟨x, _ | ⟨y, st⟩⟩
    · exact False.elim h
    · exact False.elim h
    · exact hK _ _ _ _ h
  | 24, h =>
    rcases st with _ | ⟨x, st⟩
    · exact False.elim h
    · exact hK _ _ _ _ h
  | 25, h => exact hK _ _ _ _ h
  | 26, h =>
    rcases st with _ | ⟨y | r, _ | ⟨x | r', st⟩⟩
    · exact False.elim h
    · exact False.elim h
    · exact ⟨h.1, hK _ _ _ _ h.2⟩
    all_goals exact False.elim h
  | 27, h =>
    rcases st with _ | ⟨y | r, _ | ⟨x | r', st⟩⟩
    · exact False.elim h
    · exact False.elim h
    · exact ⟨h.1, hK _ _ _ _ h.2⟩
    all_goals exact False.elim h
  | n + 28, h => exact False.elim h
theorem sw_wp_succ {TS : sw_T} : ∀ (n pc : Nat) (L : sw_L) (st : List sw_V) (σ : sw_S), sw_wp rf ln CT TS rt N tree Qr n pc L st σ → sw_wp rf ln CT TS rt N tree Qr (n + 1) pc L st σ
  | 0, _, _, _, _, h => False.elim h
  | n + 1, pc, L, st, σ, h => sw_st_mono (fun pc L st σ => sw_wp_succ n pc L st σ) _ L st σ h
theorem sw_wp_mono {TS : sw_T} {n pc : Nat} {L : sw_L} {st : List sw_V} {σ : sw_S} (h : sw_wp rf ln CT TS rt N tree Qr n pc L st σ) (k : Nat) : sw_wp rf ln CT TS rt N tree Qr (n + k) pc L st σ := by
  induction k with
  | zero => exact h
  | succ k ih => exact sw_wp_succ _ _ _ _ _ ih
end swMono
/-! A run that stops at certain points, from which it is known to go on -/
def sw_isin : List Nat → Nat → Bool
  | [], _ => false
  | q :: l, i => bif Nat.beq q i then true else sw_isin l i
def sw_ws (rf : sw_R) (ln : sw_A) (CT : sw_C) (TS : sw_T) (rt N : Nat) (tree : Nat → sw_I) (Q : Option sw_V → sw_S → Prop) (stop : List Nat) (M : Nat) : Nat → Nat → sw_L → List sw_V → sw_S → Prop
  | 0, _, _, _, _ => False
  | n + 1, pc, ls, st, σ => sw_st rf ln CT (TS pc) rt Q (fun pc' ls' st' σ' => bif sw_isin stop pc' then sw_wp rf ln CT TS rt N tree Q M pc' ls' st' σ' else sw_ws rf ln CT TS rt N tree Q stop M n pc' ls' st' σ') (sw_tab N tree pc) ls st σ
theorem sw_ws_wp {rf : sw_R} {ln : sw_A} {CT : sw_C} {rt N : Nat} {tree : Nat → sw_I} {Q : Option sw_V → sw_S → Prop} {TS : sw_T} (stop : List Nat) (M : Nat) : ∀ (n pc : Nat) (L : sw_L) (st : List sw_V) (σ : sw_S), sw_ws rf ln CT TS rt N tree Q stop M n pc L st σ → sw_wp rf ln CT TS rt N tree Q (M + n) pc L st σ
  | 0, _, _, _, _, h => False.elim h
  | n + 1, pc, L, st, σ, h => sw_st_mono (fun pc' L' st' σ' h' => by
    cases hb : sw_isin stop pc' with
    | true =>
      rw [hb] at h'
      exact sw_wp_mono h' n
    | false =>
      rw [hb] at h'
      exact sw_ws_wp stop M n pc' L' st' σ' h') _ L st σ h
theorem sw_ex {P : Nat → Prop} {M n : Nat} (h : P (M + n)) : ∃ fuel, P fuel := ⟨_, h⟩
end
section
def flX0 : List (Nat × Nat × Nat) := [(13, 0, 0), (19, 0, 1), (23, 0, 2), (26, 0, 3)]
def cnX0 : List (Nat × Int32) := []
set_option maxRecDepth 100000 in
theorem flX0_in : ∀ q ∈ flX0, Cond.fieldLink RX0 q.1 ((sw_cl q.2.1).2.1 q.2.2).1 ((sw_cl q.2.1).2.1 q.2.2).2.1 ((sw_cl q.2.1).2.1 q.2.2).2.2.1 ∈ sw_tbl := by decide +kernel
set_option maxRecDepth 100000 in
theorem cnX0_in : ∀ q ∈ cnX0, Jvm.Cond.constant RX0 q.1 q.2 ∈ sw_tbl := by decide +kernel
def flX1 : List (Nat × Nat × Nat) := [(9, 1, 3), (15, 1, 4), (23, 1, 0), (27, 1, 1), (30, 1, 2), (36, 1, 7), (40, 1, 8), (43, 1, 5), (50, 1, 9), (57, 1, 12), (60, 1, 11), (66, 1, 6), (83, 1, 10)]
def cnX1 : List (Nat × Int32) := []
set_option maxRecDepth 100000 in
theorem flX1_in : ∀ q ∈ flX1, Cond.fieldLink RX1 q.1 ((sw_cl q.2.1).2.1 q.2.2).1 ((sw_cl q.2.1).2.1 q.2.2).2.1 ((sw_cl q.2.1).2.1 q.2.2).2.2.1 ∈ sw_tbl := by decide +kernel
set_option maxRecDepth 100000 in
theorem cnX1_in : ∀ q ∈ cnX1, Jvm.Cond.constant RX1 q.1 q.2 ∈ sw_tbl := by decide +kernel
def flX2 : List (Nat × Nat × Nat) := [(15, 2, 0), (21, 2, 1), (56, 4, 0), (64, 4, 2), (77, 4, 1)]
def cnX2 : List (Nat × Int32) := [(94, 65535)]
set_option maxRecDepth 100000 in
theorem flX2_in : ∀ q ∈ flX2, Cond.fieldLink RX2 q.1 ((sw_cl q.2.1).2.1 q.2.2).1 ((sw_cl q.2.1).2.1 q.2.2).2.1 ((sw_cl q.2.1).2.1 q.2.2).2.2.1 ∈ sw_tbl := by decide +kernel
set_option maxRecDepth 100000 in
theorem cnX2_in : ∀ q ∈ cnX2, Jvm.Cond.constant RX2 q.1 q.2 ∈ sw_tbl := by decide +kernel
def flX3 : List (Nat × Nat × Nat) := [(15, 3, 0), (24, 3, 2), (40, 3, 1)]
def cnX3 : List (Nat × Int32) := []
set_option maxRecDepth 100000 in
theorem flX3_in : ∀ q ∈ flX3, Cond.fieldLink RX3 q.1 ((sw_cl q.2.1).2.1 q.2.2).1 ((sw_cl q.2.1).2.1 q.2.2).2.1 ((sw_cl q.2.1).2.1 q.2.2).2.2.1 ∈ sw_tbl := by decide +kernel
set_option maxRecDepth 100000 in
theorem cnX3_in : ∀ q ∈ cnX3, Jvm.Cond.constant RX3 q.1 q.2 ∈ sw_tbl := by decide +kernel
def flX4 : List (Nat × Nat × Nat) := [(13, 4, 0), (19, 4, 1), (22, 4, 2), (25, 4, 3), (28, 4, 4), (37, 4, 5)]
def cnX4 : List (Nat × Int32) := []
set_option maxRecDepth 100000 in
theorem flX4_in : ∀ q ∈ flX4, Cond.fieldLink RX4 q.1 ((sw_cl q.2.1).2.1 q.2.2).1 ((sw_cl q.2.1).2.1 q.2.2).2.1 ((sw_cl q.2.1).2.1 q.2.2).2.2.1 ∈ sw_tbl := by decide +kernel
set_option maxRecDepth 100000 in
theorem cnX4_in : ∀ q ∈ cnX4, Jvm.Cond.constant RX4 q.1 q.2 ∈ sw_tbl := by decide +kernel
def flX5 : List (Nat × Nat × Nat) := [(9, 5, 1), (15, 5, 2), (18, 5, 0), (22, 5, 3)]
def cnX5 : List (Nat × Int32) := []
set_option maxRecDepth 100000 in
theorem flX5_in : ∀ q ∈ flX5, Cond.fieldLink RX5 q.1 ((sw_cl q.2.1).2.1 q.2.2).1 ((sw_cl q.2.1).2.1 q.2.2).2.1 ((sw_cl q.2.1).2.1 q.2.2).2.2.1 ∈ sw_tbl := by decide +kernel
set_option maxRecDepth 100000 in
theorem cnX5_in : ∀ q ∈ cnX5, Jvm.Cond.constant RX5 q.1 q.2 ∈ sw_tbl := by decide +kernel
def flX6 : List (Nat × Nat × Nat) := [(9, 6, 8), (15, 6, 0), (21, 4, 3), (26, 4, 0), (29, 4, 5), (37, 6, 1), (46, 4, 2), (56, 6, 2), (60, 4, 4), (63, 6, 3), (69, 6, 4), (73, 1, 3), (79, 1, 0), (89, 1, 1), (105, 6, 10), (143, 6, 9), (150, 1, 6), (153, 6, 7), (179, 1, 7), (186, 1, 8), (192, 1, 4), (195, 4, 1), (198, 1, 5), (211, 6, 5), (217, 6, 6), (233, 6, 11), (261, 6, 14), (274, 6, 12), (277, 6, 13)]
def cnX6 : List (Nat × Int32) := []
set_option maxRecDepth 100000 in
theorem flX6_in : ∀ q ∈ flX6, Cond.fieldLink RX6 q.1 ((sw_cl q.2.1).2.1 q.2.2).1 ((sw_cl q.2.1).2.1 q.2.2).2.1 ((sw_cl q.2.1).2.1 q.2.2).2.2.1 ∈ sw_tbl := by decide +kernel
set_option maxRecDepth 100000 in
theorem cnX6_in : ∀ q ∈ cnX6, Jvm.Cond.constant RX6 q.1 q.2 ∈ sw_tbl := by decide +kernel
def flX7 : List (Nat × Nat × Nat) := [(17, 7, 0), (23, 7, 1), (51, 6, 10), (55, 1, 4), (62, 6, 3)]
def cnX7 : List (Nat × Int32) := []
set_option maxRecDepth 100000 in
theorem flX7_in : ∀ q ∈ flX7, Cond.fieldLink RX7 q.1 ((sw_cl q.2.1).2.1 q.2.2).1 ((sw_cl q.2.1).2.1 q.2.2).2.1 ((sw_cl q.2.1).2.1 q.2.2).2.2.1 ∈ sw_tbl := by decide +kernel
set_option maxRecDepth 100000 in
theorem cnX7_in : ∀ q ∈ cnX7, Jvm.Cond.constant RX7 q.1 q.2 ∈ sw_tbl := by decide +kernel
def flX8 : List (Nat × Nat × Nat) := [(7, 8, 6), (13, 8, 7), (17, 8, 8), (20, 8, 9), (23, 8, 10), (26, 8, 11), (29, 8, 12), (32, 8, 13), (35, 8, 14), (38, 8, 15), (41, 8, 16), (44, 8, 17), (47, 8, 18), (50, 8, 19), (53, 8, 20), (56, 8, 21), (59, 8, 22), (62, 8, 23), (65, 8, 24), (68, 8, 25), (71, 8, 26), (74, 8, 27), (77, 8, 28), (80, 8, 29), (83, 8, 30), (86, 8, 31), (89, 8, 32), (92, 8, 33), (95, 8, 34), (98, 8, 35), (101, 8, 36), (104, 8, 37), (107, 8, 38), (114, 8, 0), (118, 8, 1), (121, 8, 2), (124, 8, 3), (127, 8, 4), (130, 8, 5), (154, 8, 39)]
def cnX8 : List (Nat × Int32) := [(153, 65535), (193, 65528), (210, (-16711681))]
set_option maxRecDepth 100000 in
theorem flX8_in : ∀ q ∈ flX8, Cond.fieldLink RX8 q.1 ((sw_cl q.2.1).2.1 q.2.2).1 ((sw_cl q.2.1).2.1 q.2.2).2.1 ((sw_cl q.2.1).2.1 q.2.2).2.2.1 ∈ sw_tbl := by decide +kernel
set_option maxRecDepth 100000 in
theorem cnX8_in : ∀ q ∈ cnX8, Jvm.Cond.constant RX8 q.1 q.2 ∈ sw_tbl := by decide +kernel
def tX0_holds : Nat → sw_I := fun pc => (bif Nat.ble pc 6 then (bif Nat.ble pc 1 then (bif Nat.ble pc 0 then (bif Nat.beq pc 0 then (1, 1, 0, 1, 0) else (99, 0, 0, 0, 0)) else (bif Nat.beq pc 1 then (12, 2, 17, 4, 0) else (99, 0, 0, 0, 0))) else (bif Nat.ble pc 4 then (bif Nat.beq pc 4 then (1, 1, 0, 5, 0) else (99, 0, 0, 0, 0)) else (bif Nat.ble pc 5 then (bif Nat.beq pc 5 then (2, 0, 0, 6, 0) else (99, 0, 0, 0, 0)) else (bif Nat.beq pc 6 then (7, 0, 2, 9, 0) else (99, 0, 0, 0, 0))))) else (bif Nat.ble pc 13 then (bif Nat.ble pc 9 then (bif Nat.beq pc 9 then (11, 0, 0, 10, 0) else (99, 0, 0, 0, 0)) else (bif Nat.ble pc 10 then (bif Nat.beq pc 10 then (13, 3, 17, 13, 0) else (99, 0, 0, 0, 0)) else (bif Nat.beq pc 13 then (0, 0, 0, 14, 1) else (99, 0, 0, 0, 0)))) else (bif Nat.ble pc 14 then (bif Nat.beq pc 14 then (16, 0, 18, 0, 0) else (99, 0, 0, 0, 0)) else (bif Nat.ble pc 17 then (bif Nat.beq pc 17 then (0, 0, 0, 18, 0) else (99, 0, 0, 0, 0)) else (bif Nat.beq pc 18 then (19, 0, 0, 0, 0) else (99, 0, 0, 0, 0))))))
def sX0_holds : sw_T := fun _ => []
set_option maxRecDepth 100000 in
theorem kX0_holds : sw_chk cX0_holds flX0 cnX0 sX0_holds 18 tX0_holds = true := by decide +kernel
def tX0_fill : Nat → sw_I := fun pc => (bif Nat.ble pc 25 then (bif Nat.ble pc 13 then (bif Nat.ble pc 5 then (bif Nat.ble pc 1 then (bif Nat.ble pc 0 then (bif Nat.beq pc 0 then (2, 0, 0, 1, 0) else (99, 0, 0, 0, 0)) else (bif Nat.beq pc 1 then (7, 0, 3, 4, 0) else (99, 0, 0, 0, 0))) else (bif Nat.ble pc 4 then (bif Nat.beq pc 4 then (3, 3, 0, 5, 0) else (99, 0, 0, 0, 0)) else (bif Nat.beq pc 5 then (2, 0, 0, 6, 0) else (99, 0, 0, 0, 0)))) else (bif Nat.ble pc 7 then (bif Nat.ble pc 6 then (bif Nat.beq pc 6 then (1, 3, 0, 7, 0) else (99, 0, 0, 0, 0)) else (bif Nat.beq pc 7 then (18, 30, 0, 10, 0) else (99, 0, 0, 0, 0))) else (bif Nat.ble pc 10 then (bif Nat.beq pc 10 then (12, 1, 15, 13, 0) else (99, 0, 0, 0, 0)) else (bif Nat.beq pc 13 then (0, 0, 0, 14, (-1)) else (99, 0, 0, 0, 0))))) else (bif Nat.ble pc 17 then (bif Nat.ble pc 15 then (bif Nat.ble pc 14 then (bif Nat.beq pc 14 then (19, 0, 0, 0, 0) else (99, 0, 0, 0, 0)) else (bif Nat.beq pc 15 then (2, 0, 0, 16, 0) else (99, 0, 0, 0, 0))) else (bif Nat.ble pc 16 then (bif Nat.beq pc 16 then (2, 0, 0, 17, 0) else (99, 0, 0, 0, 0)) else (bif Nat.beq pc 17 then (7, 0, 2, 20, 0) else (99, 0, 0, 0, 0)))) else (bif Nat.ble pc 21 then (bif Nat.ble pc 20 then (bif Nat.beq pc 20 then (1, 3, 0, 21, 0) else (99, 0, 0, 0, 0)) else (bif Nat.beq pc 21 then (9, 0, 0, 22, 0) else (99, 0, 0, 0, 0))) else (bif Nat.ble pc 22 then (bif Nat.beq pc 22 then (8, 0, 3, 25, 0) else (99, 0, 0, 0, 0)) else (bif Nat.beq pc 25 then (2, 0, 0, 26, 0) else (99, 0, 0, 0, 0)))))) else (bif Nat.ble pc 37 then (bif Nat.ble pc 31 then (bif Nat.ble pc 29 then (bif Nat.ble pc 26 then (bif Nat.beq pc 26 then (7, 0, 0, 29, 0) else (99, 0, 0, 0, 0)) else (bif Nat.beq pc 29 then (1, 3, 0, 30, 0) else (99, 0, 0, 0, 0))) else (bif Nat.ble pc 30 then (bif Nat.beq pc 30 then (1, 1, 0, 31, 0) else (99, 0, 0, 0, 0)) else (bif Nat.beq pc 31 then (10, 0, 0, 32, 0) else (99, 0, 0, 0, 0)))) else (bif Nat.ble pc 33 then (bif Nat.ble pc 32 then (bif Nat.beq pc 32 then (2, 0, 0, 33, 0) else (99, 0, 0, 0, 0)) else (bif Nat.beq pc 33 then (7, 0, 1, 36, 0) else (99, 0, 0, 0, 0))) else (bif Nat.ble pc 36 then (bif Nat.beq pc 36 then (1, 3, 0, 37, 0) else (99, 0, 0, 0, 0)) else (bif Nat.beq pc 37 then (1, 2, 0, 38, 0) else (99, 0, 0, 0, 0))))) else (bif Nat.ble pc 43 then (bif Nat.ble pc 39 then (bif Nat.ble pc 38 then (bif Nat.beq pc 38 then (10, 1, 0, 39, 0) else (99, 0, 0, 0, 0)) else (bif Nat.beq pc 39 then (2, 0, 0, 40, 0) else (99, 0, 0, 0, 0))) else (bif Nat.ble pc 40 then (bif Nat.beq pc 40 then (7, 0, 2, 43, 0) else (99, 0, 0, 0, 0)) else (bif Nat.beq pc 43 then (1, 3, 0, 44, 0) else (99, 0, 0, 0, 0)))) else (bif Nat.ble pc 45 then (bif Nat.ble pc 44 then (bif Nat.beq pc 44 then (0, 0, 0, 45, (-1)) else (99, 0, 0, 0, 0)) else (bif Nat.beq pc 45 then (10, 0, 0, 46, 0) else (99, 0, 0, 0, 0))) else (bif Nat.ble pc 46 then (bif Nat.beq pc 46 then (1, 3, 0, 47, 0) else (99, 0, 0, 0, 0)) else (bif Nat.beq pc 47 then (19, 0, 0, 0, 0) else (99, 0, 0, 0, 0)))))))
def sX0_fill : sw_T := fun _ => []
set_option maxRecDepth 100000 in
theorem kX0_fill : sw_chk cX0_fill flX0 cnX0 sX0_fill 47 tX0_fill = true := by decide +kernel
def tX0_chain : Nat → sw_I := fun pc => (bif Nat.ble pc 8 then (bif Nat.ble pc 1 then (bif Nat.ble pc 0 then (bif Nat.beq pc 0 then (2, 0, 0, 1, 0) else (99, 0, 0, 0, 0)) else (bif Nat.beq pc 1 then (1, 1, 0, 2, 0) else (99, 0, 0, 0, 0))) else (bif Nat.ble pc 2 then (bif Nat.beq pc 2 then (18, 30, 0, 5, 0) else (99, 0, 0, 0, 0)) else (bif Nat.ble pc 5 then (bif Nat.beq pc 5 then (12, 0, 15, 8, 0) else (99, 0, 0, 0, 0)) else (bif Nat.beq pc 8 then (2, 0, 0, 9, 0) else (99, 0, 0, 0, 0))))) else (bif Nat.ble pc 12 then (bif Nat.ble pc 9 then (bif Nat.beq pc 9 then (7, 0, 2, 12, 0) else (99, 0, 0, 0, 0)) else (bif Nat.beq pc 12 then (1, 1, 0, 13, 0) else (99, 0, 0, 0, 0))) else (bif Nat.ble pc 13 then (bif Nat.beq pc 13 then (1, 2, 0, 14, 0) else (99, 0, 0, 0, 0)) else (bif Nat.ble pc 14 then (bif Nat.beq pc 14 then (10, 0, 0, 15, 0) else (99, 0, 0, 0, 0)) else (bif Nat.beq pc 15 then (21, 0, 0, 0, 0) else (99, 0, 0, 0, 0))))))
def sX0_chain : sw_T := fun _ => []
set_option maxRecDepth 100000 in
theorem kX0_chain : sw_chk cX0_chain flX0 cnX0 sX0_chain 15 tX0_chain = true := by decide +kernel
def tX0_giveBack : Nat → sw_I := fun pc => (bif Nat.ble pc 16 then (bif Nat.ble pc 8 then (bif Nat.ble pc 1 then (bif Nat.ble pc 0 then (bif Nat.beq pc 0 then (2, 0, 0, 1, 0) else (99, 0, 0, 0, 0)) else (bif Nat.beq pc 1 then (1, 1, 0, 2, 0) else (99, 0, 0, 0, 0))) else (bif Nat.ble pc 2 then (bif Nat.beq pc 2 then (18, 30, 0, 5, 0) else (99, 0, 0, 0, 0)) else (bif Nat.ble pc 5 then (bif Nat.beq pc 5 then (12, 1, 10, 8, 0) else (99, 0, 0, 0, 0)) else (bif Nat.beq pc 8 then (0, 0, 0, 9, (-1)) else (99, 0, 0, 0, 0))))) else (bif Nat.ble pc 11 then (bif Nat.ble pc 9 then (bif Nat.beq pc 9 then (19, 0, 0, 0, 0) else (99, 0, 0, 0, 0)) else (bif Nat.ble pc 10 then (bif Nat.beq pc 10 then (2, 0, 0, 11, 0) else (99, 0, 0, 0, 0)) else (bif Nat.beq pc 11 then (7, 0, 2, 14, 0) else (99, 0, 0, 0, 0)))) else (bif Nat.ble pc 14 then (bif Nat.beq pc 14 then (1, 1, 0, 15, 0) else (99, 0, 0, 0, 0)) else (bif Nat.ble pc 15 then (bif Nat.beq pc 15 then (9, 0, 0, 16, 0) else (99, 0, 0, 0, 0)) else (bif Nat.beq pc 16 then (3, 2, 0, 17, 0) else (99, 0, 0, 0, 0)))))) else (bif Nat.ble pc 23 then (bif Nat.ble pc 18 then (bif Nat.ble pc 17 then (bif Nat.beq pc 17 then (2, 0, 0, 18, 0) else (99, 0, 0, 0, 0)) else (bif Nat.beq pc 18 then (7, 0, 2, 21, 0) else (99, 0, 0, 0, 0))) else (bif Nat.ble pc 21 then (bif Nat.beq pc 21 then (1, 1, 0, 22, 0) else (99, 0, 0, 0, 0)) else (bif Nat.ble pc 22 then (bif Nat.beq pc 22 then (2, 0, 0, 23, 0) else (99, 0, 0, 0, 0)) else (bif Nat.beq pc 23 then (7, 0, 3, 26, 0) else (99, 0, 0, 0, 0))))) else (bif Nat.ble pc 28 then (bif Nat.ble pc 26 then (bif Nat.beq pc 26 then (10, 0, 0, 27, 0) else (99, 0, 0, 0, 0)) else (bif Nat.ble pc 27 then (bif Nat.beq pc 27 then (2, 0, 0, 28, 0) else (99, 0, 0, 0, 0)) else (bif Nat.beq pc 28 then (1, 1, 0, 29, 0) else (99, 0, 0, 0, 0)))) else (bif Nat.ble pc 29 then (bif Nat.beq pc 29 then (8, 0, 3, 32, 0) else (99, 0, 0, 0, 0)) else (bif Nat.ble pc 32 then (bif Nat.beq pc 32 then (1, 2, 0, 33, 0) else (99, 0, 0, 0, 0)) else (bif Nat.beq pc 33 then (19, 0, 0, 0, 0) else (99, 0, 0, 0, 0)))))))
def sX0_giveBack : sw_T := fun _ => []
set_option maxRecDepth 100000 in
theorem kX0_giveBack : sw_chk cX0_giveBack flX0 cnX0 sX0_giveBack 33 tX0_giveBack = true := by decide +kernel
def tX0_wordIn : Nat → sw_I := fun pc => (bif Nat.ble pc 8 then (bif Nat.ble pc 1 then (bif Nat.ble pc 0 then (bif Nat.beq pc 0 then (2, 0, 0, 1, 0) else (99, 0, 0, 0, 0)) else (bif Nat.beq pc 1 then (1, 1, 0, 2, 0) else (99, 0, 0, 0, 0))) else (bif Nat.ble pc 2 then (bif Nat.beq pc 2 then (18, 30, 0, 5, 0) else (99, 0, 0, 0, 0)) else (bif Nat.ble pc 5 then (bif Nat.beq pc 5 then (12, 0, 17, 8, 0) else (99, 0, 0, 0, 0)) else (bif Nat.beq pc 8 then (2, 0, 0, 9, 0) else (99, 0, 0, 0, 0))))) else (bif Nat.ble pc 13 then (bif Nat.ble pc 9 then (bif Nat.beq pc 9 then (7, 0, 0, 12, 0) else (99, 0, 0, 0, 0)) else (bif Nat.ble pc 12 then (bif Nat.beq pc 12 then (1, 1, 0, 13, 0) else (99, 0, 0, 0, 0)) else (bif Nat.beq pc 13 then (9, 0, 0, 14, 0) else (99, 0, 0, 0, 0)))) else (bif Nat.ble pc 14 then (bif Nat.beq pc 14 then (16, 0, 18, 0, 0) else (99, 0, 0, 0, 0)) else (bif Nat.ble pc 17 then (bif Nat.beq pc 17 then (0, 0, 0, 18, 0) else (99, 0, 0, 0, 0)) else (bif Nat.beq pc 18 then (19, 0, 0, 0, 0) else (99, 0, 0, 0, 0))))))
def sX0_wordIn : sw_T := fun _ => []
set_option maxRecDepth 100000 in
theorem kX0_wordIn : sw_chk cX0_wordIn flX0 cnX0 sX0_wordIn 18 tX0_wordIn = true := by decide +kernel
def tX0_isMark : Nat → sw_I := fun pc => (bif Nat.ble pc 9 then (bif Nat.ble pc 2 then (bif Nat.ble pc 0 then (bif Nat.beq pc 0 then (2, 0, 0, 1, 0) else (99, 0, 0, 0, 0)) else (bif Nat.ble pc 1 then (bif Nat.beq pc 1 then (1, 1, 0, 2, 0) else (99, 0, 0, 0, 0)) else (bif Nat.beq pc 2 then (18, 30, 0, 5, 0) else (99, 0, 0, 0, 0)))) else (bif Nat.ble pc 5 then (bif Nat.beq pc 5 then (12, 0, 21, 8, 0) else (99, 0, 0, 0, 0)) else (bif Nat.ble pc 8 then (bif Nat.beq pc 8 then (2, 0, 0, 9, 0) else (99, 0, 0, 0, 0)) else (bif Nat.beq pc 9 then (7, 0, 1, 12, 0) else (99, 0, 0, 0, 0))))) else (bif Nat.ble pc 14 then (bif Nat.ble pc 12 then (bif Nat.beq pc 12 then (1, 1, 0, 13, 0) else (99, 0, 0, 0, 0)) else (bif Nat.ble pc 13 then (bif Nat.beq pc 13 then (9, 1, 0, 14, 0) else (99, 0, 0, 0, 0)) else (bif Nat.beq pc 14 then (12, 0, 21, 17, 0) else (99, 0, 0, 0, 0)))) else (bif Nat.ble pc 18 then (bif Nat.ble pc 17 then (bif Nat.beq pc 17 then (0, 0, 0, 18, 1) else (99, 0, 0, 0, 0)) else (bif Nat.beq pc 18 then (16, 0, 22, 0, 0) else (99, 0, 0, 0, 0))) else (bif Nat.ble pc 21 then (bif Nat.beq pc 21 then (0, 0, 0, 22, 0) else (99, 0, 0, 0, 0)) else (bif Nat.beq pc 22 then (19, 0, 0, 0, 0) else (99, 0, 0, 0, 0))))))
def sX0_isMark : sw_T := fun _ => []
set_option maxRecDepth 100000 in
theorem kX0_isMark : sw_chk cX0_isMark flX0 cnX0 sX0_isMark 22 tX0_isMark = true := by decide +kernel
def tX1_begin : Nat → sw_I := fun pc => (bif Nat.ble pc 9 then (bif Nat.ble pc 4 then (bif Nat.ble pc 0 then (bif Nat.beq pc 0 then (2, 0, 0, 1, 0) else (99, 0, 0, 0, 0)) else (bif Nat.ble pc 1 then (bif Nat.beq pc 1 then (7, 1, 3, 4, 0) else (99, 0, 0, 0, 0)) else (bif Nat.beq pc 4 then (12, 0, 9, 7, 0) else (99, 0, 0, 0, 0)))) else (bif Nat.ble pc 7 then (bif Nat.beq pc 7 then (0, 0, 0, 8, 0) else (99, 0, 0, 0, 0)) else (bif Nat.ble pc 8 then (bif Nat.beq pc 8 then (19, 0, 0, 0, 0) else (99, 0, 0, 0, 0)) else (bif Nat.beq pc 9 then (2, 0, 0, 10, 0) else (99, 0, 0, 0, 0))))) else (bif Nat.ble pc 14 then (bif Nat.ble pc 10 then (bif Nat.beq pc 10 then (18, 33, 0, 13, 0) else (99, 0, 0, 0, 0)) else (bif Nat.ble pc 13 then (bif Nat.beq pc 13 then (2, 0, 0, 14, 0) else (99, 0, 0, 0, 0)) else (bif Nat.beq pc 14 then (0, 0, 0, 15, 1) else (99, 0, 0, 0, 0)))) else (bif Nat.ble pc 15 then (bif Nat.beq pc 15 then (8, 1, 7, 18, 0) else (99, 0, 0, 0, 0)) else (bif Nat.ble pc 18 then (bif Nat.beq pc 18 then (0, 0, 0, 19, 1) else (99, 0, 0, 0, 0)) else (bif Nat.beq pc 19 then (19, 0, 0, 0, 0) else (99, 0, 0, 0, 0))))))
def sX1_begin : sw_T := fun _ => []
set_option maxRecDepth 100000 in
theorem kX1_begin : sw_chk cX1_begin flX1 cnX1 sX1_begin 19 tX1_begin = true := by decide +kernel
def tX1_finish : Nat → sw_I := fun pc => (bif Nat.ble pc 10 then (bif Nat.ble pc 4 then (bif Nat.ble pc 0 then (bif Nat.beq pc 0 then (2, 0, 0, 1, 0) else (99, 0, 0, 0, 0)) else (bif Nat.ble pc 1 then (bif Nat.beq pc 1 then (7, 1, 3, 4, 0) else (99, 0, 0, 0, 0)) else (bif Nat.beq pc 4 then (0, 0, 0, 5, 1) else (99, 0, 0, 0, 0)))) else (bif Nat.ble pc 8 then (bif Nat.ble pc 5 then (bif Nat.beq pc 5 then (13, 0, 10, 8, 0) else (99, 0, 0, 0, 0)) else (bif Nat.beq pc 8 then (0, 0, 0, 9, 0) else (99, 0, 0, 0, 0))) else (bif Nat.ble pc 9 then (bif Nat.beq pc 9 then (19, 0, 0, 0, 0) else (99, 0, 0, 0, 0)) else (bif Nat.beq pc 10 then (2, 0, 0, 11, 0) else (99, 0, 0, 0, 0))))) else (bif Nat.ble pc 15 then (bif Nat.ble pc 11 then (bif Nat.beq pc 11 then (0, 0, 0, 12, 2) else (99, 0, 0, 0, 0)) else (bif Nat.ble pc 12 then (bif Nat.beq pc 12 then (8, 1, 3, 15, 0) else (99, 0, 0, 0, 0)) else (bif Nat.beq pc 15 then (2, 0, 0, 16, 0) else (99, 0, 0, 0, 0)))) else (bif Nat.ble pc 17 then (bif Nat.ble pc 16 then (bif Nat.beq pc 16 then (0, 0, 0, 17, 1) else (99, 0, 0, 0, 0)) else (bif Nat.beq pc 17 then (8, 1, 8, 20, 0) else (99, 0, 0, 0, 0))) else (bif Nat.ble pc 20 then (bif Nat.beq pc 20 then (0, 0, 0, 21, 1) else (99, 0, 0, 0, 0)) else (bif Nat.beq pc 21 then (19, 0, 0, 0, 0) else (99, 0, 0, 0, 0))))))
def sX1_finish : sw_T := fun _ => []
set_option maxRecDepth 100000 in
theorem kX1_finish : sw_chk cX1_finish flX1 cnX1 sX1_finish 21 tX1_finish = true := by decide +kernel
def tX1_becomeOpen : Nat → sw_I := fun pc => (bif Nat.ble pc 5 then (bif Nat.ble pc 1 then (bif Nat.ble pc 0 then (bif Nat.beq pc 0 then (2, 0, 0, 1, 0) else (99, 0, 0, 0, 0)) else (bif Nat.beq pc 1 then (0, 0, 0, 2, 1) else (99, 0, 0, 0, 0))) else (bif Nat.ble pc 2 then (bif Nat.beq pc 2 then (8, 1, 3, 5, 0) else (99, 0, 0, 0, 0)) else (bif Nat.beq pc 5 then (2, 0, 0, 6, 0) else (99, 0, 0, 0, 0)))) else (bif Nat.ble pc 7 then (bif Nat.ble pc 6 then (bif Nat.beq pc 6 then (2, 0, 0, 7, 0) else (99, 0, 0, 0, 0)) else (bif Nat.beq pc 7 then (7, 1, 2, 10, 0) else (99, 0, 0, 0, 0))) else (bif Nat.ble pc 10 then (bif Nat.beq pc 10 then (8, 1, 5, 13, 0) else (99, 0, 0, 0, 0)) else (bif Nat.beq pc 13 then (21, 0, 0, 0, 0) else (99, 0, 0, 0, 0)))))
def sX1_becomeOpen : sw_T := fun _ => []
set_option maxRecDepth 100000 in
theorem kX1_becomeOpen : sw_chk cX1_becomeOpen flX1 cnX1 sX1_becomeOpen 13 tX1_becomeOpen = true := by decide +kernel
def tX1_hasToSend : Nat → sw_I := fun pc => (bif Nat.ble pc 16 then (bif Nat.ble pc 7 then (bif Nat.ble pc 1 then (bif Nat.ble pc 0 then (bif Nat.beq pc 0 then (2, 0, 0, 1, 0) else (99, 0, 0, 0, 0)) else (bif Nat.beq pc 1 then (7, 1, 7, 4, 0) else (99, 0, 0, 0, 0))) else (bif Nat.ble pc 4 then (bif Nat.beq pc 4 then (12, 0, 9, 7, 0) else (99, 0, 0, 0, 0)) else (bif Nat.beq pc 7 then (0, 0, 0, 8, 1) else (99, 0, 0, 0, 0)))) else (bif Nat.ble pc 9 then (bif Nat.ble pc 8 then (bif Nat.beq pc 8 then (19, 0, 0, 0, 0) else (99, 0, 0, 0, 0)) else (bif Nat.beq pc 9 then (2, 0, 0, 10, 0) else (99, 0, 0, 0, 0))) else (bif Nat.ble pc 10 then (bif Nat.beq pc 10 then (7, 1, 0, 13, 0) else (99, 0, 0, 0, 0)) else (bif Nat.ble pc 13 then (bif Nat.beq pc 13 then (18, 46, 0, 16, 0) else (99, 0, 0, 0, 0)) else (bif Nat.beq pc 16 then (12, 5, 34, 19, 0) else (99, 0, 0, 0, 0)))))) else (bif Nat.ble pc 27 then (bif Nat.ble pc 20 then (bif Nat.ble pc 19 then (bif Nat.beq pc 19 then (2, 0, 0, 20, 0) else (99, 0, 0, 0, 0)) else (bif Nat.beq pc 20 then (7, 1, 5, 23, 0) else (99, 0, 0, 0, 0))) else (bif Nat.ble pc 23 then (bif Nat.beq pc 23 then (12, 5, 30, 26, 0) else (99, 0, 0, 0, 0)) else (bif Nat.ble pc 26 then (bif Nat.beq pc 26 then (0, 0, 0, 27, 1) else (99, 0, 0, 0, 0)) else (bif Nat.beq pc 27 then (16, 0, 38, 0, 0) else (99, 0, 0, 0, 0))))) else (bif Nat.ble pc 31 then (bif Nat.ble pc 30 then (bif Nat.beq pc 30 then (0, 0, 0, 31, 0) else (99, 0, 0, 0, 0)) else (bif Nat.beq pc 31 then (16, 0, 38, 0, 0) else (99, 0, 0, 0, 0))) else (bif Nat.ble pc 34 then (bif Nat.beq pc 34 then (2, 0, 0, 35, 0) else (99, 0, 0, 0, 0)) else (bif Nat.ble pc 35 then (bif Nat.beq pc 35 then (7, 1, 8, 38, 0) else (99, 0, 0, 0, 0)) else (bif Nat.beq pc 38 then (19, 0, 0, 0, 0) else (99, 0, 0, 0, 0)))))))
def sX1_hasToSend : sw_T := fun _ => []
set_option maxRecDepth 100000 in
theorem kX1_hasToSend : sw_chk cX1_hasToSend flX1 cnX1 sX1_hasToSend 38 tX1_hasToSend = true := by decide +kernel
def tX1_isShut : Nat → sw_I := fun pc => (bif Nat.ble pc 0 then (bif Nat.beq pc 0 then (2, 0, 0, 1, 0) else (99, 0, 0, 0, 0)) else (bif Nat.ble pc 1 then (bif Nat.beq pc 1 then (7, 1, 9, 4, 0) else (99, 0, 0, 0, 0)) else (bif Nat.beq pc 4 then (19, 0, 0, 0, 0) else (99, 0, 0, 0, 0))))
def sX1_isShut : sw_T := fun _ => []
set_option maxRecDepth 100000 in
theorem kX1_isShut : sw_chk cX1_isShut flX1 cnX1 sX1_isShut 4 tX1_isShut = true := by decide +kernel
def tX1_dropTaken : Nat → sw_I := fun pc => (bif Nat.ble pc 24 then (bif Nat.ble pc 11 then (bif Nat.ble pc 4 then (bif Nat.ble pc 0 then (bif Nat.beq pc 0 then (2, 0, 0, 1, 0) else (99, 0, 0, 0, 0)) else (bif Nat.ble pc 1 then (bif Nat.beq pc 1 then (7, 1, 1, 4, 0) else (99, 0, 0, 0, 0)) else (bif Nat.beq pc 4 then (18, 53, 0, 7, 0) else (99, 0, 0, 0, 0)))) else (bif Nat.ble pc 7 then (bif Nat.beq pc 7 then (12, 0, 23, 10, 0) else (99, 0, 0, 0, 0)) else (bif Nat.ble pc 10 then (bif Nat.beq pc 10 then (2, 0, 0, 11, 0) else (99, 0, 0, 0, 0)) else (bif Nat.beq pc 11 then (22, 0, 0, 12, 0) else (99, 0, 0, 0, 0))))) else (bif Nat.ble pc 16 then (bif Nat.ble pc 12 then (bif Nat.beq pc 12 then (7, 1, 12, 15, 0) else (99, 0, 0, 0, 0)) else (bif Nat.ble pc 15 then (bif Nat.beq pc 15 then (0, 0, 0, 16, 1) else (99, 0, 0, 0, 0)) else (bif Nat.beq pc 16 then (6, 0, 0, 17, 0) else (99, 0, 0, 0, 0)))) else (bif Nat.ble pc 20 then (bif Nat.ble pc 17 then (bif Nat.beq pc 17 then (8, 1, 12, 20, 0) else (99, 0, 0, 0, 0)) else (bif Nat.beq pc 20 then (16, 0, 33, 0, 0) else (99, 0, 0, 0, 0))) else (bif Nat.ble pc 23 then (bif Nat.beq pc 23 then (2, 0, 0, 24, 0) else (99, 0, 0, 0, 0)) else (bif Nat.beq pc 24 then (22, 0, 0, 25, 0) else (99, 0, 0, 0, 0)))))) else (bif Nat.ble pc 37 then (bif Nat.ble pc 29 then (bif Nat.ble pc 25 then (bif Nat.beq pc 25 then (7, 1, 11, 28, 0) else (99, 0, 0, 0, 0)) else (bif Nat.ble pc 28 then (bif Nat.beq pc 28 then (0, 0, 0, 29, 1) else (99, 0, 0, 0, 0)) else (bif Nat.beq pc 29 then (6, 0, 0, 30, 0) else (99, 0, 0, 0, 0)))) else (bif Nat.ble pc 33 then (bif Nat.ble pc 30 then (bif Nat.beq pc 30 then (8, 1, 11, 33, 0) else (99, 0, 0, 0, 0)) else (bif Nat.beq pc 33 then (2, 0, 0, 34, 0) else (99, 0, 0, 0, 0))) else (bif Nat.ble pc 34 then (bif Nat.beq pc 34 then (7, 1, 1, 37, 0) else (99, 0, 0, 0, 0)) else (bif Nat.beq pc 37 then (18, 63, 0, 40, 0) else (99, 0, 0, 0, 0))))) else (bif Nat.ble pc 42 then (bif Nat.ble pc 40 then (bif Nat.beq pc 40 then (2, 0, 0, 41, 0) else (99, 0, 0, 0, 0)) else (bif Nat.ble pc 41 then (bif Nat.beq pc 41 then (22, 0, 0, 42, 0) else (99, 0, 0, 0, 0)) else (bif Nat.beq pc 42 then (7, 1, 6, 45, 0) else (99, 0, 0, 0, 0)))) else (bif Nat.ble pc 46 then (bif Nat.ble pc 45 then (bif Nat.beq pc 45 then (0, 0, 0, 46, 1) else (99, 0, 0, 0, 0)) else (bif Nat.beq pc 46 then (6, 0, 0, 47, 0) else (99, 0, 0, 0, 0))) else (bif Nat.ble pc 47 then (bif Nat.beq pc 47 then (8, 1, 6, 50, 0) else (99, 0, 0, 0, 0)) else (bif Nat.beq pc 50 then (21, 0, 0, 0, 0) else (99, 0, 0, 0, 0)))))))
def sX1_dropTaken : sw_T := fun _ => []
set_option maxRecDepth 100000 in
theorem kX1_dropTaken : sw_chk cX1_dropTaken flX1 cnX1 sX1_dropTaken 50 tX1_dropTaken = true := by decide +kernel
def tX1_canTake : Nat → sw_I := fun pc => (bif Nat.ble pc 74 then (bif Nat.ble pc 52 then (bif Nat.ble pc 40 then (bif Nat.ble pc 4 then (bif Nat.ble pc 0 then (bif Nat.beq pc 0 then (2, 1, 0, 1, 0) else (99, 0, 0, 0, 0)) else (bif Nat.ble pc 1 then (bif Nat.beq pc 1 then (18, 69, 0, 4, 0) else (99, 0, 0, 0, 0)) else (bif Nat.beq pc 4 then (17, 120, 0, 0, 0) else (99, 0, 0, 0, 0)))) else (bif Nat.ble pc 36 then (bif Nat.beq pc 36 then (2, 0, 0, 37, 0) else (99, 0, 0, 0, 0)) else (bif Nat.ble pc 37 then (bif Nat.beq pc 37 then (18, 74, 0, 40, 0) else (99, 0, 0, 0, 0)) else (bif Nat.beq pc 40 then (12, 0, 71, 43, 0) else (99, 0, 0, 0, 0))))) else (bif Nat.ble pc 47 then (bif Nat.ble pc 43 then (bif Nat.beq pc 43 then (2, 1, 0, 44, 0) else (99, 0, 0, 0, 0)) else (bif Nat.ble pc 44 then (bif Nat.beq pc 44 then (18, 77, 0, 47, 0) else (99, 0, 0, 0, 0)) else (bif Nat.beq pc 47 then (2, 0, 0, 48, 0) else (99, 0, 0, 0, 0)))) else (bif Nat.ble pc 48 then (bif Nat.beq pc 48 then (7, 1, 2, 51, 0) else (99, 0, 0, 0, 0)) else (bif Nat.ble pc 51 then (bif Nat.beq pc 51 then (2, 0, 0, 52, 0) else (99, 0, 0, 0, 0)) else (bif Nat.beq pc 52 then (7, 1, 1, 55, 0) else (99, 0, 0, 0, 0)))))) else (bif Nat.ble pc 64 then (bif Nat.ble pc 59 then (bif Nat.ble pc 55 then (bif Nat.beq pc 55 then (18, 46, 0, 58, 0) else (99, 0, 0, 0, 0)) else (bif Nat.ble pc 58 then (bif Nat.beq pc 58 then (6, 1, 0, 59, 0) else (99, 0, 0, 0, 0)) else (bif Nat.beq pc 59 then (2, 0, 0, 60, 0) else (99, 0, 0, 0, 0)))) else (bif Nat.ble pc 60 then (bif Nat.beq pc 60 then (7, 1, 6, 63, 0) else (99, 0, 0, 0, 0)) else (bif Nat.ble pc 63 then (bif Nat.beq pc 63 then (6, 1, 0, 64, 0) else (99, 0, 0, 0, 0)) else (bif Nat.beq pc 64 then (13, 4, 71, 67, 0) else (99, 0, 0, 0, 0))))) else (bif Nat.ble pc 71 then (bif Nat.ble pc 67 then (bif Nat.beq pc 67 then (0, 0, 0, 68, 1) else (99, 0, 0, 0, 0)) else (bif Nat.ble pc 68 then (bif Nat.beq pc 68 then (16, 0, 72, 0, 0) else (99, 0, 0, 0, 0)) else (bif Nat.beq pc 71 then (0, 0, 0, 72, 0) else (99, 0, 0, 0, 0)))) else (bif Nat.ble pc 72 then (bif Nat.beq pc 72 then (19, 0, 0, 0, 0) else (99, 0, 0, 0, 0)) else (bif Nat.ble pc 73 then (bif Nat.beq pc 73 then (2, 0, 0, 74, 0) else (99, 0, 0, 0, 0)) else (bif Nat.beq pc 74 then (7, 1, 3, 77, 0) else (99, 0, 0, 0, 0))))))) else (bif Nat.ble pc 100 then (bif Nat.ble pc 88 then (bif Nat.ble pc 81 then (bif Nat.ble pc 77 then (bif Nat.beq pc 77 then (12, 0, 100, 80, 0) else (99, 0, 0, 0, 0)) else (bif Nat.ble pc 80 then (bif Nat.beq pc 80 then (2, 1, 0, 81, 0) else (99, 0, 0, 0, 0)) else (bif Nat.beq pc 81 then (18, 80, 0, 84, 0) else (99, 0, 0, 0, 0)))) else (bif Nat.ble pc 84 then (bif Nat.beq pc 84 then (2, 0, 0, 85, 0) else (99, 0, 0, 0, 0)) else (bif Nat.ble pc 85 then (bif Nat.beq pc 85 then (7, 1, 2, 88, 0) else (99, 0, 0, 0, 0)) else (bif Nat.beq pc 88 then (2, 0, 0, 89, 0) else (99, 0, 0, 0, 0))))) else (bif Nat.ble pc 93 then (bif Nat.ble pc 89 then (bif Nat.beq pc 89 then (7, 1, 5, 92, 0) else (99, 0, 0, 0, 0)) else (bif Nat.ble pc 92 then (bif Nat.beq pc 92 then (6, 1, 0, 93, 0) else (99, 0, 0, 0, 0)) else (bif Nat.beq pc 93 then (13, 4, 100, 96, 0) else (99, 0, 0, 0, 0)))) else (bif Nat.ble pc 96 then (bif Nat.beq pc 96 then (0, 0, 0, 97, 1) else (99, 0, 0, 0, 0)) else (bif Nat.ble pc 97 then (bif Nat.beq pc 97 then (16, 0, 101, 0, 0) else (99, 0, 0, 0, 0)) else (bif Nat.beq pc 100 then (0, 0, 0, 101, 0) else (99, 0, 0, 0, 0)))))) else (bif Nat.ble pc 110 then (bif Nat.ble pc 103 then (bif Nat.ble pc 101 then (bif Nat.beq pc 101 then (19, 0, 0, 0, 0) else (99, 0, 0, 0, 0)) else (bif Nat.ble pc 102 then (bif Nat.beq pc 102 then (2, 0, 0, 103, 0) else (99, 0, 0, 0, 0)) else (bif Nat.beq pc 103 then (7, 1, 10, 106, 0) else (99, 0, 0, 0, 0)))) else (bif Nat.ble pc 106 then (bif Nat.beq pc 106 then (12, 1, 113, 109, 0) else (99, 0, 0, 0, 0)) else (bif Nat.ble pc 109 then (bif Nat.beq pc 109 then (0, 0, 0, 110, 1) else (99, 0, 0, 0, 0)) else (bif Nat.beq pc 110 then (16, 0, 114, 0, 0) else (99, 0, 0, 0, 0))))) else (bif Nat.ble pc 115 then (bif Nat.ble pc 113 then (bif Nat.beq pc 113 then (0, 0, 0, 114, 0) else (99, 0, 0, 0, 0)) else (bif Nat.ble pc 114 then (bif Nat.beq pc 114 then (19, 0, 0, 0, 0) else (99, 0, 0, 0, 0)) else (bif Nat.beq pc 115 then (2, 0, 0, 116, 0) else (99, 0, 0, 0, 0)))) else (bif Nat.ble pc 119 then (bif Nat.ble pc 116 then (bif Nat.beq pc 116 then (18, 74, 0, 119, 0) else (99, 0, 0, 0, 0)) else (bif Nat.beq pc 119 then (19, 0, 0, 0, 0) else (99, 0, 0, 0, 0))) else (bif Nat.ble pc 120 then (bif Nat.beq pc 120 then (0, 0, 0, 121, 0) else (99, 0, 0, 0, 0)) else (bif Nat.beq pc 121 then (19, 0, 0, 0, 0) else (99, 0, 0, 0, 0))))))))
def sX1_canTake : sw_T := fun pc => (bif Nat.beq pc 4 then [(1, 36), (2, 73), (3, 102), (4, 115)] else [])
set_option maxRecDepth 100000 in
theorem kX1_canTake : sw_chk cX1_canTake flX1 cnX1 sX1_canTake 121 tX1_canTake = true := by decide +kernel
def tX1_canBeFilled : Nat → sw_I := fun pc => (bif Nat.ble pc 8 then (bif Nat.ble pc 1 then (bif Nat.ble pc 0 then (bif Nat.beq pc 0 then (2, 0, 0, 1, 0) else (99, 0, 0, 0, 0)) else (bif Nat.beq pc 1 then (7, 1, 3, 4, 0) else (99, 0, 0, 0, 0))) else (bif Nat.ble pc 4 then (bif Nat.beq pc 4 then (12, 0, 18, 7, 0) else (99, 0, 0, 0, 0)) else (bif Nat.ble pc 7 then (bif Nat.beq pc 7 then (2, 0, 0, 8, 0) else (99, 0, 0, 0, 0)) else (bif Nat.beq pc 8 then (7, 1, 9, 11, 0) else (99, 0, 0, 0, 0))))) else (bif Nat.ble pc 14 then (bif Nat.ble pc 11 then (bif Nat.beq pc 11 then (12, 1, 18, 14, 0) else (99, 0, 0, 0, 0)) else (bif Nat.beq pc 14 then (0, 0, 0, 15, 1) else (99, 0, 0, 0, 0))) else (bif Nat.ble pc 15 then (bif Nat.beq pc 15 then (16, 0, 19, 0, 0) else (99, 0, 0, 0, 0)) else (bif Nat.ble pc 18 then (bif Nat.beq pc 18 then (0, 0, 0, 19, 0) else (99, 0, 0, 0, 0)) else (bif Nat.beq pc 19 then (19, 0, 0, 0, 0) else (99, 0, 0, 0, 0))))))
def sX1_canBeFilled : sw_T := fun _ => []
set_option maxRecDepth 100000 in
theorem kX1_canBeFilled : sw_chk cX1_canBeFilled flX1 cnX1 sX1_canBeFilled 19 tX1_canBeFilled = true := by decide +kernel
def tX1_take : Nat → sw_I := fun pc => (bif Nat.ble pc 54 then (bif Nat.ble pc 41 then (bif Nat.ble pc 4 then (bif Nat.ble pc 0 then (bif Nat.beq pc 0 then (2, 1, 0, 1, 0) else (99, 0, 0, 0, 0)) else (bif Nat.ble pc 1 then (bif Nat.beq pc 1 then (18, 69, 0, 4, 0) else (99, 0, 0, 0, 0)) else (bif Nat.beq pc 4 then (17, 87, 0, 0, 0) else (99, 0, 0, 0, 0)))) else (bif Nat.ble pc 37 then (bif Nat.ble pc 36 then (bif Nat.beq pc 36 then (2, 0, 0, 37, 0) else (99, 0, 0, 0, 0)) else (bif Nat.beq pc 37 then (2, 1, 0, 38, 0) else (99, 0, 0, 0, 0))) else (bif Nat.ble pc 38 then (bif Nat.beq pc 38 then (18, 86, 0, 41, 0) else (99, 0, 0, 0, 0)) else (bif Nat.beq pc 41 then (16, 0, 87, 0, 0) else (99, 0, 0, 0, 0))))) else (bif Nat.ble pc 46 then (bif Nat.ble pc 44 then (bif Nat.beq pc 44 then (2, 0, 0, 45, 0) else (99, 0, 0, 0, 0)) else (bif Nat.ble pc 45 then (bif Nat.beq pc 45 then (22, 0, 0, 46, 0) else (99, 0, 0, 0, 0)) else (bif Nat.beq pc 46 then (7, 1, 5, 49, 0) else (99, 0, 0, 0, 0)))) else (bif Nat.ble pc 50 then (bif Nat.ble pc 49 then (bif Nat.beq pc 49 then (2, 1, 0, 50, 0) else (99, 0, 0, 0, 0)) else (bif Nat.beq pc 50 then (18, 80, 0, 53, 0) else (99, 0, 0, 0, 0))) else (bif Nat.ble pc 53 then (bif Nat.beq pc 53 then (6, 0, 0, 54, 0) else (99, 0, 0, 0, 0)) else (bif Nat.beq pc 54 then (8, 1, 5, 57, 0) else (99, 0, 0, 0, 0)))))) else (bif Nat.ble pc 69 then (bif Nat.ble pc 61 then (bif Nat.ble pc 57 then (bif Nat.beq pc 57 then (16, 0, 87, 0, 0) else (99, 0, 0, 0, 0)) else (bif Nat.ble pc 60 then (bif Nat.beq pc 60 then (2, 0, 0, 61, 0) else (99, 0, 0, 0, 0)) else (bif Nat.beq pc 61 then (0, 0, 0, 62, 1) else (99, 0, 0, 0, 0)))) else (bif Nat.ble pc 65 then (bif Nat.ble pc 62 then (bif Nat.beq pc 62 then (8, 1, 10, 65, 0) else (99, 0, 0, 0, 0)) else (bif Nat.beq pc 65 then (2, 0, 0, 66, 0) else (99, 0, 0, 0, 0))) else (bif Nat.ble pc 66 then (bif Nat.beq pc 66 then (7, 1, 3, 69, 0) else (99, 0, 0, 0, 0)) else (bif Nat.beq pc 69 then (12, 1, 87, 72, 0) else (99, 0, 0, 0, 0))))) else (bif Nat.ble pc 79 then (bif Nat.ble pc 73 then (bif Nat.ble pc 72 then (bif Nat.beq pc 72 then (2, 0, 0, 73, 0) else (99, 0, 0, 0, 0)) else (bif Nat.beq pc 73 then (18, 33, 0, 76, 0) else (99, 0, 0, 0, 0))) else (bif Nat.ble pc 76 then (bif Nat.beq pc 76 then (16, 0, 87, 0, 0) else (99, 0, 0, 0, 0)) else (bif Nat.beq pc 79 then (2, 0, 0, 80, 0) else (99, 0, 0, 0, 0)))) else (bif Nat.ble pc 81 then (bif Nat.ble pc 80 then (bif Nat.beq pc 80 then (0, 0, 0, 81, 1) else (99, 0, 0, 0, 0)) else (bif Nat.beq pc 81 then (8, 1, 9, 84, 0) else (99, 0, 0, 0, 0))) else (bif Nat.ble pc 84 then (bif Nat.beq pc 84 then (16, 0, 87, 0, 0) else (99, 0, 0, 0, 0)) else (bif Nat.beq pc 87 then (21, 0, 0, 0, 0) else (99, 0, 0, 0, 0)))))))
def sX1_take : sw_T := fun pc => (bif Nat.beq pc 4 then [(1, 36), (2, 44), (3, 60), (4, 79)] else [])
set_option maxRecDepth 100000 in
theorem kX1_take : sw_chk cX1_take flX1 cnX1 sX1_take 87 tX1_take = true := by decide +kernel
def tX1_layDown : Nat → sw_I := fun pc => (bif Nat.ble pc 14 then (bif Nat.ble pc 3 then (bif Nat.ble pc 1 then (bif Nat.ble pc 0 then (bif Nat.beq pc 0 then (0, 0, 0, 1, 0) else (99, 0, 0, 0, 0)) else (bif Nat.beq pc 1 then (3, 2, 0, 2, 0) else (99, 0, 0, 0, 0))) else (bif Nat.ble pc 2 then (bif Nat.beq pc 2 then (1, 2, 0, 3, 0) else (99, 0, 0, 0, 0)) else (bif Nat.beq pc 3 then (2, 1, 0, 4, 0) else (99, 0, 0, 0, 0)))) else (bif Nat.ble pc 7 then (bif Nat.ble pc 4 then (bif Nat.beq pc 4 then (18, 77, 0, 7, 0) else (99, 0, 0, 0, 0)) else (bif Nat.beq pc 7 then (13, 3, 33, 10, 0) else (99, 0, 0, 0, 0))) else (bif Nat.ble pc 10 then (bif Nat.beq pc 10 then (2, 0, 0, 11, 0) else (99, 0, 0, 0, 0)) else (bif Nat.ble pc 11 then (bif Nat.beq pc 11 then (7, 1, 1, 14, 0) else (99, 0, 0, 0, 0)) else (bif Nat.beq pc 14 then (2, 1, 0, 15, 0) else (99, 0, 0, 0, 0)))))) else (bif Nat.ble pc 20 then (bif Nat.ble pc 16 then (bif Nat.ble pc 15 then (bif Nat.beq pc 15 then (1, 2, 0, 16, 0) else (99, 0, 0, 0, 0)) else (bif Nat.beq pc 16 then (18, 90, 0, 19, 0) else (99, 0, 0, 0, 0))) else (bif Nat.ble pc 19 then (bif Nat.beq pc 19 then (2, 1, 0, 20, 0) else (99, 0, 0, 0, 0)) else (bif Nat.beq pc 20 then (1, 2, 0, 21, 0) else (99, 0, 0, 0, 0)))) else (bif Nat.ble pc 24 then (bif Nat.ble pc 21 then (bif Nat.beq pc 21 then (18, 94, 0, 24, 0) else (99, 0, 0, 0, 0)) else (bif Nat.beq pc 24 then (18, 98, 0, 27, 0) else (99, 0, 0, 0, 0))) else (bif Nat.ble pc 27 then (bif Nat.beq pc 27 then (5, 2, 0, 30, 1) else (99, 0, 0, 0, 0)) else (bif Nat.ble pc 30 then (bif Nat.beq pc 30 then (16, 0, 2, 0, 0) else (99, 0, 0, 0, 0)) else (bif Nat.beq pc 33 then (21, 0, 0, 0, 0) else (99, 0, 0, 0, 0)))))))
def sX1_layDown : sw_T := fun _ => []
set_option maxRecDepth 100000 in
theorem kX1_layDown : sw_chk cX1_layDown flX1 cnX1 sX1_layDown 33 tX1_layDown = true := by decide +kernel
def tX1_tell : Nat → sw_I := fun pc => (bif Nat.ble pc 86 then (bif Nat.ble pc 68 then (bif Nat.ble pc 57 then (bif Nat.ble pc 1 then (bif Nat.ble pc 0 then (bif Nat.beq pc 0 then (1, 1, 0, 1, 0) else (99, 0, 0, 0, 0)) else (bif Nat.beq pc 1 then (17, 121, 0, 0, 0) else (99, 0, 0, 0, 0))) else (bif Nat.ble pc 56 then (bif Nat.beq pc 56 then (2, 0, 0, 57, 0) else (99, 0, 0, 0, 0)) else (bif Nat.beq pc 57 then (7, 1, 3, 60, 0) else (99, 0, 0, 0, 0)))) else (bif Nat.ble pc 61 then (bif Nat.ble pc 60 then (bif Nat.beq pc 60 then (19, 0, 0, 0, 0) else (99, 0, 0, 0, 0)) else (bif Nat.beq pc 61 then (2, 0, 0, 62, 0) else (99, 0, 0, 0, 0))) else (bif Nat.ble pc 62 then (bif Nat.beq pc 62 then (7, 1, 9, 65, 0) else (99, 0, 0, 0, 0)) else (bif Nat.ble pc 65 then (bif Nat.beq pc 65 then (18, 102, 1, 68, 0) else (99, 0, 0, 0, 0)) else (bif Nat.beq pc 68 then (19, 0, 0, 0, 0) else (99, 0, 0, 0, 0)))))) else (bif Nat.ble pc 75 then (bif Nat.ble pc 70 then (bif Nat.ble pc 69 then (bif Nat.beq pc 69 then (2, 0, 0, 70, 0) else (99, 0, 0, 0, 0)) else (bif Nat.beq pc 70 then (7, 1, 5, 73, 0) else (99, 0, 0, 0, 0))) else (bif Nat.ble pc 73 then (bif Nat.beq pc 73 then (19, 0, 0, 0, 0) else (99, 0, 0, 0, 0)) else (bif Nat.ble pc 74 then (bif Nat.beq pc 74 then (2, 0, 0, 75, 0) else (99, 0, 0, 0, 0)) else (bif Nat.beq pc 75 then (7, 1, 6, 78, 0) else (99, 0, 0, 0, 0))))) else (bif Nat.ble pc 79 then (bif Nat.ble pc 78 then (bif Nat.beq pc 78 then (19, 0, 0, 0, 0) else (99, 0, 0, 0, 0)) else (bif Nat.beq pc 79 then (2, 0, 0, 80, 0) else (99, 0, 0, 0, 0))) else (bif Nat.ble pc 80 then (bif Nat.beq pc 80 then (7, 1, 0, 83, 0) else (99, 0, 0, 0, 0)) else (bif Nat.ble pc 83 then (bif Nat.beq pc 83 then (18, 46, 0, 86, 0) else (99, 0, 0, 0, 0)) else (bif Nat.beq pc 86 then (19, 0, 0, 0, 0) else (99, 0, 0, 0, 0))))))) else (bif Nat.ble pc 104 then (bif Nat.ble pc 95 then (bif Nat.ble pc 88 then (bif Nat.ble pc 87 then (bif Nat.beq pc 87 then (2, 0, 0, 88, 0) else (99, 0, 0, 0, 0)) else (bif Nat.beq pc 88 then (7, 1, 1, 91, 0) else (99, 0, 0, 0, 0))) else (bif Nat.ble pc 91 then (bif Nat.beq pc 91 then (18, 46, 0, 94, 0) else (99, 0, 0, 0, 0)) else (bif Nat.ble pc 94 then (bif Nat.beq pc 94 then (19, 0, 0, 0, 0) else (99, 0, 0, 0, 0)) else (bif Nat.beq pc 95 then (2, 0, 0, 96, 0) else (99, 0, 0, 0, 0))))) else (bif Nat.ble pc 99 then (bif Nat.ble pc 96 then (bif Nat.beq pc 96 then (7, 1, 7, 99, 0) else (99, 0, 0, 0, 0)) else (bif Nat.beq pc 99 then (18, 102, 1, 102, 0) else (99, 0, 0, 0, 0))) else (bif Nat.ble pc 102 then (bif Nat.beq pc 102 then (19, 0, 0, 0, 0) else (99, 0, 0, 0, 0)) else (bif Nat.ble pc 103 then (bif Nat.beq pc 103 then (2, 0, 0, 104, 0) else (99, 0, 0, 0, 0)) else (bif Nat.beq pc 104 then (7, 1, 8, 107, 0) else (99, 0, 0, 0, 0)))))) else (bif Nat.ble pc 115 then (bif Nat.ble pc 110 then (bif Nat.ble pc 107 then (bif Nat.beq pc 107 then (18, 102, 1, 110, 0) else (99, 0, 0, 0, 0)) else (bif Nat.beq pc 110 then (19, 0, 0, 0, 0) else (99, 0, 0, 0, 0))) else (bif Nat.ble pc 111 then (bif Nat.beq pc 111 then (2, 0, 0, 112, 0) else (99, 0, 0, 0, 0)) else (bif Nat.ble pc 112 then (bif Nat.beq pc 112 then (7, 1, 11, 115, 0) else (99, 0, 0, 0, 0)) else (bif Nat.beq pc 115 then (19, 0, 0, 0, 0) else (99, 0, 0, 0, 0))))) else (bif Nat.ble pc 117 then (bif Nat.ble pc 116 then (bif Nat.beq pc 116 then (2, 0, 0, 117, 0) else (99, 0, 0, 0, 0)) else (bif Nat.beq pc 117 then (7, 1, 12, 120, 0) else (99, 0, 0, 0, 0))) else (bif Nat.ble pc 120 then (bif Nat.beq pc 120 then (19, 0, 0, 0, 0) else (99, 0, 0, 0, 0)) else (bif Nat.ble pc 121 then (bif Nat.beq pc 121 then (0, 0, 0, 122, (-1)) else (99, 0, 0, 0, 0)) else (bif Nat.beq pc 122 then (19, 0, 0, 0, 0) else (99, 0, 0, 0, 0))))))))
def sX1_tell : sw_T := fun pc => (bif Nat.beq pc 1 then [(0, 56), (1, 61), (2, 69), (3, 74), (4, 79), (5, 87), (6, 95), (7, 103), (8, 111), (9, 116)] else [])
set_option maxRecDepth 100000 in
theorem kX1_tell : sw_chk cX1_tell flX1 cnX1 sX1_tell 122 tX1_tell = true := by decide +kernel
def tX2_begin : Nat → sw_I := fun pc => (bif Nat.ble pc 2 then (bif Nat.ble pc 0 then (bif Nat.beq pc 0 then (2, 0, 0, 1, 0) else (99, 0, 0, 0, 0)) else (bif Nat.ble pc 1 then (bif Nat.beq pc 1 then (0, 0, 0, 2, 0) else (99, 0, 0, 0, 0)) else (bif Nat.beq pc 2 then (8, 2, 1, 5, 0) else (99, 0, 0, 0, 0)))) else (bif Nat.ble pc 6 then (bif Nat.ble pc 5 then (bif Nat.beq pc 5 then (2, 0, 0, 6, 0) else (99, 0, 0, 0, 0)) else (bif Nat.beq pc 6 then (1, 1, 0, 7, 0) else (99, 0, 0, 0, 0))) else (bif Nat.ble pc 7 then (bif Nat.beq pc 7 then (18, 25, 0, 10, 0) else (99, 0, 0, 0, 0)) else (bif Nat.beq pc 10 then (21, 0, 0, 0, 0) else (99, 0, 0, 0, 0)))))
def sX2_begin : sw_T := fun _ => []
set_option maxRecDepth 100000 in
theorem kX2_begin : sw_chk cX2_begin flX2 cnX2 sX2_begin 10 tX2_begin = true := by decide +kernel
def tX2_put : Nat → sw_I := fun pc => (bif Nat.ble pc 16 then (bif Nat.ble pc 5 then (bif Nat.ble pc 1 then (bif Nat.ble pc 0 then (bif Nat.beq pc 0 then (2, 0, 0, 1, 0) else (99, 0, 0, 0, 0)) else (bif Nat.beq pc 1 then (7, 2, 1, 4, 0) else (99, 0, 0, 0, 0))) else (bif Nat.ble pc 4 then (bif Nat.beq pc 4 then (2, 0, 0, 5, 0) else (99, 0, 0, 0, 0)) else (bif Nat.beq pc 5 then (7, 2, 0, 8, 0) else (99, 0, 0, 0, 0)))) else (bif Nat.ble pc 9 then (bif Nat.ble pc 8 then (bif Nat.beq pc 8 then (11, 0, 0, 9, 0) else (99, 0, 0, 0, 0)) else (bif Nat.beq pc 9 then (13, 3, 32, 12, 0) else (99, 0, 0, 0, 0))) else (bif Nat.ble pc 12 then (bif Nat.beq pc 12 then (2, 0, 0, 13, 0) else (99, 0, 0, 0, 0)) else (bif Nat.ble pc 13 then (bif Nat.beq pc 13 then (7, 2, 0, 16, 0) else (99, 0, 0, 0, 0)) else (bif Nat.beq pc 16 then (2, 0, 0, 17, 0) else (99, 0, 0, 0, 0)))))) else (bif Nat.ble pc 23 then (bif Nat.ble pc 20 then (bif Nat.ble pc 17 then (bif Nat.beq pc 17 then (7, 2, 1, 20, 0) else (99, 0, 0, 0, 0)) else (bif Nat.beq pc 20 then (1, 1, 0, 21, 0) else (99, 0, 0, 0, 0))) else (bif Nat.ble pc 21 then (bif Nat.beq pc 21 then (10, 0, 0, 22, 0) else (99, 0, 0, 0, 0)) else (bif Nat.ble pc 22 then (bif Nat.beq pc 22 then (2, 0, 0, 23, 0) else (99, 0, 0, 0, 0)) else (bif Nat.beq pc 23 then (22, 0, 0, 24, 0) else (99, 0, 0, 0, 0))))) else (bif Nat.ble pc 27 then (bif Nat.ble pc 24 then (bif Nat.beq pc 24 then (7, 2, 1, 27, 0) else (99, 0, 0, 0, 0)) else (bif Nat.beq pc 27 then (0, 0, 0, 28, 1) else (99, 0, 0, 0, 0))) else (bif Nat.ble pc 28 then (bif Nat.beq pc 28 then (6, 0, 0, 29, 0) else (99, 0, 0, 0, 0)) else (bif Nat.ble pc 29 then (bif Nat.beq pc 29 then (8, 2, 1, 32, 0) else (99, 0, 0, 0, 0)) else (bif Nat.beq pc 32 then (21, 0, 0, 0, 0) else (99, 0, 0, 0, 0)))))))
def sX2_put : sw_T := fun _ => []
set_option maxRecDepth 100000 in
theorem kX2_put : sw_chk cX2_put flX2 cnX2 sX2_put 32 tX2_put = true := by decide +kernel
def tX2_copyFrom : Nat → sw_I := fun pc => (bif Nat.ble pc 19 then (bif Nat.ble pc 7 then (bif Nat.ble pc 2 then (bif Nat.ble pc 0 then (bif Nat.beq pc 0 then (2, 0, 0, 1, 0) else (99, 0, 0, 0, 0)) else (bif Nat.ble pc 1 then (bif Nat.beq pc 1 then (2, 0, 0, 2, 0) else (99, 0, 0, 0, 0)) else (bif Nat.beq pc 2 then (7, 2, 0, 5, 0) else (99, 0, 0, 0, 0)))) else (bif Nat.ble pc 5 then (bif Nat.beq pc 5 then (11, 0, 0, 6, 0) else (99, 0, 0, 0, 0)) else (bif Nat.ble pc 6 then (bif Nat.beq pc 6 then (2, 1, 0, 7, 0) else (99, 0, 0, 0, 0)) else (bif Nat.beq pc 7 then (7, 2, 1, 10, 0) else (99, 0, 0, 0, 0))))) else (bif Nat.ble pc 16 then (bif Nat.ble pc 10 then (bif Nat.beq pc 10 then (18, 29, 1, 13, 0) else (99, 0, 0, 0, 0)) else (bif Nat.ble pc 13 then (bif Nat.beq pc 13 then (8, 2, 1, 16, 0) else (99, 0, 0, 0, 0)) else (bif Nat.beq pc 16 then (0, 0, 0, 17, 0) else (99, 0, 0, 0, 0)))) else (bif Nat.ble pc 17 then (bif Nat.beq pc 17 then (3, 2, 0, 18, 0) else (99, 0, 0, 0, 0)) else (bif Nat.ble pc 18 then (bif Nat.beq pc 18 then (1, 2, 0, 19, 0) else (99, 0, 0, 0, 0)) else (bif Nat.beq pc 19 then (2, 0, 0, 20, 0) else (99, 0, 0, 0, 0)))))) else (bif Nat.ble pc 31 then (bif Nat.ble pc 26 then (bif Nat.ble pc 20 then (bif Nat.beq pc 20 then (7, 2, 1, 23, 0) else (99, 0, 0, 0, 0)) else (bif Nat.ble pc 23 then (bif Nat.beq pc 23 then (13, 3, 44, 26, 0) else (99, 0, 0, 0, 0)) else (bif Nat.beq pc 26 then (2, 0, 0, 27, 0) else (99, 0, 0, 0, 0)))) else (bif Nat.ble pc 27 then (bif Nat.beq pc 27 then (7, 2, 0, 30, 0) else (99, 0, 0, 0, 0)) else (bif Nat.ble pc 30 then (bif Nat.beq pc 30 then (1, 2, 0, 31, 0) else (99, 0, 0, 0, 0)) else (bif Nat.beq pc 31 then (2, 1, 0, 32, 0) else (99, 0, 0, 0, 0))))) else (bif Nat.ble pc 36 then (bif Nat.ble pc 32 then (bif Nat.beq pc 32 then (7, 2, 0, 35, 0) else (99, 0, 0, 0, 0)) else (bif Nat.ble pc 35 then (bif Nat.beq pc 35 then (1, 2, 0, 36, 0) else (99, 0, 0, 0, 0)) else (bif Nat.beq pc 36 then (9, 0, 0, 37, 0) else (99, 0, 0, 0, 0)))) else (bif Nat.ble pc 38 then (bif Nat.ble pc 37 then (bif Nat.beq pc 37 then (10, 0, 0, 38, 0) else (99, 0, 0, 0, 0)) else (bif Nat.beq pc 38 then (5, 2, 0, 41, 1) else (99, 0, 0, 0, 0))) else (bif Nat.ble pc 41 then (bif Nat.beq pc 41 then (16, 0, 18, 0, 0) else (99, 0, 0, 0, 0)) else (bif Nat.beq pc 44 then (21, 0, 0, 0, 0) else (99, 0, 0, 0, 0)))))))
def sX2_copyFrom : sw_T := fun _ => []
set_option maxRecDepth 100000 in
theorem kX2_copyFrom : sw_chk cX2_copyFrom flX2 cnX2 sX2_copyFrom 44 tX2_copyFrom = true := by decide +kernel
def tX2_wordAt : Nat → sw_I := fun pc => (bif Nat.ble pc 9 then (bif Nat.ble pc 4 then (bif Nat.ble pc 0 then (bif Nat.beq pc 0 then (1, 1, 0, 1, 0) else (99, 0, 0, 0, 0)) else (bif Nat.ble pc 1 then (bif Nat.beq pc 1 then (12, 2, 21, 4, 0) else (99, 0, 0, 0, 0)) else (bif Nat.beq pc 4 then (1, 1, 0, 5, 0) else (99, 0, 0, 0, 0)))) else (bif Nat.ble pc 5 then (bif Nat.beq pc 5 then (2, 0, 0, 6, 0) else (99, 0, 0, 0, 0)) else (bif Nat.ble pc 6 then (bif Nat.beq pc 6 then (7, 2, 1, 9, 0) else (99, 0, 0, 0, 0)) else (bif Nat.beq pc 9 then (13, 3, 21, 12, 0) else (99, 0, 0, 0, 0))))) else (bif Nat.ble pc 16 then (bif Nat.ble pc 12 then (bif Nat.beq pc 12 then (2, 0, 0, 13, 0) else (99, 0, 0, 0, 0)) else (bif Nat.ble pc 13 then (bif Nat.beq pc 13 then (7, 2, 0, 16, 0) else (99, 0, 0, 0, 0)) else (bif Nat.beq pc 16 then (1, 1, 0, 17, 0) else (99, 0, 0, 0, 0)))) else (bif Nat.ble pc 18 then (bif Nat.ble pc 17 then (bif Nat.beq pc 17 then (9, 0, 0, 18, 0) else (99, 0, 0, 0, 0)) else (bif Nat.beq pc 18 then (16, 0, 22, 0, 0) else (99, 0, 0, 0, 0))) else (bif Nat.ble pc 21 then (bif Nat.beq pc 21 then (0, 0, 0, 22, 0) else (99, 0, 0, 0, 0)) else (bif Nat.beq pc 22 then (19, 0, 0, 0, 0) else (99, 0, 0, 0, 0))))))
def sX2_wordAt : sw_T := fun _ => []
set_option maxRecDepth 100000 in
theorem kX2_wordAt : sw_chk cX2_wordAt flX2 cnX2 sX2_wordAt 22 tX2_wordAt = true := by decide +kernel
def tX2_flip : Nat → sw_I := fun pc => (bif Nat.ble pc 14 then (bif Nat.ble pc 5 then (bif Nat.ble pc 1 then (bif Nat.ble pc 0 then (bif Nat.beq pc 0 then (1, 1, 0, 1, 0) else (99, 0, 0, 0, 0)) else (bif Nat.beq pc 1 then (12, 2, 12, 4, 0) else (99, 0, 0, 0, 0))) else (bif Nat.ble pc 4 then (bif Nat.beq pc 4 then (1, 1, 0, 5, 0) else (99, 0, 0, 0, 0)) else (bif Nat.beq pc 5 then (2, 0, 0, 6, 0) else (99, 0, 0, 0, 0)))) else (bif Nat.ble pc 9 then (bif Nat.ble pc 6 then (bif Nat.beq pc 6 then (7, 2, 1, 9, 0) else (99, 0, 0, 0, 0)) else (bif Nat.beq pc 9 then (13, 2, 14, 12, 0) else (99, 0, 0, 0, 0))) else (bif Nat.ble pc 12 then (bif Nat.beq pc 12 then (0, 0, 0, 13, 0) else (99, 0, 0, 0, 0)) else (bif Nat.ble pc 13 then (bif Nat.beq pc 13 then (19, 0, 0, 0, 0) else (99, 0, 0, 0, 0)) else (bif Nat.beq pc 14 then (2, 0, 0, 15, 0) else (99, 0, 0, 0, 0)))))) else (bif Nat.ble pc 20 then (bif Nat.ble pc 18 then (bif Nat.ble pc 15 then (bif Nat.beq pc 15 then (7, 2, 0, 18, 0) else (99, 0, 0, 0, 0)) else (bif Nat.beq pc 18 then (1, 1, 0, 19, 0) else (99, 0, 0, 0, 0))) else (bif Nat.ble pc 19 then (bif Nat.beq pc 19 then (23, 0, 0, 20, 0) else (99, 0, 0, 0, 0)) else (bif Nat.beq pc 20 then (9, 0, 0, 21, 0) else (99, 0, 0, 0, 0)))) else (bif Nat.ble pc 22 then (bif Nat.ble pc 21 then (bif Nat.beq pc 21 then (1, 2, 0, 22, 0) else (99, 0, 0, 0, 0)) else (bif Nat.beq pc 22 then (6, 5, 0, 23, 0) else (99, 0, 0, 0, 0))) else (bif Nat.ble pc 23 then (bif Nat.beq pc 23 then (10, 0, 0, 24, 0) else (99, 0, 0, 0, 0)) else (bif Nat.ble pc 24 then (bif Nat.beq pc 24 then (0, 0, 0, 25, 1) else (99, 0, 0, 0, 0)) else (bif Nat.beq pc 25 then (19, 0, 0, 0, 0) else (99, 0, 0, 0, 0)))))))
def sX2_flip : sw_T := fun _ => []
set_option maxRecDepth 100000 in
theorem kX2_flip : sw_chk cX2_flip flX2 cnX2 sX2_flip 25 tX2_flip = true := by decide +kernel
def tX2_seal : Nat → sw_I := fun pc => (bif Nat.ble pc 2 then (bif Nat.ble pc 0 then (bif Nat.beq pc 0 then (2, 0, 0, 1, 0) else (99, 0, 0, 0, 0)) else (bif Nat.ble pc 1 then (bif Nat.beq pc 1 then (2, 0, 0, 2, 0) else (99, 0, 0, 0, 0)) else (bif Nat.beq pc 2 then (2, 0, 0, 3, 0) else (99, 0, 0, 0, 0)))) else (bif Nat.ble pc 6 then (bif Nat.ble pc 3 then (bif Nat.beq pc 3 then (7, 2, 1, 6, 0) else (99, 0, 0, 0, 0)) else (bif Nat.beq pc 6 then (18, 32, 0, 9, 0) else (99, 0, 0, 0, 0))) else (bif Nat.ble pc 9 then (bif Nat.beq pc 9 then (18, 25, 0, 12, 0) else (99, 0, 0, 0, 0)) else (bif Nat.beq pc 12 then (21, 0, 0, 0, 0) else (99, 0, 0, 0, 0)))))
def sX2_seal : sw_T := fun _ => []
set_option maxRecDepth 100000 in
theorem kX2_seal : sw_chk cX2_seal flX2 cnX2 sX2_seal 12 tX2_seal = true := by decide +kernel
def tX2_renew : Nat → sw_I := fun pc => (bif Nat.ble pc 14 then (bif Nat.ble pc 6 then (bif Nat.ble pc 1 then (bif Nat.ble pc 0 then (bif Nat.beq pc 0 then (2, 0, 0, 1, 0) else (99, 0, 0, 0, 0)) else (bif Nat.beq pc 1 then (0, 0, 0, 2, 0) else (99, 0, 0, 0, 0))) else (bif Nat.ble pc 2 then (bif Nat.beq pc 2 then (2, 0, 0, 3, 0) else (99, 0, 0, 0, 0)) else (bif Nat.ble pc 3 then (bif Nat.beq pc 3 then (18, 36, 0, 6, 0) else (99, 0, 0, 0, 0)) else (bif Nat.beq pc 6 then (1, 1, 0, 7, 0) else (99, 0, 0, 0, 0))))) else (bif Nat.ble pc 8 then (bif Nat.ble pc 7 then (bif Nat.beq pc 7 then (6, 5, 0, 8, 0) else (99, 0, 0, 0, 0)) else (bif Nat.beq pc 8 then (0, 0, 0, 10, 16) else (99, 0, 0, 0, 0))) else (bif Nat.ble pc 10 then (bif Nat.beq pc 10 then (6, 6, 0, 11, 0) else (99, 0, 0, 0, 0)) else (bif Nat.ble pc 11 then (bif Nat.beq pc 11 then (18, 40, 0, 14, 0) else (99, 0, 0, 0, 0)) else (bif Nat.beq pc 14 then (24, 0, 0, 15, 0) else (99, 0, 0, 0, 0)))))) else (bif Nat.ble pc 21 then (bif Nat.ble pc 16 then (bif Nat.ble pc 15 then (bif Nat.beq pc 15 then (2, 0, 0, 16, 0) else (99, 0, 0, 0, 0)) else (bif Nat.beq pc 16 then (0, 0, 0, 17, 0) else (99, 0, 0, 0, 0))) else (bif Nat.ble pc 17 then (bif Nat.beq pc 17 then (2, 0, 0, 18, 0) else (99, 0, 0, 0, 0)) else (bif Nat.ble pc 18 then (bif Nat.beq pc 18 then (7, 2, 1, 21, 0) else (99, 0, 0, 0, 0)) else (bif Nat.beq pc 21 then (0, 0, 0, 22, 1) else (99, 0, 0, 0, 0))))) else (bif Nat.ble pc 26 then (bif Nat.ble pc 22 then (bif Nat.beq pc 22 then (6, 1, 0, 23, 0) else (99, 0, 0, 0, 0)) else (bif Nat.ble pc 23 then (bif Nat.beq pc 23 then (18, 9, 1, 26, 0) else (99, 0, 0, 0, 0)) else (bif Nat.beq pc 26 then (8, 2, 1, 29, 0) else (99, 0, 0, 0, 0)))) else (bif Nat.ble pc 29 then (bif Nat.beq pc 29 then (2, 0, 0, 30, 0) else (99, 0, 0, 0, 0)) else (bif Nat.ble pc 30 then (bif Nat.beq pc 30 then (18, 44, 0, 33, 0) else (99, 0, 0, 0, 0)) else (bif Nat.beq pc 33 then (21, 0, 0, 0, 0) else (99, 0, 0, 0, 0)))))))
def sX2_renew : sw_T := fun _ => []
set_option maxRecDepth 100000 in
theorem kX2_renew : sw_chk cX2_renew flX2 cnX2 sX2_renew 33 tX2_renew = true := by decide +kernel
def tX2_kind : Nat → sw_I := fun pc => (bif Nat.ble pc 2 then (bif Nat.ble pc 0 then (bif Nat.beq pc 0 then (2, 0, 0, 1, 0) else (99, 0, 0, 0, 0)) else (bif Nat.ble pc 1 then (bif Nat.beq pc 1 then (0, 0, 0, 2, 0) else (99, 0, 0, 0, 0)) else (bif Nat.beq pc 2 then (18, 47, 0, 5, 0) else (99, 0, 0, 0, 0)))) else (bif Nat.ble pc 5 then (bif Nat.beq pc 5 then (0, 0, 0, 7, 7) else (99, 0, 0, 0, 0)) else (bif Nat.ble pc 7 then (bif Nat.beq pc 7 then (6, 3, 0, 8, 0) else (99, 0, 0, 0, 0)) else (bif Nat.beq pc 8 then (19, 0, 0, 0, 0) else (99, 0, 0, 0, 0)))))
def sX2_kind : sw_T := fun _ => []
set_option maxRecDepth 100000 in
theorem kX2_kind : sw_chk cX2_kind flX2 cnX2 sX2_kind 8 tX2_kind = true := by decide +kernel
def tX2_streamNumber : Nat → sw_I := fun pc => (bif Nat.ble pc 5 then (bif Nat.ble pc 1 then (bif Nat.ble pc 0 then (bif Nat.beq pc 0 then (2, 0, 0, 1, 0) else (99, 0, 0, 0, 0)) else (bif Nat.beq pc 1 then (0, 0, 0, 2, 0) else (99, 0, 0, 0, 0))) else (bif Nat.ble pc 2 then (bif Nat.beq pc 2 then (18, 47, 0, 5, 0) else (99, 0, 0, 0, 0)) else (bif Nat.beq pc 5 then (0, 0, 0, 6, 3) else (99, 0, 0, 0, 0)))) else (bif Nat.ble pc 7 then (bif Nat.ble pc 6 then (bif Nat.beq pc 6 then (6, 8, 0, 7, 0) else (99, 0, 0, 0, 0)) else (bif Nat.beq pc 7 then (0, 0, 0, 9, 31) else (99, 0, 0, 0, 0))) else (bif Nat.ble pc 9 then (bif Nat.beq pc 9 then (6, 3, 0, 10, 0) else (99, 0, 0, 0, 0)) else (bif Nat.beq pc 10 then (19, 0, 0, 0, 0) else (99, 0, 0, 0, 0)))))
def sX2_streamNumber : sw_T := fun _ => []
set_option maxRecDepth 100000 in
theorem kX2_streamNumber : sw_chk cX2_streamNumber flX2 cnX2 sX2_streamNumber 10 tX2_streamNumber = true := by decide +kernel
def tX2_number : Nat → sw_I := fun pc => (bif Nat.ble pc 5 then (bif Nat.ble pc 1 then (bif Nat.ble pc 0 then (bif Nat.beq pc 0 then (2, 0, 0, 1, 0) else (99, 0, 0, 0, 0)) else (bif Nat.beq pc 1 then (0, 0, 0, 2, 0) else (99, 0, 0, 0, 0))) else (bif Nat.ble pc 2 then (bif Nat.beq pc 2 then (18, 47, 0, 5, 0) else (99, 0, 0, 0, 0)) else (bif Nat.beq pc 5 then (0, 0, 0, 7, 8) else (99, 0, 0, 0, 0)))) else (bif Nat.ble pc 8 then (bif Nat.ble pc 7 then (bif Nat.beq pc 7 then (6, 8, 0, 8, 0) else (99, 0, 0, 0, 0)) else (bif Nat.beq pc 8 then (0, 0, 0, 11, 255) else (99, 0, 0, 0, 0))) else (bif Nat.ble pc 11 then (bif Nat.beq pc 11 then (6, 3, 0, 12, 0) else (99, 0, 0, 0, 0)) else (bif Nat.beq pc 12 then (19, 0, 0, 0, 0) else (99, 0, 0, 0, 0)))))
def sX2_number : sw_T := fun _ => []
set_option maxRecDepth 100000 in
theorem kX2_number : sw_chk cX2_number flX2 cnX2 sX2_number 12 tX2_number = true := by decide +kernel
def tX2_wanted : Nat → sw_I := fun pc => (bif Nat.ble pc 5 then (bif Nat.ble pc 1 then (bif Nat.ble pc 0 then (bif Nat.beq pc 0 then (2, 0, 0, 1, 0) else (99, 0, 0, 0, 0)) else (bif Nat.beq pc 1 then (0, 0, 0, 2, 0) else (99, 0, 0, 0, 0))) else (bif Nat.ble pc 2 then (bif Nat.beq pc 2 then (18, 47, 0, 5, 0) else (99, 0, 0, 0, 0)) else (bif Nat.beq pc 5 then (0, 0, 0, 7, 16) else (99, 0, 0, 0, 0)))) else (bif Nat.ble pc 8 then (bif Nat.ble pc 7 then (bif Nat.beq pc 7 then (6, 8, 0, 8, 0) else (99, 0, 0, 0, 0)) else (bif Nat.beq pc 8 then (0, 0, 0, 11, 255) else (99, 0, 0, 0, 0))) else (bif Nat.ble pc 11 then (bif Nat.beq pc 11 then (6, 3, 0, 12, 0) else (99, 0, 0, 0, 0)) else (bif Nat.beq pc 12 then (19, 0, 0, 0, 0) else (99, 0, 0, 0, 0)))))
def sX2_wanted : sw_T := fun _ => []
set_option maxRecDepth 100000 in
theorem kX2_wanted : sw_chk cX2_wanted flX2 cnX2 sX2_wanted 12 tX2_wanted = true := by decide +kernel
def tX2_count : Nat → sw_I := fun pc => (bif Nat.ble pc 2 then (bif Nat.ble pc 0 then (bif Nat.beq pc 0 then (2, 0, 0, 1, 0) else (99, 0, 0, 0, 0)) else (bif Nat.ble pc 1 then (bif Nat.beq pc 1 then (0, 0, 0, 2, 0) else (99, 0, 0, 0, 0)) else (bif Nat.beq pc 2 then (18, 47, 0, 5, 0) else (99, 0, 0, 0, 0)))) else (bif Nat.ble pc 5 then (bif Nat.beq pc 5 then (0, 0, 0, 7, 24) else (99, 0, 0, 0, 0)) else (bif Nat.ble pc 7 then (bif Nat.beq pc 7 then (6, 8, 0, 8, 0) else (99, 0, 0, 0, 0)) else (bif Nat.beq pc 8 then (19, 0, 0, 0, 0) else (99, 0, 0, 0, 0)))))
def sX2_count : sw_T := fun _ => []
set_option maxRecDepth 100000 in
theorem kX2_count : sw_chk cX2_count flX2 cnX2 sX2_count 8 tX2_count = true := by decide +kernel
def tX2_isMark : Nat → sw_I := fun pc => (bif Nat.ble pc 7 then (bif Nat.ble pc 2 then (bif Nat.ble pc 0 then (bif Nat.beq pc 0 then (2, 0, 0, 1, 0) else (99, 0, 0, 0, 0)) else (bif Nat.ble pc 1 then (bif Nat.beq pc 1 then (0, 0, 0, 2, 1) else (99, 0, 0, 0, 0)) else (bif Nat.beq pc 2 then (18, 47, 0, 5, 0) else (99, 0, 0, 0, 0)))) else (bif Nat.ble pc 5 then (bif Nat.beq pc 5 then (1, 1, 0, 6, 0) else (99, 0, 0, 0, 0)) else (bif Nat.ble pc 6 then (bif Nat.beq pc 6 then (6, 8, 0, 7, 0) else (99, 0, 0, 0, 0)) else (bif Nat.beq pc 7 then (0, 0, 0, 8, 1) else (99, 0, 0, 0, 0))))) else (bif Nat.ble pc 10 then (bif Nat.ble pc 8 then (bif Nat.beq pc 8 then (6, 3, 0, 9, 0) else (99, 0, 0, 0, 0)) else (bif Nat.ble pc 9 then (bif Nat.beq pc 9 then (0, 0, 0, 10, 1) else (99, 0, 0, 0, 0)) else (bif Nat.beq pc 10 then (13, 1, 17, 13, 0) else (99, 0, 0, 0, 0)))) else (bif Nat.ble pc 14 then (bif Nat.ble pc 13 then (bif Nat.beq pc 13 then (0, 0, 0, 14, 1) else (99, 0, 0, 0, 0)) else (bif Nat.beq pc 14 then (16, 0, 18, 0, 0) else (99, 0, 0, 0, 0))) else (bif Nat.ble pc 17 then (bif Nat.beq pc 17 then (0, 0, 0, 18, 0) else (99, 0, 0, 0, 0)) else (bif Nat.beq pc 18 then (19, 0, 0, 0, 0) else (99, 0, 0, 0, 0))))))
def sX2_isMark : sw_T := fun _ => []
set_option maxRecDepth 100000 in
theorem kX2_isMark : sw_chk cX2_isMark flX2 cnX2 sX2_isMark 18 tX2_isMark = true := by decide +kernel
def tX2_itemWord : Nat → sw_I := fun pc => (bif Nat.ble pc 2 then (bif Nat.ble pc 0 then (bif Nat.beq pc 0 then (2, 0, 0, 1, 0) else (99, 0, 0, 0, 0)) else (bif Nat.ble pc 1 then (bif Nat.beq pc 1 then (0, 0, 0, 2, 2) else (99, 0, 0, 0, 0)) else (bif Nat.beq pc 2 then (1, 1, 0, 3, 0) else (99, 0, 0, 0, 0)))) else (bif Nat.ble pc 3 then (bif Nat.beq pc 3 then (6, 0, 0, 4, 0) else (99, 0, 0, 0, 0)) else (bif Nat.ble pc 4 then (bif Nat.beq pc 4 then (18, 47, 0, 7, 0) else (99, 0, 0, 0, 0)) else (bif Nat.beq pc 7 then (19, 0, 0, 0, 0) else (99, 0, 0, 0, 0)))))
def sX2_itemWord : sw_T := fun _ => []
set_option maxRecDepth 100000 in
theorem kX2_itemWord : sw_chk cX2_itemWord flX2 cnX2 sX2_itemWord 7 tX2_itemWord = true := by decide +kernel
def tX2_granted : Nat → sw_I := fun pc => (bif Nat.ble pc 1 then (bif Nat.ble pc 0 then (bif Nat.beq pc 0 then (2, 0, 0, 1, 0) else (99, 0, 0, 0, 0)) else (bif Nat.beq pc 1 then (0, 0, 0, 2, 1) else (99, 0, 0, 0, 0))) else (bif Nat.ble pc 2 then (bif Nat.beq pc 2 then (18, 47, 0, 5, 0) else (99, 0, 0, 0, 0)) else (bif Nat.beq pc 5 then (19, 0, 0, 0, 0) else (99, 0, 0, 0, 0))))
def sX2_granted : sw_T := fun _ => []
set_option maxRecDepth 100000 in
theorem kX2_granted : sw_chk cX2_granted flX2 cnX2 sX2_granted 5 tX2_granted = true := by decide +kernel
def tX2_isSound : Nat → sw_I := fun pc => (bif Nat.ble pc 35 then (bif Nat.ble pc 17 then (bif Nat.ble pc 8 then (bif Nat.ble pc 1 then (bif Nat.ble pc 0 then (bif Nat.beq pc 0 then (2, 0, 0, 1, 0) else (99, 0, 0, 0, 0)) else (bif Nat.beq pc 1 then (7, 2, 1, 4, 0) else (99, 0, 0, 0, 0))) else (bif Nat.ble pc 4 then (bif Nat.beq pc 4 then (2, 0, 0, 5, 0) else (99, 0, 0, 0, 0)) else (bif Nat.ble pc 5 then (bif Nat.beq pc 5 then (18, 50, 0, 8, 0) else (99, 0, 0, 0, 0)) else (bif Nat.beq pc 8 then (13, 1, 79, 11, 0) else (99, 0, 0, 0, 0))))) else (bif Nat.ble pc 12 then (bif Nat.ble pc 11 then (bif Nat.beq pc 11 then (2, 0, 0, 12, 0) else (99, 0, 0, 0, 0)) else (bif Nat.beq pc 12 then (2, 0, 0, 13, 0) else (99, 0, 0, 0, 0))) else (bif Nat.ble pc 13 then (bif Nat.beq pc 13 then (7, 2, 1, 16, 0) else (99, 0, 0, 0, 0)) else (bif Nat.ble pc 16 then (bif Nat.beq pc 16 then (0, 0, 0, 17, 1) else (99, 0, 0, 0, 0)) else (bif Nat.beq pc 17 then (6, 1, 0, 18, 0) else (99, 0, 0, 0, 0)))))) else (bif Nat.ble pc 26 then (bif Nat.ble pc 21 then (bif Nat.ble pc 18 then (bif Nat.beq pc 18 then (18, 47, 0, 21, 0) else (99, 0, 0, 0, 0)) else (bif Nat.beq pc 21 then (2, 0, 0, 22, 0) else (99, 0, 0, 0, 0))) else (bif Nat.ble pc 22 then (bif Nat.beq pc 22 then (2, 0, 0, 23, 0) else (99, 0, 0, 0, 0)) else (bif Nat.ble pc 23 then (bif Nat.beq pc 23 then (7, 2, 1, 26, 0) else (99, 0, 0, 0, 0)) else (bif Nat.beq pc 26 then (0, 0, 0, 27, 1) else (99, 0, 0, 0, 0))))) else (bif Nat.ble pc 28 then (bif Nat.ble pc 27 then (bif Nat.beq pc 27 then (6, 1, 0, 28, 0) else (99, 0, 0, 0, 0)) else (bif Nat.beq pc 28 then (18, 32, 0, 31, 0) else (99, 0, 0, 0, 0))) else (bif Nat.ble pc 31 then (bif Nat.beq pc 31 then (13, 1, 79, 34, 0) else (99, 0, 0, 0, 0)) else (bif Nat.ble pc 34 then (bif Nat.beq pc 34 then (2, 0, 0, 35, 0) else (99, 0, 0, 0, 0)) else (bif Nat.beq pc 35 then (18, 53, 0, 38, 0) else (99, 0, 0, 0, 0))))))) else (bif Nat.ble pc 57 then (bif Nat.ble pc 46 then (bif Nat.ble pc 39 then (bif Nat.ble pc 38 then (bif Nat.beq pc 38 then (2, 1, 0, 39, 0) else (99, 0, 0, 0, 0)) else (bif Nat.beq pc 39 then (7, 4, 0, 42, 0) else (99, 0, 0, 0, 0))) else (bif Nat.ble pc 42 then (bif Nat.beq pc 42 then (13, 3, 79, 45, 0) else (99, 0, 0, 0, 0)) else (bif Nat.ble pc 45 then (bif Nat.beq pc 45 then (2, 0, 0, 46, 0) else (99, 0, 0, 0, 0)) else (bif Nat.beq pc 46 then (18, 61, 0, 49, 0) else (99, 0, 0, 0, 0))))) else (bif Nat.ble pc 50 then (bif Nat.ble pc 49 then (bif Nat.beq pc 49 then (2, 1, 0, 50, 0) else (99, 0, 0, 0, 0)) else (bif Nat.beq pc 50 then (7, 4, 2, 53, 0) else (99, 0, 0, 0, 0))) else (bif Nat.ble pc 53 then (bif Nat.beq pc 53 then (13, 4, 79, 56, 0) else (99, 0, 0, 0, 0)) else (bif Nat.ble pc 56 then (bif Nat.beq pc 56 then (2, 0, 0, 57, 0) else (99, 0, 0, 0, 0)) else (bif Nat.beq pc 57 then (18, 36, 0, 60, 0) else (99, 0, 0, 0, 0)))))) else (bif Nat.ble pc 68 then (bif Nat.ble pc 61 then (bif Nat.ble pc 60 then (bif Nat.beq pc 60 then (2, 1, 0, 61, 0) else (99, 0, 0, 0, 0)) else (bif Nat.beq pc 61 then (7, 4, 2, 64, 0) else (99, 0, 0, 0, 0))) else (bif Nat.ble pc 64 then (bif Nat.beq pc 64 then (13, 4, 79, 67, 0) else (99, 0, 0, 0, 0)) else (bif Nat.ble pc 67 then (bif Nat.beq pc 67 then (2, 0, 0, 68, 0) else (99, 0, 0, 0, 0)) else (bif Nat.beq pc 68 then (2, 1, 0, 69, 0) else (99, 0, 0, 0, 0))))) else (bif Nat.ble pc 75 then (bif Nat.ble pc 69 then (bif Nat.beq pc 69 then (18, 67, 0, 72, 0) else (99, 0, 0, 0, 0)) else (bif Nat.ble pc 72 then (bif Nat.beq pc 72 then (12, 0, 79, 75, 0) else (99, 0, 0, 0, 0)) else (bif Nat.beq pc 75 then (0, 0, 0, 76, 1) else (99, 0, 0, 0, 0)))) else (bif Nat.ble pc 76 then (bif Nat.beq pc 76 then (16, 0, 80, 0, 0) else (99, 0, 0, 0, 0)) else (bif Nat.ble pc 79 then (bif Nat.beq pc 79 then (0, 0, 0, 80, 0) else (99, 0, 0, 0, 0)) else (bif Nat.beq pc 80 then (19, 0, 0, 0, 0) else (99, 0, 0, 0, 0))))))))
def sX2_isSound : sw_T := fun _ => []
set_option maxRecDepth 100000 in
theorem kX2_isSound : sw_chk cX2_isSound flX2 cnX2 sX2_isSound 80 tX2_isSound = true := by decide +kernel
def tX2_lengthTold : Nat → sw_I := fun pc => (bif Nat.ble pc 34 then (bif Nat.ble pc 4 then (bif Nat.ble pc 0 then (bif Nat.beq pc 0 then (2, 0, 0, 1, 0) else (99, 0, 0, 0, 0)) else (bif Nat.ble pc 1 then (bif Nat.beq pc 1 then (18, 71, 0, 4, 0) else (99, 0, 0, 0, 0)) else (bif Nat.beq pc 4 then (17, 41, 0, 0, 0) else (99, 0, 0, 0, 0)))) else (bif Nat.ble pc 32 then (bif Nat.beq pc 32 then (0, 0, 0, 33, 3) else (99, 0, 0, 0, 0)) else (bif Nat.ble pc 33 then (bif Nat.beq pc 33 then (2, 0, 0, 34, 0) else (99, 0, 0, 0, 0)) else (bif Nat.beq pc 34 then (18, 74, 0, 37, 0) else (99, 0, 0, 0, 0))))) else (bif Nat.ble pc 39 then (bif Nat.ble pc 37 then (bif Nat.beq pc 37 then (6, 0, 0, 38, 0) else (99, 0, 0, 0, 0)) else (bif Nat.ble pc 38 then (bif Nat.beq pc 38 then (19, 0, 0, 0, 0) else (99, 0, 0, 0, 0)) else (bif Nat.beq pc 39 then (0, 0, 0, 40, 3) else (99, 0, 0, 0, 0)))) else (bif Nat.ble pc 40 then (bif Nat.beq pc 40 then (19, 0, 0, 0, 0) else (99, 0, 0, 0, 0)) else (bif Nat.ble pc 41 then (bif Nat.beq pc 41 then (0, 0, 0, 42, 2) else (99, 0, 0, 0, 0)) else (bif Nat.beq pc 42 then (19, 0, 0, 0, 0) else (99, 0, 0, 0, 0))))))
def sX2_lengthTold : sw_T := fun pc => (bif Nat.beq pc 4 then [(1, 32), (2, 39)] else [])
set_option maxRecDepth 100000 in
theorem kX2_lengthTold : sw_chk cX2_lengthTold flX2 cnX2 sX2_lengthTold 42 tX2_lengthTold = true := by decide +kernel
def tX2_isSoundForKind : Nat → sw_I := fun pc => (bif Nat.ble pc 83 then (bif Nat.ble pc 58 then (bif Nat.ble pc 44 then (bif Nat.ble pc 4 then (bif Nat.ble pc 0 then (bif Nat.beq pc 0 then (2, 0, 0, 1, 0) else (99, 0, 0, 0, 0)) else (bif Nat.ble pc 1 then (bif Nat.beq pc 1 then (18, 71, 0, 4, 0) else (99, 0, 0, 0, 0)) else (bif Nat.beq pc 4 then (17, 132, 0, 0, 0) else (99, 0, 0, 0, 0)))) else (bif Nat.ble pc 40 then (bif Nat.beq pc 40 then (2, 0, 0, 41, 0) else (99, 0, 0, 0, 0)) else (bif Nat.ble pc 41 then (bif Nat.beq pc 41 then (18, 53, 0, 44, 0) else (99, 0, 0, 0, 0)) else (bif Nat.beq pc 44 then (12, 1, 65, 47, 0) else (99, 0, 0, 0, 0))))) else (bif Nat.ble pc 51 then (bif Nat.ble pc 47 then (bif Nat.beq pc 47 then (2, 0, 0, 48, 0) else (99, 0, 0, 0, 0)) else (bif Nat.ble pc 48 then (bif Nat.beq pc 48 then (18, 61, 0, 51, 0) else (99, 0, 0, 0, 0)) else (bif Nat.beq pc 51 then (12, 1, 65, 54, 0) else (99, 0, 0, 0, 0)))) else (bif Nat.ble pc 54 then (bif Nat.beq pc 54 then (2, 0, 0, 55, 0) else (99, 0, 0, 0, 0)) else (bif Nat.ble pc 55 then (bif Nat.beq pc 55 then (18, 74, 0, 58, 0) else (99, 0, 0, 0, 0)) else (bif Nat.beq pc 58 then (12, 1, 65, 61, 0) else (99, 0, 0, 0, 0)))))) else (bif Nat.ble pc 68 then (bif Nat.ble pc 65 then (bif Nat.ble pc 61 then (bif Nat.beq pc 61 then (0, 0, 0, 62, 1) else (99, 0, 0, 0, 0)) else (bif Nat.ble pc 62 then (bif Nat.beq pc 62 then (16, 0, 66, 0, 0) else (99, 0, 0, 0, 0)) else (bif Nat.beq pc 65 then (0, 0, 0, 66, 0) else (99, 0, 0, 0, 0)))) else (bif Nat.ble pc 66 then (bif Nat.beq pc 66 then (19, 0, 0, 0, 0) else (99, 0, 0, 0, 0)) else (bif Nat.ble pc 67 then (bif Nat.beq pc 67 then (2, 0, 0, 68, 0) else (99, 0, 0, 0, 0)) else (bif Nat.beq pc 68 then (18, 74, 0, 71, 0) else (99, 0, 0, 0, 0))))) else (bif Nat.ble pc 75 then (bif Nat.ble pc 71 then (bif Nat.beq pc 71 then (0, 0, 0, 72, 1) else (99, 0, 0, 0, 0)) else (bif Nat.ble pc 72 then (bif Nat.beq pc 72 then (13, 2, 97, 75, 0) else (99, 0, 0, 0, 0)) else (bif Nat.beq pc 75 then (2, 0, 0, 76, 0) else (99, 0, 0, 0, 0)))) else (bif Nat.ble pc 79 then (bif Nat.ble pc 76 then (bif Nat.beq pc 76 then (18, 74, 0, 79, 0) else (99, 0, 0, 0, 0)) else (bif Nat.beq pc 79 then (2, 1, 0, 80, 0) else (99, 0, 0, 0, 0))) else (bif Nat.ble pc 80 then (bif Nat.beq pc 80 then (7, 4, 1, 83, 0) else (99, 0, 0, 0, 0)) else (bif Nat.beq pc 83 then (13, 4, 97, 86, 0) else (99, 0, 0, 0, 0))))))) else (bif Nat.ble pc 110 then (bif Nat.ble pc 97 then (bif Nat.ble pc 90 then (bif Nat.ble pc 86 then (bif Nat.beq pc 86 then (2, 0, 0, 87, 0) else (99, 0, 0, 0, 0)) else (bif Nat.ble pc 87 then (bif Nat.beq pc 87 then (18, 80, 0, 90, 0) else (99, 0, 0, 0, 0)) else (bif Nat.beq pc 90 then (12, 0, 97, 93, 0) else (99, 0, 0, 0, 0)))) else (bif Nat.ble pc 93 then (bif Nat.beq pc 93 then (0, 0, 0, 94, 1) else (99, 0, 0, 0, 0)) else (bif Nat.ble pc 94 then (bif Nat.beq pc 94 then (16, 0, 98, 0, 0) else (99, 0, 0, 0, 0)) else (bif Nat.beq pc 97 then (0, 0, 0, 98, 0) else (99, 0, 0, 0, 0))))) else (bif Nat.ble pc 100 then (bif Nat.ble pc 98 then (bif Nat.beq pc 98 then (19, 0, 0, 0, 0) else (99, 0, 0, 0, 0)) else (bif Nat.ble pc 99 then (bif Nat.beq pc 99 then (2, 0, 0, 100, 0) else (99, 0, 0, 0, 0)) else (bif Nat.beq pc 100 then (18, 74, 0, 103, 0) else (99, 0, 0, 0, 0)))) else (bif Nat.ble pc 106 then (bif Nat.ble pc 103 then (bif Nat.beq pc 103 then (12, 1, 117, 106, 0) else (99, 0, 0, 0, 0)) else (bif Nat.beq pc 106 then (2, 0, 0, 107, 0) else (99, 0, 0, 0, 0))) else (bif Nat.ble pc 107 then (bif Nat.beq pc 107 then (18, 84, 0, 110, 0) else (99, 0, 0, 0, 0)) else (bif Nat.beq pc 110 then (12, 5, 117, 113, 0) else (99, 0, 0, 0, 0)))))) else (bif Nat.ble pc 120 then (bif Nat.ble pc 117 then (bif Nat.ble pc 113 then (bif Nat.beq pc 113 then (0, 0, 0, 114, 1) else (99, 0, 0, 0, 0)) else (bif Nat.ble pc 114 then (bif Nat.beq pc 114 then (16, 0, 118, 0, 0) else (99, 0, 0, 0, 0)) else (bif Nat.beq pc 117 then (0, 0, 0, 118, 0) else (99, 0, 0, 0, 0)))) else (bif Nat.ble pc 118 then (bif Nat.beq pc 118 then (19, 0, 0, 0, 0) else (99, 0, 0, 0, 0)) else (bif Nat.ble pc 119 then (bif Nat.beq pc 119 then (2, 0, 0, 120, 0) else (99, 0, 0, 0, 0)) else (bif Nat.beq pc 120 then (18, 74, 0, 123, 0) else (99, 0, 0, 0, 0))))) else (bif Nat.ble pc 127 then (bif Nat.ble pc 123 then (bif Nat.beq pc 123 then (12, 1, 130, 126, 0) else (99, 0, 0, 0, 0)) else (bif Nat.ble pc 126 then (bif Nat.beq pc 126 then (0, 0, 0, 127, 1) else (99, 0, 0, 0, 0)) else (bif Nat.beq pc 127 then (16, 0, 131, 0, 0) else (99, 0, 0, 0, 0)))) else (bif Nat.ble pc 131 then (bif Nat.ble pc 130 then (bif Nat.beq pc 130 then (0, 0, 0, 131, 0) else (99, 0, 0, 0, 0)) else (bif Nat.beq pc 131 then (19, 0, 0, 0, 0) else (99, 0, 0, 0, 0))) else (bif Nat.ble pc 132 then (bif Nat.beq pc 132 then (0, 0, 0, 133, 0) else (99, 0, 0, 0, 0)) else (bif Nat.beq pc 133 then (19, 0, 0, 0, 0) else (99, 0, 0, 0, 0))))))))
def sX2_isSoundForKind : sw_T := fun pc => (bif Nat.beq pc 4 then [(0, 40), (1, 67), (2, 99), (3, 119), (4, 119)] else [])
set_option maxRecDepth 100000 in
theorem kX2_isSoundForKind : sw_chk cX2_isSoundForKind flX2 cnX2 sX2_isSoundForKind 133 tX2_isSoundForKind = true := by decide +kernel
def tX2_areMarksSound : Nat → sw_I := fun pc => (bif Nat.ble pc 19 then (bif Nat.ble pc 10 then (bif Nat.ble pc 2 then (bif Nat.ble pc 0 then (bif Nat.beq pc 0 then (2, 0, 0, 1, 0) else (99, 0, 0, 0, 0)) else (bif Nat.ble pc 1 then (bif Nat.beq pc 1 then (0, 0, 0, 2, 1) else (99, 0, 0, 0, 0)) else (bif Nat.beq pc 2 then (18, 47, 0, 5, 0) else (99, 0, 0, 0, 0)))) else (bif Nat.ble pc 6 then (bif Nat.ble pc 5 then (bif Nat.beq pc 5 then (2, 0, 0, 6, 0) else (99, 0, 0, 0, 0)) else (bif Nat.beq pc 6 then (18, 74, 0, 9, 0) else (99, 0, 0, 0, 0))) else (bif Nat.ble pc 9 then (bif Nat.beq pc 9 then (6, 8, 0, 10, 0) else (99, 0, 0, 0, 0)) else (bif Nat.beq pc 10 then (12, 0, 15, 13, 0) else (99, 0, 0, 0, 0))))) else (bif Nat.ble pc 15 then (bif Nat.ble pc 13 then (bif Nat.beq pc 13 then (0, 0, 0, 14, 0) else (99, 0, 0, 0, 0)) else (bif Nat.ble pc 14 then (bif Nat.beq pc 14 then (19, 0, 0, 0, 0) else (99, 0, 0, 0, 0)) else (bif Nat.beq pc 15 then (0, 0, 0, 16, 0) else (99, 0, 0, 0, 0)))) else (bif Nat.ble pc 17 then (bif Nat.ble pc 16 then (bif Nat.beq pc 16 then (3, 1, 0, 17, 0) else (99, 0, 0, 0, 0)) else (bif Nat.beq pc 17 then (1, 1, 0, 18, 0) else (99, 0, 0, 0, 0))) else (bif Nat.ble pc 18 then (bif Nat.beq pc 18 then (2, 0, 0, 19, 0) else (99, 0, 0, 0, 0)) else (bif Nat.beq pc 19 then (18, 74, 0, 22, 0) else (99, 0, 0, 0, 0)))))) else (bif Nat.ble pc 34 then (bif Nat.ble pc 26 then (bif Nat.ble pc 22 then (bif Nat.beq pc 22 then (13, 3, 49, 25, 0) else (99, 0, 0, 0, 0)) else (bif Nat.ble pc 25 then (bif Nat.beq pc 25 then (2, 0, 0, 26, 0) else (99, 0, 0, 0, 0)) else (bif Nat.beq pc 26 then (1, 1, 0, 27, 0) else (99, 0, 0, 0, 0)))) else (bif Nat.ble pc 30 then (bif Nat.ble pc 27 then (bif Nat.beq pc 27 then (18, 87, 0, 30, 0) else (99, 0, 0, 0, 0)) else (bif Nat.beq pc 30 then (12, 0, 43, 33, 0) else (99, 0, 0, 0, 0))) else (bif Nat.ble pc 33 then (bif Nat.beq pc 33 then (2, 0, 0, 34, 0) else (99, 0, 0, 0, 0)) else (bif Nat.beq pc 34 then (1, 1, 0, 35, 0) else (99, 0, 0, 0, 0))))) else (bif Nat.ble pc 42 then (bif Nat.ble pc 38 then (bif Nat.ble pc 35 then (bif Nat.beq pc 35 then (18, 91, 0, 38, 0) else (99, 0, 0, 0, 0)) else (bif Nat.beq pc 38 then (12, 0, 43, 41, 0) else (99, 0, 0, 0, 0))) else (bif Nat.ble pc 41 then (bif Nat.beq pc 41 then (0, 0, 0, 42, 0) else (99, 0, 0, 0, 0)) else (bif Nat.beq pc 42 then (19, 0, 0, 0, 0) else (99, 0, 0, 0, 0)))) else (bif Nat.ble pc 46 then (bif Nat.ble pc 43 then (bif Nat.beq pc 43 then (5, 1, 0, 46, 1) else (99, 0, 0, 0, 0)) else (bif Nat.beq pc 46 then (16, 0, 17, 0, 0) else (99, 0, 0, 0, 0))) else (bif Nat.ble pc 49 then (bif Nat.beq pc 49 then (0, 0, 0, 50, 1) else (99, 0, 0, 0, 0)) else (bif Nat.beq pc 50 then (19, 0, 0, 0, 0) else (99, 0, 0, 0, 0)))))))
def sX2_areMarksSound : sw_T := fun _ => []
set_option maxRecDepth 100000 in
theorem kX2_areMarksSound : sw_chk cX2_areMarksSound flX2 cnX2 sX2_areMarksSound 50 tX2_areMarksSound = true := by decide +kernel
def tX2_sumBefore : Nat → sw_I := fun pc => (bif Nat.ble pc 34 then (bif Nat.ble pc 16 then (bif Nat.ble pc 5 then (bif Nat.ble pc 2 then (bif Nat.ble pc 0 then (bif Nat.beq pc 0 then (0, 0, 0, 1, 0) else (99, 0, 0, 0, 0)) else (bif Nat.ble pc 1 then (bif Nat.beq pc 1 then (3, 2, 0, 2, 0) else (99, 0, 0, 0, 0)) else (bif Nat.beq pc 2 then (0, 0, 0, 3, 0) else (99, 0, 0, 0, 0)))) else (bif Nat.ble pc 3 then (bif Nat.beq pc 3 then (3, 3, 0, 4, 0) else (99, 0, 0, 0, 0)) else (bif Nat.ble pc 4 then (bif Nat.beq pc 4 then (0, 0, 0, 5, 0) else (99, 0, 0, 0, 0)) else (bif Nat.beq pc 5 then (3, 4, 0, 7, 0) else (99, 0, 0, 0, 0))))) else (bif Nat.ble pc 10 then (bif Nat.ble pc 7 then (bif Nat.beq pc 7 then (1, 4, 0, 9, 0) else (99, 0, 0, 0, 0)) else (bif Nat.ble pc 9 then (bif Nat.beq pc 9 then (1, 1, 0, 10, 0) else (99, 0, 0, 0, 0)) else (bif Nat.beq pc 10 then (13, 3, 63, 13, 0) else (99, 0, 0, 0, 0)))) else (bif Nat.ble pc 13 then (bif Nat.beq pc 13 then (2, 0, 0, 14, 0) else (99, 0, 0, 0, 0)) else (bif Nat.ble pc 14 then (bif Nat.beq pc 14 then (1, 4, 0, 16, 0) else (99, 0, 0, 0, 0)) else (bif Nat.beq pc 16 then (18, 47, 0, 19, 0) else (99, 0, 0, 0, 0)))))) else (bif Nat.ble pc 27 then (bif Nat.ble pc 22 then (bif Nat.ble pc 19 then (bif Nat.beq pc 19 then (3, 5, 0, 21, 0) else (99, 0, 0, 0, 0)) else (bif Nat.ble pc 21 then (bif Nat.beq pc 21 then (1, 2, 0, 22, 0) else (99, 0, 0, 0, 0)) else (bif Nat.beq pc 22 then (1, 5, 0, 24, 0) else (99, 0, 0, 0, 0)))) else (bif Nat.ble pc 24 then (bif Nat.beq pc 24 then (0, 0, 0, 26, 16) else (99, 0, 0, 0, 0)) else (bif Nat.ble pc 26 then (bif Nat.beq pc 26 then (6, 8, 0, 27, 0) else (99, 0, 0, 0, 0)) else (bif Nat.beq pc 27 then (6, 0, 0, 28, 0) else (99, 0, 0, 0, 0))))) else (bif Nat.ble pc 31 then (bif Nat.ble pc 28 then (bif Nat.beq pc 28 then (0, 0, 0, 30, 65535) else (99, 0, 0, 0, 0)) else (bif Nat.ble pc 30 then (bif Nat.beq pc 30 then (27, 0, 0, 31, 0) else (99, 0, 0, 0, 0)) else (bif Nat.beq pc 31 then (3, 2, 0, 32, 0) else (99, 0, 0, 0, 0)))) else (bif Nat.ble pc 32 then (bif Nat.beq pc 32 then (1, 3, 0, 33, 0) else (99, 0, 0, 0, 0)) else (bif Nat.ble pc 33 then (bif Nat.beq pc 33 then (1, 2, 0, 34, 0) else (99, 0, 0, 0, 0)) else (bif Nat.beq pc 34 then (6, 0, 0, 35, 0) else (99, 0, 0, 0, 0))))))) else (bif Nat.ble pc 50 then (bif Nat.ble pc 42 then (bif Nat.ble pc 38 then (bif Nat.ble pc 35 then (bif Nat.beq pc 35 then (0, 0, 0, 37, 65535) else (99, 0, 0, 0, 0)) else (bif Nat.ble pc 37 then (bif Nat.beq pc 37 then (27, 0, 0, 38, 0) else (99, 0, 0, 0, 0)) else (bif Nat.beq pc 38 then (3, 3, 0, 39, 0) else (99, 0, 0, 0, 0)))) else (bif Nat.ble pc 39 then (bif Nat.beq pc 39 then (1, 2, 0, 40, 0) else (99, 0, 0, 0, 0)) else (bif Nat.ble pc 40 then (bif Nat.beq pc 40 then (1, 5, 0, 42, 0) else (99, 0, 0, 0, 0)) else (bif Nat.beq pc 42 then (0, 0, 0, 44, 65535) else (99, 0, 0, 0, 0))))) else (bif Nat.ble pc 46 then (bif Nat.ble pc 44 then (bif Nat.beq pc 44 then (6, 3, 0, 45, 0) else (99, 0, 0, 0, 0)) else (bif Nat.ble pc 45 then (bif Nat.beq pc 45 then (6, 0, 0, 46, 0) else (99, 0, 0, 0, 0)) else (bif Nat.beq pc 46 then (0, 0, 0, 48, 65535) else (99, 0, 0, 0, 0)))) else (bif Nat.ble pc 48 then (bif Nat.beq pc 48 then (27, 0, 0, 49, 0) else (99, 0, 0, 0, 0)) else (bif Nat.ble pc 49 then (bif Nat.beq pc 49 then (3, 2, 0, 50, 0) else (99, 0, 0, 0, 0)) else (bif Nat.beq pc 50 then (1, 3, 0, 51, 0) else (99, 0, 0, 0, 0)))))) else (bif Nat.ble pc 57 then (bif Nat.ble pc 53 then (bif Nat.ble pc 51 then (bif Nat.beq pc 51 then (1, 2, 0, 52, 0) else (99, 0, 0, 0, 0)) else (bif Nat.ble pc 52 then (bif Nat.beq pc 52 then (6, 0, 0, 53, 0) else (99, 0, 0, 0, 0)) else (bif Nat.beq pc 53 then (0, 0, 0, 55, 65535) else (99, 0, 0, 0, 0)))) else (bif Nat.ble pc 55 then (bif Nat.beq pc 55 then (27, 0, 0, 56, 0) else (99, 0, 0, 0, 0)) else (bif Nat.ble pc 56 then (bif Nat.beq pc 56 then (3, 3, 0, 57, 0) else (99, 0, 0, 0, 0)) else (bif Nat.beq pc 57 then (5, 4, 0, 60, 1) else (99, 0, 0, 0, 0))))) else (bif Nat.ble pc 64 then (bif Nat.ble pc 60 then (bif Nat.beq pc 60 then (16, 0, 7, 0, 0) else (99, 0, 0, 0, 0)) else (bif Nat.ble pc 63 then (bif Nat.beq pc 63 then (1, 3, 0, 64, 0) else (99, 0, 0, 0, 0)) else (bif Nat.beq pc 64 then (0, 0, 0, 66, 16) else (99, 0, 0, 0, 0)))) else (bif Nat.ble pc 67 then (bif Nat.ble pc 66 then (bif Nat.beq pc 66 then (6, 6, 0, 67, 0) else (99, 0, 0, 0, 0)) else (bif Nat.beq pc 67 then (1, 2, 0, 68, 0) else (99, 0, 0, 0, 0))) else (bif Nat.ble pc 68 then (bif Nat.beq pc 68 then (6, 4, 0, 69, 0) else (99, 0, 0, 0, 0)) else (bif Nat.beq pc 69 then (19, 0, 0, 0, 0) else (99, 0, 0, 0, 0))))))))
def sX2_sumBefore : sw_T := fun _ => []
set_option maxRecDepth 100000 in
theorem kX2_sumBefore : sw_chk cX2_sumBefore flX2 cnX2 sX2_sumBefore 69 tX2_sumBefore = true := by decide +kernel
def tX3_size : Nat → sw_I := fun pc => (bif Nat.ble pc 0 then (bif Nat.beq pc 0 then (2, 0, 0, 1, 0) else (99, 0, 0, 0, 0)) else (bif Nat.ble pc 1 then (bif Nat.beq pc 1 then (7, 3, 2, 4, 0) else (99, 0, 0, 0, 0)) else (bif Nat.beq pc 4 then (19, 0, 0, 0, 0) else (99, 0, 0, 0, 0))))
def sX3_size : sw_T := fun _ => []
set_option maxRecDepth 100000 in
theorem kX3_size : sw_chk cX3_size flX3 cnX3 sX3_size 4 tX3_size = true := by decide +kernel
def tX3_hasRoom : Nat → sw_I := fun pc => (bif Nat.ble pc 8 then (bif Nat.ble pc 1 then (bif Nat.ble pc 0 then (bif Nat.beq pc 0 then (2, 0, 0, 1, 0) else (99, 0, 0, 0, 0)) else (bif Nat.beq pc 1 then (7, 3, 2, 4, 0) else (99, 0, 0, 0, 0))) else (bif Nat.ble pc 4 then (bif Nat.beq pc 4 then (2, 0, 0, 5, 0) else (99, 0, 0, 0, 0)) else (bif Nat.ble pc 5 then (bif Nat.beq pc 5 then (7, 3, 0, 8, 0) else (99, 0, 0, 0, 0)) else (bif Nat.beq pc 8 then (11, 0, 0, 9, 0) else (99, 0, 0, 0, 0))))) else (bif Nat.ble pc 12 then (bif Nat.ble pc 9 then (bif Nat.beq pc 9 then (13, 3, 16, 12, 0) else (99, 0, 0, 0, 0)) else (bif Nat.beq pc 12 then (0, 0, 0, 13, 1) else (99, 0, 0, 0, 0))) else (bif Nat.ble pc 13 then (bif Nat.beq pc 13 then (16, 0, 17, 0, 0) else (99, 0, 0, 0, 0)) else (bif Nat.ble pc 16 then (bif Nat.beq pc 16 then (0, 0, 0, 17, 0) else (99, 0, 0, 0, 0)) else (bif Nat.beq pc 17 then (19, 0, 0, 0, 0) else (99, 0, 0, 0, 0))))))
def sX3_hasRoom : sw_T := fun _ => []
set_option maxRecDepth 100000 in
theorem kX3_hasRoom : sw_chk cX3_hasRoom flX3 cnX3 sX3_hasRoom 17 tX3_hasRoom = true := by decide +kernel
def tX3_frameAt : Nat → sw_I := fun pc => (bif Nat.ble pc 9 then (bif Nat.ble pc 4 then (bif Nat.ble pc 0 then (bif Nat.beq pc 0 then (1, 1, 0, 1, 0) else (99, 0, 0, 0, 0)) else (bif Nat.ble pc 1 then (bif Nat.beq pc 1 then (12, 2, 20, 4, 0) else (99, 0, 0, 0, 0)) else (bif Nat.beq pc 4 then (1, 1, 0, 5, 0) else (99, 0, 0, 0, 0)))) else (bif Nat.ble pc 5 then (bif Nat.beq pc 5 then (2, 0, 0, 6, 0) else (99, 0, 0, 0, 0)) else (bif Nat.ble pc 6 then (bif Nat.beq pc 6 then (7, 3, 2, 9, 0) else (99, 0, 0, 0, 0)) else (bif Nat.beq pc 9 then (13, 3, 20, 12, 0) else (99, 0, 0, 0, 0))))) else (bif Nat.ble pc 14 then (bif Nat.ble pc 12 then (bif Nat.beq pc 12 then (2, 0, 0, 13, 0) else (99, 0, 0, 0, 0)) else (bif Nat.ble pc 13 then (bif Nat.beq pc 13 then (1, 1, 0, 14, 0) else (99, 0, 0, 0, 0)) else (bif Nat.beq pc 14 then (18, 28, 0, 17, 0) else (99, 0, 0, 0, 0)))) else (bif Nat.ble pc 17 then (bif Nat.beq pc 17 then (16, 0, 21, 0, 0) else (99, 0, 0, 0, 0)) else (bif Nat.ble pc 20 then (bif Nat.beq pc 20 then (25, 0, 0, 21, 0) else (99, 0, 0, 0, 0)) else (bif Nat.beq pc 21 then (20, 0, 0, 0, 0) else (99, 0, 0, 0, 0))))))
def sX3_frameAt : sw_T := fun _ => []
set_option maxRecDepth 100000 in
theorem kX3_frameAt : sw_chk cX3_frameAt flX3 cnX3 sX3_frameAt 21 tX3_frameAt = true := by decide +kernel
def tX3_add : Nat → sw_I := fun pc => (bif Nat.ble pc 20 then (bif Nat.ble pc 8 then (bif Nat.ble pc 1 then (bif Nat.ble pc 0 then (bif Nat.beq pc 0 then (2, 0, 0, 1, 0) else (99, 0, 0, 0, 0)) else (bif Nat.beq pc 1 then (18, 32, 0, 4, 0) else (99, 0, 0, 0, 0))) else (bif Nat.ble pc 4 then (bif Nat.beq pc 4 then (12, 0, 18, 7, 0) else (99, 0, 0, 0, 0)) else (bif Nat.ble pc 7 then (bif Nat.beq pc 7 then (2, 0, 0, 8, 0) else (99, 0, 0, 0, 0)) else (bif Nat.beq pc 8 then (2, 0, 0, 9, 0) else (99, 0, 0, 0, 0))))) else (bif Nat.ble pc 15 then (bif Nat.ble pc 9 then (bif Nat.beq pc 9 then (7, 3, 2, 12, 0) else (99, 0, 0, 0, 0)) else (bif Nat.ble pc 12 then (bif Nat.beq pc 12 then (18, 28, 0, 15, 0) else (99, 0, 0, 0, 0)) else (bif Nat.beq pc 15 then (16, 0, 19, 0, 0) else (99, 0, 0, 0, 0)))) else (bif Nat.ble pc 18 then (bif Nat.beq pc 18 then (25, 0, 0, 19, 0) else (99, 0, 0, 0, 0)) else (bif Nat.ble pc 19 then (bif Nat.beq pc 19 then (4, 2, 0, 20, 0) else (99, 0, 0, 0, 0)) else (bif Nat.beq pc 20 then (2, 2, 0, 21, 0) else (99, 0, 0, 0, 0)))))) else (bif Nat.ble pc 29 then (bif Nat.ble pc 24 then (bif Nat.ble pc 21 then (bif Nat.beq pc 21 then (14, 0, 39, 24, 0) else (99, 0, 0, 0, 0)) else (bif Nat.beq pc 24 then (2, 2, 0, 25, 0) else (99, 0, 0, 0, 0))) else (bif Nat.ble pc 25 then (bif Nat.beq pc 25 then (2, 1, 0, 26, 0) else (99, 0, 0, 0, 0)) else (bif Nat.ble pc 26 then (bif Nat.beq pc 26 then (18, 36, 0, 29, 0) else (99, 0, 0, 0, 0)) else (bif Nat.beq pc 29 then (2, 0, 0, 30, 0) else (99, 0, 0, 0, 0))))) else (bif Nat.ble pc 34 then (bif Nat.ble pc 30 then (bif Nat.beq pc 30 then (22, 0, 0, 31, 0) else (99, 0, 0, 0, 0)) else (bif Nat.ble pc 31 then (bif Nat.beq pc 31 then (7, 3, 2, 34, 0) else (99, 0, 0, 0, 0)) else (bif Nat.beq pc 34 then (0, 0, 0, 35, 1) else (99, 0, 0, 0, 0)))) else (bif Nat.ble pc 35 then (bif Nat.beq pc 35 then (6, 0, 0, 36, 0) else (99, 0, 0, 0, 0)) else (bif Nat.ble pc 36 then (bif Nat.beq pc 36 then (8, 3, 2, 39, 0) else (99, 0, 0, 0, 0)) else (bif Nat.beq pc 39 then (21, 0, 0, 0, 0) else (99, 0, 0, 0, 0)))))))
def sX3_add : sw_T := fun _ => []
set_option maxRecDepth 100000 in
theorem kX3_add : sw_chk cX3_add flX3 cnX3 sX3_add 39 tX3_add = true := by decide +kernel
def tX3_dropFirst : Nat → sw_I := fun pc => (bif Nat.ble pc 21 then (bif Nat.ble pc 10 then (bif Nat.ble pc 4 then (bif Nat.ble pc 0 then (bif Nat.beq pc 0 then (2, 0, 0, 1, 0) else (99, 0, 0, 0, 0)) else (bif Nat.ble pc 1 then (bif Nat.beq pc 1 then (7, 3, 2, 4, 0) else (99, 0, 0, 0, 0)) else (bif Nat.beq pc 4 then (12, 1, 9, 7, 0) else (99, 0, 0, 0, 0)))) else (bif Nat.ble pc 8 then (bif Nat.ble pc 7 then (bif Nat.beq pc 7 then (0, 0, 0, 8, 0) else (99, 0, 0, 0, 0)) else (bif Nat.beq pc 8 then (19, 0, 0, 0, 0) else (99, 0, 0, 0, 0))) else (bif Nat.ble pc 9 then (bif Nat.beq pc 9 then (2, 0, 0, 10, 0) else (99, 0, 0, 0, 0)) else (bif Nat.beq pc 10 then (2, 0, 0, 11, 0) else (99, 0, 0, 0, 0))))) else (bif Nat.ble pc 15 then (bif Nat.ble pc 11 then (bif Nat.beq pc 11 then (7, 3, 1, 14, 0) else (99, 0, 0, 0, 0)) else (bif Nat.ble pc 14 then (bif Nat.beq pc 14 then (0, 0, 0, 15, 1) else (99, 0, 0, 0, 0)) else (bif Nat.beq pc 15 then (6, 0, 0, 16, 0) else (99, 0, 0, 0, 0)))) else (bif Nat.ble pc 17 then (bif Nat.ble pc 16 then (bif Nat.beq pc 16 then (2, 0, 0, 17, 0) else (99, 0, 0, 0, 0)) else (bif Nat.beq pc 17 then (7, 3, 0, 20, 0) else (99, 0, 0, 0, 0))) else (bif Nat.ble pc 20 then (bif Nat.beq pc 20 then (11, 0, 0, 21, 0) else (99, 0, 0, 0, 0)) else (bif Nat.beq pc 21 then (13, 3, 33, 24, 0) else (99, 0, 0, 0, 0)))))) else (bif Nat.ble pc 34 then (bif Nat.ble pc 28 then (bif Nat.ble pc 24 then (bif Nat.beq pc 24 then (2, 0, 0, 25, 0) else (99, 0, 0, 0, 0)) else (bif Nat.ble pc 25 then (bif Nat.beq pc 25 then (7, 3, 1, 28, 0) else (99, 0, 0, 0, 0)) else (bif Nat.beq pc 28 then (0, 0, 0, 29, 1) else (99, 0, 0, 0, 0)))) else (bif Nat.ble pc 30 then (bif Nat.ble pc 29 then (bif Nat.beq pc 29 then (6, 0, 0, 30, 0) else (99, 0, 0, 0, 0)) else (bif Nat.beq pc 30 then (16, 0, 34, 0, 0) else (99, 0, 0, 0, 0))) else (bif Nat.ble pc 33 then (bif Nat.beq pc 33 then (0, 0, 0, 34, 0) else (99, 0, 0, 0, 0)) else (bif Nat.beq pc 34 then (8, 3, 1, 37, 0) else (99, 0, 0, 0, 0))))) else (bif Nat.ble pc 42 then (bif Nat.ble pc 38 then (bif Nat.ble pc 37 then (bif Nat.beq pc 37 then (2, 0, 0, 38, 0) else (99, 0, 0, 0, 0)) else (bif Nat.beq pc 38 then (22, 0, 0, 39, 0) else (99, 0, 0, 0, 0))) else (bif Nat.ble pc 39 then (bif Nat.beq pc 39 then (7, 3, 2, 42, 0) else (99, 0, 0, 0, 0)) else (bif Nat.beq pc 42 then (0, 0, 0, 43, 1) else (99, 0, 0, 0, 0)))) else (bif Nat.ble pc 44 then (bif Nat.ble pc 43 then (bif Nat.beq pc 43 then (6, 1, 0, 44, 0) else (99, 0, 0, 0, 0)) else (bif Nat.beq pc 44 then (8, 3, 2, 47, 0) else (99, 0, 0, 0, 0))) else (bif Nat.ble pc 47 then (bif Nat.beq pc 47 then (0, 0, 0, 48, 1) else (99, 0, 0, 0, 0)) else (bif Nat.beq pc 48 then (19, 0, 0, 0, 0) else (99, 0, 0, 0, 0)))))))
def sX3_dropFirst : sw_T := fun _ => []
set_option maxRecDepth 100000 in
theorem kX3_dropFirst : sw_chk cX3_dropFirst flX3 cnX3 sX3_dropFirst 48 tX3_dropFirst = true := by decide +kernel
def tX3_slotAt : Nat → sw_I := fun pc => (bif Nat.ble pc 29 then (bif Nat.ble pc 14 then (bif Nat.ble pc 5 then (bif Nat.ble pc 1 then (bif Nat.ble pc 0 then (bif Nat.beq pc 0 then (2, 0, 0, 1, 0) else (99, 0, 0, 0, 0)) else (bif Nat.beq pc 1 then (7, 3, 1, 4, 0) else (99, 0, 0, 0, 0))) else (bif Nat.ble pc 4 then (bif Nat.beq pc 4 then (1, 1, 0, 5, 0) else (99, 0, 0, 0, 0)) else (bif Nat.beq pc 5 then (6, 0, 0, 6, 0) else (99, 0, 0, 0, 0)))) else (bif Nat.ble pc 7 then (bif Nat.ble pc 6 then (bif Nat.beq pc 6 then (2, 0, 0, 7, 0) else (99, 0, 0, 0, 0)) else (bif Nat.beq pc 7 then (7, 3, 0, 10, 0) else (99, 0, 0, 0, 0))) else (bif Nat.ble pc 10 then (bif Nat.beq pc 10 then (11, 0, 0, 11, 0) else (99, 0, 0, 0, 0)) else (bif Nat.ble pc 11 then (bif Nat.beq pc 11 then (13, 3, 23, 14, 0) else (99, 0, 0, 0, 0)) else (bif Nat.beq pc 14 then (2, 0, 0, 15, 0) else (99, 0, 0, 0, 0)))))) else (bif Nat.ble pc 20 then (bif Nat.ble pc 18 then (bif Nat.ble pc 15 then (bif Nat.beq pc 15 then (7, 3, 1, 18, 0) else (99, 0, 0, 0, 0)) else (bif Nat.beq pc 18 then (1, 1, 0, 19, 0) else (99, 0, 0, 0, 0))) else (bif Nat.ble pc 19 then (bif Nat.beq pc 19 then (6, 0, 0, 20, 0) else (99, 0, 0, 0, 0)) else (bif Nat.beq pc 20 then (16, 0, 35, 0, 0) else (99, 0, 0, 0, 0)))) else (bif Nat.ble pc 24 then (bif Nat.ble pc 23 then (bif Nat.beq pc 23 then (2, 0, 0, 24, 0) else (99, 0, 0, 0, 0)) else (bif Nat.beq pc 24 then (7, 3, 1, 27, 0) else (99, 0, 0, 0, 0))) else (bif Nat.ble pc 27 then (bif Nat.beq pc 27 then (1, 1, 0, 28, 0) else (99, 0, 0, 0, 0)) else (bif Nat.ble pc 28 then (bif Nat.beq pc 28 then (6, 0, 0, 29, 0) else (99, 0, 0, 0, 0)) else (bif Nat.beq pc 29 then (2, 0, 0, 30, 0) else (99, 0, 0, 0, 0))))))) else (bif Nat.ble pc 42 then (bif Nat.ble pc 35 then (bif Nat.ble pc 33 then (bif Nat.ble pc 30 then (bif Nat.beq pc 30 then (7, 3, 0, 33, 0) else (99, 0, 0, 0, 0)) else (bif Nat.beq pc 33 then (11, 0, 0, 34, 0) else (99, 0, 0, 0, 0))) else (bif Nat.ble pc 34 then (bif Nat.beq pc 34 then (6, 1, 0, 35, 0) else (99, 0, 0, 0, 0)) else (bif Nat.beq pc 35 then (3, 2, 0, 36, 0) else (99, 0, 0, 0, 0)))) else (bif Nat.ble pc 37 then (bif Nat.ble pc 36 then (bif Nat.beq pc 36 then (1, 2, 0, 37, 0) else (99, 0, 0, 0, 0)) else (bif Nat.beq pc 37 then (12, 2, 58, 40, 0) else (99, 0, 0, 0, 0))) else (bif Nat.ble pc 40 then (bif Nat.beq pc 40 then (1, 2, 0, 41, 0) else (99, 0, 0, 0, 0)) else (bif Nat.ble pc 41 then (bif Nat.beq pc 41 then (2, 0, 0, 42, 0) else (99, 0, 0, 0, 0)) else (bif Nat.beq pc 42 then (7, 3, 0, 45, 0) else (99, 0, 0, 0, 0)))))) else (bif Nat.ble pc 50 then (bif Nat.ble pc 46 then (bif Nat.ble pc 45 then (bif Nat.beq pc 45 then (11, 0, 0, 46, 0) else (99, 0, 0, 0, 0)) else (bif Nat.beq pc 46 then (13, 3, 58, 49, 0) else (99, 0, 0, 0, 0))) else (bif Nat.ble pc 49 then (bif Nat.beq pc 49 then (2, 0, 0, 50, 0) else (99, 0, 0, 0, 0)) else (bif Nat.beq pc 50 then (7, 3, 0, 53, 0) else (99, 0, 0, 0, 0)))) else (bif Nat.ble pc 54 then (bif Nat.ble pc 53 then (bif Nat.beq pc 53 then (1, 2, 0, 54, 0) else (99, 0, 0, 0, 0)) else (bif Nat.beq pc 54 then (9, 2, 0, 55, 0) else (99, 0, 0, 0, 0))) else (bif Nat.ble pc 55 then (bif Nat.beq pc 55 then (16, 0, 59, 0, 0) else (99, 0, 0, 0, 0)) else (bif Nat.ble pc 58 then (bif Nat.beq pc 58 then (25, 0, 0, 59, 0) else (99, 0, 0, 0, 0)) else (bif Nat.beq pc 59 then (20, 0, 0, 0, 0) else (99, 0, 0, 0, 0))))))))
def sX3_slotAt : sw_T := fun _ => []
set_option maxRecDepth 100000 in
theorem kX3_slotAt : sw_chk cX3_slotAt flX3 cnX3 sX3_slotAt 59 tX3_slotAt = true := by decide +kernel
def tX4_longestFrame : Nat → sw_I := fun pc => (bif Nat.ble pc 1 then (bif Nat.ble pc 0 then (bif Nat.beq pc 0 then (2, 0, 0, 1, 0) else (99, 0, 0, 0, 0)) else (bif Nat.beq pc 1 then (7, 4, 1, 4, 0) else (99, 0, 0, 0, 0))) else (bif Nat.ble pc 4 then (bif Nat.beq pc 4 then (0, 0, 0, 5, 3) else (99, 0, 0, 0, 0)) else (bif Nat.ble pc 5 then (bif Nat.beq pc 5 then (6, 0, 0, 6, 0) else (99, 0, 0, 0, 0)) else (bif Nat.beq pc 6 then (19, 0, 0, 0, 0) else (99, 0, 0, 0, 0)))))
def sX4_longestFrame : sw_T := fun _ => []
set_option maxRecDepth 100000 in
theorem kX4_longestFrame : sw_chk cX4_longestFrame flX4 cnX4 sX4_longestFrame 6 tX4_longestFrame = true := by decide +kernel
def tX4_numberBehind : Nat → sw_I := fun pc => (bif Nat.ble pc 9 then (bif Nat.ble pc 3 then (bif Nat.ble pc 1 then (bif Nat.ble pc 0 then (bif Nat.beq pc 0 then (1, 1, 0, 1, 0) else (99, 0, 0, 0, 0)) else (bif Nat.beq pc 1 then (1, 2, 0, 2, 0) else (99, 0, 0, 0, 0))) else (bif Nat.ble pc 2 then (bif Nat.beq pc 2 then (6, 0, 0, 3, 0) else (99, 0, 0, 0, 0)) else (bif Nat.beq pc 3 then (3, 3, 0, 4, 0) else (99, 0, 0, 0, 0)))) else (bif Nat.ble pc 5 then (bif Nat.ble pc 4 then (bif Nat.beq pc 4 then (1, 3, 0, 5, 0) else (99, 0, 0, 0, 0)) else (bif Nat.beq pc 5 then (2, 0, 0, 6, 0) else (99, 0, 0, 0, 0))) else (bif Nat.ble pc 6 then (bif Nat.beq pc 6 then (7, 4, 2, 9, 0) else (99, 0, 0, 0, 0)) else (bif Nat.beq pc 9 then (13, 5, 23, 12, 0) else (99, 0, 0, 0, 0))))) else (bif Nat.ble pc 17 then (bif Nat.ble pc 13 then (bif Nat.ble pc 12 then (bif Nat.beq pc 12 then (1, 3, 0, 13, 0) else (99, 0, 0, 0, 0)) else (bif Nat.beq pc 13 then (2, 0, 0, 14, 0) else (99, 0, 0, 0, 0))) else (bif Nat.ble pc 14 then (bif Nat.beq pc 14 then (7, 4, 2, 17, 0) else (99, 0, 0, 0, 0)) else (bif Nat.beq pc 17 then (6, 1, 0, 18, 0) else (99, 0, 0, 0, 0)))) else (bif Nat.ble pc 19 then (bif Nat.ble pc 18 then (bif Nat.beq pc 18 then (0, 0, 0, 19, 1) else (99, 0, 0, 0, 0)) else (bif Nat.beq pc 19 then (6, 1, 0, 20, 0) else (99, 0, 0, 0, 0))) else (bif Nat.ble pc 20 then (bif Nat.beq pc 20 then (16, 0, 24, 0, 0) else (99, 0, 0, 0, 0)) else (bif Nat.ble pc 23 then (bif Nat.beq pc 23 then (1, 3, 0, 24, 0) else (99, 0, 0, 0, 0)) else (bif Nat.beq pc 24 then (19, 0, 0, 0, 0) else (99, 0, 0, 0, 0)))))))
def sX4_numberBehind : sw_T := fun _ => []
set_option maxRecDepth 100000 in
theorem kX4_numberBehind : sw_chk cX4_numberBehind flX4 cnX4 sX4_numberBehind 24 tX4_numberBehind = true := by decide +kernel
def tX4_stepsBetween : Nat → sw_I := fun pc => (bif Nat.ble pc 11 then (bif Nat.ble pc 5 then (bif Nat.ble pc 1 then (bif Nat.ble pc 0 then (bif Nat.beq pc 0 then (1, 2, 0, 1, 0) else (99, 0, 0, 0, 0)) else (bif Nat.beq pc 1 then (1, 1, 0, 2, 0) else (99, 0, 0, 0, 0))) else (bif Nat.ble pc 2 then (bif Nat.beq pc 2 then (13, 2, 11, 5, 0) else (99, 0, 0, 0, 0)) else (bif Nat.beq pc 5 then (1, 2, 0, 6, 0) else (99, 0, 0, 0, 0)))) else (bif Nat.ble pc 7 then (bif Nat.ble pc 6 then (bif Nat.beq pc 6 then (1, 1, 0, 7, 0) else (99, 0, 0, 0, 0)) else (bif Nat.beq pc 7 then (6, 1, 0, 8, 0) else (99, 0, 0, 0, 0))) else (bif Nat.ble pc 8 then (bif Nat.beq pc 8 then (16, 0, 21, 0, 0) else (99, 0, 0, 0, 0)) else (bif Nat.beq pc 11 then (1, 2, 0, 12, 0) else (99, 0, 0, 0, 0))))) else (bif Nat.ble pc 15 then (bif Nat.ble pc 13 then (bif Nat.ble pc 12 then (bif Nat.beq pc 12 then (1, 1, 0, 13, 0) else (99, 0, 0, 0, 0)) else (bif Nat.beq pc 13 then (6, 1, 0, 14, 0) else (99, 0, 0, 0, 0))) else (bif Nat.ble pc 14 then (bif Nat.beq pc 14 then (2, 0, 0, 15, 0) else (99, 0, 0, 0, 0)) else (bif Nat.beq pc 15 then (7, 4, 2, 18, 0) else (99, 0, 0, 0, 0)))) else (bif Nat.ble pc 19 then (bif Nat.ble pc 18 then (bif Nat.beq pc 18 then (6, 0, 0, 19, 0) else (99, 0, 0, 0, 0)) else (bif Nat.beq pc 19 then (0, 0, 0, 20, 1) else (99, 0, 0, 0, 0))) else (bif Nat.ble pc 20 then (bif Nat.beq pc 20 then (6, 0, 0, 21, 0) else (99, 0, 0, 0, 0)) else (bif Nat.beq pc 21 then (19, 0, 0, 0, 0) else (99, 0, 0, 0, 0))))))
def sX4_stepsBetween : sw_T := fun _ => []
set_option maxRecDepth 100000 in
theorem kX4_stepsBetween : sw_chk cX4_stepsBetween flX4 cnX4 sX4_stepsBetween 21 tX4_stepsBetween = true := by decide +kernel
def tX5_size : Nat → sw_I := fun pc => (bif Nat.ble pc 0 then (bif Nat.beq pc 0 then (2, 0, 0, 1, 0) else (99, 0, 0, 0, 0)) else (bif Nat.ble pc 1 then (bif Nat.beq pc 1 then (7, 5, 3, 4, 0) else (99, 0, 0, 0, 0)) else (bif Nat.beq pc 4 then (19, 0, 0, 0, 0) else (99, 0, 0, 0, 0))))
def sX5_size : sw_T := fun _ => []
set_option maxRecDepth 100000 in
theorem kX5_size : sw_chk cX5_size flX5 cnX5 sX5_size 4 tX5_size = true := by decide +kernel
def tX5_put : Nat → sw_I := fun pc => (bif Nat.ble pc 25 then (bif Nat.ble pc 11 then (bif Nat.ble pc 5 then (bif Nat.ble pc 1 then (bif Nat.ble pc 0 then (bif Nat.beq pc 0 then (2, 0, 0, 1, 0) else (99, 0, 0, 0, 0)) else (bif Nat.beq pc 1 then (7, 5, 0, 4, 0) else (99, 0, 0, 0, 0))) else (bif Nat.ble pc 4 then (bif Nat.beq pc 4 then (1, 1, 0, 5, 0) else (99, 0, 0, 0, 0)) else (bif Nat.beq pc 5 then (1, 2, 0, 6, 0) else (99, 0, 0, 0, 0)))) else (bif Nat.ble pc 9 then (bif Nat.ble pc 6 then (bif Nat.beq pc 6 then (18, 25, 0, 9, 0) else (99, 0, 0, 0, 0)) else (bif Nat.beq pc 9 then (3, 3, 0, 10, 0) else (99, 0, 0, 0, 0))) else (bif Nat.ble pc 10 then (bif Nat.beq pc 10 then (1, 3, 0, 11, 0) else (99, 0, 0, 0, 0)) else (bif Nat.beq pc 11 then (0, 0, 0, 12, (-1)) else (99, 0, 0, 0, 0))))) else (bif Nat.ble pc 17 then (bif Nat.ble pc 15 then (bif Nat.ble pc 12 then (bif Nat.beq pc 12 then (13, 1, 16, 15, 0) else (99, 0, 0, 0, 0)) else (bif Nat.beq pc 15 then (21, 0, 0, 0, 0) else (99, 0, 0, 0, 0))) else (bif Nat.ble pc 16 then (bif Nat.beq pc 16 then (2, 0, 0, 17, 0) else (99, 0, 0, 0, 0)) else (bif Nat.beq pc 17 then (7, 5, 3, 20, 0) else (99, 0, 0, 0, 0)))) else (bif Nat.ble pc 23 then (bif Nat.ble pc 20 then (bif Nat.beq pc 20 then (12, 1, 31, 23, 0) else (99, 0, 0, 0, 0)) else (bif Nat.beq pc 23 then (2, 0, 0, 24, 0) else (99, 0, 0, 0, 0))) else (bif Nat.ble pc 24 then (bif Nat.beq pc 24 then (1, 3, 0, 25, 0) else (99, 0, 0, 0, 0)) else (bif Nat.beq pc 25 then (8, 5, 1, 28, 0) else (99, 0, 0, 0, 0)))))) else (bif Nat.ble pc 43 then (bif Nat.ble pc 35 then (bif Nat.ble pc 31 then (bif Nat.ble pc 28 then (bif Nat.beq pc 28 then (16, 0, 43, 0, 0) else (99, 0, 0, 0, 0)) else (bif Nat.beq pc 31 then (2, 0, 0, 32, 0) else (99, 0, 0, 0, 0))) else (bif Nat.ble pc 32 then (bif Nat.beq pc 32 then (7, 5, 0, 35, 0) else (99, 0, 0, 0, 0)) else (bif Nat.beq pc 35 then (2, 0, 0, 36, 0) else (99, 0, 0, 0, 0)))) else (bif Nat.ble pc 39 then (bif Nat.ble pc 36 then (bif Nat.beq pc 36 then (7, 5, 2, 39, 0) else (99, 0, 0, 0, 0)) else (bif Nat.beq pc 39 then (1, 3, 0, 40, 0) else (99, 0, 0, 0, 0))) else (bif Nat.ble pc 40 then (bif Nat.beq pc 40 then (18, 29, 0, 43, 0) else (99, 0, 0, 0, 0)) else (bif Nat.beq pc 43 then (2, 0, 0, 44, 0) else (99, 0, 0, 0, 0))))) else (bif Nat.ble pc 49 then (bif Nat.ble pc 45 then (bif Nat.ble pc 44 then (bif Nat.beq pc 44 then (1, 3, 0, 45, 0) else (99, 0, 0, 0, 0)) else (bif Nat.beq pc 45 then (8, 5, 2, 48, 0) else (99, 0, 0, 0, 0))) else (bif Nat.ble pc 48 then (bif Nat.beq pc 48 then (2, 0, 0, 49, 0) else (99, 0, 0, 0, 0)) else (bif Nat.beq pc 49 then (22, 0, 0, 50, 0) else (99, 0, 0, 0, 0)))) else (bif Nat.ble pc 53 then (bif Nat.ble pc 50 then (bif Nat.beq pc 50 then (7, 5, 3, 53, 0) else (99, 0, 0, 0, 0)) else (bif Nat.beq pc 53 then (0, 0, 0, 54, 1) else (99, 0, 0, 0, 0))) else (bif Nat.ble pc 54 then (bif Nat.beq pc 54 then (6, 0, 0, 55, 0) else (99, 0, 0, 0, 0)) else (bif Nat.ble pc 55 then (bif Nat.beq pc 55 then (8, 5, 3, 58, 0) else (99, 0, 0, 0, 0)) else (bif Nat.beq pc 58 then (21, 0, 0, 0, 0) else (99, 0, 0, 0, 0))))))))
def sX5_put : sw_T := fun _ => []
set_option maxRecDepth 100000 in
theorem kX5_put : sw_chk cX5_put flX5 cnX5 sX5_put 58 tX5_put = true := by decide +kernel
def tX5_oldestWord : Nat → sw_I := fun pc => (bif Nat.ble pc 8 then (bif Nat.ble pc 1 then (bif Nat.ble pc 0 then (bif Nat.beq pc 0 then (2, 0, 0, 1, 0) else (99, 0, 0, 0, 0)) else (bif Nat.beq pc 1 then (7, 5, 3, 4, 0) else (99, 0, 0, 0, 0))) else (bif Nat.ble pc 4 then (bif Nat.beq pc 4 then (12, 5, 21, 7, 0) else (99, 0, 0, 0, 0)) else (bif Nat.ble pc 7 then (bif Nat.beq pc 7 then (2, 0, 0, 8, 0) else (99, 0, 0, 0, 0)) else (bif Nat.beq pc 8 then (7, 5, 0, 11, 0) else (99, 0, 0, 0, 0))))) else (bif Nat.ble pc 15 then (bif Nat.ble pc 11 then (bif Nat.beq pc 11 then (2, 0, 0, 12, 0) else (99, 0, 0, 0, 0)) else (bif Nat.ble pc 12 then (bif Nat.beq pc 12 then (7, 5, 1, 15, 0) else (99, 0, 0, 0, 0)) else (bif Nat.beq pc 15 then (18, 33, 0, 18, 0) else (99, 0, 0, 0, 0)))) else (bif Nat.ble pc 18 then (bif Nat.beq pc 18 then (16, 0, 22, 0, 0) else (99, 0, 0, 0, 0)) else (bif Nat.ble pc 21 then (bif Nat.beq pc 21 then (0, 0, 0, 22, 0) else (99, 0, 0, 0, 0)) else (bif Nat.beq pc 22 then (19, 0, 0, 0, 0) else (99, 0, 0, 0, 0))))))
def sX5_oldestWord : sw_T := fun _ => []
set_option maxRecDepth 100000 in
theorem kX5_oldestWord : sw_chk cX5_oldestWord flX5 cnX5 sX5_oldestWord 22 tX5_oldestWord = true := by decide +kernel
def tX5_oldestIsMark : Nat → sw_I := fun pc => (bif Nat.ble pc 11 then (bif Nat.ble pc 4 then (bif Nat.ble pc 0 then (bif Nat.beq pc 0 then (2, 0, 0, 1, 0) else (99, 0, 0, 0, 0)) else (bif Nat.ble pc 1 then (bif Nat.beq pc 1 then (7, 5, 3, 4, 0) else (99, 0, 0, 0, 0)) else (bif Nat.beq pc 4 then (12, 5, 25, 7, 0) else (99, 0, 0, 0, 0)))) else (bif Nat.ble pc 7 then (bif Nat.beq pc 7 then (2, 0, 0, 8, 0) else (99, 0, 0, 0, 0)) else (bif Nat.ble pc 8 then (bif Nat.beq pc 8 then (7, 5, 0, 11, 0) else (99, 0, 0, 0, 0)) else (bif Nat.beq pc 11 then (2, 0, 0, 12, 0) else (99, 0, 0, 0, 0))))) else (bif Nat.ble pc 18 then (bif Nat.ble pc 12 then (bif Nat.beq pc 12 then (7, 5, 1, 15, 0) else (99, 0, 0, 0, 0)) else (bif Nat.ble pc 15 then (bif Nat.beq pc 15 then (18, 37, 0, 18, 0) else (99, 0, 0, 0, 0)) else (bif Nat.beq pc 18 then (12, 0, 25, 21, 0) else (99, 0, 0, 0, 0)))) else (bif Nat.ble pc 22 then (bif Nat.ble pc 21 then (bif Nat.beq pc 21 then (0, 0, 0, 22, 1) else (99, 0, 0, 0, 0)) else (bif Nat.beq pc 22 then (16, 0, 26, 0, 0) else (99, 0, 0, 0, 0))) else (bif Nat.ble pc 25 then (bif Nat.beq pc 25 then (0, 0, 0, 26, 0) else (99, 0, 0, 0, 0)) else (bif Nat.beq pc 26 then (19, 0, 0, 0, 0) else (99, 0, 0, 0, 0))))))
def sX5_oldestIsMark : sw_T := fun _ => []
set_option maxRecDepth 100000 in
theorem kX5_oldestIsMark : sw_chk cX5_oldestIsMark flX5 cnX5 sX5_oldestIsMark 26 tX5_oldestIsMark = true := by decide +kernel
def tX5_dropOldest : Nat → sw_I := fun pc => (bif Nat.ble pc 13 then (bif Nat.ble pc 7 then (bif Nat.ble pc 1 then (bif Nat.ble pc 0 then (bif Nat.beq pc 0 then (2, 0, 0, 1, 0) else (99, 0, 0, 0, 0)) else (bif Nat.beq pc 1 then (7, 5, 3, 4, 0) else (99, 0, 0, 0, 0))) else (bif Nat.ble pc 4 then (bif Nat.beq pc 4 then (12, 5, 32, 7, 0) else (99, 0, 0, 0, 0)) else (bif Nat.beq pc 7 then (2, 0, 0, 8, 0) else (99, 0, 0, 0, 0)))) else (bif Nat.ble pc 9 then (bif Nat.ble pc 8 then (bif Nat.beq pc 8 then (2, 0, 0, 9, 0) else (99, 0, 0, 0, 0)) else (bif Nat.beq pc 9 then (7, 5, 0, 12, 0) else (99, 0, 0, 0, 0))) else (bif Nat.ble pc 12 then (bif Nat.beq pc 12 then (2, 0, 0, 13, 0) else (99, 0, 0, 0, 0)) else (bif Nat.beq pc 13 then (7, 5, 1, 16, 0) else (99, 0, 0, 0, 0))))) else (bif Nat.ble pc 23 then (bif Nat.ble pc 19 then (bif Nat.ble pc 16 then (bif Nat.beq pc 16 then (18, 41, 0, 19, 0) else (99, 0, 0, 0, 0)) else (bif Nat.beq pc 19 then (8, 5, 1, 22, 0) else (99, 0, 0, 0, 0))) else (bif Nat.ble pc 22 then (bif Nat.beq pc 22 then (2, 0, 0, 23, 0) else (99, 0, 0, 0, 0)) else (bif Nat.beq pc 23 then (22, 0, 0, 24, 0) else (99, 0, 0, 0, 0)))) else (bif Nat.ble pc 27 then (bif Nat.ble pc 24 then (bif Nat.beq pc 24 then (7, 5, 3, 27, 0) else (99, 0, 0, 0, 0)) else (bif Nat.beq pc 27 then (0, 0, 0, 28, 1) else (99, 0, 0, 0, 0))) else (bif Nat.ble pc 28 then (bif Nat.beq pc 28 then (6, 1, 0, 29, 0) else (99, 0, 0, 0, 0)) else (bif Nat.ble pc 29 then (bif Nat.beq pc 29 then (8, 5, 3, 32, 0) else (99, 0, 0, 0, 0)) else (bif Nat.beq pc 32 then (21, 0, 0, 0, 0) else (99, 0, 0, 0, 0)))))))
def sX5_dropOldest : sw_T := fun _ => []
set_option maxRecDepth 100000 in
theorem kX5_dropOldest : sw_chk cX5_dropOldest flX5 cnX5 sX5_dropOldest 32 tX5_dropOldest = true := by decide +kernel
def tX6_flowAt : Nat → sw_I := fun pc => (bif Nat.ble pc 10 then (bif Nat.ble pc 4 then (bif Nat.ble pc 0 then (bif Nat.beq pc 0 then (1, 1, 0, 1, 0) else (99, 0, 0, 0, 0)) else (bif Nat.ble pc 1 then (bif Nat.beq pc 1 then (12, 2, 22, 4, 0) else (99, 0, 0, 0, 0)) else (bif Nat.beq pc 4 then (1, 1, 0, 5, 0) else (99, 0, 0, 0, 0)))) else (bif Nat.ble pc 6 then (bif Nat.ble pc 5 then (bif Nat.beq pc 5 then (2, 0, 0, 6, 0) else (99, 0, 0, 0, 0)) else (bif Nat.beq pc 6 then (7, 6, 1, 9, 0) else (99, 0, 0, 0, 0))) else (bif Nat.ble pc 9 then (bif Nat.beq pc 9 then (11, 0, 0, 10, 0) else (99, 0, 0, 0, 0)) else (bif Nat.beq pc 10 then (13, 3, 22, 13, 0) else (99, 0, 0, 0, 0))))) else (bif Nat.ble pc 17 then (bif Nat.ble pc 13 then (bif Nat.beq pc 13 then (2, 0, 0, 14, 0) else (99, 0, 0, 0, 0)) else (bif Nat.ble pc 14 then (bif Nat.beq pc 14 then (7, 6, 1, 17, 0) else (99, 0, 0, 0, 0)) else (bif Nat.beq pc 17 then (1, 1, 0, 18, 0) else (99, 0, 0, 0, 0)))) else (bif Nat.ble pc 19 then (bif Nat.ble pc 18 then (bif Nat.beq pc 18 then (9, 2, 0, 19, 0) else (99, 0, 0, 0, 0)) else (bif Nat.beq pc 19 then (16, 0, 23, 0, 0) else (99, 0, 0, 0, 0))) else (bif Nat.ble pc 22 then (bif Nat.beq pc 22 then (25, 0, 0, 23, 0) else (99, 0, 0, 0, 0)) else (bif Nat.beq pc 23 then (20, 0, 0, 0, 0) else (99, 0, 0, 0, 0))))))
def sX6_flowAt : sw_T := fun _ => []
set_option maxRecDepth 100000 in
theorem kX6_flowAt : sw_chk cX6_flowAt flX6 cnX6 sX6_flowAt 23 tX6_flowAt = true := by decide +kernel
def tX6_queueItem : Nat → sw_I := fun pc => (bif Nat.ble pc 14 then (bif Nat.ble pc 5 then (bif Nat.ble pc 1 then (bif Nat.ble pc 0 then (bif Nat.beq pc 0 then (2, 1, 0, 1, 0) else (99, 0, 0, 0, 0)) else (bif Nat.beq pc 1 then (7, 1, 3, 4, 0) else (99, 0, 0, 0, 0))) else (bif Nat.ble pc 4 then (bif Nat.beq pc 4 then (0, 0, 0, 5, 1) else (99, 0, 0, 0, 0)) else (bif Nat.beq pc 5 then (13, 0, 10, 8, 0) else (99, 0, 0, 0, 0)))) else (bif Nat.ble pc 9 then (bif Nat.ble pc 8 then (bif Nat.beq pc 8 then (0, 0, 0, 9, 0) else (99, 0, 0, 0, 0)) else (bif Nat.beq pc 9 then (19, 0, 0, 0, 0) else (99, 0, 0, 0, 0))) else (bif Nat.ble pc 10 then (bif Nat.beq pc 10 then (2, 0, 0, 11, 0) else (99, 0, 0, 0, 0)) else (bif Nat.ble pc 11 then (bif Nat.beq pc 11 then (18, 76, 0, 14, 0) else (99, 0, 0, 0, 0)) else (bif Nat.beq pc 14 then (12, 1, 19, 17, 0) else (99, 0, 0, 0, 0)))))) else (bif Nat.ble pc 20 then (bif Nat.ble pc 18 then (bif Nat.ble pc 17 then (bif Nat.beq pc 17 then (0, 0, 0, 18, 2) else (99, 0, 0, 0, 0)) else (bif Nat.beq pc 18 then (19, 0, 0, 0, 0) else (99, 0, 0, 0, 0))) else (bif Nat.ble pc 19 then (bif Nat.beq pc 19 then (2, 1, 0, 20, 0) else (99, 0, 0, 0, 0)) else (bif Nat.beq pc 20 then (7, 1, 0, 23, 0) else (99, 0, 0, 0, 0)))) else (bif Nat.ble pc 24 then (bif Nat.ble pc 23 then (bif Nat.beq pc 23 then (1, 2, 0, 24, 0) else (99, 0, 0, 0, 0)) else (bif Nat.beq pc 24 then (1, 3, 0, 25, 0) else (99, 0, 0, 0, 0))) else (bif Nat.ble pc 25 then (bif Nat.beq pc 25 then (18, 83, 0, 28, 0) else (99, 0, 0, 0, 0)) else (bif Nat.ble pc 28 then (bif Nat.beq pc 28 then (0, 0, 0, 29, 1) else (99, 0, 0, 0, 0)) else (bif Nat.beq pc 29 then (19, 0, 0, 0, 0) else (99, 0, 0, 0, 0)))))))
def sX6_queueItem : sw_T := fun _ => []
set_option maxRecDepth 100000 in
theorem kX6_queueItem : sw_chk cX6_queueItem flX6 cnX6 sX6_queueItem 29 tX6_queueItem = true := by decide +kernel
def tX6_takeItem : Nat → sw_I := fun pc => (bif Nat.ble pc 32 then (bif Nat.ble pc 13 then (bif Nat.ble pc 7 then (bif Nat.ble pc 1 then (bif Nat.ble pc 0 then (bif Nat.beq pc 0 then (2, 1, 0, 1, 0) else (99, 0, 0, 0, 0)) else (bif Nat.beq pc 1 then (7, 1, 3, 4, 0) else (99, 0, 0, 0, 0))) else (bif Nat.ble pc 4 then (bif Nat.beq pc 4 then (12, 1, 9, 7, 0) else (99, 0, 0, 0, 0)) else (bif Nat.beq pc 7 then (0, 0, 0, 8, 0) else (99, 0, 0, 0, 0)))) else (bif Nat.ble pc 9 then (bif Nat.ble pc 8 then (bif Nat.beq pc 8 then (19, 0, 0, 0, 0) else (99, 0, 0, 0, 0)) else (bif Nat.beq pc 9 then (2, 1, 0, 10, 0) else (99, 0, 0, 0, 0))) else (bif Nat.ble pc 10 then (bif Nat.beq pc 10 then (7, 1, 1, 13, 0) else (99, 0, 0, 0, 0)) else (bif Nat.beq pc 13 then (18, 92, 0, 16, 0) else (99, 0, 0, 0, 0))))) else (bif Nat.ble pc 23 then (bif Nat.ble pc 19 then (bif Nat.ble pc 16 then (bif Nat.beq pc 16 then (12, 1, 32, 19, 0) else (99, 0, 0, 0, 0)) else (bif Nat.beq pc 19 then (2, 1, 0, 20, 0) else (99, 0, 0, 0, 0))) else (bif Nat.ble pc 20 then (bif Nat.beq pc 20 then (18, 95, 0, 23, 0) else (99, 0, 0, 0, 0)) else (bif Nat.beq pc 23 then (12, 0, 30, 26, 0) else (99, 0, 0, 0, 0)))) else (bif Nat.ble pc 27 then (bif Nat.ble pc 26 then (bif Nat.beq pc 26 then (0, 0, 0, 27, 4) else (99, 0, 0, 0, 0)) else (bif Nat.beq pc 27 then (16, 0, 31, 0, 0) else (99, 0, 0, 0, 0))) else (bif Nat.ble pc 30 then (bif Nat.beq pc 30 then (0, 0, 0, 31, 3) else (99, 0, 0, 0, 0)) else (bif Nat.ble pc 31 then (bif Nat.beq pc 31 then (19, 0, 0, 0, 0) else (99, 0, 0, 0, 0)) else (bif Nat.beq pc 32 then (2, 1, 0, 33, 0) else (99, 0, 0, 0, 0))))))) else (bif Nat.ble pc 49 then (bif Nat.ble pc 40 then (bif Nat.ble pc 36 then (bif Nat.ble pc 33 then (bif Nat.beq pc 33 then (7, 1, 1, 36, 0) else (99, 0, 0, 0, 0)) else (bif Nat.beq pc 36 then (18, 99, 0, 39, 0) else (99, 0, 0, 0, 0))) else (bif Nat.ble pc 39 then (bif Nat.beq pc 39 then (3, 2, 0, 40, 0) else (99, 0, 0, 0, 0)) else (bif Nat.beq pc 40 then (1, 2, 0, 41, 0) else (99, 0, 0, 0, 0)))) else (bif Nat.ble pc 44 then (bif Nat.ble pc 41 then (bif Nat.beq pc 41 then (12, 1, 55, 44, 0) else (99, 0, 0, 0, 0)) else (bif Nat.beq pc 44 then (2, 0, 0, 45, 0) else (99, 0, 0, 0, 0))) else (bif Nat.ble pc 45 then (bif Nat.beq pc 45 then (2, 1, 0, 46, 0) else (99, 0, 0, 0, 0)) else (bif Nat.ble pc 46 then (bif Nat.beq pc 46 then (7, 1, 1, 49, 0) else (99, 0, 0, 0, 0)) else (bif Nat.beq pc 49 then (18, 102, 0, 52, 0) else (99, 0, 0, 0, 0)))))) else (bif Nat.ble pc 59 then (bif Nat.ble pc 55 then (bif Nat.ble pc 52 then (bif Nat.beq pc 52 then (8, 6, 10, 55, 0) else (99, 0, 0, 0, 0)) else (bif Nat.beq pc 55 then (2, 1, 0, 56, 0) else (99, 0, 0, 0, 0))) else (bif Nat.ble pc 56 then (bif Nat.beq pc 56 then (18, 108, 0, 59, 0) else (99, 0, 0, 0, 0)) else (bif Nat.beq pc 59 then (1, 2, 0, 60, 0) else (99, 0, 0, 0, 0)))) else (bif Nat.ble pc 63 then (bif Nat.ble pc 60 then (bif Nat.beq pc 60 then (12, 0, 67, 63, 0) else (99, 0, 0, 0, 0)) else (bif Nat.beq pc 63 then (0, 0, 0, 64, 2) else (99, 0, 0, 0, 0))) else (bif Nat.ble pc 64 then (bif Nat.beq pc 64 then (16, 0, 68, 0, 0) else (99, 0, 0, 0, 0)) else (bif Nat.ble pc 67 then (bif Nat.beq pc 67 then (0, 0, 0, 68, 1) else (99, 0, 0, 0, 0)) else (bif Nat.beq pc 68 then (19, 0, 0, 0, 0) else (99, 0, 0, 0, 0))))))))
def sX6_takeItem : sw_T := fun _ => []
set_option maxRecDepth 100000 in
theorem kX6_takeItem : sw_chk cX6_takeItem flX6 cnX6 sX6_takeItem 68 tX6_takeItem = true := by decide +kernel
def tX6_freeCells : Nat → sw_I := fun pc => (bif Nat.ble pc 33 then (bif Nat.ble pc 17 then (bif Nat.ble pc 8 then (bif Nat.ble pc 1 then (bif Nat.ble pc 0 then (bif Nat.beq pc 0 then (2, 0, 0, 1, 0) else (99, 0, 0, 0, 0)) else (bif Nat.beq pc 1 then (7, 6, 0, 4, 0) else (99, 0, 0, 0, 0))) else (bif Nat.ble pc 4 then (bif Nat.beq pc 4 then (7, 4, 3, 7, 0) else (99, 0, 0, 0, 0)) else (bif Nat.ble pc 7 then (bif Nat.beq pc 7 then (2, 0, 0, 8, 0) else (99, 0, 0, 0, 0)) else (bif Nat.beq pc 8 then (18, 111, 0, 11, 0) else (99, 0, 0, 0, 0))))) else (bif Nat.ble pc 12 then (bif Nat.ble pc 11 then (bif Nat.beq pc 11 then (6, 1, 0, 12, 0) else (99, 0, 0, 0, 0)) else (bif Nat.beq pc 12 then (3, 1, 0, 13, 0) else (99, 0, 0, 0, 0))) else (bif Nat.ble pc 13 then (bif Nat.beq pc 13 then (2, 0, 0, 14, 0) else (99, 0, 0, 0, 0)) else (bif Nat.ble pc 14 then (bif Nat.beq pc 14 then (7, 6, 1, 17, 0) else (99, 0, 0, 0, 0)) else (bif Nat.beq pc 17 then (4, 2, 0, 18, 0) else (99, 0, 0, 0, 0)))))) else (bif Nat.ble pc 22 then (bif Nat.ble pc 19 then (bif Nat.ble pc 18 then (bif Nat.beq pc 18 then (2, 2, 0, 19, 0) else (99, 0, 0, 0, 0)) else (bif Nat.beq pc 19 then (11, 0, 0, 20, 0) else (99, 0, 0, 0, 0))) else (bif Nat.ble pc 20 then (bif Nat.beq pc 20 then (3, 3, 0, 21, 0) else (99, 0, 0, 0, 0)) else (bif Nat.ble pc 21 then (bif Nat.beq pc 21 then (0, 0, 0, 22, 0) else (99, 0, 0, 0, 0)) else (bif Nat.beq pc 22 then (3, 4, 0, 24, 0) else (99, 0, 0, 0, 0))))) else (bif Nat.ble pc 27 then (bif Nat.ble pc 24 then (bif Nat.beq pc 24 then (1, 4, 0, 26, 0) else (99, 0, 0, 0, 0)) else (bif Nat.ble pc 26 then (bif Nat.beq pc 26 then (1, 3, 0, 27, 0) else (99, 0, 0, 0, 0)) else (bif Nat.beq pc 27 then (13, 3, 71, 30, 0) else (99, 0, 0, 0, 0)))) else (bif Nat.ble pc 30 then (bif Nat.beq pc 30 then (2, 2, 0, 31, 0) else (99, 0, 0, 0, 0)) else (bif Nat.ble pc 31 then (bif Nat.beq pc 31 then (1, 4, 0, 33, 0) else (99, 0, 0, 0, 0)) else (bif Nat.beq pc 33 then (9, 2, 0, 34, 0) else (99, 0, 0, 0, 0))))))) else (bif Nat.ble pc 55 then (bif Nat.ble pc 42 then (bif Nat.ble pc 36 then (bif Nat.ble pc 34 then (bif Nat.beq pc 34 then (4, 5, 0, 36, 0) else (99, 0, 0, 0, 0)) else (bif Nat.beq pc 36 then (1, 1, 0, 37, 0) else (99, 0, 0, 0, 0))) else (bif Nat.ble pc 37 then (bif Nat.beq pc 37 then (2, 5, 0, 39, 0) else (99, 0, 0, 0, 0)) else (bif Nat.ble pc 39 then (bif Nat.beq pc 39 then (7, 1, 0, 42, 0) else (99, 0, 0, 0, 0)) else (bif Nat.beq pc 42 then (18, 92, 0, 45, 0) else (99, 0, 0, 0, 0))))) else (bif Nat.ble pc 47 then (bif Nat.ble pc 45 then (bif Nat.beq pc 45 then (6, 1, 0, 46, 0) else (99, 0, 0, 0, 0)) else (bif Nat.ble pc 46 then (bif Nat.beq pc 46 then (3, 1, 0, 47, 0) else (99, 0, 0, 0, 0)) else (bif Nat.beq pc 47 then (2, 5, 0, 49, 0) else (99, 0, 0, 0, 0)))) else (bif Nat.ble pc 49 then (bif Nat.beq pc 49 then (7, 1, 3, 52, 0) else (99, 0, 0, 0, 0)) else (bif Nat.ble pc 52 then (bif Nat.beq pc 52 then (12, 0, 65, 55, 0) else (99, 0, 0, 0, 0)) else (bif Nat.beq pc 55 then (1, 1, 0, 56, 0) else (99, 0, 0, 0, 0)))))) else (bif Nat.ble pc 64 then (bif Nat.ble pc 57 then (bif Nat.ble pc 56 then (bif Nat.beq pc 56 then (2, 0, 0, 57, 0) else (99, 0, 0, 0, 0)) else (bif Nat.beq pc 57 then (7, 6, 0, 60, 0) else (99, 0, 0, 0, 0))) else (bif Nat.ble pc 60 then (bif Nat.beq pc 60 then (7, 4, 5, 63, 0) else (99, 0, 0, 0, 0)) else (bif Nat.ble pc 63 then (bif Nat.beq pc 63 then (6, 1, 0, 64, 0) else (99, 0, 0, 0, 0)) else (bif Nat.beq pc 64 then (3, 1, 0, 65, 0) else (99, 0, 0, 0, 0))))) else (bif Nat.ble pc 71 then (bif Nat.ble pc 65 then (bif Nat.beq pc 65 then (5, 4, 0, 68, 1) else (99, 0, 0, 0, 0)) else (bif Nat.ble pc 68 then (bif Nat.beq pc 68 then (16, 0, 24, 0, 0) else (99, 0, 0, 0, 0)) else (bif Nat.beq pc 71 then (0, 0, 0, 72, 0) else (99, 0, 0, 0, 0)))) else (bif Nat.ble pc 72 then (bif Nat.beq pc 72 then (1, 1, 0, 73, 0) else (99, 0, 0, 0, 0)) else (bif Nat.ble pc 73 then (bif Nat.beq pc 73 then (18, 114, 1, 76, 0) else (99, 0, 0, 0, 0)) else (bif Nat.beq pc 76 then (19, 0, 0, 0, 0) else (99, 0, 0, 0, 0))))))))
def sX6_freeCells : sw_T := fun _ => []
set_option maxRecDepth 100000 in
theorem kX6_freeCells : sw_chk cX6_freeCells flX6 cnX6 sX6_freeCells 76 tX6_freeCells = true := by decide +kernel
def tX6_itemsOut : Nat → sw_I := fun pc => (bif Nat.ble pc 20 then (bif Nat.ble pc 5 then (bif Nat.ble pc 2 then (bif Nat.ble pc 0 then (bif Nat.beq pc 0 then (0, 0, 0, 1, 0) else (99, 0, 0, 0, 0)) else (bif Nat.ble pc 1 then (bif Nat.beq pc 1 then (3, 1, 0, 2, 0) else (99, 0, 0, 0, 0)) else (bif Nat.beq pc 2 then (0, 0, 0, 3, 0) else (99, 0, 0, 0, 0)))) else (bif Nat.ble pc 3 then (bif Nat.beq pc 3 then (3, 2, 0, 4, 0) else (99, 0, 0, 0, 0)) else (bif Nat.ble pc 4 then (bif Nat.beq pc 4 then (1, 2, 0, 5, 0) else (99, 0, 0, 0, 0)) else (bif Nat.beq pc 5 then (2, 0, 0, 6, 0) else (99, 0, 0, 0, 0))))) else (bif Nat.ble pc 12 then (bif Nat.ble pc 6 then (bif Nat.beq pc 6 then (7, 6, 2, 9, 0) else (99, 0, 0, 0, 0)) else (bif Nat.ble pc 9 then (bif Nat.beq pc 9 then (18, 120, 0, 12, 0) else (99, 0, 0, 0, 0)) else (bif Nat.beq pc 12 then (13, 3, 45, 15, 0) else (99, 0, 0, 0, 0)))) else (bif Nat.ble pc 16 then (bif Nat.ble pc 15 then (bif Nat.beq pc 15 then (2, 0, 0, 16, 0) else (99, 0, 0, 0, 0)) else (bif Nat.beq pc 16 then (7, 6, 2, 19, 0) else (99, 0, 0, 0, 0))) else (bif Nat.ble pc 19 then (bif Nat.beq pc 19 then (1, 2, 0, 20, 0) else (99, 0, 0, 0, 0)) else (bif Nat.beq pc 20 then (18, 121, 0, 23, 0) else (99, 0, 0, 0, 0)))))) else (bif Nat.ble pc 33 then (bif Nat.ble pc 25 then (bif Nat.ble pc 23 then (bif Nat.beq pc 23 then (4, 3, 0, 24, 0) else (99, 0, 0, 0, 0)) else (bif Nat.ble pc 24 then (bif Nat.beq pc 24 then (1, 1, 0, 25, 0) else (99, 0, 0, 0, 0)) else (bif Nat.beq pc 25 then (2, 3, 0, 26, 0) else (99, 0, 0, 0, 0)))) else (bif Nat.ble pc 29 then (bif Nat.ble pc 26 then (bif Nat.beq pc 26 then (15, 0, 33, 29, 0) else (99, 0, 0, 0, 0)) else (bif Nat.beq pc 29 then (0, 0, 0, 30, 0) else (99, 0, 0, 0, 0))) else (bif Nat.ble pc 30 then (bif Nat.beq pc 30 then (16, 0, 37, 0, 0) else (99, 0, 0, 0, 0)) else (bif Nat.beq pc 33 then (2, 3, 0, 34, 0) else (99, 0, 0, 0, 0))))) else (bif Nat.ble pc 38 then (bif Nat.ble pc 34 then (bif Nat.beq pc 34 then (18, 125, 0, 37, 0) else (99, 0, 0, 0, 0)) else (bif Nat.ble pc 37 then (bif Nat.beq pc 37 then (6, 0, 0, 38, 0) else (99, 0, 0, 0, 0)) else (bif Nat.beq pc 38 then (3, 1, 0, 39, 0) else (99, 0, 0, 0, 0)))) else (bif Nat.ble pc 42 then (bif Nat.ble pc 39 then (bif Nat.beq pc 39 then (5, 2, 0, 42, 1) else (99, 0, 0, 0, 0)) else (bif Nat.beq pc 42 then (16, 0, 4, 0, 0) else (99, 0, 0, 0, 0))) else (bif Nat.ble pc 45 then (bif Nat.beq pc 45 then (1, 1, 0, 46, 0) else (99, 0, 0, 0, 0)) else (bif Nat.beq pc 46 then (19, 0, 0, 0, 0) else (99, 0, 0, 0, 0)))))))
def sX6_itemsOut : sw_T := fun _ => []
set_option maxRecDepth 100000 in
theorem kX6_itemsOut : sw_chk cX6_itemsOut flX6 cnX6 sX6_itemsOut 46 tX6_itemsOut = true := by decide +kernel
def tX6_sendNext : Nat → sw_I := fun pc => (bif Nat.ble pc 40 then (bif Nat.ble pc 22 then (bif Nat.ble pc 10 then (bif Nat.ble pc 1 then (bif Nat.ble pc 0 then (bif Nat.beq pc 0 then (2, 0, 0, 1, 0) else (99, 0, 0, 0, 0)) else (bif Nat.beq pc 1 then (7, 6, 3, 4, 0) else (99, 0, 0, 0, 0))) else (bif Nat.ble pc 4 then (bif Nat.beq pc 4 then (18, 128, 0, 7, 0) else (99, 0, 0, 0, 0)) else (bif Nat.ble pc 7 then (bif Nat.beq pc 7 then (12, 1, 12, 10, 0) else (99, 0, 0, 0, 0)) else (bif Nat.beq pc 10 then (0, 0, 0, 11, 0) else (99, 0, 0, 0, 0))))) else (bif Nat.ble pc 13 then (bif Nat.ble pc 11 then (bif Nat.beq pc 11 then (19, 0, 0, 0, 0) else (99, 0, 0, 0, 0)) else (bif Nat.ble pc 12 then (bif Nat.beq pc 12 then (2, 0, 0, 13, 0) else (99, 0, 0, 0, 0)) else (bif Nat.beq pc 13 then (7, 6, 2, 16, 0) else (99, 0, 0, 0, 0)))) else (bif Nat.ble pc 16 then (bif Nat.beq pc 16 then (18, 128, 0, 19, 0) else (99, 0, 0, 0, 0)) else (bif Nat.ble pc 19 then (bif Nat.beq pc 19 then (12, 0, 62, 22, 0) else (99, 0, 0, 0, 0)) else (bif Nat.beq pc 22 then (2, 0, 0, 23, 0) else (99, 0, 0, 0, 0)))))) else (bif Nat.ble pc 30 then (bif Nat.ble pc 26 then (bif Nat.ble pc 23 then (bif Nat.beq pc 23 then (18, 131, 0, 26, 0) else (99, 0, 0, 0, 0)) else (bif Nat.beq pc 26 then (3, 1, 0, 27, 0) else (99, 0, 0, 0, 0))) else (bif Nat.ble pc 27 then (bif Nat.beq pc 27 then (1, 1, 0, 28, 0) else (99, 0, 0, 0, 0)) else (bif Nat.ble pc 28 then (bif Nat.beq pc 28 then (0, 0, 0, 30, (-2)) else (99, 0, 0, 0, 0)) else (bif Nat.beq pc 30 then (13, 0, 42, 33, 0) else (99, 0, 0, 0, 0))))) else (bif Nat.ble pc 35 then (bif Nat.ble pc 33 then (bif Nat.beq pc 33 then (2, 0, 0, 34, 0) else (99, 0, 0, 0, 0)) else (bif Nat.ble pc 34 then (bif Nat.beq pc 34 then (1, 1, 0, 35, 0) else (99, 0, 0, 0, 0)) else (bif Nat.beq pc 35 then (18, 134, 0, 38, 0) else (99, 0, 0, 0, 0)))) else (bif Nat.ble pc 38 then (bif Nat.beq pc 38 then (0, 0, 0, 39, 1) else (99, 0, 0, 0, 0)) else (bif Nat.ble pc 39 then (bif Nat.beq pc 39 then (1, 1, 0, 40, 0) else (99, 0, 0, 0, 0)) else (bif Nat.beq pc 40 then (6, 0, 0, 41, 0) else (99, 0, 0, 0, 0))))))) else (bif Nat.ble pc 58 then (bif Nat.ble pc 47 then (bif Nat.ble pc 42 then (bif Nat.ble pc 41 then (bif Nat.beq pc 41 then (19, 0, 0, 0, 0) else (99, 0, 0, 0, 0)) else (bif Nat.beq pc 42 then (2, 0, 0, 43, 0) else (99, 0, 0, 0, 0))) else (bif Nat.ble pc 43 then (bif Nat.beq pc 43 then (18, 137, 0, 46, 0) else (99, 0, 0, 0, 0)) else (bif Nat.ble pc 46 then (bif Nat.beq pc 46 then (3, 2, 0, 47, 0) else (99, 0, 0, 0, 0)) else (bif Nat.beq pc 47 then (1, 2, 0, 48, 0) else (99, 0, 0, 0, 0))))) else (bif Nat.ble pc 53 then (bif Nat.ble pc 48 then (bif Nat.beq pc 48 then (0, 0, 0, 50, (-2)) else (99, 0, 0, 0, 0)) else (bif Nat.ble pc 50 then (bif Nat.beq pc 50 then (13, 0, 62, 53, 0) else (99, 0, 0, 0, 0)) else (bif Nat.beq pc 53 then (2, 0, 0, 54, 0) else (99, 0, 0, 0, 0)))) else (bif Nat.ble pc 54 then (bif Nat.beq pc 54 then (1, 2, 0, 55, 0) else (99, 0, 0, 0, 0)) else (bif Nat.ble pc 55 then (bif Nat.beq pc 55 then (18, 140, 0, 58, 0) else (99, 0, 0, 0, 0)) else (bif Nat.beq pc 58 then (0, 0, 0, 59, 1) else (99, 0, 0, 0, 0)))))) else (bif Nat.ble pc 66 then (bif Nat.ble pc 61 then (bif Nat.ble pc 59 then (bif Nat.beq pc 59 then (1, 2, 0, 60, 0) else (99, 0, 0, 0, 0)) else (bif Nat.ble pc 60 then (bif Nat.beq pc 60 then (6, 0, 0, 61, 0) else (99, 0, 0, 0, 0)) else (bif Nat.beq pc 61 then (19, 0, 0, 0, 0) else (99, 0, 0, 0, 0)))) else (bif Nat.ble pc 62 then (bif Nat.beq pc 62 then (2, 0, 0, 63, 0) else (99, 0, 0, 0, 0)) else (bif Nat.ble pc 63 then (bif Nat.beq pc 63 then (7, 6, 9, 66, 0) else (99, 0, 0, 0, 0)) else (bif Nat.beq pc 66 then (12, 1, 71, 69, 0) else (99, 0, 0, 0, 0))))) else (bif Nat.ble pc 71 then (bif Nat.ble pc 69 then (bif Nat.beq pc 69 then (0, 0, 0, 70, 0) else (99, 0, 0, 0, 0)) else (bif Nat.ble pc 70 then (bif Nat.beq pc 70 then (19, 0, 0, 0, 0) else (99, 0, 0, 0, 0)) else (bif Nat.beq pc 71 then (2, 0, 0, 72, 0) else (99, 0, 0, 0, 0)))) else (bif Nat.ble pc 72 then (bif Nat.beq pc 72 then (18, 147, 0, 75, 0) else (99, 0, 0, 0, 0)) else (bif Nat.ble pc 75 then (bif Nat.beq pc 75 then (0, 0, 0, 77, 50) else (99, 0, 0, 0, 0)) else (bif Nat.beq pc 77 then (19, 0, 0, 0, 0) else (99, 0, 0, 0, 0))))))))
def sX6_sendNext : sw_T := fun _ => []
set_option maxRecDepth 100000 in
theorem kX6_sendNext : sw_chk cX6_sendNext flX6 cnX6 sX6_sendNext 77 tX6_sendNext = true := by decide +kernel
def tX6_streamToGrant : Nat → sw_I := fun pc => (bif Nat.ble pc 12 then (bif Nat.ble pc 3 then (bif Nat.ble pc 1 then (bif Nat.ble pc 0 then (bif Nat.beq pc 0 then (0, 0, 0, 1, 0) else (99, 0, 0, 0, 0)) else (bif Nat.beq pc 1 then (3, 1, 0, 2, 0) else (99, 0, 0, 0, 0))) else (bif Nat.ble pc 2 then (bif Nat.beq pc 2 then (1, 1, 0, 3, 0) else (99, 0, 0, 0, 0)) else (bif Nat.beq pc 3 then (2, 0, 0, 4, 0) else (99, 0, 0, 0, 0)))) else (bif Nat.ble pc 7 then (bif Nat.ble pc 4 then (bif Nat.beq pc 4 then (7, 6, 1, 7, 0) else (99, 0, 0, 0, 0)) else (bif Nat.beq pc 7 then (11, 0, 0, 8, 0) else (99, 0, 0, 0, 0))) else (bif Nat.ble pc 8 then (bif Nat.beq pc 8 then (13, 3, 31, 11, 0) else (99, 0, 0, 0, 0)) else (bif Nat.ble pc 11 then (bif Nat.beq pc 11 then (2, 0, 0, 12, 0) else (99, 0, 0, 0, 0)) else (bif Nat.beq pc 12 then (7, 6, 1, 15, 0) else (99, 0, 0, 0, 0)))))) else (bif Nat.ble pc 23 then (bif Nat.ble pc 16 then (bif Nat.ble pc 15 then (bif Nat.beq pc 15 then (1, 1, 0, 16, 0) else (99, 0, 0, 0, 0)) else (bif Nat.beq pc 16 then (9, 2, 0, 17, 0) else (99, 0, 0, 0, 0))) else (bif Nat.ble pc 17 then (bif Nat.beq pc 17 then (7, 1, 6, 20, 0) else (99, 0, 0, 0, 0)) else (bif Nat.ble pc 20 then (bif Nat.beq pc 20 then (12, 5, 25, 23, 0) else (99, 0, 0, 0, 0)) else (bif Nat.beq pc 23 then (1, 1, 0, 24, 0) else (99, 0, 0, 0, 0))))) else (bif Nat.ble pc 25 then (bif Nat.ble pc 24 then (bif Nat.beq pc 24 then (19, 0, 0, 0, 0) else (99, 0, 0, 0, 0)) else (bif Nat.beq pc 25 then (5, 1, 0, 28, 1) else (99, 0, 0, 0, 0))) else (bif Nat.ble pc 28 then (bif Nat.beq pc 28 then (16, 0, 2, 0, 0) else (99, 0, 0, 0, 0)) else (bif Nat.ble pc 31 then (bif Nat.beq pc 31 then (0, 0, 0, 33, (-2)) else (99, 0, 0, 0, 0)) else (bif Nat.beq pc 33 then (19, 0, 0, 0, 0) else (99, 0, 0, 0, 0)))))))
def sX6_streamToGrant : sw_T := fun _ => []
set_option maxRecDepth 100000 in
theorem kX6_streamToGrant : sw_chk cX6_streamToGrant flX6 cnX6 sX6_streamToGrant 33 tX6_streamToGrant = true := by decide +kernel
def tX6_streamToSend : Nat → sw_I := fun pc => (bif Nat.ble pc 21 then (bif Nat.ble pc 8 then (bif Nat.ble pc 4 then (bif Nat.ble pc 0 then (bif Nat.beq pc 0 then (2, 0, 0, 1, 0) else (99, 0, 0, 0, 0)) else (bif Nat.ble pc 1 then (bif Nat.beq pc 1 then (7, 6, 7, 4, 0) else (99, 0, 0, 0, 0)) else (bif Nat.beq pc 4 then (3, 1, 0, 5, 0) else (99, 0, 0, 0, 0)))) else (bif Nat.ble pc 6 then (bif Nat.ble pc 5 then (bif Nat.beq pc 5 then (0, 0, 0, 6, 0) else (99, 0, 0, 0, 0)) else (bif Nat.beq pc 6 then (3, 2, 0, 7, 0) else (99, 0, 0, 0, 0))) else (bif Nat.ble pc 7 then (bif Nat.beq pc 7 then (1, 2, 0, 8, 0) else (99, 0, 0, 0, 0)) else (bif Nat.beq pc 8 then (2, 0, 0, 9, 0) else (99, 0, 0, 0, 0))))) else (bif Nat.ble pc 13 then (bif Nat.ble pc 9 then (bif Nat.beq pc 9 then (7, 6, 1, 12, 0) else (99, 0, 0, 0, 0)) else (bif Nat.ble pc 12 then (bif Nat.beq pc 12 then (11, 0, 0, 13, 0) else (99, 0, 0, 0, 0)) else (bif Nat.beq pc 13 then (13, 3, 47, 16, 0) else (99, 0, 0, 0, 0)))) else (bif Nat.ble pc 17 then (bif Nat.ble pc 16 then (bif Nat.beq pc 16 then (2, 0, 0, 17, 0) else (99, 0, 0, 0, 0)) else (bif Nat.beq pc 17 then (1, 1, 0, 18, 0) else (99, 0, 0, 0, 0))) else (bif Nat.ble pc 18 then (bif Nat.beq pc 18 then (18, 156, 0, 21, 0) else (99, 0, 0, 0, 0)) else (bif Nat.beq pc 21 then (4, 3, 0, 22, 0) else (99, 0, 0, 0, 0)))))) else (bif Nat.ble pc 34 then (bif Nat.ble pc 26 then (bif Nat.ble pc 22 then (bif Nat.beq pc 22 then (2, 3, 0, 23, 0) else (99, 0, 0, 0, 0)) else (bif Nat.ble pc 23 then (bif Nat.beq pc 23 then (14, 0, 35, 26, 0) else (99, 0, 0, 0, 0)) else (bif Nat.beq pc 26 then (2, 3, 0, 27, 0) else (99, 0, 0, 0, 0)))) else (bif Nat.ble pc 30 then (bif Nat.ble pc 27 then (bif Nat.beq pc 27 then (18, 160, 0, 30, 0) else (99, 0, 0, 0, 0)) else (bif Nat.beq pc 30 then (12, 0, 35, 33, 0) else (99, 0, 0, 0, 0))) else (bif Nat.ble pc 33 then (bif Nat.beq pc 33 then (1, 1, 0, 34, 0) else (99, 0, 0, 0, 0)) else (bif Nat.beq pc 34 then (19, 0, 0, 0, 0) else (99, 0, 0, 0, 0))))) else (bif Nat.ble pc 40 then (bif Nat.ble pc 36 then (bif Nat.ble pc 35 then (bif Nat.beq pc 35 then (2, 0, 0, 36, 0) else (99, 0, 0, 0, 0)) else (bif Nat.beq pc 36 then (1, 1, 0, 37, 0) else (99, 0, 0, 0, 0))) else (bif Nat.ble pc 37 then (bif Nat.beq pc 37 then (18, 163, 0, 40, 0) else (99, 0, 0, 0, 0)) else (bif Nat.beq pc 40 then (3, 1, 0, 41, 0) else (99, 0, 0, 0, 0)))) else (bif Nat.ble pc 44 then (bif Nat.ble pc 41 then (bif Nat.beq pc 41 then (5, 2, 0, 44, 1) else (99, 0, 0, 0, 0)) else (bif Nat.beq pc 44 then (16, 0, 7, 0, 0) else (99, 0, 0, 0, 0))) else (bif Nat.ble pc 47 then (bif Nat.beq pc 47 then (0, 0, 0, 49, (-2)) else (99, 0, 0, 0, 0)) else (bif Nat.beq pc 49 then (19, 0, 0, 0, 0) else (99, 0, 0, 0, 0)))))))
def sX6_streamToSend : sw_T := fun _ => []
set_option maxRecDepth 100000 in
theorem kX6_streamToSend : sw_chk cX6_streamToSend flX6 cnX6 sX6_streamToSend 49 tX6_streamToSend = true := by decide +kernel
def tX6_sendGrant : Nat → sw_I := fun pc => (bif Nat.ble pc 14 then (bif Nat.ble pc 6 then (bif Nat.ble pc 1 then (bif Nat.ble pc 0 then (bif Nat.beq pc 0 then (2, 0, 0, 1, 0) else (99, 0, 0, 0, 0)) else (bif Nat.beq pc 1 then (1, 1, 0, 2, 0) else (99, 0, 0, 0, 0))) else (bif Nat.ble pc 2 then (bif Nat.beq pc 2 then (18, 156, 0, 5, 0) else (99, 0, 0, 0, 0)) else (bif Nat.ble pc 5 then (bif Nat.beq pc 5 then (4, 2, 0, 6, 0) else (99, 0, 0, 0, 0)) else (bif Nat.beq pc 6 then (2, 2, 0, 7, 0) else (99, 0, 0, 0, 0))))) else (bif Nat.ble pc 11 then (bif Nat.ble pc 7 then (bif Nat.beq pc 7 then (15, 0, 11, 10, 0) else (99, 0, 0, 0, 0)) else (bif Nat.ble pc 10 then (bif Nat.beq pc 10 then (21, 0, 0, 0, 0) else (99, 0, 0, 0, 0)) else (bif Nat.beq pc 11 then (2, 0, 0, 12, 0) else (99, 0, 0, 0, 0)))) else (bif Nat.ble pc 12 then (bif Nat.beq pc 12 then (0, 0, 0, 13, 2) else (99, 0, 0, 0, 0)) else (bif Nat.ble pc 13 then (bif Nat.beq pc 13 then (1, 1, 0, 14, 0) else (99, 0, 0, 0, 0)) else (bif Nat.beq pc 14 then (0, 0, 0, 15, 0) else (99, 0, 0, 0, 0)))))) else (bif Nat.ble pc 26 then (bif Nat.ble pc 19 then (bif Nat.ble pc 15 then (bif Nat.beq pc 15 then (18, 167, 0, 18, 0) else (99, 0, 0, 0, 0)) else (bif Nat.ble pc 18 then (bif Nat.beq pc 18 then (2, 0, 0, 19, 0) else (99, 0, 0, 0, 0)) else (bif Nat.beq pc 19 then (7, 6, 4, 22, 0) else (99, 0, 0, 0, 0)))) else (bif Nat.ble pc 22 then (bif Nat.beq pc 22 then (2, 2, 0, 23, 0) else (99, 0, 0, 0, 0)) else (bif Nat.ble pc 23 then (bif Nat.beq pc 23 then (7, 1, 6, 26, 0) else (99, 0, 0, 0, 0)) else (bif Nat.beq pc 26 then (18, 171, 0, 29, 0) else (99, 0, 0, 0, 0))))) else (bif Nat.ble pc 31 then (bif Nat.ble pc 29 then (bif Nat.beq pc 29 then (2, 2, 0, 30, 0) else (99, 0, 0, 0, 0)) else (bif Nat.ble pc 30 then (bif Nat.beq pc 30 then (0, 0, 0, 31, 0) else (99, 0, 0, 0, 0)) else (bif Nat.beq pc 31 then (8, 1, 6, 34, 0) else (99, 0, 0, 0, 0)))) else (bif Nat.ble pc 34 then (bif Nat.beq pc 34 then (2, 0, 0, 35, 0) else (99, 0, 0, 0, 0)) else (bif Nat.ble pc 35 then (bif Nat.beq pc 35 then (18, 173, 0, 38, 0) else (99, 0, 0, 0, 0)) else (bif Nat.beq pc 38 then (21, 0, 0, 0, 0) else (99, 0, 0, 0, 0)))))))
def sX6_sendGrant : sw_T := fun _ => []
set_option maxRecDepth 100000 in
theorem kX6_sendGrant : sw_chk cX6_sendGrant flX6 cnX6 sX6_sendGrant 38 tX6_sendGrant = true := by decide +kernel
def tX6_sendInTurn : Nat → sw_I := fun pc => (bif Nat.ble pc 39 then (bif Nat.ble pc 19 then (bif Nat.ble pc 7 then (bif Nat.ble pc 2 then (bif Nat.ble pc 0 then (bif Nat.beq pc 0 then (2, 0, 0, 1, 0) else (99, 0, 0, 0, 0)) else (bif Nat.ble pc 1 then (bif Nat.beq pc 1 then (1, 1, 0, 2, 0) else (99, 0, 0, 0, 0)) else (bif Nat.beq pc 2 then (18, 156, 0, 5, 0) else (99, 0, 0, 0, 0)))) else (bif Nat.ble pc 5 then (bif Nat.beq pc 5 then (4, 2, 0, 6, 0) else (99, 0, 0, 0, 0)) else (bif Nat.ble pc 6 then (bif Nat.beq pc 6 then (2, 2, 0, 7, 0) else (99, 0, 0, 0, 0)) else (bif Nat.beq pc 7 then (15, 0, 11, 10, 0) else (99, 0, 0, 0, 0))))) else (bif Nat.ble pc 12 then (bif Nat.ble pc 10 then (bif Nat.beq pc 10 then (21, 0, 0, 0, 0) else (99, 0, 0, 0, 0)) else (bif Nat.ble pc 11 then (bif Nat.beq pc 11 then (1, 1, 0, 12, 0) else (99, 0, 0, 0, 0)) else (bif Nat.beq pc 12 then (2, 0, 0, 13, 0) else (99, 0, 0, 0, 0)))) else (bif Nat.ble pc 13 then (bif Nat.beq pc 13 then (7, 6, 7, 16, 0) else (99, 0, 0, 0, 0)) else (bif Nat.ble pc 16 then (bif Nat.beq pc 16 then (13, 0, 24, 19, 0) else (99, 0, 0, 0, 0)) else (bif Nat.beq pc 19 then (2, 0, 0, 20, 0) else (99, 0, 0, 0, 0)))))) else (bif Nat.ble pc 31 then (bif Nat.ble pc 24 then (bif Nat.ble pc 20 then (bif Nat.beq pc 20 then (1, 1, 0, 21, 0) else (99, 0, 0, 0, 0)) else (bif Nat.ble pc 21 then (bif Nat.beq pc 21 then (18, 176, 0, 24, 0) else (99, 0, 0, 0, 0)) else (bif Nat.beq pc 24 then (2, 2, 0, 25, 0) else (99, 0, 0, 0, 0)))) else (bif Nat.ble pc 25 then (bif Nat.beq pc 25 then (7, 1, 7, 28, 0) else (99, 0, 0, 0, 0)) else (bif Nat.ble pc 28 then (bif Nat.beq pc 28 then (12, 0, 46, 31, 0) else (99, 0, 0, 0, 0)) else (bif Nat.beq pc 31 then (2, 0, 0, 32, 0) else (99, 0, 0, 0, 0))))) else (bif Nat.ble pc 34 then (bif Nat.ble pc 32 then (bif Nat.beq pc 32 then (0, 0, 0, 33, 3) else (99, 0, 0, 0, 0)) else (bif Nat.ble pc 33 then (bif Nat.beq pc 33 then (1, 1, 0, 34, 0) else (99, 0, 0, 0, 0)) else (bif Nat.beq pc 34 then (0, 0, 0, 35, 0) else (99, 0, 0, 0, 0)))) else (bif Nat.ble pc 35 then (bif Nat.beq pc 35 then (18, 167, 0, 38, 0) else (99, 0, 0, 0, 0)) else (bif Nat.ble pc 38 then (bif Nat.beq pc 38 then (2, 2, 0, 39, 0) else (99, 0, 0, 0, 0)) else (bif Nat.beq pc 39 then (0, 0, 0, 40, 0) else (99, 0, 0, 0, 0))))))) else (bif Nat.ble pc 65 then (bif Nat.ble pc 53 then (bif Nat.ble pc 46 then (bif Nat.ble pc 40 then (bif Nat.beq pc 40 then (8, 1, 7, 43, 0) else (99, 0, 0, 0, 0)) else (bif Nat.ble pc 43 then (bif Nat.beq pc 43 then (16, 0, 77, 0, 0) else (99, 0, 0, 0, 0)) else (bif Nat.beq pc 46 then (2, 2, 0, 47, 0) else (99, 0, 0, 0, 0)))) else (bif Nat.ble pc 47 then (bif Nat.beq pc 47 then (7, 1, 0, 50, 0) else (99, 0, 0, 0, 0)) else (bif Nat.ble pc 50 then (bif Nat.beq pc 50 then (18, 92, 0, 53, 0) else (99, 0, 0, 0, 0)) else (bif Nat.beq pc 53 then (12, 5, 65, 56, 0) else (99, 0, 0, 0, 0))))) else (bif Nat.ble pc 58 then (bif Nat.ble pc 56 then (bif Nat.beq pc 56 then (2, 0, 0, 57, 0) else (99, 0, 0, 0, 0)) else (bif Nat.ble pc 57 then (bif Nat.beq pc 57 then (2, 2, 0, 58, 0) else (99, 0, 0, 0, 0)) else (bif Nat.beq pc 58 then (1, 1, 0, 59, 0) else (99, 0, 0, 0, 0)))) else (bif Nat.ble pc 59 then (bif Nat.beq pc 59 then (18, 182, 0, 62, 0) else (99, 0, 0, 0, 0)) else (bif Nat.ble pc 62 then (bif Nat.beq pc 62 then (16, 0, 77, 0, 0) else (99, 0, 0, 0, 0)) else (bif Nat.beq pc 65 then (2, 0, 0, 66, 0) else (99, 0, 0, 0, 0)))))) else (bif Nat.ble pc 73 then (bif Nat.ble pc 68 then (bif Nat.ble pc 66 then (bif Nat.beq pc 66 then (0, 0, 0, 67, 4) else (99, 0, 0, 0, 0)) else (bif Nat.ble pc 67 then (bif Nat.beq pc 67 then (1, 1, 0, 68, 0) else (99, 0, 0, 0, 0)) else (bif Nat.beq pc 68 then (0, 0, 0, 69, 0) else (99, 0, 0, 0, 0)))) else (bif Nat.ble pc 69 then (bif Nat.beq pc 69 then (18, 167, 0, 72, 0) else (99, 0, 0, 0, 0)) else (bif Nat.ble pc 72 then (bif Nat.beq pc 72 then (2, 2, 0, 73, 0) else (99, 0, 0, 0, 0)) else (bif Nat.beq pc 73 then (0, 0, 0, 74, 0) else (99, 0, 0, 0, 0))))) else (bif Nat.ble pc 78 then (bif Nat.ble pc 74 then (bif Nat.beq pc 74 then (8, 1, 8, 77, 0) else (99, 0, 0, 0, 0)) else (bif Nat.ble pc 77 then (bif Nat.beq pc 77 then (2, 0, 0, 78, 0) else (99, 0, 0, 0, 0)) else (bif Nat.beq pc 78 then (18, 173, 0, 81, 0) else (99, 0, 0, 0, 0)))) else (bif Nat.ble pc 81 then (bif Nat.beq pc 81 then (2, 0, 0, 82, 0) else (99, 0, 0, 0, 0)) else (bif Nat.ble pc 82 then (bif Nat.beq pc 82 then (18, 189, 0, 85, 0) else (99, 0, 0, 0, 0)) else (bif Nat.beq pc 85 then (21, 0, 0, 0, 0) else (99, 0, 0, 0, 0))))))))
def sX6_sendInTurn : sw_T := fun _ => []
set_option maxRecDepth 100000 in
theorem kX6_sendInTurn : sw_chk cX6_sendInTurn flX6 cnX6 sX6_sendInTurn 85 tX6_sendInTurn = true := by decide +kernel
def tX6_streamAfter : Nat → sw_I := fun pc => (bif Nat.ble pc 7 then (bif Nat.ble pc 2 then (bif Nat.ble pc 0 then (bif Nat.beq pc 0 then (1, 1, 0, 1, 0) else (99, 0, 0, 0, 0)) else (bif Nat.ble pc 1 then (bif Nat.beq pc 1 then (0, 0, 0, 2, 1) else (99, 0, 0, 0, 0)) else (bif Nat.beq pc 2 then (6, 0, 0, 3, 0) else (99, 0, 0, 0, 0)))) else (bif Nat.ble pc 3 then (bif Nat.beq pc 3 then (2, 0, 0, 4, 0) else (99, 0, 0, 0, 0)) else (bif Nat.ble pc 4 then (bif Nat.beq pc 4 then (7, 6, 1, 7, 0) else (99, 0, 0, 0, 0)) else (bif Nat.beq pc 7 then (11, 0, 0, 8, 0) else (99, 0, 0, 0, 0))))) else (bif Nat.ble pc 12 then (bif Nat.ble pc 8 then (bif Nat.beq pc 8 then (13, 3, 17, 11, 0) else (99, 0, 0, 0, 0)) else (bif Nat.ble pc 11 then (bif Nat.beq pc 11 then (1, 1, 0, 12, 0) else (99, 0, 0, 0, 0)) else (bif Nat.beq pc 12 then (0, 0, 0, 13, 1) else (99, 0, 0, 0, 0)))) else (bif Nat.ble pc 14 then (bif Nat.ble pc 13 then (bif Nat.beq pc 13 then (6, 0, 0, 14, 0) else (99, 0, 0, 0, 0)) else (bif Nat.beq pc 14 then (16, 0, 18, 0, 0) else (99, 0, 0, 0, 0))) else (bif Nat.ble pc 17 then (bif Nat.beq pc 17 then (0, 0, 0, 18, 0) else (99, 0, 0, 0, 0)) else (bif Nat.beq pc 18 then (19, 0, 0, 0, 0) else (99, 0, 0, 0, 0))))))
def sX6_streamAfter : sw_T := fun _ => []
set_option maxRecDepth 100000 in
theorem kX6_streamAfter : sw_chk cX6_streamAfter flX6 cnX6 sX6_streamAfter 18 tX6_streamAfter = true := by decide +kernel
def tX6_beginTurn : Nat → sw_I := fun pc => (bif Nat.ble pc 10 then (bif Nat.ble pc 2 then (bif Nat.ble pc 0 then (bif Nat.beq pc 0 then (2, 0, 0, 1, 0) else (99, 0, 0, 0, 0)) else (bif Nat.ble pc 1 then (bif Nat.beq pc 1 then (1, 1, 0, 2, 0) else (99, 0, 0, 0, 0)) else (bif Nat.beq pc 2 then (18, 156, 0, 5, 0) else (99, 0, 0, 0, 0)))) else (bif Nat.ble pc 6 then (bif Nat.ble pc 5 then (bif Nat.beq pc 5 then (4, 2, 0, 6, 0) else (99, 0, 0, 0, 0)) else (bif Nat.beq pc 6 then (2, 2, 0, 7, 0) else (99, 0, 0, 0, 0))) else (bif Nat.ble pc 7 then (bif Nat.beq pc 7 then (14, 0, 23, 10, 0) else (99, 0, 0, 0, 0)) else (bif Nat.beq pc 10 then (2, 0, 0, 11, 0) else (99, 0, 0, 0, 0))))) else (bif Nat.ble pc 15 then (bif Nat.ble pc 11 then (bif Nat.beq pc 11 then (1, 1, 0, 12, 0) else (99, 0, 0, 0, 0)) else (bif Nat.ble pc 12 then (bif Nat.beq pc 12 then (8, 6, 7, 15, 0) else (99, 0, 0, 0, 0)) else (bif Nat.beq pc 15 then (2, 0, 0, 16, 0) else (99, 0, 0, 0, 0)))) else (bif Nat.ble pc 17 then (bif Nat.ble pc 16 then (bif Nat.beq pc 16 then (2, 2, 0, 17, 0) else (99, 0, 0, 0, 0)) else (bif Nat.beq pc 17 then (7, 1, 4, 20, 0) else (99, 0, 0, 0, 0))) else (bif Nat.ble pc 20 then (bif Nat.beq pc 20 then (8, 6, 8, 23, 0) else (99, 0, 0, 0, 0)) else (bif Nat.beq pc 23 then (21, 0, 0, 0, 0) else (99, 0, 0, 0, 0))))))
def sX6_beginTurn : sw_T := fun _ => []
set_option maxRecDepth 100000 in
theorem kX6_beginTurn : sw_chk cX6_beginTurn flX6 cnX6 sX6_beginTurn 23 tX6_beginTurn = true := by decide +kernel
def tX6_countTurn : Nat → sw_I := fun pc => (bif Nat.ble pc 11 then (bif Nat.ble pc 5 then (bif Nat.ble pc 1 then (bif Nat.ble pc 0 then (bif Nat.beq pc 0 then (2, 0, 0, 1, 0) else (99, 0, 0, 0, 0)) else (bif Nat.beq pc 1 then (22, 0, 0, 2, 0) else (99, 0, 0, 0, 0))) else (bif Nat.ble pc 2 then (bif Nat.beq pc 2 then (7, 6, 8, 5, 0) else (99, 0, 0, 0, 0)) else (bif Nat.beq pc 5 then (0, 0, 0, 6, 1) else (99, 0, 0, 0, 0)))) else (bif Nat.ble pc 7 then (bif Nat.ble pc 6 then (bif Nat.beq pc 6 then (6, 1, 0, 7, 0) else (99, 0, 0, 0, 0)) else (bif Nat.beq pc 7 then (8, 6, 8, 10, 0) else (99, 0, 0, 0, 0))) else (bif Nat.ble pc 10 then (bif Nat.beq pc 10 then (2, 0, 0, 11, 0) else (99, 0, 0, 0, 0)) else (bif Nat.beq pc 11 then (7, 6, 8, 14, 0) else (99, 0, 0, 0, 0))))) else (bif Nat.ble pc 19 then (bif Nat.ble pc 17 then (bif Nat.ble pc 14 then (bif Nat.beq pc 14 then (12, 4, 29, 17, 0) else (99, 0, 0, 0, 0)) else (bif Nat.beq pc 17 then (2, 0, 0, 18, 0) else (99, 0, 0, 0, 0))) else (bif Nat.ble pc 18 then (bif Nat.beq pc 18 then (2, 0, 0, 19, 0) else (99, 0, 0, 0, 0)) else (bif Nat.beq pc 19 then (2, 0, 0, 20, 0) else (99, 0, 0, 0, 0)))) else (bif Nat.ble pc 23 then (bif Nat.ble pc 20 then (bif Nat.beq pc 20 then (7, 6, 7, 23, 0) else (99, 0, 0, 0, 0)) else (bif Nat.beq pc 23 then (18, 163, 0, 26, 0) else (99, 0, 0, 0, 0))) else (bif Nat.ble pc 26 then (bif Nat.beq pc 26 then (18, 176, 0, 29, 0) else (99, 0, 0, 0, 0)) else (bif Nat.beq pc 29 then (21, 0, 0, 0, 0) else (99, 0, 0, 0, 0))))))
def sX6_countTurn : sw_T := fun _ => []
set_option maxRecDepth 100000 in
theorem kX6_countTurn : sw_chk cX6_countTurn flX6 cnX6 sX6_countTurn 29 tX6_countTurn = true := by decide +kernel
def tX6_draftData : Nat → sw_I := fun pc => (bif Nat.ble pc 50 then (bif Nat.ble pc 26 then (bif Nat.ble pc 11 then (bif Nat.ble pc 4 then (bif Nat.ble pc 0 then (bif Nat.beq pc 0 then (2, 0, 0, 1, 0) else (99, 0, 0, 0, 0)) else (bif Nat.ble pc 1 then (bif Nat.beq pc 1 then (7, 6, 0, 4, 0) else (99, 0, 0, 0, 0)) else (bif Nat.beq pc 4 then (7, 4, 1, 7, 0) else (99, 0, 0, 0, 0)))) else (bif Nat.ble pc 7 then (bif Nat.beq pc 7 then (2, 1, 0, 8, 0) else (99, 0, 0, 0, 0)) else (bif Nat.ble pc 8 then (bif Nat.beq pc 8 then (7, 1, 0, 11, 0) else (99, 0, 0, 0, 0)) else (bif Nat.beq pc 11 then (18, 92, 0, 14, 0) else (99, 0, 0, 0, 0))))) else (bif Nat.ble pc 18 then (bif Nat.ble pc 14 then (bif Nat.beq pc 14 then (2, 1, 0, 15, 0) else (99, 0, 0, 0, 0)) else (bif Nat.ble pc 15 then (bif Nat.beq pc 15 then (7, 1, 5, 18, 0) else (99, 0, 0, 0, 0)) else (bif Nat.beq pc 18 then (18, 201, 1, 21, 0) else (99, 0, 0, 0, 0)))) else (bif Nat.ble pc 24 then (bif Nat.ble pc 21 then (bif Nat.beq pc 21 then (18, 201, 1, 24, 0) else (99, 0, 0, 0, 0)) else (bif Nat.beq pc 24 then (3, 3, 0, 25, 0) else (99, 0, 0, 0, 0))) else (bif Nat.ble pc 25 then (bif Nat.beq pc 25 then (2, 0, 0, 26, 0) else (99, 0, 0, 0, 0)) else (bif Nat.beq pc 26 then (0, 0, 0, 27, 1) else (99, 0, 0, 0, 0)))))) else (bif Nat.ble pc 37 then (bif Nat.ble pc 29 then (bif Nat.ble pc 27 then (bif Nat.beq pc 27 then (1, 2, 0, 28, 0) else (99, 0, 0, 0, 0)) else (bif Nat.ble pc 28 then (bif Nat.beq pc 28 then (1, 3, 0, 29, 0) else (99, 0, 0, 0, 0)) else (bif Nat.beq pc 29 then (18, 167, 0, 32, 0) else (99, 0, 0, 0, 0)))) else (bif Nat.ble pc 33 then (bif Nat.ble pc 32 then (bif Nat.beq pc 32 then (2, 0, 0, 33, 0) else (99, 0, 0, 0, 0)) else (bif Nat.beq pc 33 then (7, 6, 4, 36, 0) else (99, 0, 0, 0, 0))) else (bif Nat.ble pc 36 then (bif Nat.beq pc 36 then (0, 0, 0, 37, 0) else (99, 0, 0, 0, 0)) else (bif Nat.beq pc 37 then (18, 171, 0, 40, 0) else (99, 0, 0, 0, 0))))) else (bif Nat.ble pc 43 then (bif Nat.ble pc 40 then (bif Nat.beq pc 40 then (0, 0, 0, 41, 0) else (99, 0, 0, 0, 0)) else (bif Nat.ble pc 41 then (bif Nat.beq pc 41 then (3, 4, 0, 43, 0) else (99, 0, 0, 0, 0)) else (bif Nat.beq pc 43 then (1, 4, 0, 45, 0) else (99, 0, 0, 0, 0)))) else (bif Nat.ble pc 46 then (bif Nat.ble pc 45 then (bif Nat.beq pc 45 then (1, 3, 0, 46, 0) else (99, 0, 0, 0, 0)) else (bif Nat.beq pc 46 then (13, 3, 99, 49, 0) else (99, 0, 0, 0, 0))) else (bif Nat.ble pc 49 then (bif Nat.beq pc 49 then (2, 1, 0, 50, 0) else (99, 0, 0, 0, 0)) else (bif Nat.beq pc 50 then (7, 1, 0, 53, 0) else (99, 0, 0, 0, 0))))))) else (bif Nat.ble pc 77 then (bif Nat.ble pc 65 then (bif Nat.ble pc 59 then (bif Nat.ble pc 53 then (bif Nat.beq pc 53 then (18, 99, 0, 56, 0) else (99, 0, 0, 0, 0)) else (bif Nat.ble pc 56 then (bif Nat.beq pc 56 then (12, 0, 72, 59, 0) else (99, 0, 0, 0, 0)) else (bif Nat.beq pc 59 then (2, 0, 0, 60, 0) else (99, 0, 0, 0, 0)))) else (bif Nat.ble pc 63 then (bif Nat.ble pc 60 then (bif Nat.beq pc 60 then (7, 6, 4, 63, 0) else (99, 0, 0, 0, 0)) else (bif Nat.beq pc 63 then (0, 0, 0, 64, 1) else (99, 0, 0, 0, 0))) else (bif Nat.ble pc 64 then (bif Nat.beq pc 64 then (0, 0, 0, 65, 1) else (99, 0, 0, 0, 0)) else (bif Nat.beq pc 65 then (1, 4, 0, 67, 0) else (99, 0, 0, 0, 0))))) else (bif Nat.ble pc 71 then (bif Nat.ble pc 67 then (bif Nat.beq pc 67 then (6, 6, 0, 68, 0) else (99, 0, 0, 0, 0)) else (bif Nat.ble pc 68 then (bif Nat.beq pc 68 then (18, 204, 0, 71, 0) else (99, 0, 0, 0, 0)) else (bif Nat.beq pc 71 then (24, 0, 0, 72, 0) else (99, 0, 0, 0, 0)))) else (bif Nat.ble pc 73 then (bif Nat.ble pc 72 then (bif Nat.beq pc 72 then (2, 0, 0, 73, 0) else (99, 0, 0, 0, 0)) else (bif Nat.beq pc 73 then (7, 6, 4, 76, 0) else (99, 0, 0, 0, 0))) else (bif Nat.ble pc 76 then (bif Nat.beq pc 76 then (2, 1, 0, 77, 0) else (99, 0, 0, 0, 0)) else (bif Nat.beq pc 77 then (7, 1, 0, 80, 0) else (99, 0, 0, 0, 0)))))) else (bif Nat.ble pc 96 then (bif Nat.ble pc 86 then (bif Nat.ble pc 80 then (bif Nat.beq pc 80 then (18, 102, 0, 83, 0) else (99, 0, 0, 0, 0)) else (bif Nat.ble pc 83 then (bif Nat.beq pc 83 then (18, 171, 0, 86, 0) else (99, 0, 0, 0, 0)) else (bif Nat.beq pc 86 then (2, 1, 0, 87, 0) else (99, 0, 0, 0, 0)))) else (bif Nat.ble pc 90 then (bif Nat.ble pc 87 then (bif Nat.beq pc 87 then (7, 1, 0, 90, 0) else (99, 0, 0, 0, 0)) else (bif Nat.beq pc 90 then (18, 208, 0, 93, 0) else (99, 0, 0, 0, 0))) else (bif Nat.ble pc 93 then (bif Nat.beq pc 93 then (5, 4, 0, 96, 1) else (99, 0, 0, 0, 0)) else (bif Nat.beq pc 96 then (16, 0, 43, 0, 0) else (99, 0, 0, 0, 0))))) else (bif Nat.ble pc 101 then (bif Nat.ble pc 99 then (bif Nat.beq pc 99 then (2, 1, 0, 100, 0) else (99, 0, 0, 0, 0)) else (bif Nat.ble pc 100 then (bif Nat.beq pc 100 then (22, 0, 0, 101, 0) else (99, 0, 0, 0, 0)) else (bif Nat.beq pc 101 then (7, 1, 5, 104, 0) else (99, 0, 0, 0, 0)))) else (bif Nat.ble pc 105 then (bif Nat.ble pc 104 then (bif Nat.beq pc 104 then (1, 3, 0, 105, 0) else (99, 0, 0, 0, 0)) else (bif Nat.beq pc 105 then (6, 1, 0, 106, 0) else (99, 0, 0, 0, 0))) else (bif Nat.ble pc 106 then (bif Nat.beq pc 106 then (8, 1, 5, 109, 0) else (99, 0, 0, 0, 0)) else (bif Nat.beq pc 109 then (21, 0, 0, 0, 0) else (99, 0, 0, 0, 0))))))))
def sX6_draftData : sw_T := fun _ => []
set_option maxRecDepth 100000 in
theorem kX6_draftData : sw_chk cX6_draftData flX6 cnX6 sX6_draftData 109 tX6_draftData = true := by decide +kernel
def tX6_beginNumbered : Nat → sw_I := fun pc => (bif Nat.ble pc 27 then (bif Nat.ble pc 12 then (bif Nat.ble pc 4 then (bif Nat.ble pc 0 then (bif Nat.beq pc 0 then (2, 0, 0, 1, 0) else (99, 0, 0, 0, 0)) else (bif Nat.ble pc 1 then (bif Nat.beq pc 1 then (7, 6, 0, 4, 0) else (99, 0, 0, 0, 0)) else (bif Nat.beq pc 4 then (2, 0, 0, 5, 0) else (99, 0, 0, 0, 0)))) else (bif Nat.ble pc 8 then (bif Nat.ble pc 5 then (bif Nat.beq pc 5 then (7, 6, 5, 8, 0) else (99, 0, 0, 0, 0)) else (bif Nat.beq pc 8 then (2, 0, 0, 9, 0) else (99, 0, 0, 0, 0))) else (bif Nat.ble pc 9 then (bif Nat.beq pc 9 then (7, 6, 2, 12, 0) else (99, 0, 0, 0, 0)) else (bif Nat.beq pc 12 then (18, 120, 0, 15, 0) else (99, 0, 0, 0, 0))))) else (bif Nat.ble pc 21 then (bif Nat.ble pc 18 then (bif Nat.ble pc 15 then (bif Nat.beq pc 15 then (18, 214, 0, 18, 0) else (99, 0, 0, 0, 0)) else (bif Nat.beq pc 18 then (3, 4, 0, 20, 0) else (99, 0, 0, 0, 0))) else (bif Nat.ble pc 20 then (bif Nat.beq pc 20 then (2, 0, 0, 21, 0) else (99, 0, 0, 0, 0)) else (bif Nat.beq pc 21 then (7, 6, 4, 24, 0) else (99, 0, 0, 0, 0)))) else (bif Nat.ble pc 25 then (bif Nat.ble pc 24 then (bif Nat.beq pc 24 then (1, 1, 0, 25, 0) else (99, 0, 0, 0, 0)) else (bif Nat.beq pc 25 then (1, 2, 0, 26, 0) else (99, 0, 0, 0, 0))) else (bif Nat.ble pc 26 then (bif Nat.beq pc 26 then (0, 0, 0, 27, 3) else (99, 0, 0, 0, 0)) else (bif Nat.beq pc 27 then (6, 6, 0, 28, 0) else (99, 0, 0, 0, 0)))))) else (bif Nat.ble pc 39 then (bif Nat.ble pc 33 then (bif Nat.ble pc 29 then (bif Nat.ble pc 28 then (bif Nat.beq pc 28 then (6, 4, 0, 29, 0) else (99, 0, 0, 0, 0)) else (bif Nat.beq pc 29 then (1, 4, 0, 31, 0) else (99, 0, 0, 0, 0))) else (bif Nat.ble pc 31 then (bif Nat.beq pc 31 then (0, 0, 0, 33, 8) else (99, 0, 0, 0, 0)) else (bif Nat.beq pc 33 then (6, 6, 0, 34, 0) else (99, 0, 0, 0, 0)))) else (bif Nat.ble pc 35 then (bif Nat.ble pc 34 then (bif Nat.beq pc 34 then (6, 4, 0, 35, 0) else (99, 0, 0, 0, 0)) else (bif Nat.beq pc 35 then (2, 0, 0, 36, 0) else (99, 0, 0, 0, 0))) else (bif Nat.ble pc 36 then (bif Nat.beq pc 36 then (7, 6, 6, 39, 0) else (99, 0, 0, 0, 0)) else (bif Nat.beq pc 39 then (0, 0, 0, 41, 16) else (99, 0, 0, 0, 0))))) else (bif Nat.ble pc 44 then (bif Nat.ble pc 42 then (bif Nat.ble pc 41 then (bif Nat.beq pc 41 then (6, 6, 0, 42, 0) else (99, 0, 0, 0, 0)) else (bif Nat.beq pc 42 then (6, 4, 0, 43, 0) else (99, 0, 0, 0, 0))) else (bif Nat.ble pc 43 then (bif Nat.beq pc 43 then (1, 3, 0, 44, 0) else (99, 0, 0, 0, 0)) else (bif Nat.beq pc 44 then (0, 0, 0, 46, 24) else (99, 0, 0, 0, 0)))) else (bif Nat.ble pc 47 then (bif Nat.ble pc 46 then (bif Nat.beq pc 46 then (6, 6, 0, 47, 0) else (99, 0, 0, 0, 0)) else (bif Nat.beq pc 47 then (6, 4, 0, 48, 0) else (99, 0, 0, 0, 0))) else (bif Nat.ble pc 48 then (bif Nat.beq pc 48 then (18, 220, 0, 51, 0) else (99, 0, 0, 0, 0)) else (bif Nat.beq pc 51 then (21, 0, 0, 0, 0) else (99, 0, 0, 0, 0)))))))
def sX6_beginNumbered : sw_T := fun _ => []
set_option maxRecDepth 100000 in
theorem kX6_beginNumbered : sw_chk cX6_beginNumbered flX6 cnX6 sX6_beginNumbered 51 tX6_beginNumbered = true := by decide +kernel
def tX6_sendNumbered : Nat → sw_I := fun pc => (bif Nat.ble pc 8 then (bif Nat.ble pc 1 then (bif Nat.ble pc 0 then (bif Nat.beq pc 0 then (2, 0, 0, 1, 0) else (99, 0, 0, 0, 0)) else (bif Nat.beq pc 1 then (7, 6, 4, 4, 0) else (99, 0, 0, 0, 0))) else (bif Nat.ble pc 4 then (bif Nat.beq pc 4 then (18, 223, 0, 7, 0) else (99, 0, 0, 0, 0)) else (bif Nat.ble pc 7 then (bif Nat.beq pc 7 then (2, 0, 0, 8, 0) else (99, 0, 0, 0, 0)) else (bif Nat.beq pc 8 then (7, 6, 2, 11, 0) else (99, 0, 0, 0, 0))))) else (bif Nat.ble pc 15 then (bif Nat.ble pc 11 then (bif Nat.beq pc 11 then (2, 0, 0, 12, 0) else (99, 0, 0, 0, 0)) else (bif Nat.ble pc 12 then (bif Nat.beq pc 12 then (7, 6, 4, 15, 0) else (99, 0, 0, 0, 0)) else (bif Nat.beq pc 15 then (18, 226, 0, 18, 0) else (99, 0, 0, 0, 0)))) else (bif Nat.ble pc 18 then (bif Nat.beq pc 18 then (2, 0, 0, 19, 0) else (99, 0, 0, 0, 0)) else (bif Nat.ble pc 19 then (bif Nat.beq pc 19 then (18, 230, 0, 22, 0) else (99, 0, 0, 0, 0)) else (bif Nat.beq pc 22 then (21, 0, 0, 0, 0) else (99, 0, 0, 0, 0))))))
def sX6_sendNumbered : sw_T := fun _ => []
set_option maxRecDepth 100000 in
theorem kX6_sendNumbered : sw_chk cX6_sendNumbered flX6 cnX6 sX6_sendNumbered 22 tX6_sendNumbered = true := by decide +kernel
def tX6_sendAck : Nat → sw_I := fun pc => (bif Nat.ble pc 11 then (bif Nat.ble pc 4 then (bif Nat.ble pc 0 then (bif Nat.beq pc 0 then (2, 0, 0, 1, 0) else (99, 0, 0, 0, 0)) else (bif Nat.ble pc 1 then (bif Nat.beq pc 1 then (7, 6, 4, 4, 0) else (99, 0, 0, 0, 0)) else (bif Nat.beq pc 4 then (0, 0, 0, 5, 0) else (99, 0, 0, 0, 0)))) else (bif Nat.ble pc 6 then (bif Nat.ble pc 5 then (bif Nat.beq pc 5 then (2, 0, 0, 6, 0) else (99, 0, 0, 0, 0)) else (bif Nat.beq pc 6 then (7, 6, 6, 9, 0) else (99, 0, 0, 0, 0))) else (bif Nat.ble pc 9 then (bif Nat.beq pc 9 then (0, 0, 0, 11, 16) else (99, 0, 0, 0, 0)) else (bif Nat.beq pc 11 then (6, 6, 0, 12, 0) else (99, 0, 0, 0, 0))))) else (bif Nat.ble pc 17 then (bif Nat.ble pc 13 then (bif Nat.ble pc 12 then (bif Nat.beq pc 12 then (6, 4, 0, 13, 0) else (99, 0, 0, 0, 0)) else (bif Nat.beq pc 13 then (18, 220, 0, 16, 0) else (99, 0, 0, 0, 0))) else (bif Nat.ble pc 16 then (bif Nat.beq pc 16 then (2, 0, 0, 17, 0) else (99, 0, 0, 0, 0)) else (bif Nat.beq pc 17 then (7, 6, 4, 20, 0) else (99, 0, 0, 0, 0)))) else (bif Nat.ble pc 23 then (bif Nat.ble pc 20 then (bif Nat.beq pc 20 then (18, 223, 0, 23, 0) else (99, 0, 0, 0, 0)) else (bif Nat.beq pc 23 then (2, 0, 0, 24, 0) else (99, 0, 0, 0, 0))) else (bif Nat.ble pc 24 then (bif Nat.beq pc 24 then (18, 230, 0, 27, 0) else (99, 0, 0, 0, 0)) else (bif Nat.beq pc 27 then (21, 0, 0, 0, 0) else (99, 0, 0, 0, 0))))))
def sX6_sendAck : sw_T := fun _ => []
set_option maxRecDepth 100000 in
theorem kX6_sendAck : sw_chk cX6_sendAck flX6 cnX6 sX6_sendAck 27 tX6_sendAck = true := by decide +kernel
def tX6_sendDraft : Nat → sw_I := fun pc => (bif Nat.ble pc 12 then (bif Nat.ble pc 4 then (bif Nat.ble pc 0 then (bif Nat.beq pc 0 then (2, 0, 0, 1, 0) else (99, 0, 0, 0, 0)) else (bif Nat.ble pc 1 then (bif Nat.beq pc 1 then (7, 6, 3, 4, 0) else (99, 0, 0, 0, 0)) else (bif Nat.beq pc 4 then (2, 0, 0, 5, 0) else (99, 0, 0, 0, 0)))) else (bif Nat.ble pc 8 then (bif Nat.ble pc 5 then (bif Nat.beq pc 5 then (7, 6, 4, 8, 0) else (99, 0, 0, 0, 0)) else (bif Nat.beq pc 8 then (18, 226, 0, 11, 0) else (99, 0, 0, 0, 0))) else (bif Nat.ble pc 11 then (bif Nat.beq pc 11 then (2, 0, 0, 12, 0) else (99, 0, 0, 0, 0)) else (bif Nat.beq pc 12 then (0, 0, 0, 13, 0) else (99, 0, 0, 0, 0))))) else (bif Nat.ble pc 18 then (bif Nat.ble pc 16 then (bif Nat.ble pc 13 then (bif Nat.beq pc 13 then (8, 6, 9, 16, 0) else (99, 0, 0, 0, 0)) else (bif Nat.beq pc 16 then (2, 0, 0, 17, 0) else (99, 0, 0, 0, 0))) else (bif Nat.ble pc 17 then (bif Nat.beq pc 17 then (22, 0, 0, 18, 0) else (99, 0, 0, 0, 0)) else (bif Nat.beq pc 18 then (7, 6, 11, 21, 0) else (99, 0, 0, 0, 0)))) else (bif Nat.ble pc 22 then (bif Nat.ble pc 21 then (bif Nat.beq pc 21 then (0, 0, 0, 22, 1) else (99, 0, 0, 0, 0)) else (bif Nat.beq pc 22 then (6, 0, 0, 23, 0) else (99, 0, 0, 0, 0))) else (bif Nat.ble pc 23 then (bif Nat.beq pc 23 then (8, 6, 11, 26, 0) else (99, 0, 0, 0, 0)) else (bif Nat.beq pc 26 then (21, 0, 0, 0, 0) else (99, 0, 0, 0, 0))))))
def sX6_sendDraft : sw_T := fun _ => []
set_option maxRecDepth 100000 in
theorem kX6_sendDraft : sw_chk cX6_sendDraft flX6 cnX6 sX6_sendDraft 26 tX6_sendDraft = true := by decide +kernel
def tX6_sendAgain : Nat → sw_I := fun pc => (bif Nat.ble pc 33 then (bif Nat.ble pc 12 then (bif Nat.ble pc 3 then (bif Nat.ble pc 1 then (bif Nat.ble pc 0 then (bif Nat.beq pc 0 then (0, 0, 0, 1, 0) else (99, 0, 0, 0, 0)) else (bif Nat.beq pc 1 then (3, 1, 0, 2, 0) else (99, 0, 0, 0, 0))) else (bif Nat.ble pc 2 then (bif Nat.beq pc 2 then (0, 0, 0, 3, 0) else (99, 0, 0, 0, 0)) else (bif Nat.beq pc 3 then (3, 2, 0, 4, 0) else (99, 0, 0, 0, 0)))) else (bif Nat.ble pc 5 then (bif Nat.ble pc 4 then (bif Nat.beq pc 4 then (1, 2, 0, 5, 0) else (99, 0, 0, 0, 0)) else (bif Nat.beq pc 5 then (2, 0, 0, 6, 0) else (99, 0, 0, 0, 0))) else (bif Nat.ble pc 6 then (bif Nat.beq pc 6 then (7, 6, 2, 9, 0) else (99, 0, 0, 0, 0)) else (bif Nat.ble pc 9 then (bif Nat.beq pc 9 then (18, 120, 0, 12, 0) else (99, 0, 0, 0, 0)) else (bif Nat.beq pc 12 then (13, 3, 70, 15, 0) else (99, 0, 0, 0, 0)))))) else (bif Nat.ble pc 22 then (bif Nat.ble pc 16 then (bif Nat.ble pc 15 then (bif Nat.beq pc 15 then (2, 0, 0, 16, 0) else (99, 0, 0, 0, 0)) else (bif Nat.beq pc 16 then (7, 6, 3, 19, 0) else (99, 0, 0, 0, 0))) else (bif Nat.ble pc 19 then (bif Nat.beq pc 19 then (18, 128, 0, 22, 0) else (99, 0, 0, 0, 0)) else (bif Nat.beq pc 22 then (12, 0, 70, 25, 0) else (99, 0, 0, 0, 0)))) else (bif Nat.ble pc 26 then (bif Nat.ble pc 25 then (bif Nat.beq pc 25 then (2, 0, 0, 26, 0) else (99, 0, 0, 0, 0)) else (bif Nat.beq pc 26 then (7, 6, 2, 29, 0) else (99, 0, 0, 0, 0))) else (bif Nat.ble pc 29 then (bif Nat.beq pc 29 then (1, 2, 0, 30, 0) else (99, 0, 0, 0, 0)) else (bif Nat.ble pc 30 then (bif Nat.beq pc 30 then (18, 121, 0, 33, 0) else (99, 0, 0, 0, 0)) else (bif Nat.beq pc 33 then (4, 3, 0, 34, 0) else (99, 0, 0, 0, 0))))))) else (bif Nat.ble pc 50 then (bif Nat.ble pc 39 then (bif Nat.ble pc 35 then (bif Nat.ble pc 34 then (bif Nat.beq pc 34 then (2, 3, 0, 35, 0) else (99, 0, 0, 0, 0)) else (bif Nat.beq pc 35 then (14, 0, 64, 38, 0) else (99, 0, 0, 0, 0))) else (bif Nat.ble pc 38 then (bif Nat.beq pc 38 then (2, 0, 0, 39, 0) else (99, 0, 0, 0, 0)) else (bif Nat.beq pc 39 then (7, 6, 4, 42, 0) else (99, 0, 0, 0, 0)))) else (bif Nat.ble pc 43 then (bif Nat.ble pc 42 then (bif Nat.beq pc 42 then (2, 3, 0, 43, 0) else (99, 0, 0, 0, 0)) else (bif Nat.beq pc 43 then (18, 236, 0, 46, 0) else (99, 0, 0, 0, 0))) else (bif Nat.ble pc 46 then (bif Nat.beq pc 46 then (2, 0, 0, 47, 0) else (99, 0, 0, 0, 0)) else (bif Nat.ble pc 47 then (bif Nat.beq pc 47 then (7, 6, 4, 50, 0) else (99, 0, 0, 0, 0)) else (bif Nat.beq pc 50 then (2, 0, 0, 51, 0) else (99, 0, 0, 0, 0)))))) else (bif Nat.ble pc 58 then (bif Nat.ble pc 54 then (bif Nat.ble pc 51 then (bif Nat.beq pc 51 then (7, 6, 6, 54, 0) else (99, 0, 0, 0, 0)) else (bif Nat.beq pc 54 then (18, 239, 0, 57, 0) else (99, 0, 0, 0, 0))) else (bif Nat.ble pc 57 then (bif Nat.beq pc 57 then (2, 0, 0, 58, 0) else (99, 0, 0, 0, 0)) else (bif Nat.beq pc 58 then (18, 230, 0, 61, 0) else (99, 0, 0, 0, 0)))) else (bif Nat.ble pc 64 then (bif Nat.ble pc 61 then (bif Nat.beq pc 61 then (5, 1, 0, 64, 1) else (99, 0, 0, 0, 0)) else (bif Nat.beq pc 64 then (5, 2, 0, 67, 1) else (99, 0, 0, 0, 0))) else (bif Nat.ble pc 67 then (bif Nat.beq pc 67 then (16, 0, 4, 0, 0) else (99, 0, 0, 0, 0)) else (bif Nat.ble pc 70 then (bif Nat.beq pc 70 then (1, 1, 0, 71, 0) else (99, 0, 0, 0, 0)) else (bif Nat.beq pc 71 then (19, 0, 0, 0, 0) else (99, 0, 0, 0, 0))))))))
def sX6_sendAgain : sw_T := fun _ => []
set_option maxRecDepth 100000 in
theorem kX6_sendAgain : sw_chk cX6_sendAgain flX6 cnX6 sX6_sendAgain 71 tX6_sendAgain = true := by decide +kernel
def tX6_meet : Nat → sw_I := fun pc => (bif Nat.ble pc 61 then (bif Nat.ble pc 32 then (bif Nat.ble pc 15 then (bif Nat.ble pc 5 then (bif Nat.ble pc 1 then (bif Nat.ble pc 0 then (bif Nat.beq pc 0 then (2, 1, 0, 1, 0) else (99, 0, 0, 0, 0)) else (bif Nat.beq pc 1 then (2, 0, 0, 2, 0) else (99, 0, 0, 0, 0))) else (bif Nat.ble pc 2 then (bif Nat.beq pc 2 then (7, 6, 0, 5, 0) else (99, 0, 0, 0, 0)) else (bif Nat.beq pc 5 then (18, 242, 0, 8, 0) else (99, 0, 0, 0, 0)))) else (bif Nat.ble pc 11 then (bif Nat.ble pc 8 then (bif Nat.beq pc 8 then (12, 1, 16, 11, 0) else (99, 0, 0, 0, 0)) else (bif Nat.beq pc 11 then (2, 0, 0, 12, 0) else (99, 0, 0, 0, 0))) else (bif Nat.ble pc 12 then (bif Nat.beq pc 12 then (18, 246, 0, 15, 0) else (99, 0, 0, 0, 0)) else (bif Nat.beq pc 15 then (19, 0, 0, 0, 0) else (99, 0, 0, 0, 0))))) else (bif Nat.ble pc 21 then (bif Nat.ble pc 17 then (bif Nat.ble pc 16 then (bif Nat.beq pc 16 then (2, 0, 0, 17, 0) else (99, 0, 0, 0, 0)) else (bif Nat.beq pc 17 then (2, 1, 0, 18, 0) else (99, 0, 0, 0, 0))) else (bif Nat.ble pc 18 then (bif Nat.beq pc 18 then (18, 249, 0, 21, 0) else (99, 0, 0, 0, 0)) else (bif Nat.beq pc 21 then (18, 252, 0, 24, 0) else (99, 0, 0, 0, 0)))) else (bif Nat.ble pc 25 then (bif Nat.ble pc 24 then (bif Nat.beq pc 24 then (2, 1, 0, 25, 0) else (99, 0, 0, 0, 0)) else (bif Nat.beq pc 25 then (18, 255, 0, 28, 0) else (99, 0, 0, 0, 0))) else (bif Nat.ble pc 28 then (bif Nat.beq pc 28 then (12, 1, 33, 31, 0) else (99, 0, 0, 0, 0)) else (bif Nat.ble pc 31 then (bif Nat.beq pc 31 then (0, 0, 0, 32, 3) else (99, 0, 0, 0, 0)) else (bif Nat.beq pc 32 then (19, 0, 0, 0, 0) else (99, 0, 0, 0, 0))))))) else (bif Nat.ble pc 46 then (bif Nat.ble pc 38 then (bif Nat.ble pc 34 then (bif Nat.ble pc 33 then (bif Nat.beq pc 33 then (2, 1, 0, 34, 0) else (99, 0, 0, 0, 0)) else (bif Nat.beq pc 34 then (18, 258, 0, 37, 0) else (99, 0, 0, 0, 0))) else (bif Nat.ble pc 37 then (bif Nat.beq pc 37 then (2, 0, 0, 38, 0) else (99, 0, 0, 0, 0)) else (bif Nat.beq pc 38 then (7, 6, 6, 41, 0) else (99, 0, 0, 0, 0)))) else (bif Nat.ble pc 44 then (bif Nat.ble pc 41 then (bif Nat.beq pc 41 then (13, 0, 61, 44, 0) else (99, 0, 0, 0, 0)) else (bif Nat.beq pc 44 then (2, 0, 0, 45, 0) else (99, 0, 0, 0, 0))) else (bif Nat.ble pc 45 then (bif Nat.beq pc 45 then (22, 0, 0, 46, 0) else (99, 0, 0, 0, 0)) else (bif Nat.beq pc 46 then (7, 6, 14, 49, 0) else (99, 0, 0, 0, 0))))) else (bif Nat.ble pc 54 then (bif Nat.ble pc 50 then (bif Nat.ble pc 49 then (bif Nat.beq pc 49 then (0, 0, 0, 50, 1) else (99, 0, 0, 0, 0)) else (bif Nat.beq pc 50 then (6, 0, 0, 51, 0) else (99, 0, 0, 0, 0))) else (bif Nat.ble pc 51 then (bif Nat.beq pc 51 then (8, 6, 14, 54, 0) else (99, 0, 0, 0, 0)) else (bif Nat.beq pc 54 then (2, 0, 0, 55, 0) else (99, 0, 0, 0, 0)))) else (bif Nat.ble pc 56 then (bif Nat.ble pc 55 then (bif Nat.beq pc 55 then (0, 0, 0, 56, 1) else (99, 0, 0, 0, 0)) else (bif Nat.beq pc 56 then (8, 6, 9, 59, 0) else (99, 0, 0, 0, 0))) else (bif Nat.ble pc 59 then (bif Nat.beq pc 59 then (0, 0, 0, 60, 4) else (99, 0, 0, 0, 0)) else (bif Nat.ble pc 60 then (bif Nat.beq pc 60 then (19, 0, 0, 0, 0) else (99, 0, 0, 0, 0)) else (bif Nat.beq pc 61 then (2, 0, 0, 62, 0) else (99, 0, 0, 0, 0)))))))) else (bif Nat.ble pc 92 then (bif Nat.ble pc 75 then (bif Nat.ble pc 69 then (bif Nat.ble pc 63 then (bif Nat.ble pc 62 then (bif Nat.beq pc 62 then (2, 1, 0, 63, 0) else (99, 0, 0, 0, 0)) else (bif Nat.beq pc 63 then (18, 264, 0, 66, 0) else (99, 0, 0, 0, 0))) else (bif Nat.ble pc 66 then (bif Nat.beq pc 66 then (18, 156, 0, 69, 0) else (99, 0, 0, 0, 0)) else (bif Nat.beq pc 69 then (4, 2, 0, 70, 0) else (99, 0, 0, 0, 0)))) else (bif Nat.ble pc 71 then (bif Nat.ble pc 70 then (bif Nat.beq pc 70 then (2, 2, 0, 71, 0) else (99, 0, 0, 0, 0)) else (bif Nat.beq pc 71 then (14, 0, 82, 74, 0) else (99, 0, 0, 0, 0))) else (bif Nat.ble pc 74 then (bif Nat.beq pc 74 then (2, 2, 0, 75, 0) else (99, 0, 0, 0, 0)) else (bif Nat.beq pc 75 then (2, 1, 0, 76, 0) else (99, 0, 0, 0, 0))))) else (bif Nat.ble pc 83 then (bif Nat.ble pc 79 then (bif Nat.ble pc 76 then (bif Nat.beq pc 76 then (18, 267, 0, 79, 0) else (99, 0, 0, 0, 0)) else (bif Nat.beq pc 79 then (12, 1, 87, 82, 0) else (99, 0, 0, 0, 0))) else (bif Nat.ble pc 82 then (bif Nat.beq pc 82 then (2, 0, 0, 83, 0) else (99, 0, 0, 0, 0)) else (bif Nat.beq pc 83 then (18, 246, 0, 86, 0) else (99, 0, 0, 0, 0)))) else (bif Nat.ble pc 87 then (bif Nat.ble pc 86 then (bif Nat.beq pc 86 then (19, 0, 0, 0, 0) else (99, 0, 0, 0, 0)) else (bif Nat.beq pc 87 then (2, 2, 0, 88, 0) else (99, 0, 0, 0, 0))) else (bif Nat.ble pc 88 then (bif Nat.beq pc 88 then (2, 1, 0, 89, 0) else (99, 0, 0, 0, 0)) else (bif Nat.ble pc 89 then (bif Nat.beq pc 89 then (18, 271, 0, 92, 0) else (99, 0, 0, 0, 0)) else (bif Nat.beq pc 92 then (2, 0, 0, 93, 0) else (99, 0, 0, 0, 0))))))) else (bif Nat.ble pc 109 then (bif Nat.ble pc 98 then (bif Nat.ble pc 94 then (bif Nat.ble pc 93 then (bif Nat.beq pc 93 then (2, 0, 0, 94, 0) else (99, 0, 0, 0, 0)) else (bif Nat.beq pc 94 then (7, 6, 0, 97, 0) else (99, 0, 0, 0, 0))) else (bif Nat.ble pc 97 then (bif Nat.beq pc 97 then (2, 0, 0, 98, 0) else (99, 0, 0, 0, 0)) else (bif Nat.beq pc 98 then (7, 6, 6, 101, 0) else (99, 0, 0, 0, 0)))) else (bif Nat.ble pc 102 then (bif Nat.ble pc 101 then (bif Nat.beq pc 101 then (0, 0, 0, 102, 1) else (99, 0, 0, 0, 0)) else (bif Nat.beq pc 102 then (18, 214, 0, 105, 0) else (99, 0, 0, 0, 0))) else (bif Nat.ble pc 105 then (bif Nat.beq pc 105 then (8, 6, 6, 108, 0) else (99, 0, 0, 0, 0)) else (bif Nat.ble pc 108 then (bif Nat.beq pc 108 then (2, 0, 0, 109, 0) else (99, 0, 0, 0, 0)) else (bif Nat.beq pc 109 then (22, 0, 0, 110, 0) else (99, 0, 0, 0, 0)))))) else (bif Nat.ble pc 115 then (bif Nat.ble pc 113 then (bif Nat.ble pc 110 then (bif Nat.beq pc 110 then (7, 6, 12, 113, 0) else (99, 0, 0, 0, 0)) else (bif Nat.beq pc 113 then (0, 0, 0, 114, 1) else (99, 0, 0, 0, 0))) else (bif Nat.ble pc 114 then (bif Nat.beq pc 114 then (6, 0, 0, 115, 0) else (99, 0, 0, 0, 0)) else (bif Nat.beq pc 115 then (8, 6, 12, 118, 0) else (99, 0, 0, 0, 0)))) else (bif Nat.ble pc 119 then (bif Nat.ble pc 118 then (bif Nat.beq pc 118 then (2, 0, 0, 119, 0) else (99, 0, 0, 0, 0)) else (bif Nat.beq pc 119 then (0, 0, 0, 120, 1) else (99, 0, 0, 0, 0))) else (bif Nat.ble pc 120 then (bif Nat.beq pc 120 then (8, 6, 9, 123, 0) else (99, 0, 0, 0, 0)) else (bif Nat.ble pc 123 then (bif Nat.beq pc 123 then (0, 0, 0, 124, 1) else (99, 0, 0, 0, 0)) else (bif Nat.beq pc 124 then (19, 0, 0, 0, 0) else (99, 0, 0, 0, 0)))))))))
def sX6_meet : sw_T := fun _ => []
set_option maxRecDepth 100000 in
theorem kX6_meet : sw_chk cX6_meet flX6 cnX6 sX6_meet 124 tX6_meet = true := by decide +kernel
def tX6_refuse : Nat → sw_I := fun pc => (bif Nat.ble pc 5 then (bif Nat.ble pc 1 then (bif Nat.ble pc 0 then (bif Nat.beq pc 0 then (2, 0, 0, 1, 0) else (99, 0, 0, 0, 0)) else (bif Nat.beq pc 1 then (22, 0, 0, 2, 0) else (99, 0, 0, 0, 0))) else (bif Nat.ble pc 2 then (bif Nat.beq pc 2 then (7, 6, 13, 5, 0) else (99, 0, 0, 0, 0)) else (bif Nat.beq pc 5 then (0, 0, 0, 6, 1) else (99, 0, 0, 0, 0)))) else (bif Nat.ble pc 7 then (bif Nat.ble pc 6 then (bif Nat.beq pc 6 then (6, 0, 0, 7, 0) else (99, 0, 0, 0, 0)) else (bif Nat.beq pc 7 then (8, 6, 13, 10, 0) else (99, 0, 0, 0, 0))) else (bif Nat.ble pc 10 then (bif Nat.beq pc 10 then (0, 0, 0, 11, 2) else (99, 0, 0, 0, 0)) else (bif Nat.beq pc 11 then (19, 0, 0, 0, 0) else (99, 0, 0, 0, 0)))))
def sX6_refuse : sw_T := fun _ => []
set_option maxRecDepth 100000 in
theorem kX6_refuse : sw_chk cX6_refuse flX6 cnX6 sX6_refuse 11 tX6_refuse = true := by decide +kernel
def tX6_settleBefore : Nat → sw_I := fun pc => (bif Nat.ble pc 25 then (bif Nat.ble pc 12 then (bif Nat.ble pc 4 then (bif Nat.ble pc 0 then (bif Nat.beq pc 0 then (2, 0, 0, 1, 0) else (99, 0, 0, 0, 0)) else (bif Nat.ble pc 1 then (bif Nat.beq pc 1 then (7, 6, 0, 4, 0) else (99, 0, 0, 0, 0)) else (bif Nat.beq pc 4 then (2, 0, 0, 5, 0) else (99, 0, 0, 0, 0)))) else (bif Nat.ble pc 8 then (bif Nat.ble pc 5 then (bif Nat.beq pc 5 then (7, 6, 5, 8, 0) else (99, 0, 0, 0, 0)) else (bif Nat.beq pc 8 then (1, 1, 0, 9, 0) else (99, 0, 0, 0, 0))) else (bif Nat.ble pc 9 then (bif Nat.beq pc 9 then (18, 280, 0, 12, 0) else (99, 0, 0, 0, 0)) else (bif Nat.beq pc 12 then (3, 2, 0, 13, 0) else (99, 0, 0, 0, 0))))) else (bif Nat.ble pc 15 then (bif Nat.ble pc 13 then (bif Nat.beq pc 13 then (1, 2, 0, 14, 0) else (99, 0, 0, 0, 0)) else (bif Nat.ble pc 14 then (bif Nat.beq pc 14 then (2, 0, 0, 15, 0) else (99, 0, 0, 0, 0)) else (bif Nat.beq pc 15 then (7, 6, 2, 18, 0) else (99, 0, 0, 0, 0)))) else (bif Nat.ble pc 21 then (bif Nat.ble pc 18 then (bif Nat.beq pc 18 then (18, 120, 0, 21, 0) else (99, 0, 0, 0, 0)) else (bif Nat.beq pc 21 then (13, 5, 25, 24, 0) else (99, 0, 0, 0, 0))) else (bif Nat.ble pc 24 then (bif Nat.beq pc 24 then (21, 0, 0, 0, 0) else (99, 0, 0, 0, 0)) else (bif Nat.beq pc 25 then (0, 0, 0, 26, 0) else (99, 0, 0, 0, 0)))))) else (bif Nat.ble pc 36 then (bif Nat.ble pc 28 then (bif Nat.ble pc 26 then (bif Nat.beq pc 26 then (3, 3, 0, 27, 0) else (99, 0, 0, 0, 0)) else (bif Nat.ble pc 27 then (bif Nat.beq pc 27 then (1, 3, 0, 28, 0) else (99, 0, 0, 0, 0)) else (bif Nat.beq pc 28 then (1, 2, 0, 29, 0) else (99, 0, 0, 0, 0)))) else (bif Nat.ble pc 32 then (bif Nat.ble pc 29 then (bif Nat.beq pc 29 then (13, 3, 46, 32, 0) else (99, 0, 0, 0, 0)) else (bif Nat.beq pc 32 then (2, 0, 0, 33, 0) else (99, 0, 0, 0, 0))) else (bif Nat.ble pc 33 then (bif Nat.beq pc 33 then (7, 6, 2, 36, 0) else (99, 0, 0, 0, 0)) else (bif Nat.beq pc 36 then (18, 283, 0, 39, 0) else (99, 0, 0, 0, 0))))) else (bif Nat.ble pc 43 then (bif Nat.ble pc 39 then (bif Nat.beq pc 39 then (24, 0, 0, 40, 0) else (99, 0, 0, 0, 0)) else (bif Nat.ble pc 40 then (bif Nat.beq pc 40 then (5, 3, 0, 43, 1) else (99, 0, 0, 0, 0)) else (bif Nat.beq pc 43 then (16, 0, 27, 0, 0) else (99, 0, 0, 0, 0)))) else (bif Nat.ble pc 47 then (bif Nat.ble pc 46 then (bif Nat.beq pc 46 then (2, 0, 0, 47, 0) else (99, 0, 0, 0, 0)) else (bif Nat.beq pc 47 then (1, 1, 0, 48, 0) else (99, 0, 0, 0, 0))) else (bif Nat.ble pc 48 then (bif Nat.beq pc 48 then (8, 6, 5, 51, 0) else (99, 0, 0, 0, 0)) else (bif Nat.beq pc 51 then (21, 0, 0, 0, 0) else (99, 0, 0, 0, 0)))))))
def sX6_settleBefore : sw_T := fun _ => []
set_option maxRecDepth 100000 in
theorem kX6_settleBefore : sw_chk cX6_settleBefore flX6 cnX6 sX6_settleBefore 51 tX6_settleBefore = true := by decide +kernel
def tX6_tell : Nat → sw_I := fun pc => (bif Nat.ble pc 96 then (bif Nat.ble pc 77 then (bif Nat.ble pc 68 then (bif Nat.ble pc 1 then (bif Nat.ble pc 0 then (bif Nat.beq pc 0 then (1, 1, 0, 1, 0) else (99, 0, 0, 0, 0)) else (bif Nat.beq pc 1 then (17, 133, 0, 0, 0) else (99, 0, 0, 0, 0))) else (bif Nat.ble pc 64 then (bif Nat.beq pc 64 then (2, 0, 0, 65, 0) else (99, 0, 0, 0, 0)) else (bif Nat.ble pc 65 then (bif Nat.beq pc 65 then (18, 76, 0, 68, 0) else (99, 0, 0, 0, 0)) else (bif Nat.beq pc 68 then (19, 0, 0, 0, 0) else (99, 0, 0, 0, 0))))) else (bif Nat.ble pc 70 then (bif Nat.ble pc 69 then (bif Nat.beq pc 69 then (2, 0, 0, 70, 0) else (99, 0, 0, 0, 0)) else (bif Nat.beq pc 70 then (7, 6, 2, 73, 0) else (99, 0, 0, 0, 0))) else (bif Nat.ble pc 73 then (bif Nat.beq pc 73 then (18, 120, 0, 76, 0) else (99, 0, 0, 0, 0)) else (bif Nat.ble pc 76 then (bif Nat.beq pc 76 then (19, 0, 0, 0, 0) else (99, 0, 0, 0, 0)) else (bif Nat.beq pc 77 then (2, 0, 0, 78, 0) else (99, 0, 0, 0, 0)))))) else (bif Nat.ble pc 86 then (bif Nat.ble pc 81 then (bif Nat.ble pc 78 then (bif Nat.beq pc 78 then (7, 6, 5, 81, 0) else (99, 0, 0, 0, 0)) else (bif Nat.beq pc 81 then (19, 0, 0, 0, 0) else (99, 0, 0, 0, 0))) else (bif Nat.ble pc 82 then (bif Nat.beq pc 82 then (2, 0, 0, 83, 0) else (99, 0, 0, 0, 0)) else (bif Nat.ble pc 83 then (bif Nat.beq pc 83 then (7, 6, 6, 86, 0) else (99, 0, 0, 0, 0)) else (bif Nat.beq pc 86 then (19, 0, 0, 0, 0) else (99, 0, 0, 0, 0))))) else (bif Nat.ble pc 91 then (bif Nat.ble pc 87 then (bif Nat.beq pc 87 then (2, 0, 0, 88, 0) else (99, 0, 0, 0, 0)) else (bif Nat.ble pc 88 then (bif Nat.beq pc 88 then (7, 6, 3, 91, 0) else (99, 0, 0, 0, 0)) else (bif Nat.beq pc 91 then (18, 120, 0, 94, 0) else (99, 0, 0, 0, 0)))) else (bif Nat.ble pc 94 then (bif Nat.beq pc 94 then (19, 0, 0, 0, 0) else (99, 0, 0, 0, 0)) else (bif Nat.ble pc 95 then (bif Nat.beq pc 95 then (2, 0, 0, 96, 0) else (99, 0, 0, 0, 0)) else (bif Nat.beq pc 96 then (7, 6, 7, 99, 0) else (99, 0, 0, 0, 0))))))) else (bif Nat.ble pc 117 then (bif Nat.ble pc 105 then (bif Nat.ble pc 100 then (bif Nat.ble pc 99 then (bif Nat.beq pc 99 then (19, 0, 0, 0, 0) else (99, 0, 0, 0, 0)) else (bif Nat.beq pc 100 then (2, 0, 0, 101, 0) else (99, 0, 0, 0, 0))) else (bif Nat.ble pc 101 then (bif Nat.beq pc 101 then (7, 6, 8, 104, 0) else (99, 0, 0, 0, 0)) else (bif Nat.ble pc 104 then (bif Nat.beq pc 104 then (19, 0, 0, 0, 0) else (99, 0, 0, 0, 0)) else (bif Nat.beq pc 105 then (2, 0, 0, 106, 0) else (99, 0, 0, 0, 0))))) else (bif Nat.ble pc 112 then (bif Nat.ble pc 106 then (bif Nat.beq pc 106 then (7, 6, 9, 109, 0) else (99, 0, 0, 0, 0)) else (bif Nat.ble pc 109 then (bif Nat.beq pc 109 then (18, 286, 1, 112, 0) else (99, 0, 0, 0, 0)) else (bif Nat.beq pc 112 then (19, 0, 0, 0, 0) else (99, 0, 0, 0, 0)))) else (bif Nat.ble pc 113 then (bif Nat.beq pc 113 then (2, 0, 0, 114, 0) else (99, 0, 0, 0, 0)) else (bif Nat.ble pc 114 then (bif Nat.beq pc 114 then (7, 6, 11, 117, 0) else (99, 0, 0, 0, 0)) else (bif Nat.beq pc 117 then (19, 0, 0, 0, 0) else (99, 0, 0, 0, 0)))))) else (bif Nat.ble pc 124 then (bif Nat.ble pc 119 then (bif Nat.ble pc 118 then (bif Nat.beq pc 118 then (2, 0, 0, 119, 0) else (99, 0, 0, 0, 0)) else (bif Nat.beq pc 119 then (7, 6, 12, 122, 0) else (99, 0, 0, 0, 0))) else (bif Nat.ble pc 122 then (bif Nat.beq pc 122 then (19, 0, 0, 0, 0) else (99, 0, 0, 0, 0)) else (bif Nat.ble pc 123 then (bif Nat.beq pc 123 then (2, 0, 0, 124, 0) else (99, 0, 0, 0, 0)) else (bif Nat.beq pc 124 then (7, 6, 13, 127, 0) else (99, 0, 0, 0, 0))))) else (bif Nat.ble pc 129 then (bif Nat.ble pc 127 then (bif Nat.beq pc 127 then (19, 0, 0, 0, 0) else (99, 0, 0, 0, 0)) else (bif Nat.ble pc 128 then (bif Nat.beq pc 128 then (2, 0, 0, 129, 0) else (99, 0, 0, 0, 0)) else (bif Nat.beq pc 129 then (7, 6, 14, 132, 0) else (99, 0, 0, 0, 0)))) else (bif Nat.ble pc 132 then (bif Nat.beq pc 132 then (19, 0, 0, 0, 0) else (99, 0, 0, 0, 0)) else (bif Nat.ble pc 133 then (bif Nat.beq pc 133 then (0, 0, 0, 134, (-1)) else (99, 0, 0, 0, 0)) else (bif Nat.beq pc 134 then (19, 0, 0, 0, 0) else (99, 0, 0, 0, 0))))))))
def sX6_tell : sw_T := fun pc => (bif Nat.beq pc 1 then [(0, 64), (1, 69), (2, 77), (3, 82), (4, 87), (5, 95), (6, 100), (7, 105), (8, 113), (9, 118), (10, 123), (11, 128)] else [])
set_option maxRecDepth 100000 in
theorem kX6_tell : sw_chk cX6_tell flX6 cnX6 sX6_tell 134 tX6_tell = true := by decide +kernel
def tX7_open : Nat → sw_I := fun pc => (bif Nat.ble pc 11 then (bif Nat.ble pc 3 then (bif Nat.ble pc 1 then (bif Nat.ble pc 0 then (bif Nat.beq pc 0 then (2, 0, 0, 1, 0) else (99, 0, 0, 0, 0)) else (bif Nat.beq pc 1 then (1, 1, 0, 2, 0) else (99, 0, 0, 0, 0))) else (bif Nat.ble pc 2 then (bif Nat.beq pc 2 then (1, 2, 0, 3, 0) else (99, 0, 0, 0, 0)) else (bif Nat.beq pc 3 then (18, 26, 0, 6, 0) else (99, 0, 0, 0, 0)))) else (bif Nat.ble pc 7 then (bif Nat.ble pc 6 then (bif Nat.beq pc 6 then (4, 3, 0, 7, 0) else (99, 0, 0, 0, 0)) else (bif Nat.beq pc 7 then (2, 3, 0, 8, 0) else (99, 0, 0, 0, 0))) else (bif Nat.ble pc 8 then (bif Nat.beq pc 8 then (15, 0, 13, 11, 0) else (99, 0, 0, 0, 0)) else (bif Nat.beq pc 11 then (0, 0, 0, 12, (-1)) else (99, 0, 0, 0, 0))))) else (bif Nat.ble pc 17 then (bif Nat.ble pc 13 then (bif Nat.ble pc 12 then (bif Nat.beq pc 12 then (19, 0, 0, 0, 0) else (99, 0, 0, 0, 0)) else (bif Nat.beq pc 13 then (2, 3, 0, 14, 0) else (99, 0, 0, 0, 0))) else (bif Nat.ble pc 14 then (bif Nat.beq pc 14 then (18, 30, 0, 17, 0) else (99, 0, 0, 0, 0)) else (bif Nat.beq pc 17 then (12, 0, 24, 20, 0) else (99, 0, 0, 0, 0)))) else (bif Nat.ble pc 21 then (bif Nat.ble pc 20 then (bif Nat.beq pc 20 then (0, 0, 0, 21, 1) else (99, 0, 0, 0, 0)) else (bif Nat.beq pc 21 then (16, 0, 25, 0, 0) else (99, 0, 0, 0, 0))) else (bif Nat.ble pc 24 then (bif Nat.beq pc 24 then (0, 0, 0, 25, 0) else (99, 0, 0, 0, 0)) else (bif Nat.beq pc 25 then (19, 0, 0, 0, 0) else (99, 0, 0, 0, 0))))))
def sX7_open : sw_T := fun _ => []
set_option maxRecDepth 100000 in
theorem kX7_open : sw_chk cX7_open flX7 cnX7 sX7_open 25 tX7_open = true := by decide +kernel
def tX7_send : Nat → sw_I := fun pc => (bif Nat.ble pc 2 then (bif Nat.ble pc 0 then (bif Nat.beq pc 0 then (2, 0, 0, 1, 0) else (99, 0, 0, 0, 0)) else (bif Nat.ble pc 1 then (bif Nat.beq pc 1 then (1, 1, 0, 2, 0) else (99, 0, 0, 0, 0)) else (bif Nat.beq pc 2 then (1, 2, 0, 3, 0) else (99, 0, 0, 0, 0)))) else (bif Nat.ble pc 4 then (bif Nat.ble pc 3 then (bif Nat.beq pc 3 then (1, 3, 0, 4, 0) else (99, 0, 0, 0, 0)) else (bif Nat.beq pc 4 then (0, 0, 0, 5, 0) else (99, 0, 0, 0, 0))) else (bif Nat.ble pc 5 then (bif Nat.beq pc 5 then (18, 36, 0, 8, 0) else (99, 0, 0, 0, 0)) else (bif Nat.beq pc 8 then (19, 0, 0, 0, 0) else (99, 0, 0, 0, 0)))))
def sX7_send : sw_T := fun _ => []
set_option maxRecDepth 100000 in
theorem kX7_send : sw_chk cX7_send flX7 cnX7 sX7_send 8 tX7_send = true := by decide +kernel
def tX7_mark : Nat → sw_I := fun pc => (bif Nat.ble pc 2 then (bif Nat.ble pc 0 then (bif Nat.beq pc 0 then (2, 0, 0, 1, 0) else (99, 0, 0, 0, 0)) else (bif Nat.ble pc 1 then (bif Nat.beq pc 1 then (1, 1, 0, 2, 0) else (99, 0, 0, 0, 0)) else (bif Nat.beq pc 2 then (1, 2, 0, 3, 0) else (99, 0, 0, 0, 0)))) else (bif Nat.ble pc 4 then (bif Nat.ble pc 3 then (bif Nat.beq pc 3 then (0, 0, 0, 4, 0) else (99, 0, 0, 0, 0)) else (bif Nat.beq pc 4 then (0, 0, 0, 5, 1) else (99, 0, 0, 0, 0))) else (bif Nat.ble pc 5 then (bif Nat.beq pc 5 then (18, 36, 0, 8, 0) else (99, 0, 0, 0, 0)) else (bif Nat.beq pc 8 then (19, 0, 0, 0, 0) else (99, 0, 0, 0, 0)))))
def sX7_mark : sw_T := fun _ => []
set_option maxRecDepth 100000 in
theorem kX7_mark : sw_chk cX7_mark flX7 cnX7 sX7_mark 8 tX7_mark = true := by decide +kernel
def tX7_close : Nat → sw_I := fun pc => (bif Nat.ble pc 11 then (bif Nat.ble pc 3 then (bif Nat.ble pc 1 then (bif Nat.ble pc 0 then (bif Nat.beq pc 0 then (2, 0, 0, 1, 0) else (99, 0, 0, 0, 0)) else (bif Nat.beq pc 1 then (1, 1, 0, 2, 0) else (99, 0, 0, 0, 0))) else (bif Nat.ble pc 2 then (bif Nat.beq pc 2 then (1, 2, 0, 3, 0) else (99, 0, 0, 0, 0)) else (bif Nat.beq pc 3 then (18, 26, 0, 6, 0) else (99, 0, 0, 0, 0)))) else (bif Nat.ble pc 7 then (bif Nat.ble pc 6 then (bif Nat.beq pc 6 then (4, 3, 0, 7, 0) else (99, 0, 0, 0, 0)) else (bif Nat.beq pc 7 then (2, 3, 0, 8, 0) else (99, 0, 0, 0, 0))) else (bif Nat.ble pc 8 then (bif Nat.beq pc 8 then (15, 0, 13, 11, 0) else (99, 0, 0, 0, 0)) else (bif Nat.beq pc 11 then (0, 0, 0, 12, (-1)) else (99, 0, 0, 0, 0))))) else (bif Nat.ble pc 17 then (bif Nat.ble pc 13 then (bif Nat.ble pc 12 then (bif Nat.beq pc 12 then (19, 0, 0, 0, 0) else (99, 0, 0, 0, 0)) else (bif Nat.beq pc 13 then (2, 3, 0, 14, 0) else (99, 0, 0, 0, 0))) else (bif Nat.ble pc 14 then (bif Nat.beq pc 14 then (18, 40, 0, 17, 0) else (99, 0, 0, 0, 0)) else (bif Nat.beq pc 17 then (12, 0, 24, 20, 0) else (99, 0, 0, 0, 0)))) else (bif Nat.ble pc 21 then (bif Nat.ble pc 20 then (bif Nat.beq pc 20 then (0, 0, 0, 21, 1) else (99, 0, 0, 0, 0)) else (bif Nat.beq pc 21 then (16, 0, 25, 0, 0) else (99, 0, 0, 0, 0))) else (bif Nat.ble pc 24 then (bif Nat.beq pc 24 then (0, 0, 0, 25, 0) else (99, 0, 0, 0, 0)) else (bif Nat.beq pc 25 then (19, 0, 0, 0, 0) else (99, 0, 0, 0, 0))))))
def sX7_close : sw_T := fun _ => []
set_option maxRecDepth 100000 in
theorem kX7_close : sw_chk cX7_close flX7 cnX7 sX7_close 25 tX7_close = true := by decide +kernel
def tX7_receive : Nat → sw_I := fun pc => (bif Nat.ble pc 12 then (bif Nat.ble pc 5 then (bif Nat.ble pc 1 then (bif Nat.ble pc 0 then (bif Nat.beq pc 0 then (2, 0, 0, 1, 0) else (99, 0, 0, 0, 0)) else (bif Nat.beq pc 1 then (1, 1, 0, 2, 0) else (99, 0, 0, 0, 0))) else (bif Nat.ble pc 2 then (bif Nat.beq pc 2 then (18, 43, 0, 5, 0) else (99, 0, 0, 0, 0)) else (bif Nat.beq pc 5 then (4, 3, 0, 6, 0) else (99, 0, 0, 0, 0)))) else (bif Nat.ble pc 7 then (bif Nat.ble pc 6 then (bif Nat.beq pc 6 then (2, 0, 0, 7, 0) else (99, 0, 0, 0, 0)) else (bif Nat.beq pc 7 then (1, 1, 0, 8, 0) else (99, 0, 0, 0, 0))) else (bif Nat.ble pc 8 then (bif Nat.beq pc 8 then (1, 2, 0, 9, 0) else (99, 0, 0, 0, 0)) else (bif Nat.ble pc 9 then (bif Nat.beq pc 9 then (18, 26, 0, 12, 0) else (99, 0, 0, 0, 0)) else (bif Nat.beq pc 12 then (4, 4, 0, 14, 0) else (99, 0, 0, 0, 0)))))) else (bif Nat.ble pc 23 then (bif Nat.ble pc 15 then (bif Nat.ble pc 14 then (bif Nat.beq pc 14 then (2, 3, 0, 15, 0) else (99, 0, 0, 0, 0)) else (bif Nat.beq pc 15 then (14, 0, 23, 18, 0) else (99, 0, 0, 0, 0))) else (bif Nat.ble pc 18 then (bif Nat.beq pc 18 then (2, 4, 0, 20, 0) else (99, 0, 0, 0, 0)) else (bif Nat.ble pc 20 then (bif Nat.beq pc 20 then (15, 0, 25, 23, 0) else (99, 0, 0, 0, 0)) else (bif Nat.beq pc 23 then (0, 0, 0, 24, (-1)) else (99, 0, 0, 0, 0))))) else (bif Nat.ble pc 25 then (bif Nat.ble pc 24 then (bif Nat.beq pc 24 then (19, 0, 0, 0, 0) else (99, 0, 0, 0, 0)) else (bif Nat.beq pc 25 then (2, 3, 0, 26, 0) else (99, 0, 0, 0, 0))) else (bif Nat.ble pc 26 then (bif Nat.beq pc 26 then (2, 4, 0, 28, 0) else (99, 0, 0, 0, 0)) else (bif Nat.ble pc 28 then (bif Nat.beq pc 28 then (18, 47, 0, 31, 0) else (99, 0, 0, 0, 0)) else (bif Nat.beq pc 31 then (19, 0, 0, 0, 0) else (99, 0, 0, 0, 0)))))))
def sX7_receive : sw_T := fun _ => []
set_option maxRecDepth 100000 in
theorem kX7_receive : sw_chk cX7_receive flX7 cnX7 sX7_receive 31 tX7_receive = true := by decide +kernel
def tX7_word : Nat → sw_I := fun pc => (bif Nat.ble pc 6 then (bif Nat.ble pc 1 then (bif Nat.ble pc 0 then (bif Nat.beq pc 0 then (2, 0, 0, 1, 0) else (99, 0, 0, 0, 0)) else (bif Nat.beq pc 1 then (1, 1, 0, 2, 0) else (99, 0, 0, 0, 0))) else (bif Nat.ble pc 2 then (bif Nat.beq pc 2 then (18, 43, 0, 5, 0) else (99, 0, 0, 0, 0)) else (bif Nat.ble pc 5 then (bif Nat.beq pc 5 then (4, 2, 0, 6, 0) else (99, 0, 0, 0, 0)) else (bif Nat.beq pc 6 then (2, 2, 0, 7, 0) else (99, 0, 0, 0, 0))))) else (bif Nat.ble pc 11 then (bif Nat.ble pc 7 then (bif Nat.beq pc 7 then (15, 0, 14, 10, 0) else (99, 0, 0, 0, 0)) else (bif Nat.ble pc 10 then (bif Nat.beq pc 10 then (0, 0, 0, 11, 0) else (99, 0, 0, 0, 0)) else (bif Nat.beq pc 11 then (16, 0, 18, 0, 0) else (99, 0, 0, 0, 0)))) else (bif Nat.ble pc 14 then (bif Nat.beq pc 14 then (2, 2, 0, 15, 0) else (99, 0, 0, 0, 0)) else (bif Nat.ble pc 15 then (bif Nat.beq pc 15 then (7, 6, 10, 18, 0) else (99, 0, 0, 0, 0)) else (bif Nat.beq pc 18 then (19, 0, 0, 0, 0) else (99, 0, 0, 0, 0))))))
def sX7_word : sw_T := fun _ => []
set_option maxRecDepth 100000 in
theorem kX7_word : sw_chk cX7_word flX7 cnX7 sX7_word 18 tX7_word = true := by decide +kernel
def tX7_weight : Nat → sw_I := fun pc => (bif Nat.ble pc 18 then (bif Nat.ble pc 6 then (bif Nat.ble pc 1 then (bif Nat.ble pc 0 then (bif Nat.beq pc 0 then (2, 0, 0, 1, 0) else (99, 0, 0, 0, 0)) else (bif Nat.beq pc 1 then (1, 1, 0, 2, 0) else (99, 0, 0, 0, 0))) else (bif Nat.ble pc 2 then (bif Nat.beq pc 2 then (1, 2, 0, 3, 0) else (99, 0, 0, 0, 0)) else (bif Nat.ble pc 3 then (bif Nat.beq pc 3 then (18, 26, 0, 6, 0) else (99, 0, 0, 0, 0)) else (bif Nat.beq pc 6 then (4, 4, 0, 8, 0) else (99, 0, 0, 0, 0))))) else (bif Nat.ble pc 13 then (bif Nat.ble pc 8 then (bif Nat.beq pc 8 then (2, 4, 0, 10, 0) else (99, 0, 0, 0, 0)) else (bif Nat.ble pc 10 then (bif Nat.beq pc 10 then (14, 0, 23, 13, 0) else (99, 0, 0, 0, 0)) else (bif Nat.beq pc 13 then (1, 3, 0, 14, 0) else (99, 0, 0, 0, 0)))) else (bif Nat.ble pc 14 then (bif Nat.beq pc 14 then (0, 0, 0, 15, 1) else (99, 0, 0, 0, 0)) else (bif Nat.ble pc 15 then (bif Nat.beq pc 15 then (13, 2, 23, 18, 0) else (99, 0, 0, 0, 0)) else (bif Nat.beq pc 18 then (1, 3, 0, 19, 0) else (99, 0, 0, 0, 0)))))) else (bif Nat.ble pc 27 then (bif Nat.ble pc 23 then (bif Nat.ble pc 19 then (bif Nat.beq pc 19 then (0, 0, 0, 20, 4) else (99, 0, 0, 0, 0)) else (bif Nat.ble pc 20 then (bif Nat.beq pc 20 then (13, 5, 25, 23, 0) else (99, 0, 0, 0, 0)) else (bif Nat.beq pc 23 then (0, 0, 0, 24, (-1)) else (99, 0, 0, 0, 0)))) else (bif Nat.ble pc 24 then (bif Nat.beq pc 24 then (19, 0, 0, 0, 0) else (99, 0, 0, 0, 0)) else (bif Nat.ble pc 25 then (bif Nat.beq pc 25 then (2, 4, 0, 27, 0) else (99, 0, 0, 0, 0)) else (bif Nat.beq pc 27 then (7, 1, 4, 30, 0) else (99, 0, 0, 0, 0))))) else (bif Nat.ble pc 34 then (bif Nat.ble pc 30 then (bif Nat.beq pc 30 then (3, 5, 0, 32, 0) else (99, 0, 0, 0, 0)) else (bif Nat.ble pc 32 then (bif Nat.beq pc 32 then (2, 4, 0, 34, 0) else (99, 0, 0, 0, 0)) else (bif Nat.beq pc 34 then (1, 3, 0, 35, 0) else (99, 0, 0, 0, 0)))) else (bif Nat.ble pc 35 then (bif Nat.beq pc 35 then (8, 1, 4, 38, 0) else (99, 0, 0, 0, 0)) else (bif Nat.ble pc 38 then (bif Nat.beq pc 38 then (1, 5, 0, 40, 0) else (99, 0, 0, 0, 0)) else (bif Nat.beq pc 40 then (19, 0, 0, 0, 0) else (99, 0, 0, 0, 0)))))))
def sX7_weight : sw_T := fun _ => []
set_option maxRecDepth 100000 in
theorem kX7_weight : sw_chk cX7_weight flX7 cnX7 sX7_weight 40 tX7_weight = true := by decide +kernel
def tX7_pump : Nat → sw_I := fun pc => (bif Nat.ble pc 6 then (bif Nat.ble pc 1 then (bif Nat.ble pc 0 then (bif Nat.beq pc 0 then (2, 0, 0, 1, 0) else (99, 0, 0, 0, 0)) else (bif Nat.beq pc 1 then (1, 1, 0, 2, 0) else (99, 0, 0, 0, 0))) else (bif Nat.ble pc 2 then (bif Nat.beq pc 2 then (18, 43, 0, 5, 0) else (99, 0, 0, 0, 0)) else (bif Nat.ble pc 5 then (bif Nat.beq pc 5 then (4, 2, 0, 6, 0) else (99, 0, 0, 0, 0)) else (bif Nat.beq pc 6 then (2, 2, 0, 7, 0) else (99, 0, 0, 0, 0))))) else (bif Nat.ble pc 11 then (bif Nat.ble pc 7 then (bif Nat.beq pc 7 then (15, 0, 14, 10, 0) else (99, 0, 0, 0, 0)) else (bif Nat.ble pc 10 then (bif Nat.beq pc 10 then (0, 0, 0, 11, (-1)) else (99, 0, 0, 0, 0)) else (bif Nat.beq pc 11 then (16, 0, 18, 0, 0) else (99, 0, 0, 0, 0)))) else (bif Nat.ble pc 14 then (bif Nat.beq pc 14 then (2, 2, 0, 15, 0) else (99, 0, 0, 0, 0)) else (bif Nat.ble pc 15 then (bif Nat.beq pc 15 then (18, 58, 0, 18, 0) else (99, 0, 0, 0, 0)) else (bif Nat.beq pc 18 then (19, 0, 0, 0, 0) else (99, 0, 0, 0, 0))))))
def sX7_pump : sw_T := fun _ => []
set_option maxRecDepth 100000 in
theorem kX7_pump : sw_chk cX7_pump flX7 cnX7 sX7_pump 18 tX7_pump = true := by decide +kernel
def tX7_drain : Nat → sw_I := fun pc => (bif Nat.ble pc 21 then (bif Nat.ble pc 7 then (bif Nat.ble pc 2 then (bif Nat.ble pc 0 then (bif Nat.beq pc 0 then (2, 0, 0, 1, 0) else (99, 0, 0, 0, 0)) else (bif Nat.ble pc 1 then (bif Nat.beq pc 1 then (1, 1, 0, 2, 0) else (99, 0, 0, 0, 0)) else (bif Nat.beq pc 2 then (18, 43, 0, 5, 0) else (99, 0, 0, 0, 0)))) else (bif Nat.ble pc 5 then (bif Nat.beq pc 5 then (4, 3, 0, 6, 0) else (99, 0, 0, 0, 0)) else (bif Nat.ble pc 6 then (bif Nat.beq pc 6 then (2, 3, 0, 7, 0) else (99, 0, 0, 0, 0)) else (bif Nat.beq pc 7 then (14, 0, 21, 10, 0) else (99, 0, 0, 0, 0))))) else (bif Nat.ble pc 14 then (bif Nat.ble pc 10 then (bif Nat.beq pc 10 then (1, 2, 0, 11, 0) else (99, 0, 0, 0, 0)) else (bif Nat.ble pc 11 then (bif Nat.beq pc 11 then (12, 2, 21, 14, 0) else (99, 0, 0, 0, 0)) else (bif Nat.beq pc 14 then (1, 2, 0, 15, 0) else (99, 0, 0, 0, 0)))) else (bif Nat.ble pc 15 then (bif Nat.beq pc 15 then (0, 0, 0, 18, 1000) else (99, 0, 0, 0, 0)) else (bif Nat.ble pc 18 then (bif Nat.beq pc 18 then (13, 5, 23, 21, 0) else (99, 0, 0, 0, 0)) else (bif Nat.beq pc 21 then (0, 0, 0, 22, (-1)) else (99, 0, 0, 0, 0)))))) else (bif Nat.ble pc 29 then (bif Nat.ble pc 24 then (bif Nat.ble pc 22 then (bif Nat.beq pc 22 then (19, 0, 0, 0, 0) else (99, 0, 0, 0, 0)) else (bif Nat.ble pc 23 then (bif Nat.beq pc 23 then (0, 0, 0, 24, 0) else (99, 0, 0, 0, 0)) else (bif Nat.beq pc 24 then (3, 4, 0, 26, 0) else (99, 0, 0, 0, 0)))) else (bif Nat.ble pc 26 then (bif Nat.beq pc 26 then (1, 4, 0, 28, 0) else (99, 0, 0, 0, 0)) else (bif Nat.ble pc 28 then (bif Nat.beq pc 28 then (1, 2, 0, 29, 0) else (99, 0, 0, 0, 0)) else (bif Nat.beq pc 29 then (13, 3, 45, 32, 0) else (99, 0, 0, 0, 0))))) else (bif Nat.ble pc 36 then (bif Nat.ble pc 32 then (bif Nat.beq pc 32 then (2, 3, 0, 33, 0) else (99, 0, 0, 0, 0)) else (bif Nat.ble pc 33 then (bif Nat.beq pc 33 then (18, 58, 0, 36, 0) else (99, 0, 0, 0, 0)) else (bif Nat.beq pc 36 then (12, 0, 45, 39, 0) else (99, 0, 0, 0, 0)))) else (bif Nat.ble pc 42 then (bif Nat.ble pc 39 then (bif Nat.beq pc 39 then (5, 4, 0, 42, 1) else (99, 0, 0, 0, 0)) else (bif Nat.beq pc 42 then (16, 0, 26, 0, 0) else (99, 0, 0, 0, 0))) else (bif Nat.ble pc 45 then (bif Nat.beq pc 45 then (1, 4, 0, 47, 0) else (99, 0, 0, 0, 0)) else (bif Nat.beq pc 47 then (19, 0, 0, 0, 0) else (99, 0, 0, 0, 0)))))))
def sX7_drain : sw_T := fun _ => []
set_option maxRecDepth 100000 in
theorem kX7_drain : sw_chk cX7_drain flX7 cnX7 sX7_drain 47 tX7_drain = true := by decide +kernel
def tX7_deliver : Nat → sw_I := fun pc => (bif Nat.ble pc 24 then (bif Nat.ble pc 9 then (bif Nat.ble pc 5 then (bif Nat.ble pc 1 then (bif Nat.ble pc 0 then (bif Nat.beq pc 0 then (2, 0, 0, 1, 0) else (99, 0, 0, 0, 0)) else (bif Nat.beq pc 1 then (1, 1, 0, 2, 0) else (99, 0, 0, 0, 0))) else (bif Nat.ble pc 2 then (bif Nat.beq pc 2 then (18, 43, 0, 5, 0) else (99, 0, 0, 0, 0)) else (bif Nat.beq pc 5 then (4, 2, 0, 6, 0) else (99, 0, 0, 0, 0)))) else (bif Nat.ble pc 7 then (bif Nat.ble pc 6 then (bif Nat.beq pc 6 then (2, 0, 0, 7, 0) else (99, 0, 0, 0, 0)) else (bif Nat.beq pc 7 then (0, 0, 0, 8, 1) else (99, 0, 0, 0, 0))) else (bif Nat.ble pc 8 then (bif Nat.beq pc 8 then (1, 1, 0, 9, 0) else (99, 0, 0, 0, 0)) else (bif Nat.beq pc 9 then (6, 1, 0, 10, 0) else (99, 0, 0, 0, 0))))) else (bif Nat.ble pc 15 then (bif Nat.ble pc 13 then (bif Nat.ble pc 10 then (bif Nat.beq pc 10 then (18, 43, 0, 13, 0) else (99, 0, 0, 0, 0)) else (bif Nat.beq pc 13 then (4, 3, 0, 14, 0) else (99, 0, 0, 0, 0))) else (bif Nat.ble pc 14 then (bif Nat.beq pc 14 then (2, 2, 0, 15, 0) else (99, 0, 0, 0, 0)) else (bif Nat.beq pc 15 then (14, 0, 22, 18, 0) else (99, 0, 0, 0, 0)))) else (bif Nat.ble pc 19 then (bif Nat.ble pc 18 then (bif Nat.beq pc 18 then (2, 3, 0, 19, 0) else (99, 0, 0, 0, 0)) else (bif Nat.beq pc 19 then (15, 0, 24, 22, 0) else (99, 0, 0, 0, 0))) else (bif Nat.ble pc 22 then (bif Nat.beq pc 22 then (0, 0, 0, 23, (-1)) else (99, 0, 0, 0, 0)) else (bif Nat.ble pc 23 then (bif Nat.beq pc 23 then (19, 0, 0, 0, 0) else (99, 0, 0, 0, 0)) else (bif Nat.beq pc 24 then (2, 2, 0, 25, 0) else (99, 0, 0, 0, 0))))))) else (bif Nat.ble pc 41 then (bif Nat.ble pc 32 then (bif Nat.ble pc 28 then (bif Nat.ble pc 25 then (bif Nat.beq pc 25 then (7, 6, 3, 28, 0) else (99, 0, 0, 0, 0)) else (bif Nat.beq pc 28 then (0, 0, 0, 29, 0) else (99, 0, 0, 0, 0))) else (bif Nat.ble pc 29 then (bif Nat.beq pc 29 then (18, 66, 0, 32, 0) else (99, 0, 0, 0, 0)) else (bif Nat.beq pc 32 then (4, 4, 0, 34, 0) else (99, 0, 0, 0, 0)))) else (bif Nat.ble pc 36 then (bif Nat.ble pc 34 then (bif Nat.beq pc 34 then (2, 4, 0, 36, 0) else (99, 0, 0, 0, 0)) else (bif Nat.beq pc 36 then (15, 0, 41, 39, 0) else (99, 0, 0, 0, 0))) else (bif Nat.ble pc 39 then (bif Nat.beq pc 39 then (0, 0, 0, 40, 0) else (99, 0, 0, 0, 0)) else (bif Nat.ble pc 40 then (bif Nat.beq pc 40 then (19, 0, 0, 0, 0) else (99, 0, 0, 0, 0)) else (bif Nat.beq pc 41 then (2, 3, 0, 42, 0) else (99, 0, 0, 0, 0)))))) else (bif Nat.ble pc 49 then (bif Nat.ble pc 44 then (bif Nat.ble pc 42 then (bif Nat.beq pc 42 then (2, 4, 0, 44, 0) else (99, 0, 0, 0, 0)) else (bif Nat.beq pc 44 then (18, 72, 0, 47, 0) else (99, 0, 0, 0, 0))) else (bif Nat.ble pc 47 then (bif Nat.beq pc 47 then (3, 5, 0, 49, 0) else (99, 0, 0, 0, 0)) else (bif Nat.beq pc 49 then (2, 2, 0, 50, 0) else (99, 0, 0, 0, 0)))) else (bif Nat.ble pc 53 then (bif Nat.ble pc 50 then (bif Nat.beq pc 50 then (7, 6, 3, 53, 0) else (99, 0, 0, 0, 0)) else (bif Nat.beq pc 53 then (18, 76, 0, 56, 0) else (99, 0, 0, 0, 0))) else (bif Nat.ble pc 56 then (bif Nat.beq pc 56 then (24, 0, 0, 57, 0) else (99, 0, 0, 0, 0)) else (bif Nat.ble pc 57 then (bif Nat.beq pc 57 then (1, 5, 0, 59, 0) else (99, 0, 0, 0, 0)) else (bif Nat.beq pc 59 then (19, 0, 0, 0, 0) else (99, 0, 0, 0, 0))))))))
def sX7_deliver : sw_T := fun _ => []
set_option maxRecDepth 100000 in
theorem kX7_deliver : sw_chk cX7_deliver flX7 cnX7 sX7_deliver 59 tX7_deliver = true := by decide +kernel
def tX7_lose : Nat → sw_I := fun pc => (bif Nat.ble pc 10 then (bif Nat.ble pc 2 then (bif Nat.ble pc 0 then (bif Nat.beq pc 0 then (2, 0, 0, 1, 0) else (99, 0, 0, 0, 0)) else (bif Nat.ble pc 1 then (bif Nat.beq pc 1 then (1, 1, 0, 2, 0) else (99, 0, 0, 0, 0)) else (bif Nat.beq pc 2 then (18, 43, 0, 5, 0) else (99, 0, 0, 0, 0)))) else (bif Nat.ble pc 6 then (bif Nat.ble pc 5 then (bif Nat.beq pc 5 then (4, 2, 0, 6, 0) else (99, 0, 0, 0, 0)) else (bif Nat.beq pc 6 then (2, 2, 0, 7, 0) else (99, 0, 0, 0, 0))) else (bif Nat.ble pc 7 then (bif Nat.beq pc 7 then (14, 0, 24, 10, 0) else (99, 0, 0, 0, 0)) else (bif Nat.beq pc 10 then (2, 2, 0, 11, 0) else (99, 0, 0, 0, 0))))) else (bif Nat.ble pc 17 then (bif Nat.ble pc 11 then (bif Nat.beq pc 11 then (7, 6, 3, 14, 0) else (99, 0, 0, 0, 0)) else (bif Nat.ble pc 14 then (bif Nat.beq pc 14 then (18, 76, 0, 17, 0) else (99, 0, 0, 0, 0)) else (bif Nat.beq pc 17 then (12, 0, 24, 20, 0) else (99, 0, 0, 0, 0)))) else (bif Nat.ble pc 21 then (bif Nat.ble pc 20 then (bif Nat.beq pc 20 then (0, 0, 0, 21, 1) else (99, 0, 0, 0, 0)) else (bif Nat.beq pc 21 then (16, 0, 25, 0, 0) else (99, 0, 0, 0, 0))) else (bif Nat.ble pc 24 then (bif Nat.beq pc 24 then (0, 0, 0, 25, 0) else (99, 0, 0, 0, 0)) else (bif Nat.beq pc 25 then (19, 0, 0, 0, 0) else (99, 0, 0, 0, 0))))))
def sX7_lose : sw_T := fun _ => []
set_option maxRecDepth 100000 in
theorem kX7_lose : sw_chk cX7_lose flX7 cnX7 sX7_lose 25 tX7_lose = true := by decide +kernel
def tX7_corrupt : Nat → sw_I := fun pc => (bif Nat.ble pc 14 then (bif Nat.ble pc 3 then (bif Nat.ble pc 1 then (bif Nat.ble pc 0 then (bif Nat.beq pc 0 then (2, 0, 0, 1, 0) else (99, 0, 0, 0, 0)) else (bif Nat.beq pc 1 then (1, 1, 0, 2, 0) else (99, 0, 0, 0, 0))) else (bif Nat.ble pc 2 then (bif Nat.beq pc 2 then (0, 0, 0, 3, 0) else (99, 0, 0, 0, 0)) else (bif Nat.beq pc 3 then (18, 79, 0, 6, 0) else (99, 0, 0, 0, 0)))) else (bif Nat.ble pc 8 then (bif Nat.ble pc 6 then (bif Nat.beq pc 6 then (4, 4, 0, 8, 0) else (99, 0, 0, 0, 0)) else (bif Nat.beq pc 8 then (2, 4, 0, 10, 0) else (99, 0, 0, 0, 0))) else (bif Nat.ble pc 10 then (bif Nat.beq pc 10 then (14, 0, 31, 13, 0) else (99, 0, 0, 0, 0)) else (bif Nat.ble pc 13 then (bif Nat.beq pc 13 then (1, 3, 0, 14, 0) else (99, 0, 0, 0, 0)) else (bif Nat.beq pc 14 then (12, 0, 31, 17, 0) else (99, 0, 0, 0, 0)))))) else (bif Nat.ble pc 21 then (bif Nat.ble pc 19 then (bif Nat.ble pc 17 then (bif Nat.beq pc 17 then (2, 4, 0, 19, 0) else (99, 0, 0, 0, 0)) else (bif Nat.beq pc 19 then (1, 2, 0, 20, 0) else (99, 0, 0, 0, 0))) else (bif Nat.ble pc 20 then (bif Nat.beq pc 20 then (1, 3, 0, 21, 0) else (99, 0, 0, 0, 0)) else (bif Nat.beq pc 21 then (18, 82, 0, 24, 0) else (99, 0, 0, 0, 0)))) else (bif Nat.ble pc 27 then (bif Nat.ble pc 24 then (bif Nat.beq pc 24 then (12, 0, 31, 27, 0) else (99, 0, 0, 0, 0)) else (bif Nat.beq pc 27 then (0, 0, 0, 28, 1) else (99, 0, 0, 0, 0))) else (bif Nat.ble pc 28 then (bif Nat.beq pc 28 then (16, 0, 32, 0, 0) else (99, 0, 0, 0, 0)) else (bif Nat.ble pc 31 then (bif Nat.beq pc 31 then (0, 0, 0, 32, 0) else (99, 0, 0, 0, 0)) else (bif Nat.beq pc 32 then (19, 0, 0, 0, 0) else (99, 0, 0, 0, 0)))))))
def sX7_corrupt : sw_T := fun _ => []
set_option maxRecDepth 100000 in
theorem kX7_corrupt : sw_chk cX7_corrupt flX7 cnX7 sX7_corrupt 32 tX7_corrupt = true := by decide +kernel
def tX7_timeout : Nat → sw_I := fun pc => (bif Nat.ble pc 6 then (bif Nat.ble pc 1 then (bif Nat.ble pc 0 then (bif Nat.beq pc 0 then (2, 0, 0, 1, 0) else (99, 0, 0, 0, 0)) else (bif Nat.beq pc 1 then (1, 1, 0, 2, 0) else (99, 0, 0, 0, 0))) else (bif Nat.ble pc 2 then (bif Nat.beq pc 2 then (18, 43, 0, 5, 0) else (99, 0, 0, 0, 0)) else (bif Nat.ble pc 5 then (bif Nat.beq pc 5 then (4, 2, 0, 6, 0) else (99, 0, 0, 0, 0)) else (bif Nat.beq pc 6 then (2, 2, 0, 7, 0) else (99, 0, 0, 0, 0))))) else (bif Nat.ble pc 11 then (bif Nat.ble pc 7 then (bif Nat.beq pc 7 then (15, 0, 14, 10, 0) else (99, 0, 0, 0, 0)) else (bif Nat.ble pc 10 then (bif Nat.beq pc 10 then (0, 0, 0, 11, (-1)) else (99, 0, 0, 0, 0)) else (bif Nat.beq pc 11 then (16, 0, 18, 0, 0) else (99, 0, 0, 0, 0)))) else (bif Nat.ble pc 14 then (bif Nat.beq pc 14 then (2, 2, 0, 15, 0) else (99, 0, 0, 0, 0)) else (bif Nat.ble pc 15 then (bif Nat.beq pc 15 then (18, 88, 0, 18, 0) else (99, 0, 0, 0, 0)) else (bif Nat.beq pc 18 then (19, 0, 0, 0, 0) else (99, 0, 0, 0, 0))))))
def sX7_timeout : sw_T := fun _ => []
set_option maxRecDepth 100000 in
theorem kX7_timeout : sw_chk cX7_timeout flX7 cnX7 sX7_timeout 18 tX7_timeout = true := by decide +kernel
def tX7_wire : Nat → sw_I := fun pc => (bif Nat.ble pc 8 then (bif Nat.ble pc 2 then (bif Nat.ble pc 0 then (bif Nat.beq pc 0 then (2, 0, 0, 1, 0) else (99, 0, 0, 0, 0)) else (bif Nat.ble pc 1 then (bif Nat.beq pc 1 then (1, 1, 0, 2, 0) else (99, 0, 0, 0, 0)) else (bif Nat.beq pc 2 then (1, 2, 0, 3, 0) else (99, 0, 0, 0, 0)))) else (bif Nat.ble pc 3 then (bif Nat.beq pc 3 then (18, 79, 0, 6, 0) else (99, 0, 0, 0, 0)) else (bif Nat.ble pc 6 then (bif Nat.beq pc 6 then (4, 4, 0, 8, 0) else (99, 0, 0, 0, 0)) else (bif Nat.beq pc 8 then (2, 4, 0, 10, 0) else (99, 0, 0, 0, 0))))) else (bif Nat.ble pc 14 then (bif Nat.ble pc 10 then (bif Nat.beq pc 10 then (15, 0, 17, 13, 0) else (99, 0, 0, 0, 0)) else (bif Nat.ble pc 13 then (bif Nat.beq pc 13 then (0, 0, 0, 14, 0) else (99, 0, 0, 0, 0)) else (bif Nat.beq pc 14 then (16, 0, 23, 0, 0) else (99, 0, 0, 0, 0)))) else (bif Nat.ble pc 19 then (bif Nat.ble pc 17 then (bif Nat.beq pc 17 then (2, 4, 0, 19, 0) else (99, 0, 0, 0, 0)) else (bif Nat.beq pc 19 then (1, 3, 0, 20, 0) else (99, 0, 0, 0, 0))) else (bif Nat.ble pc 20 then (bif Nat.beq pc 20 then (18, 91, 0, 23, 0) else (99, 0, 0, 0, 0)) else (bif Nat.beq pc 23 then (19, 0, 0, 0, 0) else (99, 0, 0, 0, 0))))))
def sX7_wire : sw_T := fun _ => []
set_option maxRecDepth 100000 in
theorem kX7_wire : sw_chk cX7_wire flX7 cnX7 sX7_wire 23 tX7_wire = true := by decide +kernel
def tX7_stream : Nat → sw_I := fun pc => (bif Nat.ble pc 8 then (bif Nat.ble pc 2 then (bif Nat.ble pc 0 then (bif Nat.beq pc 0 then (2, 0, 0, 1, 0) else (99, 0, 0, 0, 0)) else (bif Nat.ble pc 1 then (bif Nat.beq pc 1 then (1, 1, 0, 2, 0) else (99, 0, 0, 0, 0)) else (bif Nat.beq pc 2 then (1, 2, 0, 3, 0) else (99, 0, 0, 0, 0)))) else (bif Nat.ble pc 3 then (bif Nat.beq pc 3 then (18, 26, 0, 6, 0) else (99, 0, 0, 0, 0)) else (bif Nat.ble pc 6 then (bif Nat.beq pc 6 then (4, 4, 0, 8, 0) else (99, 0, 0, 0, 0)) else (bif Nat.beq pc 8 then (2, 4, 0, 10, 0) else (99, 0, 0, 0, 0))))) else (bif Nat.ble pc 14 then (bif Nat.ble pc 10 then (bif Nat.beq pc 10 then (15, 0, 17, 13, 0) else (99, 0, 0, 0, 0)) else (bif Nat.ble pc 13 then (bif Nat.beq pc 13 then (0, 0, 0, 14, (-1)) else (99, 0, 0, 0, 0)) else (bif Nat.beq pc 14 then (16, 0, 23, 0, 0) else (99, 0, 0, 0, 0)))) else (bif Nat.ble pc 19 then (bif Nat.ble pc 17 then (bif Nat.beq pc 17 then (2, 4, 0, 19, 0) else (99, 0, 0, 0, 0)) else (bif Nat.beq pc 19 then (1, 3, 0, 20, 0) else (99, 0, 0, 0, 0))) else (bif Nat.ble pc 20 then (bif Nat.beq pc 20 then (18, 95, 0, 23, 0) else (99, 0, 0, 0, 0)) else (bif Nat.beq pc 23 then (19, 0, 0, 0, 0) else (99, 0, 0, 0, 0))))))
def sX7_stream : sw_T := fun _ => []
set_option maxRecDepth 100000 in
theorem kX7_stream : sw_chk cX7_stream flX7 cnX7 sX7_stream 23 tX7_stream = true := by decide +kernel
def tX7_side : Nat → sw_I := fun pc => (bif Nat.ble pc 7 then (bif Nat.ble pc 2 then (bif Nat.ble pc 0 then (bif Nat.beq pc 0 then (2, 0, 0, 1, 0) else (99, 0, 0, 0, 0)) else (bif Nat.ble pc 1 then (bif Nat.beq pc 1 then (1, 1, 0, 2, 0) else (99, 0, 0, 0, 0)) else (bif Nat.beq pc 2 then (18, 43, 0, 5, 0) else (99, 0, 0, 0, 0)))) else (bif Nat.ble pc 5 then (bif Nat.beq pc 5 then (4, 3, 0, 6, 0) else (99, 0, 0, 0, 0)) else (bif Nat.ble pc 6 then (bif Nat.beq pc 6 then (2, 3, 0, 7, 0) else (99, 0, 0, 0, 0)) else (bif Nat.beq pc 7 then (15, 0, 14, 10, 0) else (99, 0, 0, 0, 0))))) else (bif Nat.ble pc 14 then (bif Nat.ble pc 10 then (bif Nat.beq pc 10 then (0, 0, 0, 11, (-1)) else (99, 0, 0, 0, 0)) else (bif Nat.ble pc 11 then (bif Nat.beq pc 11 then (16, 0, 19, 0, 0) else (99, 0, 0, 0, 0)) else (bif Nat.beq pc 14 then (2, 3, 0, 15, 0) else (99, 0, 0, 0, 0)))) else (bif Nat.ble pc 15 then (bif Nat.beq pc 15 then (1, 2, 0, 16, 0) else (99, 0, 0, 0, 0)) else (bif Nat.ble pc 16 then (bif Nat.beq pc 16 then (18, 98, 0, 19, 0) else (99, 0, 0, 0, 0)) else (bif Nat.beq pc 19 then (19, 0, 0, 0, 0) else (99, 0, 0, 0, 0))))))
def sX7_side : sw_T := fun _ => []
set_option maxRecDepth 100000 in
theorem kX7_side : sw_chk cX7_side flX7 cnX7 sX7_side 19 tX7_side = true := by decide +kernel
def tX7_sideAt : Nat → sw_I := fun pc => (bif Nat.ble pc 9 then (bif Nat.ble pc 4 then (bif Nat.ble pc 0 then (bif Nat.beq pc 0 then (1, 1, 0, 1, 0) else (99, 0, 0, 0, 0)) else (bif Nat.ble pc 1 then (bif Nat.beq pc 1 then (12, 1, 9, 4, 0) else (99, 0, 0, 0, 0)) else (bif Nat.beq pc 4 then (2, 0, 0, 5, 0) else (99, 0, 0, 0, 0)))) else (bif Nat.ble pc 5 then (bif Nat.beq pc 5 then (7, 7, 0, 8, 0) else (99, 0, 0, 0, 0)) else (bif Nat.ble pc 8 then (bif Nat.beq pc 8 then (20, 0, 0, 0, 0) else (99, 0, 0, 0, 0)) else (bif Nat.beq pc 9 then (1, 1, 0, 10, 0) else (99, 0, 0, 0, 0))))) else (bif Nat.ble pc 14 then (bif Nat.ble pc 10 then (bif Nat.beq pc 10 then (0, 0, 0, 11, 1) else (99, 0, 0, 0, 0)) else (bif Nat.ble pc 11 then (bif Nat.beq pc 11 then (13, 1, 21, 14, 0) else (99, 0, 0, 0, 0)) else (bif Nat.beq pc 14 then (2, 0, 0, 15, 0) else (99, 0, 0, 0, 0)))) else (bif Nat.ble pc 18 then (bif Nat.ble pc 15 then (bif Nat.beq pc 15 then (7, 7, 1, 18, 0) else (99, 0, 0, 0, 0)) else (bif Nat.beq pc 18 then (16, 0, 22, 0, 0) else (99, 0, 0, 0, 0))) else (bif Nat.ble pc 21 then (bif Nat.beq pc 21 then (25, 0, 0, 22, 0) else (99, 0, 0, 0, 0)) else (bif Nat.beq pc 22 then (20, 0, 0, 0, 0) else (99, 0, 0, 0, 0))))))
def sX7_sideAt : sw_T := fun _ => []
set_option maxRecDepth 100000 in
theorem kX7_sideAt : sw_chk cX7_sideAt flX7 cnX7 sX7_sideAt 22 tX7_sideAt = true := by decide +kernel
def tX7_flowAt : Nat → sw_I := fun pc => (bif Nat.ble pc 7 then (bif Nat.ble pc 2 then (bif Nat.ble pc 0 then (bif Nat.beq pc 0 then (2, 0, 0, 1, 0) else (99, 0, 0, 0, 0)) else (bif Nat.ble pc 1 then (bif Nat.beq pc 1 then (1, 1, 0, 2, 0) else (99, 0, 0, 0, 0)) else (bif Nat.beq pc 2 then (18, 43, 0, 5, 0) else (99, 0, 0, 0, 0)))) else (bif Nat.ble pc 5 then (bif Nat.beq pc 5 then (4, 3, 0, 6, 0) else (99, 0, 0, 0, 0)) else (bif Nat.ble pc 6 then (bif Nat.beq pc 6 then (2, 3, 0, 7, 0) else (99, 0, 0, 0, 0)) else (bif Nat.beq pc 7 then (15, 0, 14, 10, 0) else (99, 0, 0, 0, 0))))) else (bif Nat.ble pc 14 then (bif Nat.ble pc 10 then (bif Nat.beq pc 10 then (25, 0, 0, 11, 0) else (99, 0, 0, 0, 0)) else (bif Nat.ble pc 11 then (bif Nat.beq pc 11 then (16, 0, 19, 0, 0) else (99, 0, 0, 0, 0)) else (bif Nat.beq pc 14 then (2, 3, 0, 15, 0) else (99, 0, 0, 0, 0)))) else (bif Nat.ble pc 15 then (bif Nat.beq pc 15 then (1, 2, 0, 16, 0) else (99, 0, 0, 0, 0)) else (bif Nat.ble pc 16 then (bif Nat.beq pc 16 then (18, 99, 0, 19, 0) else (99, 0, 0, 0, 0)) else (bif Nat.beq pc 19 then (20, 0, 0, 0, 0) else (99, 0, 0, 0, 0))))))
def sX7_flowAt : sw_T := fun _ => []
set_option maxRecDepth 100000 in
theorem kX7_flowAt : sw_chk cX7_flowAt flX7 cnX7 sX7_flowAt 19 tX7_flowAt = true := by decide +kernel
def tX7_frameAt : Nat → sw_I := fun pc => (bif Nat.ble pc 7 then (bif Nat.ble pc 2 then (bif Nat.ble pc 0 then (bif Nat.beq pc 0 then (2, 0, 0, 1, 0) else (99, 0, 0, 0, 0)) else (bif Nat.ble pc 1 then (bif Nat.beq pc 1 then (1, 1, 0, 2, 0) else (99, 0, 0, 0, 0)) else (bif Nat.beq pc 2 then (18, 43, 0, 5, 0) else (99, 0, 0, 0, 0)))) else (bif Nat.ble pc 5 then (bif Nat.beq pc 5 then (4, 3, 0, 6, 0) else (99, 0, 0, 0, 0)) else (bif Nat.ble pc 6 then (bif Nat.beq pc 6 then (2, 3, 0, 7, 0) else (99, 0, 0, 0, 0)) else (bif Nat.beq pc 7 then (15, 0, 14, 10, 0) else (99, 0, 0, 0, 0))))) else (bif Nat.ble pc 14 then (bif Nat.ble pc 10 then (bif Nat.beq pc 10 then (25, 0, 0, 11, 0) else (99, 0, 0, 0, 0)) else (bif Nat.ble pc 11 then (bif Nat.beq pc 11 then (16, 0, 22, 0, 0) else (99, 0, 0, 0, 0)) else (bif Nat.beq pc 14 then (2, 3, 0, 15, 0) else (99, 0, 0, 0, 0)))) else (bif Nat.ble pc 18 then (bif Nat.ble pc 15 then (bif Nat.beq pc 15 then (7, 6, 3, 18, 0) else (99, 0, 0, 0, 0)) else (bif Nat.beq pc 18 then (1, 2, 0, 19, 0) else (99, 0, 0, 0, 0))) else (bif Nat.ble pc 19 then (bif Nat.beq pc 19 then (18, 66, 0, 22, 0) else (99, 0, 0, 0, 0)) else (bif Nat.beq pc 22 then (20, 0, 0, 0, 0) else (99, 0, 0, 0, 0))))))
def sX7_frameAt : sw_T := fun _ => []
set_option maxRecDepth 100000 in
theorem kX7_frameAt : sw_chk cX7_frameAt flX7 cnX7 sX7_frameAt 22 tX7_frameAt = true := by decide +kernel
def tX7_putItem : Nat → sw_I := fun pc => (bif Nat.ble pc 15 then (bif Nat.ble pc 7 then (bif Nat.ble pc 1 then (bif Nat.ble pc 0 then (bif Nat.beq pc 0 then (2, 0, 0, 1, 0) else (99, 0, 0, 0, 0)) else (bif Nat.beq pc 1 then (1, 1, 0, 2, 0) else (99, 0, 0, 0, 0))) else (bif Nat.ble pc 2 then (bif Nat.beq pc 2 then (18, 43, 0, 5, 0) else (99, 0, 0, 0, 0)) else (bif Nat.ble pc 5 then (bif Nat.beq pc 5 then (4, 5, 0, 7, 0) else (99, 0, 0, 0, 0)) else (bif Nat.beq pc 7 then (2, 0, 0, 8, 0) else (99, 0, 0, 0, 0))))) else (bif Nat.ble pc 9 then (bif Nat.ble pc 8 then (bif Nat.beq pc 8 then (1, 1, 0, 9, 0) else (99, 0, 0, 0, 0)) else (bif Nat.beq pc 9 then (1, 2, 0, 10, 0) else (99, 0, 0, 0, 0))) else (bif Nat.ble pc 10 then (bif Nat.beq pc 10 then (18, 26, 0, 13, 0) else (99, 0, 0, 0, 0)) else (bif Nat.ble pc 13 then (bif Nat.beq pc 13 then (4, 6, 0, 15, 0) else (99, 0, 0, 0, 0)) else (bif Nat.beq pc 15 then (2, 5, 0, 17, 0) else (99, 0, 0, 0, 0)))))) else (bif Nat.ble pc 26 then (bif Nat.ble pc 20 then (bif Nat.ble pc 17 then (bif Nat.beq pc 17 then (14, 0, 25, 20, 0) else (99, 0, 0, 0, 0)) else (bif Nat.beq pc 20 then (2, 6, 0, 22, 0) else (99, 0, 0, 0, 0))) else (bif Nat.ble pc 22 then (bif Nat.beq pc 22 then (15, 0, 27, 25, 0) else (99, 0, 0, 0, 0)) else (bif Nat.ble pc 25 then (bif Nat.beq pc 25 then (0, 0, 0, 26, (-1)) else (99, 0, 0, 0, 0)) else (bif Nat.beq pc 26 then (19, 0, 0, 0, 0) else (99, 0, 0, 0, 0))))) else (bif Nat.ble pc 31 then (bif Nat.ble pc 27 then (bif Nat.beq pc 27 then (2, 5, 0, 29, 0) else (99, 0, 0, 0, 0)) else (bif Nat.ble pc 29 then (bif Nat.beq pc 29 then (2, 6, 0, 31, 0) else (99, 0, 0, 0, 0)) else (bif Nat.beq pc 31 then (1, 3, 0, 32, 0) else (99, 0, 0, 0, 0)))) else (bif Nat.ble pc 32 then (bif Nat.beq pc 32 then (1, 4, 0, 34, 0) else (99, 0, 0, 0, 0)) else (bif Nat.ble pc 34 then (bif Nat.beq pc 34 then (18, 102, 0, 37, 0) else (99, 0, 0, 0, 0)) else (bif Nat.beq pc 37 then (19, 0, 0, 0, 0) else (99, 0, 0, 0, 0)))))))
def sX7_putItem : sw_T := fun _ => []
set_option maxRecDepth 100000 in
theorem kX7_putItem : sw_chk cX7_putItem flX7 cnX7 sX7_putItem 37 tX7_putItem = true := by decide +kernel
def tX7_within : Nat → sw_I := fun pc => (bif Nat.ble pc 2 then (bif Nat.ble pc 0 then (bif Nat.beq pc 0 then (1, 1, 0, 1, 0) else (99, 0, 0, 0, 0)) else (bif Nat.ble pc 1 then (bif Nat.beq pc 1 then (1, 2, 0, 2, 0) else (99, 0, 0, 0, 0)) else (bif Nat.beq pc 2 then (1, 0, 0, 3, 0) else (99, 0, 0, 0, 0)))) else (bif Nat.ble pc 3 then (bif Nat.beq pc 3 then (18, 106, 1, 6, 0) else (99, 0, 0, 0, 0)) else (bif Nat.ble pc 6 then (bif Nat.beq pc 6 then (18, 112, 1, 9, 0) else (99, 0, 0, 0, 0)) else (bif Nat.beq pc 9 then (19, 0, 0, 0, 0) else (99, 0, 0, 0, 0)))))
def sX7_within : sw_T := fun _ => []
set_option maxRecDepth 100000 in
theorem kX7_within : sw_chk cX7_within flX7 cnX7 sX7_within 9 tX7_within = true := by decide +kernel
def tX7_bit : Nat → sw_I := fun pc => (bif Nat.ble pc 4 then (bif Nat.ble pc 0 then (bif Nat.beq pc 0 then (1, 0, 0, 1, 0) else (99, 0, 0, 0, 0)) else (bif Nat.ble pc 1 then (bif Nat.beq pc 1 then (12, 0, 8, 4, 0) else (99, 0, 0, 0, 0)) else (bif Nat.beq pc 4 then (0, 0, 0, 5, 1) else (99, 0, 0, 0, 0)))) else (bif Nat.ble pc 5 then (bif Nat.beq pc 5 then (16, 0, 9, 0, 0) else (99, 0, 0, 0, 0)) else (bif Nat.ble pc 8 then (bif Nat.beq pc 8 then (0, 0, 0, 9, 0) else (99, 0, 0, 0, 0)) else (bif Nat.beq pc 9 then (19, 0, 0, 0, 0) else (99, 0, 0, 0, 0)))))
def sX7_bit : sw_T := fun _ => []
set_option maxRecDepth 100000 in
theorem kX7_bit : sw_chk cX7_bit flX7 cnX7 sX7_bit 9 tX7_bit = true := by decide +kernel
end
section
def tX8_within : Nat → sw_I := fun pc => (bif Nat.ble pc 9 then (bif Nat.ble pc 2 then (bif Nat.ble pc 0 then (bif Nat.beq pc 0 then (1, 0, 0, 1, 0) else (99, 0, 0, 0, 0)) else (bif Nat.ble pc 1 then (bif Nat.beq pc 1 then (1, 1, 0, 2, 0) else (99, 0, 0, 0, 0)) else (bif Nat.beq pc 2 then (13, 3, 9, 5, 0) else (99, 0, 0, 0, 0)))) else (bif Nat.ble pc 5 then (bif Nat.beq pc 5 then (1, 1, 0, 6, 0) else (99, 0, 0, 0, 0)) else (bif Nat.ble pc 6 then (bif Nat.beq pc 6 then (16, 0, 19, 0, 0) else (99, 0, 0, 0, 0)) else (bif Nat.beq pc 9 then (1, 0, 0, 10, 0) else (99, 0, 0, 0, 0))))) else (bif Nat.ble pc 14 then (bif Nat.ble pc 10 then (bif Nat.beq pc 10 then (1, 2, 0, 11, 0) else (99, 0, 0, 0, 0)) else (bif Nat.ble pc 11 then (bif Nat.beq pc 11 then (13, 5, 18, 14, 0) else (99, 0, 0, 0, 0)) else (bif Nat.beq pc 14 then (1, 2, 0, 15, 0) else (99, 0, 0, 0, 0)))) else (bif Nat.ble pc 15 then (bif Nat.beq pc 15 then (16, 0, 19, 0, 0) else (99, 0, 0, 0, 0)) else (bif Nat.ble pc 18 then (bif Nat.beq pc 18 then (1, 0, 0, 19, 0) else (99, 0, 0, 0, 0)) else (bif Nat.beq pc 19 then (19, 0, 0, 0, 0) else (99, 0, 0, 0, 0))))))
def sX8_within : sw_T := fun _ => []
set_option maxRecDepth 100000 in
theorem kX8_within : sw_chk cX8_within flX8 cnX8 sX8_within 19 tX8_within = true := by decide +kernel
def tX8_isSide : Nat → sw_I := fun pc => (bif Nat.ble pc 5 then (bif Nat.ble pc 1 then (bif Nat.ble pc 0 then (bif Nat.beq pc 0 then (1, 0, 0, 1, 0) else (99, 0, 0, 0, 0)) else (bif Nat.beq pc 1 then (12, 0, 9, 4, 0) else (99, 0, 0, 0, 0))) else (bif Nat.ble pc 4 then (bif Nat.beq pc 4 then (1, 0, 0, 5, 0) else (99, 0, 0, 0, 0)) else (bif Nat.beq pc 5 then (0, 0, 0, 6, 1) else (99, 0, 0, 0, 0)))) else (bif Nat.ble pc 9 then (bif Nat.ble pc 6 then (bif Nat.beq pc 6 then (13, 1, 13, 9, 0) else (99, 0, 0, 0, 0)) else (bif Nat.beq pc 9 then (0, 0, 0, 10, 1) else (99, 0, 0, 0, 0))) else (bif Nat.ble pc 10 then (bif Nat.beq pc 10 then (16, 0, 14, 0, 0) else (99, 0, 0, 0, 0)) else (bif Nat.ble pc 13 then (bif Nat.beq pc 13 then (0, 0, 0, 14, 0) else (99, 0, 0, 0, 0)) else (bif Nat.beq pc 14 then (19, 0, 0, 0, 0) else (99, 0, 0, 0, 0))))))
def sX8_isSide : sw_T := fun _ => []
set_option maxRecDepth 100000 in
theorem kX8_isSide : sw_chk cX8_isSide flX8 cnX8 sX8_isSide 14 tX8_isSide = true := by decide +kernel
def tX8_isStream : Nat → sw_I := fun pc => (bif Nat.ble pc 11 then (bif Nat.ble pc 4 then (bif Nat.ble pc 0 then (bif Nat.beq pc 0 then (1, 1, 0, 1, 0) else (99, 0, 0, 0, 0)) else (bif Nat.ble pc 1 then (bif Nat.beq pc 1 then (18, 133, 1, 4, 0) else (99, 0, 0, 0, 0)) else (bif Nat.beq pc 4 then (12, 0, 23, 7, 0) else (99, 0, 0, 0, 0)))) else (bif Nat.ble pc 7 then (bif Nat.beq pc 7 then (1, 2, 0, 8, 0) else (99, 0, 0, 0, 0)) else (bif Nat.ble pc 8 then (bif Nat.beq pc 8 then (12, 2, 23, 11, 0) else (99, 0, 0, 0, 0)) else (bif Nat.beq pc 11 then (1, 2, 0, 12, 0) else (99, 0, 0, 0, 0))))) else (bif Nat.ble pc 16 then (bif Nat.ble pc 12 then (bif Nat.beq pc 12 then (2, 0, 0, 13, 0) else (99, 0, 0, 0, 0)) else (bif Nat.ble pc 13 then (bif Nat.beq pc 13 then (7, 8, 0, 16, 0) else (99, 0, 0, 0, 0)) else (bif Nat.beq pc 16 then (13, 3, 23, 19, 0) else (99, 0, 0, 0, 0)))) else (bif Nat.ble pc 20 then (bif Nat.ble pc 19 then (bif Nat.beq pc 19 then (0, 0, 0, 20, 1) else (99, 0, 0, 0, 0)) else (bif Nat.beq pc 20 then (16, 0, 24, 0, 0) else (99, 0, 0, 0, 0))) else (bif Nat.ble pc 23 then (bif Nat.beq pc 23 then (0, 0, 0, 24, 0) else (99, 0, 0, 0, 0)) else (bif Nat.beq pc 24 then (19, 0, 0, 0, 0) else (99, 0, 0, 0, 0))))))
def sX8_isStream : sw_T := fun _ => []
set_option maxRecDepth 100000 in
theorem kX8_isStream : sw_chk cX8_isStream flX8 cnX8 sX8_isStream 24 tX8_isStream = true := by decide +kernel
def tX8_free : Nat → sw_I := fun pc => (bif Nat.ble pc 59 then (bif Nat.ble pc 27 then (bif Nat.ble pc 12 then (bif Nat.ble pc 5 then (bif Nat.ble pc 1 then (bif Nat.ble pc 0 then (bif Nat.beq pc 0 then (2, 0, 0, 1, 0) else (99, 0, 0, 0, 0)) else (bif Nat.beq pc 1 then (7, 8, 3, 4, 0) else (99, 0, 0, 0, 0))) else (bif Nat.ble pc 4 then (bif Nat.beq pc 4 then (3, 2, 0, 5, 0) else (99, 0, 0, 0, 0)) else (bif Nat.beq pc 5 then (0, 0, 0, 6, 0) else (99, 0, 0, 0, 0)))) else (bif Nat.ble pc 7 then (bif Nat.ble pc 6 then (bif Nat.beq pc 6 then (3, 3, 0, 7, 0) else (99, 0, 0, 0, 0)) else (bif Nat.beq pc 7 then (1, 3, 0, 8, 0) else (99, 0, 0, 0, 0))) else (bif Nat.ble pc 8 then (bif Nat.beq pc 8 then (2, 0, 0, 9, 0) else (99, 0, 0, 0, 0)) else (bif Nat.ble pc 9 then (bif Nat.beq pc 9 then (7, 8, 0, 12, 0) else (99, 0, 0, 0, 0)) else (bif Nat.beq pc 12 then (13, 3, 58, 15, 0) else (99, 0, 0, 0, 0)))))) else (bif Nat.ble pc 22 then (bif Nat.ble pc 16 then (bif Nat.ble pc 15 then (bif Nat.beq pc 15 then (1, 2, 0, 16, 0) else (99, 0, 0, 0, 0)) else (bif Nat.beq pc 16 then (2, 0, 0, 17, 0) else (99, 0, 0, 0, 0))) else (bif Nat.ble pc 17 then (bif Nat.beq pc 17 then (7, 8, 6, 20, 0) else (99, 0, 0, 0, 0)) else (bif Nat.ble pc 20 then (bif Nat.beq pc 20 then (0, 0, 0, 22, 8) else (99, 0, 0, 0, 0)) else (bif Nat.beq pc 22 then (1, 1, 0, 23, 0) else (99, 0, 0, 0, 0))))) else (bif Nat.ble pc 24 then (bif Nat.ble pc 23 then (bif Nat.beq pc 23 then (6, 2, 0, 24, 0) else (99, 0, 0, 0, 0)) else (bif Nat.beq pc 24 then (1, 3, 0, 25, 0) else (99, 0, 0, 0, 0))) else (bif Nat.ble pc 25 then (bif Nat.beq pc 25 then (6, 0, 0, 26, 0) else (99, 0, 0, 0, 0)) else (bif Nat.ble pc 26 then (bif Nat.beq pc 26 then (9, 0, 0, 27, 0) else (99, 0, 0, 0, 0)) else (bif Nat.beq pc 27 then (12, 1, 34, 30, 0) else (99, 0, 0, 0, 0))))))) else (bif Nat.ble pc 45 then (bif Nat.ble pc 35 then (bif Nat.ble pc 31 then (bif Nat.ble pc 30 then (bif Nat.beq pc 30 then (0, 0, 0, 31, 0) else (99, 0, 0, 0, 0)) else (bif Nat.beq pc 31 then (16, 0, 38, 0, 0) else (99, 0, 0, 0, 0))) else (bif Nat.ble pc 34 then (bif Nat.beq pc 34 then (2, 0, 0, 35, 0) else (99, 0, 0, 0, 0)) else (bif Nat.beq pc 35 then (7, 8, 5, 38, 0) else (99, 0, 0, 0, 0)))) else (bif Nat.ble pc 39 then (bif Nat.ble pc 38 then (bif Nat.beq pc 38 then (2, 0, 0, 39, 0) else (99, 0, 0, 0, 0)) else (bif Nat.beq pc 39 then (7, 8, 16, 42, 0) else (99, 0, 0, 0, 0))) else (bif Nat.ble pc 42 then (bif Nat.beq pc 42 then (0, 0, 0, 44, 8) else (99, 0, 0, 0, 0)) else (bif Nat.ble pc 44 then (bif Nat.beq pc 44 then (1, 1, 0, 45, 0) else (99, 0, 0, 0, 0)) else (bif Nat.beq pc 45 then (6, 2, 0, 46, 0) else (99, 0, 0, 0, 0)))))) else (bif Nat.ble pc 50 then (bif Nat.ble pc 47 then (bif Nat.ble pc 46 then (bif Nat.beq pc 46 then (1, 3, 0, 47, 0) else (99, 0, 0, 0, 0)) else (bif Nat.beq pc 47 then (6, 0, 0, 48, 0) else (99, 0, 0, 0, 0))) else (bif Nat.ble pc 48 then (bif Nat.beq pc 48 then (9, 0, 0, 49, 0) else (99, 0, 0, 0, 0)) else (bif Nat.ble pc 49 then (bif Nat.beq pc 49 then (6, 0, 0, 50, 0) else (99, 0, 0, 0, 0)) else (bif Nat.beq pc 50 then (6, 1, 0, 51, 0) else (99, 0, 0, 0, 0))))) else (bif Nat.ble pc 52 then (bif Nat.ble pc 51 then (bif Nat.beq pc 51 then (3, 2, 0, 52, 0) else (99, 0, 0, 0, 0)) else (bif Nat.beq pc 52 then (5, 3, 0, 55, 1) else (99, 0, 0, 0, 0))) else (bif Nat.ble pc 55 then (bif Nat.beq pc 55 then (16, 0, 7, 0, 0) else (99, 0, 0, 0, 0)) else (bif Nat.ble pc 58 then (bif Nat.beq pc 58 then (0, 0, 0, 59, 0) else (99, 0, 0, 0, 0)) else (bif Nat.beq pc 59 then (3, 3, 0, 60, 0) else (99, 0, 0, 0, 0)))))))) else (bif Nat.ble pc 87 then (bif Nat.ble pc 74 then (bif Nat.ble pc 65 then (bif Nat.ble pc 61 then (bif Nat.ble pc 60 then (bif Nat.beq pc 60 then (1, 3, 0, 61, 0) else (99, 0, 0, 0, 0)) else (bif Nat.beq pc 61 then (2, 0, 0, 62, 0) else (99, 0, 0, 0, 0))) else (bif Nat.ble pc 62 then (bif Nat.beq pc 62 then (7, 8, 22, 65, 0) else (99, 0, 0, 0, 0)) else (bif Nat.beq pc 65 then (1, 1, 0, 66, 0) else (99, 0, 0, 0, 0)))) else (bif Nat.ble pc 67 then (bif Nat.ble pc 66 then (bif Nat.beq pc 66 then (9, 0, 0, 67, 0) else (99, 0, 0, 0, 0)) else (bif Nat.beq pc 67 then (13, 3, 113, 70, 0) else (99, 0, 0, 0, 0))) else (bif Nat.ble pc 70 then (bif Nat.beq pc 70 then (2, 0, 0, 71, 0) else (99, 0, 0, 0, 0)) else (bif Nat.ble pc 71 then (bif Nat.beq pc 71 then (7, 8, 24, 74, 0) else (99, 0, 0, 0, 0)) else (bif Nat.beq pc 74 then (0, 0, 0, 76, 19) else (99, 0, 0, 0, 0)))))) else (bif Nat.ble pc 81 then (bif Nat.ble pc 78 then (bif Nat.ble pc 76 then (bif Nat.beq pc 76 then (0, 0, 0, 78, 15) else (99, 0, 0, 0, 0)) else (bif Nat.beq pc 78 then (1, 1, 0, 79, 0) else (99, 0, 0, 0, 0))) else (bif Nat.ble pc 79 then (bif Nat.beq pc 79 then (6, 2, 0, 80, 0) else (99, 0, 0, 0, 0)) else (bif Nat.ble pc 80 then (bif Nat.beq pc 80 then (1, 3, 0, 81, 0) else (99, 0, 0, 0, 0)) else (bif Nat.beq pc 81 then (6, 0, 0, 82, 0) else (99, 0, 0, 0, 0))))) else (bif Nat.ble pc 83 then (bif Nat.ble pc 82 then (bif Nat.beq pc 82 then (6, 2, 0, 83, 0) else (99, 0, 0, 0, 0)) else (bif Nat.beq pc 83 then (9, 0, 0, 84, 0) else (99, 0, 0, 0, 0))) else (bif Nat.ble pc 84 then (bif Nat.beq pc 84 then (3, 4, 0, 86, 0) else (99, 0, 0, 0, 0)) else (bif Nat.ble pc 86 then (bif Nat.beq pc 86 then (1, 2, 0, 87, 0) else (99, 0, 0, 0, 0)) else (bif Nat.beq pc 87 then (1, 4, 0, 89, 0) else (99, 0, 0, 0, 0))))))) else (bif Nat.ble pc 104 then (bif Nat.ble pc 93 then (bif Nat.ble pc 91 then (bif Nat.ble pc 89 then (bif Nat.beq pc 89 then (0, 0, 0, 91, 7) else (99, 0, 0, 0, 0)) else (bif Nat.beq pc 91 then (6, 3, 0, 92, 0) else (99, 0, 0, 0, 0))) else (bif Nat.ble pc 92 then (bif Nat.beq pc 92 then (0, 0, 0, 93, 1) else (99, 0, 0, 0, 0)) else (bif Nat.beq pc 93 then (13, 1, 104, 96, 0) else (99, 0, 0, 0, 0)))) else (bif Nat.ble pc 98 then (bif Nat.ble pc 96 then (bif Nat.beq pc 96 then (1, 4, 0, 98, 0) else (99, 0, 0, 0, 0)) else (bif Nat.beq pc 98 then (0, 0, 0, 100, 24) else (99, 0, 0, 0, 0))) else (bif Nat.ble pc 100 then (bif Nat.beq pc 100 then (6, 8, 0, 101, 0) else (99, 0, 0, 0, 0)) else (bif Nat.ble pc 101 then (bif Nat.beq pc 101 then (16, 0, 105, 0, 0) else (99, 0, 0, 0, 0)) else (bif Nat.beq pc 104 then (0, 0, 0, 105, 0) else (99, 0, 0, 0, 0)))))) else (bif Nat.ble pc 113 then (bif Nat.ble pc 106 then (bif Nat.ble pc 105 then (bif Nat.beq pc 105 then (6, 1, 0, 106, 0) else (99, 0, 0, 0, 0)) else (bif Nat.beq pc 106 then (3, 2, 0, 107, 0) else (99, 0, 0, 0, 0))) else (bif Nat.ble pc 107 then (bif Nat.beq pc 107 then (5, 3, 0, 110, 1) else (99, 0, 0, 0, 0)) else (bif Nat.ble pc 110 then (bif Nat.beq pc 110 then (16, 0, 60, 0, 0) else (99, 0, 0, 0, 0)) else (bif Nat.beq pc 113 then (1, 2, 0, 114, 0) else (99, 0, 0, 0, 0))))) else (bif Nat.ble pc 117 then (bif Nat.ble pc 114 then (bif Nat.beq pc 114 then (12, 5, 121, 117, 0) else (99, 0, 0, 0, 0)) else (bif Nat.beq pc 117 then (1, 2, 0, 118, 0) else (99, 0, 0, 0, 0))) else (bif Nat.ble pc 118 then (bif Nat.beq pc 118 then (16, 0, 122, 0, 0) else (99, 0, 0, 0, 0)) else (bif Nat.ble pc 121 then (bif Nat.beq pc 121 then (0, 0, 0, 122, 0) else (99, 0, 0, 0, 0)) else (bif Nat.beq pc 122 then (19, 0, 0, 0, 0) else (99, 0, 0, 0, 0)))))))))
def sX8_free : sw_T := fun _ => []
set_option maxRecDepth 100000 in
theorem kX8_free : sw_chk cX8_free flX8 cnX8 sX8_free 122 tX8_free = true := by decide +kernel
def tX8_open : Nat → sw_I := fun pc => (bif Nat.ble pc 19 then (bif Nat.ble pc 10 then (bif Nat.ble pc 2 then (bif Nat.ble pc 0 then (bif Nat.beq pc 0 then (2, 0, 0, 1, 0) else (99, 0, 0, 0, 0)) else (bif Nat.ble pc 1 then (bif Nat.beq pc 1 then (1, 1, 0, 2, 0) else (99, 0, 0, 0, 0)) else (bif Nat.beq pc 2 then (1, 2, 0, 3, 0) else (99, 0, 0, 0, 0)))) else (bif Nat.ble pc 6 then (bif Nat.ble pc 3 then (bif Nat.beq pc 3 then (18, 137, 0, 6, 0) else (99, 0, 0, 0, 0)) else (bif Nat.beq pc 6 then (12, 1, 11, 9, 0) else (99, 0, 0, 0, 0))) else (bif Nat.ble pc 9 then (bif Nat.beq pc 9 then (0, 0, 0, 10, (-1)) else (99, 0, 0, 0, 0)) else (bif Nat.beq pc 10 then (19, 0, 0, 0, 0) else (99, 0, 0, 0, 0))))) else (bif Nat.ble pc 15 then (bif Nat.ble pc 13 then (bif Nat.ble pc 11 then (bif Nat.beq pc 11 then (0, 0, 0, 13, 8) else (99, 0, 0, 0, 0)) else (bif Nat.beq pc 13 then (1, 1, 0, 14, 0) else (99, 0, 0, 0, 0))) else (bif Nat.ble pc 14 then (bif Nat.beq pc 14 then (6, 2, 0, 15, 0) else (99, 0, 0, 0, 0)) else (bif Nat.beq pc 15 then (1, 2, 0, 16, 0) else (99, 0, 0, 0, 0)))) else (bif Nat.ble pc 17 then (bif Nat.ble pc 16 then (bif Nat.beq pc 16 then (6, 0, 0, 17, 0) else (99, 0, 0, 0, 0)) else (bif Nat.beq pc 17 then (3, 3, 0, 18, 0) else (99, 0, 0, 0, 0))) else (bif Nat.ble pc 18 then (bif Nat.beq pc 18 then (2, 0, 0, 19, 0) else (99, 0, 0, 0, 0)) else (bif Nat.beq pc 19 then (7, 8, 6, 22, 0) else (99, 0, 0, 0, 0)))))) else (bif Nat.ble pc 30 then (bif Nat.ble pc 24 then (bif Nat.ble pc 22 then (bif Nat.beq pc 22 then (1, 3, 0, 23, 0) else (99, 0, 0, 0, 0)) else (bif Nat.ble pc 23 then (bif Nat.beq pc 23 then (9, 0, 0, 24, 0) else (99, 0, 0, 0, 0)) else (bif Nat.beq pc 24 then (12, 0, 29, 27, 0) else (99, 0, 0, 0, 0)))) else (bif Nat.ble pc 28 then (bif Nat.ble pc 27 then (bif Nat.beq pc 27 then (0, 0, 0, 28, 0) else (99, 0, 0, 0, 0)) else (bif Nat.beq pc 28 then (19, 0, 0, 0, 0) else (99, 0, 0, 0, 0))) else (bif Nat.ble pc 29 then (bif Nat.beq pc 29 then (2, 0, 0, 30, 0) else (99, 0, 0, 0, 0)) else (bif Nat.beq pc 30 then (1, 3, 0, 31, 0) else (99, 0, 0, 0, 0))))) else (bif Nat.ble pc 38 then (bif Nat.ble pc 34 then (bif Nat.ble pc 31 then (bif Nat.beq pc 31 then (18, 141, 0, 34, 0) else (99, 0, 0, 0, 0)) else (bif Nat.beq pc 34 then (2, 0, 0, 35, 0) else (99, 0, 0, 0, 0))) else (bif Nat.ble pc 35 then (bif Nat.beq pc 35 then (7, 8, 11, 38, 0) else (99, 0, 0, 0, 0)) else (bif Nat.beq pc 38 then (1, 3, 0, 39, 0) else (99, 0, 0, 0, 0)))) else (bif Nat.ble pc 40 then (bif Nat.ble pc 39 then (bif Nat.beq pc 39 then (0, 0, 0, 40, 1) else (99, 0, 0, 0, 0)) else (bif Nat.beq pc 40 then (10, 1, 0, 41, 0) else (99, 0, 0, 0, 0))) else (bif Nat.ble pc 41 then (bif Nat.beq pc 41 then (0, 0, 0, 42, 1) else (99, 0, 0, 0, 0)) else (bif Nat.beq pc 42 then (19, 0, 0, 0, 0) else (99, 0, 0, 0, 0)))))))
def sX8_open : sw_T := fun _ => []
set_option maxRecDepth 100000 in
theorem kX8_open : sw_chk cX8_open flX8 cnX8 sX8_open 42 tX8_open = true := by decide +kernel
def tX8_begin : Nat → sw_I := fun pc => (bif Nat.ble pc 7 then (bif Nat.ble pc 4 then (bif Nat.ble pc 0 then (bif Nat.beq pc 0 then (2, 0, 0, 1, 0) else (99, 0, 0, 0, 0)) else (bif Nat.ble pc 1 then (bif Nat.beq pc 1 then (7, 8, 6, 4, 0) else (99, 0, 0, 0, 0)) else (bif Nat.beq pc 4 then (1, 1, 0, 5, 0) else (99, 0, 0, 0, 0)))) else (bif Nat.ble pc 5 then (bif Nat.beq pc 5 then (0, 0, 0, 6, 1) else (99, 0, 0, 0, 0)) else (bif Nat.ble pc 6 then (bif Nat.beq pc 6 then (10, 0, 0, 7, 0) else (99, 0, 0, 0, 0)) else (bif Nat.beq pc 7 then (2, 0, 0, 8, 0) else (99, 0, 0, 0, 0))))) else (bif Nat.ble pc 12 then (bif Nat.ble pc 8 then (bif Nat.beq pc 8 then (7, 8, 8, 11, 0) else (99, 0, 0, 0, 0)) else (bif Nat.ble pc 11 then (bif Nat.beq pc 11 then (1, 1, 0, 12, 0) else (99, 0, 0, 0, 0)) else (bif Nat.beq pc 12 then (2, 0, 0, 13, 0) else (99, 0, 0, 0, 0)))) else (bif Nat.ble pc 13 then (bif Nat.beq pc 13 then (7, 8, 5, 16, 0) else (99, 0, 0, 0, 0)) else (bif Nat.ble pc 16 then (bif Nat.beq pc 16 then (10, 0, 0, 17, 0) else (99, 0, 0, 0, 0)) else (bif Nat.beq pc 17 then (21, 0, 0, 0, 0) else (99, 0, 0, 0, 0))))))
def sX8_begin : sw_T := fun _ => []
set_option maxRecDepth 100000 in
theorem kX8_begin : sw_chk cX8_begin flX8 cnX8 sX8_begin 17 tX8_begin = true := by decide +kernel
def tX8_put : Nat → sw_I := fun pc => (bif Nat.ble pc 46 then (bif Nat.ble pc 20 then (bif Nat.ble pc 10 then (bif Nat.ble pc 2 then (bif Nat.ble pc 0 then (bif Nat.beq pc 0 then (2, 0, 0, 1, 0) else (99, 0, 0, 0, 0)) else (bif Nat.ble pc 1 then (bif Nat.beq pc 1 then (1, 1, 0, 2, 0) else (99, 0, 0, 0, 0)) else (bif Nat.beq pc 2 then (1, 2, 0, 3, 0) else (99, 0, 0, 0, 0)))) else (bif Nat.ble pc 6 then (bif Nat.ble pc 3 then (bif Nat.beq pc 3 then (18, 137, 0, 6, 0) else (99, 0, 0, 0, 0)) else (bif Nat.beq pc 6 then (12, 1, 11, 9, 0) else (99, 0, 0, 0, 0))) else (bif Nat.ble pc 9 then (bif Nat.beq pc 9 then (0, 0, 0, 10, (-1)) else (99, 0, 0, 0, 0)) else (bif Nat.beq pc 10 then (19, 0, 0, 0, 0) else (99, 0, 0, 0, 0))))) else (bif Nat.ble pc 15 then (bif Nat.ble pc 13 then (bif Nat.ble pc 11 then (bif Nat.beq pc 11 then (0, 0, 0, 13, 8) else (99, 0, 0, 0, 0)) else (bif Nat.beq pc 13 then (1, 1, 0, 14, 0) else (99, 0, 0, 0, 0))) else (bif Nat.ble pc 14 then (bif Nat.beq pc 14 then (6, 2, 0, 15, 0) else (99, 0, 0, 0, 0)) else (bif Nat.beq pc 15 then (1, 2, 0, 16, 0) else (99, 0, 0, 0, 0)))) else (bif Nat.ble pc 17 then (bif Nat.ble pc 16 then (bif Nat.beq pc 16 then (6, 0, 0, 17, 0) else (99, 0, 0, 0, 0)) else (bif Nat.beq pc 17 then (3, 5, 0, 19, 0) else (99, 0, 0, 0, 0))) else (bif Nat.ble pc 19 then (bif Nat.beq pc 19 then (2, 0, 0, 20, 0) else (99, 0, 0, 0, 0)) else (bif Nat.beq pc 20 then (7, 8, 6, 23, 0) else (99, 0, 0, 0, 0)))))) else (bif Nat.ble pc 32 then (bif Nat.ble pc 26 then (bif Nat.ble pc 23 then (bif Nat.beq pc 23 then (1, 5, 0, 25, 0) else (99, 0, 0, 0, 0)) else (bif Nat.ble pc 25 then (bif Nat.beq pc 25 then (9, 0, 0, 26, 0) else (99, 0, 0, 0, 0)) else (bif Nat.beq pc 26 then (0, 0, 0, 27, 1) else (99, 0, 0, 0, 0)))) else (bif Nat.ble pc 30 then (bif Nat.ble pc 27 then (bif Nat.beq pc 27 then (13, 0, 32, 30, 0) else (99, 0, 0, 0, 0)) else (bif Nat.beq pc 30 then (0, 0, 0, 31, 0) else (99, 0, 0, 0, 0))) else (bif Nat.ble pc 31 then (bif Nat.beq pc 31 then (19, 0, 0, 0, 0) else (99, 0, 0, 0, 0)) else (bif Nat.beq pc 32 then (2, 0, 0, 33, 0) else (99, 0, 0, 0, 0))))) else (bif Nat.ble pc 40 then (bif Nat.ble pc 34 then (bif Nat.ble pc 33 then (bif Nat.beq pc 33 then (1, 1, 0, 34, 0) else (99, 0, 0, 0, 0)) else (bif Nat.beq pc 34 then (18, 145, 0, 37, 0) else (99, 0, 0, 0, 0))) else (bif Nat.ble pc 37 then (bif Nat.beq pc 37 then (12, 1, 42, 40, 0) else (99, 0, 0, 0, 0)) else (bif Nat.beq pc 40 then (0, 0, 0, 41, 2) else (99, 0, 0, 0, 0)))) else (bif Nat.ble pc 42 then (bif Nat.ble pc 41 then (bif Nat.beq pc 41 then (19, 0, 0, 0, 0) else (99, 0, 0, 0, 0)) else (bif Nat.beq pc 42 then (2, 0, 0, 43, 0) else (99, 0, 0, 0, 0))) else (bif Nat.ble pc 43 then (bif Nat.beq pc 43 then (7, 8, 17, 46, 0) else (99, 0, 0, 0, 0)) else (bif Nat.beq pc 46 then (0, 0, 0, 49, 400) else (99, 0, 0, 0, 0))))))) else (bif Nat.ble pc 72 then (bif Nat.ble pc 59 then (bif Nat.ble pc 52 then (bif Nat.ble pc 49 then (bif Nat.beq pc 49 then (1, 5, 0, 51, 0) else (99, 0, 0, 0, 0)) else (bif Nat.ble pc 51 then (bif Nat.beq pc 51 then (6, 2, 0, 52, 0) else (99, 0, 0, 0, 0)) else (bif Nat.beq pc 52 then (2, 0, 0, 53, 0) else (99, 0, 0, 0, 0)))) else (bif Nat.ble pc 56 then (bif Nat.ble pc 53 then (bif Nat.beq pc 53 then (7, 8, 16, 56, 0) else (99, 0, 0, 0, 0)) else (bif Nat.beq pc 56 then (1, 5, 0, 58, 0) else (99, 0, 0, 0, 0))) else (bif Nat.ble pc 58 then (bif Nat.beq pc 58 then (9, 0, 0, 59, 0) else (99, 0, 0, 0, 0)) else (bif Nat.beq pc 59 then (6, 0, 0, 60, 0) else (99, 0, 0, 0, 0))))) else (bif Nat.ble pc 63 then (bif Nat.ble pc 61 then (bif Nat.ble pc 60 then (bif Nat.beq pc 60 then (1, 3, 0, 61, 0) else (99, 0, 0, 0, 0)) else (bif Nat.beq pc 61 then (10, 0, 0, 62, 0) else (99, 0, 0, 0, 0))) else (bif Nat.ble pc 62 then (bif Nat.beq pc 62 then (2, 0, 0, 63, 0) else (99, 0, 0, 0, 0)) else (bif Nat.beq pc 63 then (7, 8, 18, 66, 0) else (99, 0, 0, 0, 0)))) else (bif Nat.ble pc 69 then (bif Nat.ble pc 66 then (bif Nat.beq pc 66 then (0, 0, 0, 69, 400) else (99, 0, 0, 0, 0)) else (bif Nat.beq pc 69 then (1, 5, 0, 71, 0) else (99, 0, 0, 0, 0))) else (bif Nat.ble pc 71 then (bif Nat.beq pc 71 then (6, 2, 0, 72, 0) else (99, 0, 0, 0, 0)) else (bif Nat.beq pc 72 then (2, 0, 0, 73, 0) else (99, 0, 0, 0, 0)))))) else (bif Nat.ble pc 84 then (bif Nat.ble pc 79 then (bif Nat.ble pc 76 then (bif Nat.ble pc 73 then (bif Nat.beq pc 73 then (7, 8, 16, 76, 0) else (99, 0, 0, 0, 0)) else (bif Nat.beq pc 76 then (1, 5, 0, 78, 0) else (99, 0, 0, 0, 0))) else (bif Nat.ble pc 78 then (bif Nat.beq pc 78 then (9, 0, 0, 79, 0) else (99, 0, 0, 0, 0)) else (bif Nat.beq pc 79 then (6, 0, 0, 80, 0) else (99, 0, 0, 0, 0)))) else (bif Nat.ble pc 82 then (bif Nat.ble pc 80 then (bif Nat.beq pc 80 then (1, 4, 0, 82, 0) else (99, 0, 0, 0, 0)) else (bif Nat.beq pc 82 then (10, 1, 0, 83, 0) else (99, 0, 0, 0, 0))) else (bif Nat.ble pc 83 then (bif Nat.beq pc 83 then (2, 0, 0, 84, 0) else (99, 0, 0, 0, 0)) else (bif Nat.beq pc 84 then (7, 8, 16, 87, 0) else (99, 0, 0, 0, 0))))) else (bif Nat.ble pc 91 then (bif Nat.ble pc 89 then (bif Nat.ble pc 87 then (bif Nat.beq pc 87 then (1, 5, 0, 89, 0) else (99, 0, 0, 0, 0)) else (bif Nat.beq pc 89 then (23, 0, 0, 90, 0) else (99, 0, 0, 0, 0))) else (bif Nat.ble pc 90 then (bif Nat.beq pc 90 then (9, 0, 0, 91, 0) else (99, 0, 0, 0, 0)) else (bif Nat.beq pc 91 then (0, 0, 0, 92, 1) else (99, 0, 0, 0, 0)))) else (bif Nat.ble pc 93 then (bif Nat.ble pc 92 then (bif Nat.beq pc 92 then (6, 0, 0, 93, 0) else (99, 0, 0, 0, 0)) else (bif Nat.beq pc 93 then (10, 0, 0, 94, 0) else (99, 0, 0, 0, 0))) else (bif Nat.ble pc 94 then (bif Nat.beq pc 94 then (0, 0, 0, 95, 1) else (99, 0, 0, 0, 0)) else (bif Nat.beq pc 95 then (19, 0, 0, 0, 0) else (99, 0, 0, 0, 0))))))))
def sX8_put : sw_T := fun _ => []
set_option maxRecDepth 100000 in
theorem kX8_put : sw_chk cX8_put flX8 cnX8 sX8_put 95 tX8_put = true := by decide +kernel
def tX8_send : Nat → sw_I := fun pc => (bif Nat.ble pc 2 then (bif Nat.ble pc 0 then (bif Nat.beq pc 0 then (2, 0, 0, 1, 0) else (99, 0, 0, 0, 0)) else (bif Nat.ble pc 1 then (bif Nat.beq pc 1 then (1, 1, 0, 2, 0) else (99, 0, 0, 0, 0)) else (bif Nat.beq pc 2 then (1, 2, 0, 3, 0) else (99, 0, 0, 0, 0)))) else (bif Nat.ble pc 4 then (bif Nat.ble pc 3 then (bif Nat.beq pc 3 then (1, 3, 0, 4, 0) else (99, 0, 0, 0, 0)) else (bif Nat.beq pc 4 then (0, 0, 0, 5, 0) else (99, 0, 0, 0, 0))) else (bif Nat.ble pc 5 then (bif Nat.beq pc 5 then (18, 149, 0, 8, 0) else (99, 0, 0, 0, 0)) else (bif Nat.beq pc 8 then (19, 0, 0, 0, 0) else (99, 0, 0, 0, 0)))))
def sX8_send : sw_T := fun _ => []
set_option maxRecDepth 100000 in
theorem kX8_send : sw_chk cX8_send flX8 cnX8 sX8_send 8 tX8_send = true := by decide +kernel
def tX8_mark : Nat → sw_I := fun pc => (bif Nat.ble pc 2 then (bif Nat.ble pc 0 then (bif Nat.beq pc 0 then (2, 0, 0, 1, 0) else (99, 0, 0, 0, 0)) else (bif Nat.ble pc 1 then (bif Nat.beq pc 1 then (1, 1, 0, 2, 0) else (99, 0, 0, 0, 0)) else (bif Nat.beq pc 2 then (1, 2, 0, 3, 0) else (99, 0, 0, 0, 0)))) else (bif Nat.ble pc 4 then (bif Nat.ble pc 3 then (bif Nat.beq pc 3 then (0, 0, 0, 4, 0) else (99, 0, 0, 0, 0)) else (bif Nat.beq pc 4 then (0, 0, 0, 5, 1) else (99, 0, 0, 0, 0))) else (bif Nat.ble pc 5 then (bif Nat.beq pc 5 then (18, 149, 0, 8, 0) else (99, 0, 0, 0, 0)) else (bif Nat.beq pc 8 then (19, 0, 0, 0, 0) else (99, 0, 0, 0, 0)))))
def sX8_mark : sw_T := fun _ => []
set_option maxRecDepth 100000 in
theorem kX8_mark : sw_chk cX8_mark flX8 cnX8 sX8_mark 8 tX8_mark = true := by decide +kernel
def tX8_close : Nat → sw_I := fun pc => (bif Nat.ble pc 22 then (bif Nat.ble pc 11 then (bif Nat.ble pc 3 then (bif Nat.ble pc 1 then (bif Nat.ble pc 0 then (bif Nat.beq pc 0 then (2, 0, 0, 1, 0) else (99, 0, 0, 0, 0)) else (bif Nat.beq pc 1 then (1, 1, 0, 2, 0) else (99, 0, 0, 0, 0))) else (bif Nat.ble pc 2 then (bif Nat.beq pc 2 then (1, 2, 0, 3, 0) else (99, 0, 0, 0, 0)) else (bif Nat.beq pc 3 then (18, 137, 0, 6, 0) else (99, 0, 0, 0, 0)))) else (bif Nat.ble pc 9 then (bif Nat.ble pc 6 then (bif Nat.beq pc 6 then (12, 1, 11, 9, 0) else (99, 0, 0, 0, 0)) else (bif Nat.beq pc 9 then (0, 0, 0, 10, (-1)) else (99, 0, 0, 0, 0))) else (bif Nat.ble pc 10 then (bif Nat.beq pc 10 then (19, 0, 0, 0, 0) else (99, 0, 0, 0, 0)) else (bif Nat.beq pc 11 then (0, 0, 0, 13, 8) else (99, 0, 0, 0, 0))))) else (bif Nat.ble pc 16 then (bif Nat.ble pc 14 then (bif Nat.ble pc 13 then (bif Nat.beq pc 13 then (1, 1, 0, 14, 0) else (99, 0, 0, 0, 0)) else (bif Nat.beq pc 14 then (6, 2, 0, 15, 0) else (99, 0, 0, 0, 0))) else (bif Nat.ble pc 15 then (bif Nat.beq pc 15 then (1, 2, 0, 16, 0) else (99, 0, 0, 0, 0)) else (bif Nat.beq pc 16 then (6, 0, 0, 17, 0) else (99, 0, 0, 0, 0)))) else (bif Nat.ble pc 18 then (bif Nat.ble pc 17 then (bif Nat.beq pc 17 then (3, 3, 0, 18, 0) else (99, 0, 0, 0, 0)) else (bif Nat.beq pc 18 then (2, 0, 0, 19, 0) else (99, 0, 0, 0, 0))) else (bif Nat.ble pc 19 then (bif Nat.beq pc 19 then (7, 8, 6, 22, 0) else (99, 0, 0, 0, 0)) else (bif Nat.beq pc 22 then (1, 3, 0, 23, 0) else (99, 0, 0, 0, 0)))))) else (bif Nat.ble pc 34 then (bif Nat.ble pc 28 then (bif Nat.ble pc 24 then (bif Nat.ble pc 23 then (bif Nat.beq pc 23 then (9, 0, 0, 24, 0) else (99, 0, 0, 0, 0)) else (bif Nat.beq pc 24 then (0, 0, 0, 25, 1) else (99, 0, 0, 0, 0))) else (bif Nat.ble pc 25 then (bif Nat.beq pc 25 then (13, 0, 30, 28, 0) else (99, 0, 0, 0, 0)) else (bif Nat.beq pc 28 then (0, 0, 0, 29, 0) else (99, 0, 0, 0, 0)))) else (bif Nat.ble pc 30 then (bif Nat.ble pc 29 then (bif Nat.beq pc 29 then (19, 0, 0, 0, 0) else (99, 0, 0, 0, 0)) else (bif Nat.beq pc 30 then (2, 0, 0, 31, 0) else (99, 0, 0, 0, 0))) else (bif Nat.ble pc 31 then (bif Nat.beq pc 31 then (7, 8, 6, 34, 0) else (99, 0, 0, 0, 0)) else (bif Nat.beq pc 34 then (1, 3, 0, 35, 0) else (99, 0, 0, 0, 0))))) else (bif Nat.ble pc 38 then (bif Nat.ble pc 36 then (bif Nat.ble pc 35 then (bif Nat.beq pc 35 then (0, 0, 0, 36, 2) else (99, 0, 0, 0, 0)) else (bif Nat.beq pc 36 then (10, 0, 0, 37, 0) else (99, 0, 0, 0, 0))) else (bif Nat.ble pc 37 then (bif Nat.beq pc 37 then (2, 0, 0, 38, 0) else (99, 0, 0, 0, 0)) else (bif Nat.beq pc 38 then (7, 8, 12, 41, 0) else (99, 0, 0, 0, 0)))) else (bif Nat.ble pc 42 then (bif Nat.ble pc 41 then (bif Nat.beq pc 41 then (1, 3, 0, 42, 0) else (99, 0, 0, 0, 0)) else (bif Nat.beq pc 42 then (0, 0, 0, 43, 1) else (99, 0, 0, 0, 0))) else (bif Nat.ble pc 43 then (bif Nat.beq pc 43 then (10, 1, 0, 44, 0) else (99, 0, 0, 0, 0)) else (bif Nat.ble pc 44 then (bif Nat.beq pc 44 then (0, 0, 0, 45, 1) else (99, 0, 0, 0, 0)) else (bif Nat.beq pc 45 then (19, 0, 0, 0, 0) else (99, 0, 0, 0, 0))))))))
def sX8_close : sw_T := fun _ => []
set_option maxRecDepth 100000 in
theorem kX8_close : sw_chk cX8_close flX8 cnX8 sX8_close 45 tX8_close = true := by decide +kernel
def tX8_receive : Nat → sw_I := fun pc => (bif Nat.ble pc 121 then (bif Nat.ble pc 60 then (bif Nat.ble pc 27 then (bif Nat.ble pc 13 then (bif Nat.ble pc 3 then (bif Nat.ble pc 1 then (bif Nat.ble pc 0 then (bif Nat.beq pc 0 then (2, 0, 0, 1, 0) else (99, 0, 0, 0, 0)) else (bif Nat.beq pc 1 then (1, 1, 0, 2, 0) else (99, 0, 0, 0, 0))) else (bif Nat.ble pc 2 then (bif Nat.beq pc 2 then (1, 2, 0, 3, 0) else (99, 0, 0, 0, 0)) else (bif Nat.beq pc 3 then (18, 137, 0, 6, 0) else (99, 0, 0, 0, 0)))) else (bif Nat.ble pc 9 then (bif Nat.ble pc 6 then (bif Nat.beq pc 6 then (12, 1, 11, 9, 0) else (99, 0, 0, 0, 0)) else (bif Nat.beq pc 9 then (0, 0, 0, 10, (-1)) else (99, 0, 0, 0, 0))) else (bif Nat.ble pc 10 then (bif Nat.beq pc 10 then (19, 0, 0, 0, 0) else (99, 0, 0, 0, 0)) else (bif Nat.ble pc 11 then (bif Nat.beq pc 11 then (0, 0, 0, 13, 8) else (99, 0, 0, 0, 0)) else (bif Nat.beq pc 13 then (1, 1, 0, 14, 0) else (99, 0, 0, 0, 0)))))) else (bif Nat.ble pc 18 then (bif Nat.ble pc 15 then (bif Nat.ble pc 14 then (bif Nat.beq pc 14 then (6, 2, 0, 15, 0) else (99, 0, 0, 0, 0)) else (bif Nat.beq pc 15 then (1, 2, 0, 16, 0) else (99, 0, 0, 0, 0))) else (bif Nat.ble pc 16 then (bif Nat.beq pc 16 then (6, 0, 0, 17, 0) else (99, 0, 0, 0, 0)) else (bif Nat.ble pc 17 then (bif Nat.beq pc 17 then (3, 3, 0, 18, 0) else (99, 0, 0, 0, 0)) else (bif Nat.beq pc 18 then (2, 0, 0, 19, 0) else (99, 0, 0, 0, 0))))) else (bif Nat.ble pc 22 then (bif Nat.ble pc 19 then (bif Nat.beq pc 19 then (7, 8, 6, 22, 0) else (99, 0, 0, 0, 0)) else (bif Nat.beq pc 22 then (1, 3, 0, 23, 0) else (99, 0, 0, 0, 0))) else (bif Nat.ble pc 23 then (bif Nat.beq pc 23 then (9, 0, 0, 24, 0) else (99, 0, 0, 0, 0)) else (bif Nat.ble pc 24 then (bif Nat.beq pc 24 then (12, 1, 29, 27, 0) else (99, 0, 0, 0, 0)) else (bif Nat.beq pc 27 then (0, 0, 0, 28, 0) else (99, 0, 0, 0, 0))))))) else (bif Nat.ble pc 42 then (bif Nat.ble pc 33 then (bif Nat.ble pc 29 then (bif Nat.ble pc 28 then (bif Nat.beq pc 28 then (19, 0, 0, 0, 0) else (99, 0, 0, 0, 0)) else (bif Nat.beq pc 29 then (2, 0, 0, 30, 0) else (99, 0, 0, 0, 0))) else (bif Nat.ble pc 30 then (bif Nat.beq pc 30 then (7, 8, 19, 33, 0) else (99, 0, 0, 0, 0)) else (bif Nat.beq pc 33 then (1, 3, 0, 34, 0) else (99, 0, 0, 0, 0)))) else (bif Nat.ble pc 35 then (bif Nat.ble pc 34 then (bif Nat.beq pc 34 then (9, 0, 0, 35, 0) else (99, 0, 0, 0, 0)) else (bif Nat.beq pc 35 then (12, 1, 53, 38, 0) else (99, 0, 0, 0, 0))) else (bif Nat.ble pc 38 then (bif Nat.beq pc 38 then (2, 0, 0, 39, 0) else (99, 0, 0, 0, 0)) else (bif Nat.ble pc 39 then (bif Nat.beq pc 39 then (7, 8, 7, 42, 0) else (99, 0, 0, 0, 0)) else (bif Nat.beq pc 42 then (1, 3, 0, 43, 0) else (99, 0, 0, 0, 0)))))) else (bif Nat.ble pc 51 then (bif Nat.ble pc 44 then (bif Nat.ble pc 43 then (bif Nat.beq pc 43 then (9, 1, 0, 44, 0) else (99, 0, 0, 0, 0)) else (bif Nat.beq pc 44 then (12, 0, 51, 47, 0) else (99, 0, 0, 0, 0))) else (bif Nat.ble pc 47 then (bif Nat.beq pc 47 then (0, 0, 0, 48, 4) else (99, 0, 0, 0, 0)) else (bif Nat.ble pc 48 then (bif Nat.beq pc 48 then (16, 0, 52, 0, 0) else (99, 0, 0, 0, 0)) else (bif Nat.beq pc 51 then (0, 0, 0, 52, 3) else (99, 0, 0, 0, 0))))) else (bif Nat.ble pc 53 then (bif Nat.ble pc 52 then (bif Nat.beq pc 52 then (19, 0, 0, 0, 0) else (99, 0, 0, 0, 0)) else (bif Nat.beq pc 53 then (2, 0, 0, 54, 0) else (99, 0, 0, 0, 0))) else (bif Nat.ble pc 54 then (bif Nat.beq pc 54 then (7, 8, 21, 57, 0) else (99, 0, 0, 0, 0)) else (bif Nat.ble pc 57 then (bif Nat.beq pc 57 then (0, 0, 0, 60, 400) else (99, 0, 0, 0, 0)) else (bif Nat.beq pc 60 then (1, 3, 0, 61, 0) else (99, 0, 0, 0, 0)))))))) else (bif Nat.ble pc 87 then (bif Nat.ble pc 74 then (bif Nat.ble pc 65 then (bif Nat.ble pc 62 then (bif Nat.ble pc 61 then (bif Nat.beq pc 61 then (6, 2, 0, 62, 0) else (99, 0, 0, 0, 0)) else (bif Nat.beq pc 62 then (9, 1, 0, 63, 0) else (99, 0, 0, 0, 0))) else (bif Nat.ble pc 63 then (bif Nat.beq pc 63 then (3, 4, 0, 65, 0) else (99, 0, 0, 0, 0)) else (bif Nat.beq pc 65 then (2, 0, 0, 66, 0) else (99, 0, 0, 0, 0)))) else (bif Nat.ble pc 69 then (bif Nat.ble pc 66 then (bif Nat.beq pc 66 then (7, 8, 20, 69, 0) else (99, 0, 0, 0, 0)) else (bif Nat.beq pc 69 then (0, 0, 0, 72, 400) else (99, 0, 0, 0, 0))) else (bif Nat.ble pc 72 then (bif Nat.beq pc 72 then (1, 3, 0, 73, 0) else (99, 0, 0, 0, 0)) else (bif Nat.ble pc 73 then (bif Nat.beq pc 73 then (6, 2, 0, 74, 0) else (99, 0, 0, 0, 0)) else (bif Nat.beq pc 74 then (9, 0, 0, 75, 0) else (99, 0, 0, 0, 0)))))) else (bif Nat.ble pc 82 then (bif Nat.ble pc 77 then (bif Nat.ble pc 75 then (bif Nat.beq pc 75 then (3, 5, 0, 77, 0) else (99, 0, 0, 0, 0)) else (bif Nat.beq pc 77 then (2, 0, 0, 78, 0) else (99, 0, 0, 0, 0))) else (bif Nat.ble pc 78 then (bif Nat.beq pc 78 then (7, 8, 19, 81, 0) else (99, 0, 0, 0, 0)) else (bif Nat.ble pc 81 then (bif Nat.beq pc 81 then (1, 3, 0, 82, 0) else (99, 0, 0, 0, 0)) else (bif Nat.beq pc 82 then (23, 0, 0, 83, 0) else (99, 0, 0, 0, 0))))) else (bif Nat.ble pc 84 then (bif Nat.ble pc 83 then (bif Nat.beq pc 83 then (9, 0, 0, 84, 0) else (99, 0, 0, 0, 0)) else (bif Nat.beq pc 84 then (0, 0, 0, 85, 1) else (99, 0, 0, 0, 0))) else (bif Nat.ble pc 85 then (bif Nat.beq pc 85 then (6, 1, 0, 86, 0) else (99, 0, 0, 0, 0)) else (bif Nat.ble pc 86 then (bif Nat.beq pc 86 then (10, 0, 0, 87, 0) else (99, 0, 0, 0, 0)) else (bif Nat.beq pc 87 then (0, 0, 0, 88, 0) else (99, 0, 0, 0, 0))))))) else (bif Nat.ble pc 102 then (bif Nat.ble pc 93 then (bif Nat.ble pc 90 then (bif Nat.ble pc 88 then (bif Nat.beq pc 88 then (3, 6, 0, 90, 0) else (99, 0, 0, 0, 0)) else (bif Nat.beq pc 90 then (1, 6, 0, 92, 0) else (99, 0, 0, 0, 0))) else (bif Nat.ble pc 92 then (bif Nat.beq pc 92 then (2, 0, 0, 93, 0) else (99, 0, 0, 0, 0)) else (bif Nat.beq pc 93 then (7, 8, 19, 96, 0) else (99, 0, 0, 0, 0)))) else (bif Nat.ble pc 97 then (bif Nat.ble pc 96 then (bif Nat.beq pc 96 then (1, 3, 0, 97, 0) else (99, 0, 0, 0, 0)) else (bif Nat.beq pc 97 then (9, 0, 0, 98, 0) else (99, 0, 0, 0, 0))) else (bif Nat.ble pc 98 then (bif Nat.beq pc 98 then (13, 3, 163, 101, 0) else (99, 0, 0, 0, 0)) else (bif Nat.ble pc 101 then (bif Nat.beq pc 101 then (2, 0, 0, 102, 0) else (99, 0, 0, 0, 0)) else (bif Nat.beq pc 102 then (7, 8, 20, 105, 0) else (99, 0, 0, 0, 0)))))) else (bif Nat.ble pc 112 then (bif Nat.ble pc 108 then (bif Nat.ble pc 105 then (bif Nat.beq pc 105 then (0, 0, 0, 108, 400) else (99, 0, 0, 0, 0)) else (bif Nat.beq pc 108 then (1, 3, 0, 109, 0) else (99, 0, 0, 0, 0))) else (bif Nat.ble pc 109 then (bif Nat.beq pc 109 then (6, 2, 0, 110, 0) else (99, 0, 0, 0, 0)) else (bif Nat.ble pc 110 then (bif Nat.beq pc 110 then (1, 6, 0, 112, 0) else (99, 0, 0, 0, 0)) else (bif Nat.beq pc 112 then (6, 0, 0, 113, 0) else (99, 0, 0, 0, 0))))) else (bif Nat.ble pc 114 then (bif Nat.ble pc 113 then (bif Nat.beq pc 113 then (2, 0, 0, 114, 0) else (99, 0, 0, 0, 0)) else (bif Nat.beq pc 114 then (7, 8, 20, 117, 0) else (99, 0, 0, 0, 0))) else (bif Nat.ble pc 117 then (bif Nat.beq pc 117 then (0, 0, 0, 120, 400) else (99, 0, 0, 0, 0)) else (bif Nat.ble pc 120 then (bif Nat.beq pc 120 then (1, 3, 0, 121, 0) else (99, 0, 0, 0, 0)) else (bif Nat.beq pc 121 then (6, 2, 0, 122, 0) else (99, 0, 0, 0, 0))))))))) else (bif Nat.ble pc 178 then (bif Nat.ble pc 150 then (bif Nat.ble pc 133 then (bif Nat.ble pc 126 then (bif Nat.ble pc 124 then (bif Nat.ble pc 122 then (bif Nat.beq pc 122 then (1, 6, 0, 124, 0) else (99, 0, 0, 0, 0)) else (bif Nat.beq pc 124 then (6, 0, 0, 125, 0) else (99, 0, 0, 0, 0))) else (bif Nat.ble pc 125 then (bif Nat.beq pc 125 then (0, 0, 0, 126, 1) else (99, 0, 0, 0, 0)) else (bif Nat.beq pc 126 then (6, 0, 0, 127, 0) else (99, 0, 0, 0, 0)))) else (bif Nat.ble pc 128 then (bif Nat.ble pc 127 then (bif Nat.beq pc 127 then (9, 0, 0, 128, 0) else (99, 0, 0, 0, 0)) else (bif Nat.beq pc 128 then (10, 0, 0, 129, 0) else (99, 0, 0, 0, 0))) else (bif Nat.ble pc 129 then (bif Nat.beq pc 129 then (2, 0, 0, 130, 0) else (99, 0, 0, 0, 0)) else (bif Nat.ble pc 130 then (bif Nat.beq pc 130 then (7, 8, 21, 133, 0) else (99, 0, 0, 0, 0)) else (bif Nat.beq pc 133 then (0, 0, 0, 136, 400) else (99, 0, 0, 0, 0)))))) else (bif Nat.ble pc 141 then (bif Nat.ble pc 137 then (bif Nat.ble pc 136 then (bif Nat.beq pc 136 then (1, 3, 0, 137, 0) else (99, 0, 0, 0, 0)) else (bif Nat.beq pc 137 then (6, 2, 0, 138, 0) else (99, 0, 0, 0, 0))) else (bif Nat.ble pc 138 then (bif Nat.beq pc 138 then (1, 6, 0, 140, 0) else (99, 0, 0, 0, 0)) else (bif Nat.ble pc 140 then (bif Nat.beq pc 140 then (6, 0, 0, 141, 0) else (99, 0, 0, 0, 0)) else (bif Nat.beq pc 141 then (2, 0, 0, 142, 0) else (99, 0, 0, 0, 0))))) else (bif Nat.ble pc 145 then (bif Nat.ble pc 142 then (bif Nat.beq pc 142 then (7, 8, 21, 145, 0) else (99, 0, 0, 0, 0)) else (bif Nat.beq pc 145 then (0, 0, 0, 148, 400) else (99, 0, 0, 0, 0))) else (bif Nat.ble pc 148 then (bif Nat.beq pc 148 then (1, 3, 0, 149, 0) else (99, 0, 0, 0, 0)) else (bif Nat.ble pc 149 then (bif Nat.beq pc 149 then (6, 2, 0, 150, 0) else (99, 0, 0, 0, 0)) else (bif Nat.beq pc 150 then (1, 6, 0, 152, 0) else (99, 0, 0, 0, 0))))))) else (bif Nat.ble pc 164 then (bif Nat.ble pc 155 then (bif Nat.ble pc 153 then (bif Nat.ble pc 152 then (bif Nat.beq pc 152 then (6, 0, 0, 153, 0) else (99, 0, 0, 0, 0)) else (bif Nat.beq pc 153 then (0, 0, 0, 154, 1) else (99, 0, 0, 0, 0))) else (bif Nat.ble pc 154 then (bif Nat.beq pc 154 then (6, 0, 0, 155, 0) else (99, 0, 0, 0, 0)) else (bif Nat.beq pc 155 then (9, 1, 0, 156, 0) else (99, 0, 0, 0, 0)))) else (bif Nat.ble pc 157 then (bif Nat.ble pc 156 then (bif Nat.beq pc 156 then (10, 1, 0, 157, 0) else (99, 0, 0, 0, 0)) else (bif Nat.beq pc 157 then (5, 6, 0, 160, 1) else (99, 0, 0, 0, 0))) else (bif Nat.ble pc 160 then (bif Nat.beq pc 160 then (16, 0, 90, 0, 0) else (99, 0, 0, 0, 0)) else (bif Nat.ble pc 163 then (bif Nat.beq pc 163 then (2, 0, 0, 164, 0) else (99, 0, 0, 0, 0)) else (bif Nat.beq pc 164 then (7, 8, 9, 167, 0) else (99, 0, 0, 0, 0)))))) else (bif Nat.ble pc 171 then (bif Nat.ble pc 168 then (bif Nat.ble pc 167 then (bif Nat.beq pc 167 then (1, 3, 0, 168, 0) else (99, 0, 0, 0, 0)) else (bif Nat.beq pc 168 then (23, 0, 0, 169, 0) else (99, 0, 0, 0, 0))) else (bif Nat.ble pc 169 then (bif Nat.beq pc 169 then (9, 0, 0, 170, 0) else (99, 0, 0, 0, 0)) else (bif Nat.ble pc 170 then (bif Nat.beq pc 170 then (0, 0, 0, 171, 1) else (99, 0, 0, 0, 0)) else (bif Nat.beq pc 171 then (6, 0, 0, 172, 0) else (99, 0, 0, 0, 0))))) else (bif Nat.ble pc 173 then (bif Nat.ble pc 172 then (bif Nat.beq pc 172 then (10, 0, 0, 173, 0) else (99, 0, 0, 0, 0)) else (bif Nat.beq pc 173 then (2, 0, 0, 174, 0) else (99, 0, 0, 0, 0))) else (bif Nat.ble pc 174 then (bif Nat.beq pc 174 then (7, 8, 14, 177, 0) else (99, 0, 0, 0, 0)) else (bif Nat.ble pc 177 then (bif Nat.beq pc 177 then (1, 3, 0, 178, 0) else (99, 0, 0, 0, 0)) else (bif Nat.beq pc 178 then (23, 0, 0, 179, 0) else (99, 0, 0, 0, 0)))))))) else (bif Nat.ble pc 209 then (bif Nat.ble pc 192 then (bif Nat.ble pc 185 then (bif Nat.ble pc 180 then (bif Nat.ble pc 179 then (bif Nat.beq pc 179 then (9, 0, 0, 180, 0) else (99, 0, 0, 0, 0)) else (bif Nat.beq pc 180 then (1, 4, 0, 182, 0) else (99, 0, 0, 0, 0))) else (bif Nat.ble pc 182 then (bif Nat.beq pc 182 then (12, 0, 189, 185, 0) else (99, 0, 0, 0, 0)) else (bif Nat.beq pc 185 then (0, 0, 0, 186, 0) else (99, 0, 0, 0, 0)))) else (bif Nat.ble pc 189 then (bif Nat.ble pc 186 then (bif Nat.beq pc 186 then (16, 0, 190, 0, 0) else (99, 0, 0, 0, 0)) else (bif Nat.beq pc 189 then (0, 0, 0, 190, 1) else (99, 0, 0, 0, 0))) else (bif Nat.ble pc 190 then (bif Nat.beq pc 190 then (6, 0, 0, 191, 0) else (99, 0, 0, 0, 0)) else (bif Nat.ble pc 191 then (bif Nat.beq pc 191 then (10, 0, 0, 192, 0) else (99, 0, 0, 0, 0)) else (bif Nat.beq pc 192 then (2, 0, 0, 193, 0) else (99, 0, 0, 0, 0)))))) else (bif Nat.ble pc 199 then (bif Nat.ble pc 196 then (bif Nat.ble pc 193 then (bif Nat.beq pc 193 then (7, 8, 15, 196, 0) else (99, 0, 0, 0, 0)) else (bif Nat.beq pc 196 then (1, 3, 0, 197, 0) else (99, 0, 0, 0, 0))) else (bif Nat.ble pc 197 then (bif Nat.beq pc 197 then (23, 0, 0, 198, 0) else (99, 0, 0, 0, 0)) else (bif Nat.ble pc 198 then (bif Nat.beq pc 198 then (9, 0, 0, 199, 0) else (99, 0, 0, 0, 0)) else (bif Nat.beq pc 199 then (1, 4, 0, 201, 0) else (99, 0, 0, 0, 0))))) else (bif Nat.ble pc 204 then (bif Nat.ble pc 201 then (bif Nat.beq pc 201 then (12, 0, 208, 204, 0) else (99, 0, 0, 0, 0)) else (bif Nat.beq pc 204 then (0, 0, 0, 205, 1) else (99, 0, 0, 0, 0))) else (bif Nat.ble pc 205 then (bif Nat.beq pc 205 then (16, 0, 209, 0, 0) else (99, 0, 0, 0, 0)) else (bif Nat.ble pc 208 then (bif Nat.beq pc 208 then (0, 0, 0, 209, 0) else (99, 0, 0, 0, 0)) else (bif Nat.beq pc 209 then (6, 0, 0, 210, 0) else (99, 0, 0, 0, 0))))))) else (bif Nat.ble pc 225 then (bif Nat.ble pc 215 then (bif Nat.ble pc 211 then (bif Nat.ble pc 210 then (bif Nat.beq pc 210 then (10, 0, 0, 211, 0) else (99, 0, 0, 0, 0)) else (bif Nat.beq pc 211 then (2, 0, 0, 212, 0) else (99, 0, 0, 0, 0))) else (bif Nat.ble pc 212 then (bif Nat.beq pc 212 then (7, 8, 37, 215, 0) else (99, 0, 0, 0, 0)) else (bif Nat.beq pc 215 then (1, 1, 0, 216, 0) else (99, 0, 0, 0, 0)))) else (bif Nat.ble pc 218 then (bif Nat.ble pc 216 then (bif Nat.beq pc 216 then (1, 4, 0, 218, 0) else (99, 0, 0, 0, 0)) else (bif Nat.beq pc 218 then (12, 0, 230, 221, 0) else (99, 0, 0, 0, 0))) else (bif Nat.ble pc 221 then (bif Nat.beq pc 221 then (2, 0, 0, 222, 0) else (99, 0, 0, 0, 0)) else (bif Nat.ble pc 222 then (bif Nat.beq pc 222 then (7, 8, 37, 225, 0) else (99, 0, 0, 0, 0)) else (bif Nat.beq pc 225 then (1, 1, 0, 226, 0) else (99, 0, 0, 0, 0)))))) else (bif Nat.ble pc 233 then (bif Nat.ble pc 227 then (bif Nat.ble pc 226 then (bif Nat.beq pc 226 then (9, 0, 0, 227, 0) else (99, 0, 0, 0, 0)) else (bif Nat.beq pc 227 then (16, 0, 232, 0, 0) else (99, 0, 0, 0, 0))) else (bif Nat.ble pc 230 then (bif Nat.beq pc 230 then (1, 5, 0, 232, 0) else (99, 0, 0, 0, 0)) else (bif Nat.ble pc 232 then (bif Nat.beq pc 232 then (10, 0, 0, 233, 0) else (99, 0, 0, 0, 0)) else (bif Nat.beq pc 233 then (1, 4, 0, 235, 0) else (99, 0, 0, 0, 0))))) else (bif Nat.ble pc 238 then (bif Nat.ble pc 235 then (bif Nat.beq pc 235 then (12, 0, 242, 238, 0) else (99, 0, 0, 0, 0)) else (bif Nat.beq pc 238 then (0, 0, 0, 239, 2) else (99, 0, 0, 0, 0))) else (bif Nat.ble pc 239 then (bif Nat.beq pc 239 then (16, 0, 243, 0, 0) else (99, 0, 0, 0, 0)) else (bif Nat.ble pc 242 then (bif Nat.beq pc 242 then (0, 0, 0, 243, 1) else (99, 0, 0, 0, 0)) else (bif Nat.beq pc 243 then (19, 0, 0, 0, 0) else (99, 0, 0, 0, 0))))))))))
def sX8_receive : sw_T := fun _ => []
set_option maxRecDepth 100000 in
theorem kX8_receive : sw_chk cX8_receive flX8 cnX8 sX8_receive 243 tX8_receive = true := by decide +kernel
def tX8_word : Nat → sw_I := fun pc => (bif Nat.ble pc 8 then (bif Nat.ble pc 1 then (bif Nat.ble pc 0 then (bif Nat.beq pc 0 then (1, 1, 0, 1, 0) else (99, 0, 0, 0, 0)) else (bif Nat.beq pc 1 then (18, 133, 1, 4, 0) else (99, 0, 0, 0, 0))) else (bif Nat.ble pc 4 then (bif Nat.beq pc 4 then (12, 0, 16, 7, 0) else (99, 0, 0, 0, 0)) else (bif Nat.ble pc 7 then (bif Nat.beq pc 7 then (2, 0, 0, 8, 0) else (99, 0, 0, 0, 0)) else (bif Nat.beq pc 8 then (7, 8, 37, 11, 0) else (99, 0, 0, 0, 0))))) else (bif Nat.ble pc 12 then (bif Nat.ble pc 11 then (bif Nat.beq pc 11 then (1, 1, 0, 12, 0) else (99, 0, 0, 0, 0)) else (bif Nat.beq pc 12 then (9, 0, 0, 13, 0) else (99, 0, 0, 0, 0))) else (bif Nat.ble pc 13 then (bif Nat.beq pc 13 then (16, 0, 17, 0, 0) else (99, 0, 0, 0, 0)) else (bif Nat.ble pc 16 then (bif Nat.beq pc 16 then (0, 0, 0, 17, 0) else (99, 0, 0, 0, 0)) else (bif Nat.beq pc 17 then (19, 0, 0, 0, 0) else (99, 0, 0, 0, 0))))))
def sX8_word : sw_T := fun _ => []
set_option maxRecDepth 100000 in
theorem kX8_word : sw_chk cX8_word flX8 cnX8 sX8_word 17 tX8_word = true := by decide +kernel
def tX8_weight : Nat → sw_I := fun pc => (bif Nat.ble pc 25 then (bif Nat.ble pc 11 then (bif Nat.ble pc 3 then (bif Nat.ble pc 1 then (bif Nat.ble pc 0 then (bif Nat.beq pc 0 then (2, 0, 0, 1, 0) else (99, 0, 0, 0, 0)) else (bif Nat.beq pc 1 then (1, 1, 0, 2, 0) else (99, 0, 0, 0, 0))) else (bif Nat.ble pc 2 then (bif Nat.beq pc 2 then (1, 2, 0, 3, 0) else (99, 0, 0, 0, 0)) else (bif Nat.beq pc 3 then (18, 137, 0, 6, 0) else (99, 0, 0, 0, 0)))) else (bif Nat.ble pc 9 then (bif Nat.ble pc 6 then (bif Nat.beq pc 6 then (12, 0, 19, 9, 0) else (99, 0, 0, 0, 0)) else (bif Nat.beq pc 9 then (1, 3, 0, 10, 0) else (99, 0, 0, 0, 0))) else (bif Nat.ble pc 10 then (bif Nat.beq pc 10 then (0, 0, 0, 11, 1) else (99, 0, 0, 0, 0)) else (bif Nat.beq pc 11 then (13, 2, 19, 14, 0) else (99, 0, 0, 0, 0))))) else (bif Nat.ble pc 19 then (bif Nat.ble pc 15 then (bif Nat.ble pc 14 then (bif Nat.beq pc 14 then (1, 3, 0, 15, 0) else (99, 0, 0, 0, 0)) else (bif Nat.beq pc 15 then (0, 0, 0, 16, 4) else (99, 0, 0, 0, 0))) else (bif Nat.ble pc 16 then (bif Nat.beq pc 16 then (13, 5, 21, 19, 0) else (99, 0, 0, 0, 0)) else (bif Nat.beq pc 19 then (0, 0, 0, 20, (-1)) else (99, 0, 0, 0, 0)))) else (bif Nat.ble pc 21 then (bif Nat.ble pc 20 then (bif Nat.beq pc 20 then (19, 0, 0, 0, 0) else (99, 0, 0, 0, 0)) else (bif Nat.beq pc 21 then (2, 0, 0, 22, 0) else (99, 0, 0, 0, 0))) else (bif Nat.ble pc 22 then (bif Nat.beq pc 22 then (7, 8, 10, 25, 0) else (99, 0, 0, 0, 0)) else (bif Nat.beq pc 25 then (0, 0, 0, 27, 8) else (99, 0, 0, 0, 0)))))) else (bif Nat.ble pc 35 then (bif Nat.ble pc 30 then (bif Nat.ble pc 28 then (bif Nat.ble pc 27 then (bif Nat.beq pc 27 then (1, 1, 0, 28, 0) else (99, 0, 0, 0, 0)) else (bif Nat.beq pc 28 then (6, 2, 0, 29, 0) else (99, 0, 0, 0, 0))) else (bif Nat.ble pc 29 then (bif Nat.beq pc 29 then (1, 2, 0, 30, 0) else (99, 0, 0, 0, 0)) else (bif Nat.beq pc 30 then (6, 0, 0, 31, 0) else (99, 0, 0, 0, 0)))) else (bif Nat.ble pc 32 then (bif Nat.ble pc 31 then (bif Nat.beq pc 31 then (9, 0, 0, 32, 0) else (99, 0, 0, 0, 0)) else (bif Nat.beq pc 32 then (3, 4, 0, 34, 0) else (99, 0, 0, 0, 0))) else (bif Nat.ble pc 34 then (bif Nat.beq pc 34 then (2, 0, 0, 35, 0) else (99, 0, 0, 0, 0)) else (bif Nat.beq pc 35 then (7, 8, 10, 38, 0) else (99, 0, 0, 0, 0))))) else (bif Nat.ble pc 42 then (bif Nat.ble pc 40 then (bif Nat.ble pc 38 then (bif Nat.beq pc 38 then (0, 0, 0, 40, 8) else (99, 0, 0, 0, 0)) else (bif Nat.beq pc 40 then (1, 1, 0, 41, 0) else (99, 0, 0, 0, 0))) else (bif Nat.ble pc 41 then (bif Nat.beq pc 41 then (6, 2, 0, 42, 0) else (99, 0, 0, 0, 0)) else (bif Nat.beq pc 42 then (1, 2, 0, 43, 0) else (99, 0, 0, 0, 0)))) else (bif Nat.ble pc 44 then (bif Nat.ble pc 43 then (bif Nat.beq pc 43 then (6, 0, 0, 44, 0) else (99, 0, 0, 0, 0)) else (bif Nat.beq pc 44 then (1, 3, 0, 45, 0) else (99, 0, 0, 0, 0))) else (bif Nat.ble pc 45 then (bif Nat.beq pc 45 then (10, 0, 0, 46, 0) else (99, 0, 0, 0, 0)) else (bif Nat.ble pc 46 then (bif Nat.beq pc 46 then (1, 4, 0, 48, 0) else (99, 0, 0, 0, 0)) else (bif Nat.beq pc 48 then (19, 0, 0, 0, 0) else (99, 0, 0, 0, 0))))))))
def sX8_weight : sw_T := fun _ => []
set_option maxRecDepth 100000 in
theorem kX8_weight : sw_chk cX8_weight flX8 cnX8 sX8_weight 48 tX8_weight = true := by decide +kernel
def tX8_sumOf : Nat → sw_I := fun pc => (bif Nat.ble pc 34 then (bif Nat.ble pc 15 then (bif Nat.ble pc 5 then (bif Nat.ble pc 2 then (bif Nat.ble pc 0 then (bif Nat.beq pc 0 then (0, 0, 0, 1, 0) else (99, 0, 0, 0, 0)) else (bif Nat.ble pc 1 then (bif Nat.beq pc 1 then (3, 2, 0, 2, 0) else (99, 0, 0, 0, 0)) else (bif Nat.beq pc 2 then (0, 0, 0, 3, 0) else (99, 0, 0, 0, 0)))) else (bif Nat.ble pc 3 then (bif Nat.beq pc 3 then (3, 3, 0, 4, 0) else (99, 0, 0, 0, 0)) else (bif Nat.ble pc 4 then (bif Nat.beq pc 4 then (0, 0, 0, 5, 0) else (99, 0, 0, 0, 0)) else (bif Nat.beq pc 5 then (3, 4, 0, 7, 0) else (99, 0, 0, 0, 0))))) else (bif Nat.ble pc 10 then (bif Nat.ble pc 7 then (bif Nat.beq pc 7 then (1, 4, 0, 9, 0) else (99, 0, 0, 0, 0)) else (bif Nat.ble pc 9 then (bif Nat.beq pc 9 then (1, 1, 0, 10, 0) else (99, 0, 0, 0, 0)) else (bif Nat.beq pc 10 then (13, 3, 65, 13, 0) else (99, 0, 0, 0, 0)))) else (bif Nat.ble pc 13 then (bif Nat.beq pc 13 then (1, 2, 0, 14, 0) else (99, 0, 0, 0, 0)) else (bif Nat.ble pc 14 then (bif Nat.beq pc 14 then (2, 0, 0, 15, 0) else (99, 0, 0, 0, 0)) else (bif Nat.beq pc 15 then (7, 8, 38, 18, 0) else (99, 0, 0, 0, 0)))))) else (bif Nat.ble pc 25 then (bif Nat.ble pc 21 then (bif Nat.ble pc 18 then (bif Nat.beq pc 18 then (1, 4, 0, 20, 0) else (99, 0, 0, 0, 0)) else (bif Nat.ble pc 20 then (bif Nat.beq pc 20 then (9, 0, 0, 21, 0) else (99, 0, 0, 0, 0)) else (bif Nat.beq pc 21 then (0, 0, 0, 23, 16) else (99, 0, 0, 0, 0)))) else (bif Nat.ble pc 23 then (bif Nat.beq pc 23 then (6, 8, 0, 24, 0) else (99, 0, 0, 0, 0)) else (bif Nat.ble pc 24 then (bif Nat.beq pc 24 then (6, 0, 0, 25, 0) else (99, 0, 0, 0, 0)) else (bif Nat.beq pc 25 then (0, 0, 0, 27, 65535) else (99, 0, 0, 0, 0))))) else (bif Nat.ble pc 29 then (bif Nat.ble pc 27 then (bif Nat.beq pc 27 then (27, 0, 0, 28, 0) else (99, 0, 0, 0, 0)) else (bif Nat.ble pc 28 then (bif Nat.beq pc 28 then (3, 2, 0, 29, 0) else (99, 0, 0, 0, 0)) else (bif Nat.beq pc 29 then (1, 3, 0, 30, 0) else (99, 0, 0, 0, 0)))) else (bif Nat.ble pc 31 then (bif Nat.ble pc 30 then (bif Nat.beq pc 30 then (1, 2, 0, 31, 0) else (99, 0, 0, 0, 0)) else (bif Nat.beq pc 31 then (6, 0, 0, 32, 0) else (99, 0, 0, 0, 0))) else (bif Nat.ble pc 32 then (bif Nat.beq pc 32 then (0, 0, 0, 34, 65535) else (99, 0, 0, 0, 0)) else (bif Nat.beq pc 34 then (27, 0, 0, 35, 0) else (99, 0, 0, 0, 0))))))) else (bif Nat.ble pc 52 then (bif Nat.ble pc 43 then (bif Nat.ble pc 37 then (bif Nat.ble pc 35 then (bif Nat.beq pc 35 then (3, 3, 0, 36, 0) else (99, 0, 0, 0, 0)) else (bif Nat.ble pc 36 then (bif Nat.beq pc 36 then (1, 2, 0, 37, 0) else (99, 0, 0, 0, 0)) else (bif Nat.beq pc 37 then (2, 0, 0, 38, 0) else (99, 0, 0, 0, 0)))) else (bif Nat.ble pc 38 then (bif Nat.beq pc 38 then (7, 8, 38, 41, 0) else (99, 0, 0, 0, 0)) else (bif Nat.ble pc 41 then (bif Nat.beq pc 41 then (1, 4, 0, 43, 0) else (99, 0, 0, 0, 0)) else (bif Nat.beq pc 43 then (9, 0, 0, 44, 0) else (99, 0, 0, 0, 0))))) else (bif Nat.ble pc 47 then (bif Nat.ble pc 44 then (bif Nat.beq pc 44 then (0, 0, 0, 46, 65535) else (99, 0, 0, 0, 0)) else (bif Nat.ble pc 46 then (bif Nat.beq pc 46 then (6, 3, 0, 47, 0) else (99, 0, 0, 0, 0)) else (bif Nat.beq pc 47 then (6, 0, 0, 48, 0) else (99, 0, 0, 0, 0)))) else (bif Nat.ble pc 50 then (bif Nat.ble pc 48 then (bif Nat.beq pc 48 then (0, 0, 0, 50, 65535) else (99, 0, 0, 0, 0)) else (bif Nat.beq pc 50 then (27, 0, 0, 51, 0) else (99, 0, 0, 0, 0))) else (bif Nat.ble pc 51 then (bif Nat.beq pc 51 then (3, 2, 0, 52, 0) else (99, 0, 0, 0, 0)) else (bif Nat.beq pc 52 then (1, 3, 0, 53, 0) else (99, 0, 0, 0, 0)))))) else (bif Nat.ble pc 59 then (bif Nat.ble pc 55 then (bif Nat.ble pc 53 then (bif Nat.beq pc 53 then (1, 2, 0, 54, 0) else (99, 0, 0, 0, 0)) else (bif Nat.ble pc 54 then (bif Nat.beq pc 54 then (6, 0, 0, 55, 0) else (99, 0, 0, 0, 0)) else (bif Nat.beq pc 55 then (0, 0, 0, 57, 65535) else (99, 0, 0, 0, 0)))) else (bif Nat.ble pc 57 then (bif Nat.beq pc 57 then (27, 0, 0, 58, 0) else (99, 0, 0, 0, 0)) else (bif Nat.ble pc 58 then (bif Nat.beq pc 58 then (3, 3, 0, 59, 0) else (99, 0, 0, 0, 0)) else (bif Nat.beq pc 59 then (5, 4, 0, 62, 1) else (99, 0, 0, 0, 0))))) else (bif Nat.ble pc 66 then (bif Nat.ble pc 62 then (bif Nat.beq pc 62 then (16, 0, 7, 0, 0) else (99, 0, 0, 0, 0)) else (bif Nat.ble pc 65 then (bif Nat.beq pc 65 then (1, 3, 0, 66, 0) else (99, 0, 0, 0, 0)) else (bif Nat.beq pc 66 then (0, 0, 0, 68, 16) else (99, 0, 0, 0, 0)))) else (bif Nat.ble pc 69 then (bif Nat.ble pc 68 then (bif Nat.beq pc 68 then (6, 6, 0, 69, 0) else (99, 0, 0, 0, 0)) else (bif Nat.beq pc 69 then (1, 2, 0, 70, 0) else (99, 0, 0, 0, 0))) else (bif Nat.ble pc 70 then (bif Nat.beq pc 70 then (6, 4, 0, 71, 0) else (99, 0, 0, 0, 0)) else (bif Nat.beq pc 71 then (19, 0, 0, 0, 0) else (99, 0, 0, 0, 0))))))))
def sX8_sumOf : sw_T := fun _ => []
set_option maxRecDepth 100000 in
theorem kX8_sumOf : sw_chk cX8_sumOf flX8 cnX8 sX8_sumOf 71 tX8_sumOf = true := by decide +kernel
def tX8_beginFrame : Nat → sw_I := fun pc => (bif Nat.ble pc 26 then (bif Nat.ble pc 14 then (bif Nat.ble pc 5 then (bif Nat.ble pc 1 then (bif Nat.ble pc 0 then (bif Nat.beq pc 0 then (1, 2, 0, 1, 0) else (99, 0, 0, 0, 0)) else (bif Nat.beq pc 1 then (12, 1, 8, 4, 0) else (99, 0, 0, 0, 0))) else (bif Nat.ble pc 4 then (bif Nat.beq pc 4 then (0, 0, 0, 5, 0) else (99, 0, 0, 0, 0)) else (bif Nat.beq pc 5 then (16, 0, 14, 0, 0) else (99, 0, 0, 0, 0)))) else (bif Nat.ble pc 9 then (bif Nat.ble pc 8 then (bif Nat.beq pc 8 then (2, 0, 0, 9, 0) else (99, 0, 0, 0, 0)) else (bif Nat.beq pc 9 then (7, 8, 28, 12, 0) else (99, 0, 0, 0, 0))) else (bif Nat.ble pc 12 then (bif Nat.beq pc 12 then (1, 1, 0, 13, 0) else (99, 0, 0, 0, 0)) else (bif Nat.ble pc 13 then (bif Nat.beq pc 13 then (9, 0, 0, 14, 0) else (99, 0, 0, 0, 0)) else (bif Nat.beq pc 14 then (3, 5, 0, 16, 0) else (99, 0, 0, 0, 0)))))) else (bif Nat.ble pc 21 then (bif Nat.ble pc 17 then (bif Nat.ble pc 16 then (bif Nat.beq pc 16 then (2, 0, 0, 17, 0) else (99, 0, 0, 0, 0)) else (bif Nat.beq pc 17 then (7, 8, 38, 20, 0) else (99, 0, 0, 0, 0))) else (bif Nat.ble pc 20 then (bif Nat.beq pc 20 then (0, 0, 0, 21, 0) else (99, 0, 0, 0, 0)) else (bif Nat.beq pc 21 then (1, 2, 0, 22, 0) else (99, 0, 0, 0, 0)))) else (bif Nat.ble pc 23 then (bif Nat.ble pc 22 then (bif Nat.beq pc 22 then (1, 3, 0, 23, 0) else (99, 0, 0, 0, 0)) else (bif Nat.beq pc 23 then (0, 0, 0, 24, 3) else (99, 0, 0, 0, 0))) else (bif Nat.ble pc 24 then (bif Nat.beq pc 24 then (6, 6, 0, 25, 0) else (99, 0, 0, 0, 0)) else (bif Nat.ble pc 25 then (bif Nat.beq pc 25 then (6, 4, 0, 26, 0) else (99, 0, 0, 0, 0)) else (bif Nat.beq pc 26 then (1, 5, 0, 28, 0) else (99, 0, 0, 0, 0))))))) else (bif Nat.ble pc 40 then (bif Nat.ble pc 32 then (bif Nat.ble pc 30 then (bif Nat.ble pc 28 then (bif Nat.beq pc 28 then (0, 0, 0, 30, 8) else (99, 0, 0, 0, 0)) else (bif Nat.beq pc 30 then (6, 6, 0, 31, 0) else (99, 0, 0, 0, 0))) else (bif Nat.ble pc 31 then (bif Nat.beq pc 31 then (6, 4, 0, 32, 0) else (99, 0, 0, 0, 0)) else (bif Nat.beq pc 32 then (2, 0, 0, 33, 0) else (99, 0, 0, 0, 0)))) else (bif Nat.ble pc 36 then (bif Nat.ble pc 33 then (bif Nat.beq pc 33 then (7, 8, 29, 36, 0) else (99, 0, 0, 0, 0)) else (bif Nat.beq pc 36 then (1, 1, 0, 37, 0) else (99, 0, 0, 0, 0))) else (bif Nat.ble pc 37 then (bif Nat.beq pc 37 then (9, 0, 0, 38, 0) else (99, 0, 0, 0, 0)) else (bif Nat.ble pc 38 then (bif Nat.beq pc 38 then (0, 0, 0, 40, 16) else (99, 0, 0, 0, 0)) else (bif Nat.beq pc 40 then (6, 6, 0, 41, 0) else (99, 0, 0, 0, 0)))))) else (bif Nat.ble pc 47 then (bif Nat.ble pc 42 then (bif Nat.ble pc 41 then (bif Nat.beq pc 41 then (6, 4, 0, 42, 0) else (99, 0, 0, 0, 0)) else (bif Nat.beq pc 42 then (1, 4, 0, 44, 0) else (99, 0, 0, 0, 0))) else (bif Nat.ble pc 44 then (bif Nat.beq pc 44 then (0, 0, 0, 46, 24) else (99, 0, 0, 0, 0)) else (bif Nat.ble pc 46 then (bif Nat.beq pc 46 then (6, 6, 0, 47, 0) else (99, 0, 0, 0, 0)) else (bif Nat.beq pc 47 then (6, 4, 0, 48, 0) else (99, 0, 0, 0, 0))))) else (bif Nat.ble pc 49 then (bif Nat.ble pc 48 then (bif Nat.beq pc 48 then (10, 0, 0, 49, 0) else (99, 0, 0, 0, 0)) else (bif Nat.beq pc 49 then (2, 0, 0, 50, 0) else (99, 0, 0, 0, 0))) else (bif Nat.ble pc 50 then (bif Nat.beq pc 50 then (0, 0, 0, 51, 1) else (99, 0, 0, 0, 0)) else (bif Nat.ble pc 51 then (bif Nat.beq pc 51 then (8, 8, 39, 54, 0) else (99, 0, 0, 0, 0)) else (bif Nat.beq pc 54 then (21, 0, 0, 0, 0) else (99, 0, 0, 0, 0))))))))
def sX8_beginFrame : sw_T := fun _ => []
set_option maxRecDepth 100000 in
theorem kX8_beginFrame : sw_chk cX8_beginFrame flX8 cnX8 sX8_beginFrame 54 tX8_beginFrame = true := by decide +kernel
def tX8_add : Nat → sw_I := fun pc => (bif Nat.ble pc 9 then (bif Nat.ble pc 4 then (bif Nat.ble pc 0 then (bif Nat.beq pc 0 then (2, 0, 0, 1, 0) else (99, 0, 0, 0, 0)) else (bif Nat.ble pc 1 then (bif Nat.beq pc 1 then (7, 8, 38, 4, 0) else (99, 0, 0, 0, 0)) else (bif Nat.beq pc 4 then (2, 0, 0, 5, 0) else (99, 0, 0, 0, 0)))) else (bif Nat.ble pc 5 then (bif Nat.beq pc 5 then (7, 8, 39, 8, 0) else (99, 0, 0, 0, 0)) else (bif Nat.ble pc 8 then (bif Nat.beq pc 8 then (1, 1, 0, 9, 0) else (99, 0, 0, 0, 0)) else (bif Nat.beq pc 9 then (10, 0, 0, 10, 0) else (99, 0, 0, 0, 0))))) else (bif Nat.ble pc 12 then (bif Nat.ble pc 10 then (bif Nat.beq pc 10 then (2, 0, 0, 11, 0) else (99, 0, 0, 0, 0)) else (bif Nat.ble pc 11 then (bif Nat.beq pc 11 then (22, 0, 0, 12, 0) else (99, 0, 0, 0, 0)) else (bif Nat.beq pc 12 then (7, 8, 39, 15, 0) else (99, 0, 0, 0, 0)))) else (bif Nat.ble pc 16 then (bif Nat.ble pc 15 then (bif Nat.beq pc 15 then (0, 0, 0, 16, 1) else (99, 0, 0, 0, 0)) else (bif Nat.beq pc 16 then (6, 0, 0, 17, 0) else (99, 0, 0, 0, 0))) else (bif Nat.ble pc 17 then (bif Nat.beq pc 17 then (8, 8, 39, 20, 0) else (99, 0, 0, 0, 0)) else (bif Nat.beq pc 20 then (21, 0, 0, 0, 0) else (99, 0, 0, 0, 0))))))
def sX8_add : sw_T := fun _ => []
set_option maxRecDepth 100000 in
theorem kX8_add : sw_chk cX8_add flX8 cnX8 sX8_add 20 tX8_add = true := by decide +kernel
def tX8_finish : Nat → sw_I := fun pc => (bif Nat.ble pc 60 then (bif Nat.ble pc 29 then (bif Nat.ble pc 16 then (bif Nat.ble pc 3 then (bif Nat.ble pc 1 then (bif Nat.ble pc 0 then (bif Nat.beq pc 0 then (2, 0, 0, 1, 0) else (99, 0, 0, 0, 0)) else (bif Nat.beq pc 1 then (2, 0, 0, 2, 0) else (99, 0, 0, 0, 0))) else (bif Nat.ble pc 2 then (bif Nat.beq pc 2 then (2, 0, 0, 3, 0) else (99, 0, 0, 0, 0)) else (bif Nat.beq pc 3 then (7, 8, 39, 6, 0) else (99, 0, 0, 0, 0)))) else (bif Nat.ble pc 9 then (bif Nat.ble pc 6 then (bif Nat.beq pc 6 then (18, 157, 0, 9, 0) else (99, 0, 0, 0, 0)) else (bif Nat.beq pc 9 then (18, 160, 0, 12, 0) else (99, 0, 0, 0, 0))) else (bif Nat.ble pc 12 then (bif Nat.beq pc 12 then (2, 0, 0, 13, 0) else (99, 0, 0, 0, 0)) else (bif Nat.ble pc 13 then (bif Nat.beq pc 13 then (7, 8, 38, 16, 0) else (99, 0, 0, 0, 0)) else (bif Nat.beq pc 16 then (0, 0, 0, 17, 0) else (99, 0, 0, 0, 0)))))) else (bif Nat.ble pc 21 then (bif Nat.ble pc 18 then (bif Nat.ble pc 17 then (bif Nat.beq pc 17 then (9, 0, 0, 18, 0) else (99, 0, 0, 0, 0)) else (bif Nat.beq pc 18 then (0, 0, 0, 20, 7) else (99, 0, 0, 0, 0))) else (bif Nat.ble pc 20 then (bif Nat.beq pc 20 then (6, 3, 0, 21, 0) else (99, 0, 0, 0, 0)) else (bif Nat.beq pc 21 then (12, 0, 110, 24, 0) else (99, 0, 0, 0, 0)))) else (bif Nat.ble pc 26 then (bif Nat.ble pc 24 then (bif Nat.beq pc 24 then (0, 0, 0, 26, 15) else (99, 0, 0, 0, 0)) else (bif Nat.beq pc 26 then (1, 1, 0, 27, 0) else (99, 0, 0, 0, 0))) else (bif Nat.ble pc 27 then (bif Nat.beq pc 27 then (6, 2, 0, 28, 0) else (99, 0, 0, 0, 0)) else (bif Nat.ble pc 28 then (bif Nat.beq pc 28 then (2, 0, 0, 29, 0) else (99, 0, 0, 0, 0)) else (bif Nat.beq pc 29 then (7, 8, 22, 32, 0) else (99, 0, 0, 0, 0))))))) else (bif Nat.ble pc 42 then (bif Nat.ble pc 35 then (bif Nat.ble pc 33 then (bif Nat.ble pc 32 then (bif Nat.beq pc 32 then (1, 1, 0, 33, 0) else (99, 0, 0, 0, 0)) else (bif Nat.beq pc 33 then (9, 0, 0, 34, 0) else (99, 0, 0, 0, 0))) else (bif Nat.ble pc 34 then (bif Nat.beq pc 34 then (6, 0, 0, 35, 0) else (99, 0, 0, 0, 0)) else (bif Nat.beq pc 35 then (3, 2, 0, 36, 0) else (99, 0, 0, 0, 0)))) else (bif Nat.ble pc 37 then (bif Nat.ble pc 36 then (bif Nat.beq pc 36 then (2, 0, 0, 37, 0) else (99, 0, 0, 0, 0)) else (bif Nat.beq pc 37 then (7, 8, 23, 40, 0) else (99, 0, 0, 0, 0))) else (bif Nat.ble pc 40 then (bif Nat.beq pc 40 then (1, 2, 0, 41, 0) else (99, 0, 0, 0, 0)) else (bif Nat.ble pc 41 then (bif Nat.beq pc 41 then (2, 0, 0, 42, 0) else (99, 0, 0, 0, 0)) else (bif Nat.beq pc 42 then (7, 8, 39, 45, 0) else (99, 0, 0, 0, 0)))))) else (bif Nat.ble pc 49 then (bif Nat.ble pc 46 then (bif Nat.ble pc 45 then (bif Nat.beq pc 45 then (10, 0, 0, 46, 0) else (99, 0, 0, 0, 0)) else (bif Nat.beq pc 46 then (0, 0, 0, 47, 0) else (99, 0, 0, 0, 0))) else (bif Nat.ble pc 47 then (bif Nat.beq pc 47 then (3, 3, 0, 48, 0) else (99, 0, 0, 0, 0)) else (bif Nat.ble pc 48 then (bif Nat.beq pc 48 then (1, 3, 0, 49, 0) else (99, 0, 0, 0, 0)) else (bif Nat.beq pc 49 then (2, 0, 0, 50, 0) else (99, 0, 0, 0, 0))))) else (bif Nat.ble pc 53 then (bif Nat.ble pc 50 then (bif Nat.beq pc 50 then (7, 8, 39, 53, 0) else (99, 0, 0, 0, 0)) else (bif Nat.beq pc 53 then (13, 3, 79, 56, 0) else (99, 0, 0, 0, 0))) else (bif Nat.ble pc 56 then (bif Nat.beq pc 56 then (2, 0, 0, 57, 0) else (99, 0, 0, 0, 0)) else (bif Nat.ble pc 57 then (bif Nat.beq pc 57 then (7, 8, 24, 60, 0) else (99, 0, 0, 0, 0)) else (bif Nat.beq pc 60 then (0, 0, 0, 62, 19) else (99, 0, 0, 0, 0)))))))) else (bif Nat.ble pc 88 then (bif Nat.ble pc 72 then (bif Nat.ble pc 65 then (bif Nat.ble pc 63 then (bif Nat.ble pc 62 then (bif Nat.beq pc 62 then (1, 2, 0, 63, 0) else (99, 0, 0, 0, 0)) else (bif Nat.beq pc 63 then (6, 2, 0, 64, 0) else (99, 0, 0, 0, 0))) else (bif Nat.ble pc 64 then (bif Nat.beq pc 64 then (1, 3, 0, 65, 0) else (99, 0, 0, 0, 0)) else (bif Nat.beq pc 65 then (6, 0, 0, 66, 0) else (99, 0, 0, 0, 0)))) else (bif Nat.ble pc 67 then (bif Nat.ble pc 66 then (bif Nat.beq pc 66 then (2, 0, 0, 67, 0) else (99, 0, 0, 0, 0)) else (bif Nat.beq pc 67 then (7, 8, 38, 70, 0) else (99, 0, 0, 0, 0))) else (bif Nat.ble pc 70 then (bif Nat.beq pc 70 then (1, 3, 0, 71, 0) else (99, 0, 0, 0, 0)) else (bif Nat.ble pc 71 then (bif Nat.beq pc 71 then (9, 0, 0, 72, 0) else (99, 0, 0, 0, 0)) else (bif Nat.beq pc 72 then (10, 0, 0, 73, 0) else (99, 0, 0, 0, 0)))))) else (bif Nat.ble pc 83 then (bif Nat.ble pc 76 then (bif Nat.ble pc 73 then (bif Nat.beq pc 73 then (5, 3, 0, 76, 1) else (99, 0, 0, 0, 0)) else (bif Nat.beq pc 76 then (16, 0, 48, 0, 0) else (99, 0, 0, 0, 0))) else (bif Nat.ble pc 79 then (bif Nat.beq pc 79 then (2, 0, 0, 80, 0) else (99, 0, 0, 0, 0)) else (bif Nat.ble pc 80 then (bif Nat.beq pc 80 then (7, 8, 22, 83, 0) else (99, 0, 0, 0, 0)) else (bif Nat.beq pc 83 then (1, 1, 0, 84, 0) else (99, 0, 0, 0, 0))))) else (bif Nat.ble pc 85 then (bif Nat.ble pc 84 then (bif Nat.beq pc 84 then (23, 0, 0, 85, 0) else (99, 0, 0, 0, 0)) else (bif Nat.beq pc 85 then (9, 0, 0, 86, 0) else (99, 0, 0, 0, 0))) else (bif Nat.ble pc 86 then (bif Nat.beq pc 86 then (0, 0, 0, 87, 1) else (99, 0, 0, 0, 0)) else (bif Nat.ble pc 87 then (bif Nat.beq pc 87 then (6, 0, 0, 88, 0) else (99, 0, 0, 0, 0)) else (bif Nat.beq pc 88 then (10, 0, 0, 89, 0) else (99, 0, 0, 0, 0))))))) else (bif Nat.ble pc 101 then (bif Nat.ble pc 94 then (bif Nat.ble pc 90 then (bif Nat.ble pc 89 then (bif Nat.beq pc 89 then (2, 0, 0, 90, 0) else (99, 0, 0, 0, 0)) else (bif Nat.beq pc 90 then (7, 8, 28, 93, 0) else (99, 0, 0, 0, 0))) else (bif Nat.ble pc 93 then (bif Nat.beq pc 93 then (1, 1, 0, 94, 0) else (99, 0, 0, 0, 0)) else (bif Nat.beq pc 94 then (2, 0, 0, 95, 0) else (99, 0, 0, 0, 0)))) else (bif Nat.ble pc 98 then (bif Nat.ble pc 95 then (bif Nat.beq pc 95 then (7, 8, 28, 98, 0) else (99, 0, 0, 0, 0)) else (bif Nat.beq pc 98 then (1, 1, 0, 99, 0) else (99, 0, 0, 0, 0))) else (bif Nat.ble pc 99 then (bif Nat.beq pc 99 then (9, 0, 0, 100, 0) else (99, 0, 0, 0, 0)) else (bif Nat.ble pc 100 then (bif Nat.beq pc 100 then (0, 0, 0, 101, 1) else (99, 0, 0, 0, 0)) else (bif Nat.beq pc 101 then (6, 0, 0, 102, 0) else (99, 0, 0, 0, 0)))))) else (bif Nat.ble pc 108 then (bif Nat.ble pc 103 then (bif Nat.ble pc 102 then (bif Nat.beq pc 102 then (2, 0, 0, 103, 0) else (99, 0, 0, 0, 0)) else (bif Nat.beq pc 103 then (7, 8, 2, 106, 0) else (99, 0, 0, 0, 0))) else (bif Nat.ble pc 106 then (bif Nat.beq pc 106 then (0, 0, 0, 107, 1) else (99, 0, 0, 0, 0)) else (bif Nat.ble pc 107 then (bif Nat.beq pc 107 then (6, 0, 0, 108, 0) else (99, 0, 0, 0, 0)) else (bif Nat.beq pc 108 then (27, 0, 0, 109, 0) else (99, 0, 0, 0, 0))))) else (bif Nat.ble pc 110 then (bif Nat.ble pc 109 then (bif Nat.beq pc 109 then (10, 0, 0, 110, 0) else (99, 0, 0, 0, 0)) else (bif Nat.beq pc 110 then (2, 0, 0, 111, 0) else (99, 0, 0, 0, 0))) else (bif Nat.ble pc 111 then (bif Nat.beq pc 111 then (1, 1, 0, 112, 0) else (99, 0, 0, 0, 0)) else (bif Nat.ble pc 112 then (bif Nat.beq pc 112 then (18, 163, 0, 115, 0) else (99, 0, 0, 0, 0)) else (bif Nat.beq pc 115 then (21, 0, 0, 0, 0) else (99, 0, 0, 0, 0)))))))))
def sX8_finish : sw_T := fun _ => []
set_option maxRecDepth 100000 in
theorem kX8_finish : sw_chk cX8_finish flX8 cnX8 sX8_finish 115 tX8_finish = true := by decide +kernel
def tX8_ontoWire : Nat → sw_I := fun pc => (bif Nat.ble pc 41 then (bif Nat.ble pc 18 then (bif Nat.ble pc 9 then (bif Nat.ble pc 3 then (bif Nat.ble pc 0 then (bif Nat.beq pc 0 then (0, 0, 0, 2, 20) else (99, 0, 0, 0, 0)) else (bif Nat.ble pc 2 then (bif Nat.beq pc 2 then (1, 1, 0, 3, 0) else (99, 0, 0, 0, 0)) else (bif Nat.beq pc 3 then (6, 2, 0, 4, 0) else (99, 0, 0, 0, 0)))) else (bif Nat.ble pc 5 then (bif Nat.ble pc 4 then (bif Nat.beq pc 4 then (2, 0, 0, 5, 0) else (99, 0, 0, 0, 0)) else (bif Nat.beq pc 5 then (7, 8, 25, 8, 0) else (99, 0, 0, 0, 0))) else (bif Nat.ble pc 8 then (bif Nat.beq pc 8 then (1, 1, 0, 9, 0) else (99, 0, 0, 0, 0)) else (bif Nat.beq pc 9 then (9, 0, 0, 10, 0) else (99, 0, 0, 0, 0))))) else (bif Nat.ble pc 12 then (bif Nat.ble pc 10 then (bif Nat.beq pc 10 then (6, 0, 0, 11, 0) else (99, 0, 0, 0, 0)) else (bif Nat.ble pc 11 then (bif Nat.beq pc 11 then (3, 2, 0, 12, 0) else (99, 0, 0, 0, 0)) else (bif Nat.beq pc 12 then (2, 0, 0, 13, 0) else (99, 0, 0, 0, 0)))) else (bif Nat.ble pc 16 then (bif Nat.ble pc 13 then (bif Nat.beq pc 13 then (7, 8, 26, 16, 0) else (99, 0, 0, 0, 0)) else (bif Nat.beq pc 16 then (1, 2, 0, 17, 0) else (99, 0, 0, 0, 0))) else (bif Nat.ble pc 17 then (bif Nat.beq pc 17 then (2, 0, 0, 18, 0) else (99, 0, 0, 0, 0)) else (bif Nat.beq pc 18 then (7, 8, 39, 21, 0) else (99, 0, 0, 0, 0)))))) else (bif Nat.ble pc 29 then (bif Nat.ble pc 23 then (bif Nat.ble pc 21 then (bif Nat.beq pc 21 then (10, 0, 0, 22, 0) else (99, 0, 0, 0, 0)) else (bif Nat.ble pc 22 then (bif Nat.beq pc 22 then (0, 0, 0, 23, 0) else (99, 0, 0, 0, 0)) else (bif Nat.beq pc 23 then (3, 3, 0, 24, 0) else (99, 0, 0, 0, 0)))) else (bif Nat.ble pc 25 then (bif Nat.ble pc 24 then (bif Nat.beq pc 24 then (1, 3, 0, 25, 0) else (99, 0, 0, 0, 0)) else (bif Nat.beq pc 25 then (2, 0, 0, 26, 0) else (99, 0, 0, 0, 0))) else (bif Nat.ble pc 26 then (bif Nat.beq pc 26 then (7, 8, 39, 29, 0) else (99, 0, 0, 0, 0)) else (bif Nat.beq pc 29 then (13, 3, 55, 32, 0) else (99, 0, 0, 0, 0))))) else (bif Nat.ble pc 36 then (bif Nat.ble pc 32 then (bif Nat.beq pc 32 then (2, 0, 0, 33, 0) else (99, 0, 0, 0, 0)) else (bif Nat.ble pc 33 then (bif Nat.beq pc 33 then (7, 8, 27, 36, 0) else (99, 0, 0, 0, 0)) else (bif Nat.beq pc 36 then (0, 0, 0, 38, 19) else (99, 0, 0, 0, 0)))) else (bif Nat.ble pc 39 then (bif Nat.ble pc 38 then (bif Nat.beq pc 38 then (1, 2, 0, 39, 0) else (99, 0, 0, 0, 0)) else (bif Nat.beq pc 39 then (6, 2, 0, 40, 0) else (99, 0, 0, 0, 0))) else (bif Nat.ble pc 40 then (bif Nat.beq pc 40 then (1, 3, 0, 41, 0) else (99, 0, 0, 0, 0)) else (bif Nat.beq pc 41 then (6, 0, 0, 42, 0) else (99, 0, 0, 0, 0))))))) else (bif Nat.ble pc 63 then (bif Nat.ble pc 52 then (bif Nat.ble pc 46 then (bif Nat.ble pc 42 then (bif Nat.beq pc 42 then (2, 0, 0, 43, 0) else (99, 0, 0, 0, 0)) else (bif Nat.ble pc 43 then (bif Nat.beq pc 43 then (7, 8, 38, 46, 0) else (99, 0, 0, 0, 0)) else (bif Nat.beq pc 46 then (1, 3, 0, 47, 0) else (99, 0, 0, 0, 0)))) else (bif Nat.ble pc 48 then (bif Nat.ble pc 47 then (bif Nat.beq pc 47 then (9, 0, 0, 48, 0) else (99, 0, 0, 0, 0)) else (bif Nat.beq pc 48 then (10, 0, 0, 49, 0) else (99, 0, 0, 0, 0))) else (bif Nat.ble pc 49 then (bif Nat.beq pc 49 then (5, 3, 0, 52, 1) else (99, 0, 0, 0, 0)) else (bif Nat.beq pc 52 then (16, 0, 24, 0, 0) else (99, 0, 0, 0, 0))))) else (bif Nat.ble pc 59 then (bif Nat.ble pc 55 then (bif Nat.beq pc 55 then (2, 0, 0, 56, 0) else (99, 0, 0, 0, 0)) else (bif Nat.ble pc 56 then (bif Nat.beq pc 56 then (7, 8, 25, 59, 0) else (99, 0, 0, 0, 0)) else (bif Nat.beq pc 59 then (1, 1, 0, 60, 0) else (99, 0, 0, 0, 0)))) else (bif Nat.ble pc 61 then (bif Nat.ble pc 60 then (bif Nat.beq pc 60 then (23, 0, 0, 61, 0) else (99, 0, 0, 0, 0)) else (bif Nat.beq pc 61 then (9, 0, 0, 62, 0) else (99, 0, 0, 0, 0))) else (bif Nat.ble pc 62 then (bif Nat.beq pc 62 then (0, 0, 0, 63, 1) else (99, 0, 0, 0, 0)) else (bif Nat.beq pc 63 then (6, 0, 0, 64, 0) else (99, 0, 0, 0, 0)))))) else (bif Nat.ble pc 72 then (bif Nat.ble pc 66 then (bif Nat.ble pc 64 then (bif Nat.beq pc 64 then (10, 0, 0, 65, 0) else (99, 0, 0, 0, 0)) else (bif Nat.ble pc 65 then (bif Nat.beq pc 65 then (2, 0, 0, 66, 0) else (99, 0, 0, 0, 0)) else (bif Nat.beq pc 66 then (7, 8, 33, 69, 0) else (99, 0, 0, 0, 0)))) else (bif Nat.ble pc 70 then (bif Nat.ble pc 69 then (bif Nat.beq pc 69 then (1, 1, 0, 70, 0) else (99, 0, 0, 0, 0)) else (bif Nat.beq pc 70 then (23, 0, 0, 71, 0) else (99, 0, 0, 0, 0))) else (bif Nat.ble pc 71 then (bif Nat.beq pc 71 then (9, 0, 0, 72, 0) else (99, 0, 0, 0, 0)) else (bif Nat.beq pc 72 then (0, 0, 0, 73, 1) else (99, 0, 0, 0, 0))))) else (bif Nat.ble pc 76 then (bif Nat.ble pc 74 then (bif Nat.ble pc 73 then (bif Nat.beq pc 73 then (6, 0, 0, 74, 0) else (99, 0, 0, 0, 0)) else (bif Nat.beq pc 74 then (10, 0, 0, 75, 0) else (99, 0, 0, 0, 0))) else (bif Nat.ble pc 75 then (bif Nat.beq pc 75 then (2, 0, 0, 76, 0) else (99, 0, 0, 0, 0)) else (bif Nat.beq pc 76 then (7, 8, 32, 79, 0) else (99, 0, 0, 0, 0)))) else (bif Nat.ble pc 80 then (bif Nat.ble pc 79 then (bif Nat.beq pc 79 then (1, 1, 0, 80, 0) else (99, 0, 0, 0, 0)) else (bif Nat.beq pc 80 then (0, 0, 0, 81, 0) else (99, 0, 0, 0, 0))) else (bif Nat.ble pc 81 then (bif Nat.beq pc 81 then (10, 1, 0, 82, 0) else (99, 0, 0, 0, 0)) else (bif Nat.beq pc 82 then (21, 0, 0, 0, 0) else (99, 0, 0, 0, 0))))))))
def sX8_ontoWire : sw_T := fun _ => []
set_option maxRecDepth 100000 in
theorem kX8_ontoWire : sw_chk cX8_ontoWire flX8 cnX8 sX8_ontoWire 82 tX8_ontoWire = true := by decide +kernel
def tX8_hasSome : Nat → sw_I := fun pc => (bif Nat.ble pc 25 then (bif Nat.ble pc 8 then (bif Nat.ble pc 4 then (bif Nat.ble pc 2 then (bif Nat.ble pc 0 then (bif Nat.beq pc 0 then (0, 0, 0, 2, 8) else (99, 0, 0, 0, 0)) else (bif Nat.beq pc 2 then (1, 1, 0, 3, 0) else (99, 0, 0, 0, 0))) else (bif Nat.ble pc 3 then (bif Nat.beq pc 3 then (6, 2, 0, 4, 0) else (99, 0, 0, 0, 0)) else (bif Nat.beq pc 4 then (1, 2, 0, 5, 0) else (99, 0, 0, 0, 0)))) else (bif Nat.ble pc 6 then (bif Nat.ble pc 5 then (bif Nat.beq pc 5 then (6, 0, 0, 6, 0) else (99, 0, 0, 0, 0)) else (bif Nat.beq pc 6 then (3, 3, 0, 7, 0) else (99, 0, 0, 0, 0))) else (bif Nat.ble pc 7 then (bif Nat.beq pc 7 then (2, 0, 0, 8, 0) else (99, 0, 0, 0, 0)) else (bif Nat.beq pc 8 then (7, 8, 11, 11, 0) else (99, 0, 0, 0, 0))))) else (bif Nat.ble pc 16 then (bif Nat.ble pc 12 then (bif Nat.ble pc 11 then (bif Nat.beq pc 11 then (1, 3, 0, 12, 0) else (99, 0, 0, 0, 0)) else (bif Nat.beq pc 12 then (9, 1, 0, 13, 0) else (99, 0, 0, 0, 0))) else (bif Nat.ble pc 13 then (bif Nat.beq pc 13 then (12, 1, 52, 16, 0) else (99, 0, 0, 0, 0)) else (bif Nat.beq pc 16 then (2, 0, 0, 17, 0) else (99, 0, 0, 0, 0)))) else (bif Nat.ble pc 20 then (bif Nat.ble pc 17 then (bif Nat.beq pc 17 then (7, 8, 16, 20, 0) else (99, 0, 0, 0, 0)) else (bif Nat.beq pc 20 then (1, 3, 0, 21, 0) else (99, 0, 0, 0, 0))) else (bif Nat.ble pc 21 then (bif Nat.beq pc 21 then (9, 0, 0, 22, 0) else (99, 0, 0, 0, 0)) else (bif Nat.ble pc 22 then (bif Nat.beq pc 22 then (12, 5, 34, 25, 0) else (99, 0, 0, 0, 0)) else (bif Nat.beq pc 25 then (2, 0, 0, 26, 0) else (99, 0, 0, 0, 0))))))) else (bif Nat.ble pc 40 then (bif Nat.ble pc 31 then (bif Nat.ble pc 29 then (bif Nat.ble pc 26 then (bif Nat.beq pc 26 then (7, 8, 8, 29, 0) else (99, 0, 0, 0, 0)) else (bif Nat.beq pc 29 then (1, 3, 0, 30, 0) else (99, 0, 0, 0, 0))) else (bif Nat.ble pc 30 then (bif Nat.beq pc 30 then (9, 0, 0, 31, 0) else (99, 0, 0, 0, 0)) else (bif Nat.beq pc 31 then (12, 4, 52, 34, 0) else (99, 0, 0, 0, 0)))) else (bif Nat.ble pc 35 then (bif Nat.ble pc 34 then (bif Nat.beq pc 34 then (2, 0, 0, 35, 0) else (99, 0, 0, 0, 0)) else (bif Nat.beq pc 35 then (7, 8, 16, 38, 0) else (99, 0, 0, 0, 0))) else (bif Nat.ble pc 38 then (bif Nat.beq pc 38 then (1, 3, 0, 39, 0) else (99, 0, 0, 0, 0)) else (bif Nat.ble pc 39 then (bif Nat.beq pc 39 then (9, 0, 0, 40, 0) else (99, 0, 0, 0, 0)) else (bif Nat.beq pc 40 then (12, 1, 56, 43, 0) else (99, 0, 0, 0, 0)))))) else (bif Nat.ble pc 48 then (bif Nat.ble pc 44 then (bif Nat.ble pc 43 then (bif Nat.beq pc 43 then (2, 0, 0, 44, 0) else (99, 0, 0, 0, 0)) else (bif Nat.beq pc 44 then (7, 8, 12, 47, 0) else (99, 0, 0, 0, 0))) else (bif Nat.ble pc 47 then (bif Nat.beq pc 47 then (1, 3, 0, 48, 0) else (99, 0, 0, 0, 0)) else (bif Nat.beq pc 48 then (9, 1, 0, 49, 0) else (99, 0, 0, 0, 0)))) else (bif Nat.ble pc 52 then (bif Nat.ble pc 49 then (bif Nat.beq pc 49 then (12, 0, 56, 52, 0) else (99, 0, 0, 0, 0)) else (bif Nat.beq pc 52 then (0, 0, 0, 53, 1) else (99, 0, 0, 0, 0))) else (bif Nat.ble pc 53 then (bif Nat.beq pc 53 then (16, 0, 57, 0, 0) else (99, 0, 0, 0, 0)) else (bif Nat.ble pc 56 then (bif Nat.beq pc 56 then (0, 0, 0, 57, 0) else (99, 0, 0, 0, 0)) else (bif Nat.beq pc 57 then (19, 0, 0, 0, 0) else (99, 0, 0, 0, 0))))))))
def sX8_hasSome : sw_T := fun _ => []
set_option maxRecDepth 100000 in
theorem kX8_hasSome : sw_chk cX8_hasSome flX8 cnX8 sX8_hasSome 57 tX8_hasSome = true := by decide +kernel
def tX8_sendOf : Nat → sw_I := fun pc => (bif Nat.ble pc 159 then (bif Nat.ble pc 72 then (bif Nat.ble pc 31 then (bif Nat.ble pc 13 then (bif Nat.ble pc 5 then (bif Nat.ble pc 2 then (bif Nat.ble pc 0 then (bif Nat.beq pc 0 then (0, 0, 0, 2, 8) else (99, 0, 0, 0, 0)) else (bif Nat.beq pc 2 then (1, 1, 0, 3, 0) else (99, 0, 0, 0, 0))) else (bif Nat.ble pc 3 then (bif Nat.beq pc 3 then (6, 2, 0, 4, 0) else (99, 0, 0, 0, 0)) else (bif Nat.ble pc 4 then (bif Nat.beq pc 4 then (1, 2, 0, 5, 0) else (99, 0, 0, 0, 0)) else (bif Nat.beq pc 5 then (6, 0, 0, 6, 0) else (99, 0, 0, 0, 0))))) else (bif Nat.ble pc 8 then (bif Nat.ble pc 6 then (bif Nat.beq pc 6 then (3, 3, 0, 7, 0) else (99, 0, 0, 0, 0)) else (bif Nat.ble pc 7 then (bif Nat.beq pc 7 then (2, 0, 0, 8, 0) else (99, 0, 0, 0, 0)) else (bif Nat.beq pc 8 then (7, 8, 11, 11, 0) else (99, 0, 0, 0, 0)))) else (bif Nat.ble pc 11 then (bif Nat.beq pc 11 then (1, 3, 0, 12, 0) else (99, 0, 0, 0, 0)) else (bif Nat.ble pc 12 then (bif Nat.beq pc 12 then (9, 1, 0, 13, 0) else (99, 0, 0, 0, 0)) else (bif Nat.beq pc 13 then (12, 0, 34, 16, 0) else (99, 0, 0, 0, 0)))))) else (bif Nat.ble pc 23 then (bif Nat.ble pc 20 then (bif Nat.ble pc 16 then (bif Nat.beq pc 16 then (2, 0, 0, 17, 0) else (99, 0, 0, 0, 0)) else (bif Nat.ble pc 17 then (bif Nat.beq pc 17 then (7, 8, 11, 20, 0) else (99, 0, 0, 0, 0)) else (bif Nat.beq pc 20 then (1, 3, 0, 21, 0) else (99, 0, 0, 0, 0)))) else (bif Nat.ble pc 21 then (bif Nat.beq pc 21 then (0, 0, 0, 22, 0) else (99, 0, 0, 0, 0)) else (bif Nat.ble pc 22 then (bif Nat.beq pc 22 then (10, 1, 0, 23, 0) else (99, 0, 0, 0, 0)) else (bif Nat.beq pc 23 then (2, 0, 0, 24, 0) else (99, 0, 0, 0, 0))))) else (bif Nat.ble pc 26 then (bif Nat.ble pc 24 then (bif Nat.beq pc 24 then (1, 1, 0, 25, 0) else (99, 0, 0, 0, 0)) else (bif Nat.ble pc 25 then (bif Nat.beq pc 25 then (0, 0, 0, 26, 3) else (99, 0, 0, 0, 0)) else (bif Nat.beq pc 26 then (1, 2, 0, 27, 0) else (99, 0, 0, 0, 0)))) else (bif Nat.ble pc 27 then (bif Nat.beq pc 27 then (0, 0, 0, 28, 0) else (99, 0, 0, 0, 0)) else (bif Nat.ble pc 28 then (bif Nat.beq pc 28 then (18, 166, 0, 31, 0) else (99, 0, 0, 0, 0)) else (bif Nat.beq pc 31 then (16, 0, 309, 0, 0) else (99, 0, 0, 0, 0))))))) else (bif Nat.ble pc 50 then (bif Nat.ble pc 40 then (bif Nat.ble pc 35 then (bif Nat.ble pc 34 then (bif Nat.beq pc 34 then (2, 0, 0, 35, 0) else (99, 0, 0, 0, 0)) else (bif Nat.beq pc 35 then (7, 8, 16, 38, 0) else (99, 0, 0, 0, 0))) else (bif Nat.ble pc 38 then (bif Nat.beq pc 38 then (1, 3, 0, 39, 0) else (99, 0, 0, 0, 0)) else (bif Nat.ble pc 39 then (bif Nat.beq pc 39 then (9, 0, 0, 40, 0) else (99, 0, 0, 0, 0)) else (bif Nat.beq pc 40 then (12, 5, 294, 43, 0) else (99, 0, 0, 0, 0))))) else (bif Nat.ble pc 47 then (bif Nat.ble pc 43 then (bif Nat.beq pc 43 then (2, 0, 0, 44, 0) else (99, 0, 0, 0, 0)) else (bif Nat.ble pc 44 then (bif Nat.beq pc 44 then (7, 8, 16, 47, 0) else (99, 0, 0, 0, 0)) else (bif Nat.beq pc 47 then (1, 3, 0, 48, 0) else (99, 0, 0, 0, 0)))) else (bif Nat.ble pc 48 then (bif Nat.beq pc 48 then (9, 0, 0, 49, 0) else (99, 0, 0, 0, 0)) else (bif Nat.ble pc 49 then (bif Nat.beq pc 49 then (2, 0, 0, 50, 0) else (99, 0, 0, 0, 0)) else (bif Nat.beq pc 50 then (7, 8, 8, 53, 0) else (99, 0, 0, 0, 0)))))) else (bif Nat.ble pc 62 then (bif Nat.ble pc 55 then (bif Nat.ble pc 53 then (bif Nat.beq pc 53 then (1, 3, 0, 54, 0) else (99, 0, 0, 0, 0)) else (bif Nat.ble pc 54 then (bif Nat.beq pc 54 then (9, 0, 0, 55, 0) else (99, 0, 0, 0, 0)) else (bif Nat.beq pc 55 then (13, 3, 67, 58, 0) else (99, 0, 0, 0, 0)))) else (bif Nat.ble pc 58 then (bif Nat.beq pc 58 then (2, 0, 0, 59, 0) else (99, 0, 0, 0, 0)) else (bif Nat.ble pc 59 then (bif Nat.beq pc 59 then (7, 8, 16, 62, 0) else (99, 0, 0, 0, 0)) else (bif Nat.beq pc 62 then (1, 3, 0, 63, 0) else (99, 0, 0, 0, 0))))) else (bif Nat.ble pc 67 then (bif Nat.ble pc 63 then (bif Nat.beq pc 63 then (9, 0, 0, 64, 0) else (99, 0, 0, 0, 0)) else (bif Nat.ble pc 64 then (bif Nat.beq pc 64 then (16, 0, 73, 0, 0) else (99, 0, 0, 0, 0)) else (bif Nat.beq pc 67 then (2, 0, 0, 68, 0) else (99, 0, 0, 0, 0)))) else (bif Nat.ble pc 68 then (bif Nat.beq pc 68 then (7, 8, 8, 71, 0) else (99, 0, 0, 0, 0)) else (bif Nat.ble pc 71 then (bif Nat.beq pc 71 then (1, 3, 0, 72, 0) else (99, 0, 0, 0, 0)) else (bif Nat.beq pc 72 then (9, 0, 0, 73, 0) else (99, 0, 0, 0, 0)))))))) else (bif Nat.ble pc 114 then (bif Nat.ble pc 95 then (bif Nat.ble pc 81 then (bif Nat.ble pc 75 then (bif Nat.ble pc 73 then (bif Nat.beq pc 73 then (3, 4, 0, 75, 0) else (99, 0, 0, 0, 0)) else (bif Nat.beq pc 75 then (1, 4, 0, 77, 0) else (99, 0, 0, 0, 0))) else (bif Nat.ble pc 77 then (bif Nat.beq pc 77 then (2, 0, 0, 78, 0) else (99, 0, 0, 0, 0)) else (bif Nat.ble pc 78 then (bif Nat.beq pc 78 then (7, 8, 1, 81, 0) else (99, 0, 0, 0, 0)) else (bif Nat.beq pc 81 then (13, 3, 89, 84, 0) else (99, 0, 0, 0, 0))))) else (bif Nat.ble pc 89 then (bif Nat.ble pc 84 then (bif Nat.beq pc 84 then (1, 4, 0, 86, 0) else (99, 0, 0, 0, 0)) else (bif Nat.ble pc 86 then (bif Nat.beq pc 86 then (16, 0, 93, 0, 0) else (99, 0, 0, 0, 0)) else (bif Nat.beq pc 89 then (2, 0, 0, 90, 0) else (99, 0, 0, 0, 0)))) else (bif Nat.ble pc 90 then (bif Nat.beq pc 90 then (7, 8, 1, 93, 0) else (99, 0, 0, 0, 0)) else (bif Nat.ble pc 93 then (bif Nat.beq pc 93 then (3, 4, 0, 95, 0) else (99, 0, 0, 0, 0)) else (bif Nat.beq pc 95 then (2, 0, 0, 96, 0) else (99, 0, 0, 0, 0)))))) else (bif Nat.ble pc 104 then (bif Nat.ble pc 98 then (bif Nat.ble pc 96 then (bif Nat.beq pc 96 then (1, 1, 0, 97, 0) else (99, 0, 0, 0, 0)) else (bif Nat.ble pc 97 then (bif Nat.beq pc 97 then (0, 0, 0, 98, 1) else (99, 0, 0, 0, 0)) else (bif Nat.beq pc 98 then (1, 2, 0, 99, 0) else (99, 0, 0, 0, 0)))) else (bif Nat.ble pc 99 then (bif Nat.beq pc 99 then (1, 4, 0, 101, 0) else (99, 0, 0, 0, 0)) else (bif Nat.ble pc 101 then (bif Nat.beq pc 101 then (18, 166, 0, 104, 0) else (99, 0, 0, 0, 0)) else (bif Nat.beq pc 104 then (0, 0, 0, 105, 0) else (99, 0, 0, 0, 0))))) else (bif Nat.ble pc 108 then (bif Nat.ble pc 105 then (bif Nat.beq pc 105 then (3, 5, 0, 107, 0) else (99, 0, 0, 0, 0)) else (bif Nat.ble pc 107 then (bif Nat.beq pc 107 then (0, 0, 0, 108, 0) else (99, 0, 0, 0, 0)) else (bif Nat.beq pc 108 then (3, 6, 0, 110, 0) else (99, 0, 0, 0, 0)))) else (bif Nat.ble pc 110 then (bif Nat.beq pc 110 then (1, 6, 0, 112, 0) else (99, 0, 0, 0, 0)) else (bif Nat.ble pc 112 then (bif Nat.beq pc 112 then (1, 4, 0, 114, 0) else (99, 0, 0, 0, 0)) else (bif Nat.beq pc 114 then (13, 3, 152, 117, 0) else (99, 0, 0, 0, 0))))))) else (bif Nat.ble pc 136 then (bif Nat.ble pc 127 then (bif Nat.ble pc 120 then (bif Nat.ble pc 117 then (bif Nat.beq pc 117 then (1, 5, 0, 119, 0) else (99, 0, 0, 0, 0)) else (bif Nat.ble pc 119 then (bif Nat.beq pc 119 then (2, 0, 0, 120, 0) else (99, 0, 0, 0, 0)) else (bif Nat.beq pc 120 then (7, 8, 18, 123, 0) else (99, 0, 0, 0, 0)))) else (bif Nat.ble pc 123 then (bif Nat.beq pc 123 then (0, 0, 0, 126, 400) else (99, 0, 0, 0, 0)) else (bif Nat.ble pc 126 then (bif Nat.beq pc 126 then (1, 3, 0, 127, 0) else (99, 0, 0, 0, 0)) else (bif Nat.beq pc 127 then (6, 2, 0, 128, 0) else (99, 0, 0, 0, 0))))) else (bif Nat.ble pc 131 then (bif Nat.ble pc 128 then (bif Nat.beq pc 128 then (1, 6, 0, 130, 0) else (99, 0, 0, 0, 0)) else (bif Nat.ble pc 130 then (bif Nat.beq pc 130 then (6, 0, 0, 131, 0) else (99, 0, 0, 0, 0)) else (bif Nat.beq pc 131 then (9, 1, 0, 132, 0) else (99, 0, 0, 0, 0)))) else (bif Nat.ble pc 132 then (bif Nat.beq pc 132 then (12, 0, 142, 135, 0) else (99, 0, 0, 0, 0)) else (bif Nat.ble pc 135 then (bif Nat.beq pc 135 then (0, 0, 0, 136, 1) else (99, 0, 0, 0, 0)) else (bif Nat.beq pc 136 then (1, 6, 0, 138, 0) else (99, 0, 0, 0, 0)))))) else (bif Nat.ble pc 146 then (bif Nat.ble pc 142 then (bif Nat.ble pc 138 then (bif Nat.beq pc 138 then (6, 6, 0, 139, 0) else (99, 0, 0, 0, 0)) else (bif Nat.ble pc 139 then (bif Nat.beq pc 139 then (16, 0, 143, 0, 0) else (99, 0, 0, 0, 0)) else (bif Nat.beq pc 142 then (0, 0, 0, 143, 0) else (99, 0, 0, 0, 0)))) else (bif Nat.ble pc 143 then (bif Nat.beq pc 143 then (6, 4, 0, 144, 0) else (99, 0, 0, 0, 0)) else (bif Nat.ble pc 144 then (bif Nat.beq pc 144 then (3, 5, 0, 146, 0) else (99, 0, 0, 0, 0)) else (bif Nat.beq pc 146 then (5, 6, 0, 149, 1) else (99, 0, 0, 0, 0))))) else (bif Nat.ble pc 153 then (bif Nat.ble pc 149 then (bif Nat.beq pc 149 then (16, 0, 110, 0, 0) else (99, 0, 0, 0, 0)) else (bif Nat.ble pc 152 then (bif Nat.beq pc 152 then (2, 0, 0, 153, 0) else (99, 0, 0, 0, 0)) else (bif Nat.beq pc 153 then (1, 5, 0, 155, 0) else (99, 0, 0, 0, 0)))) else (bif Nat.ble pc 155 then (bif Nat.beq pc 155 then (18, 160, 0, 158, 0) else (99, 0, 0, 0, 0)) else (bif Nat.ble pc 158 then (bif Nat.beq pc 158 then (0, 0, 0, 159, 0) else (99, 0, 0, 0, 0)) else (bif Nat.beq pc 159 then (3, 6, 0, 161, 0) else (99, 0, 0, 0, 0))))))))) else (bif Nat.ble pc 240 then (bif Nat.ble pc 201 then (bif Nat.ble pc 180 then (bif Nat.ble pc 169 then (bif Nat.ble pc 163 then (bif Nat.ble pc 161 then (bif Nat.beq pc 161 then (1, 6, 0, 163, 0) else (99, 0, 0, 0, 0)) else (bif Nat.beq pc 163 then (1, 4, 0, 165, 0) else (99, 0, 0, 0, 0))) else (bif Nat.ble pc 165 then (bif Nat.beq pc 165 then (13, 3, 191, 168, 0) else (99, 0, 0, 0, 0)) else (bif Nat.ble pc 168 then (bif Nat.beq pc 168 then (2, 0, 0, 169, 0) else (99, 0, 0, 0, 0)) else (bif Nat.beq pc 169 then (2, 0, 0, 170, 0) else (99, 0, 0, 0, 0))))) else (bif Nat.ble pc 176 then (bif Nat.ble pc 170 then (bif Nat.beq pc 170 then (7, 8, 17, 173, 0) else (99, 0, 0, 0, 0)) else (bif Nat.ble pc 173 then (bif Nat.beq pc 173 then (0, 0, 0, 176, 400) else (99, 0, 0, 0, 0)) else (bif Nat.beq pc 176 then (1, 3, 0, 177, 0) else (99, 0, 0, 0, 0)))) else (bif Nat.ble pc 177 then (bif Nat.beq pc 177 then (6, 2, 0, 178, 0) else (99, 0, 0, 0, 0)) else (bif Nat.ble pc 178 then (bif Nat.beq pc 178 then (1, 6, 0, 180, 0) else (99, 0, 0, 0, 0)) else (bif Nat.beq pc 180 then (6, 0, 0, 181, 0) else (99, 0, 0, 0, 0)))))) else (bif Nat.ble pc 192 then (bif Nat.ble pc 185 then (bif Nat.ble pc 181 then (bif Nat.beq pc 181 then (9, 0, 0, 182, 0) else (99, 0, 0, 0, 0)) else (bif Nat.ble pc 182 then (bif Nat.beq pc 182 then (18, 160, 0, 185, 0) else (99, 0, 0, 0, 0)) else (bif Nat.beq pc 185 then (5, 6, 0, 188, 1) else (99, 0, 0, 0, 0)))) else (bif Nat.ble pc 188 then (bif Nat.beq pc 188 then (16, 0, 161, 0, 0) else (99, 0, 0, 0, 0)) else (bif Nat.ble pc 191 then (bif Nat.beq pc 191 then (2, 0, 0, 192, 0) else (99, 0, 0, 0, 0)) else (bif Nat.beq pc 192 then (7, 8, 16, 195, 0) else (99, 0, 0, 0, 0))))) else (bif Nat.ble pc 197 then (bif Nat.ble pc 195 then (bif Nat.beq pc 195 then (1, 3, 0, 196, 0) else (99, 0, 0, 0, 0)) else (bif Nat.ble pc 196 then (bif Nat.beq pc 196 then (23, 0, 0, 197, 0) else (99, 0, 0, 0, 0)) else (bif Nat.beq pc 197 then (9, 0, 0, 198, 0) else (99, 0, 0, 0, 0)))) else (bif Nat.ble pc 198 then (bif Nat.beq pc 198 then (1, 4, 0, 200, 0) else (99, 0, 0, 0, 0)) else (bif Nat.ble pc 200 then (bif Nat.beq pc 200 then (6, 1, 0, 201, 0) else (99, 0, 0, 0, 0)) else (bif Nat.beq pc 201 then (10, 0, 0, 202, 0) else (99, 0, 0, 0, 0))))))) else (bif Nat.ble pc 220 then (bif Nat.ble pc 208 then (bif Nat.ble pc 203 then (bif Nat.ble pc 202 then (bif Nat.beq pc 202 then (0, 0, 0, 203, 0) else (99, 0, 0, 0, 0)) else (bif Nat.beq pc 203 then (3, 6, 0, 205, 0) else (99, 0, 0, 0, 0))) else (bif Nat.ble pc 205 then (bif Nat.beq pc 205 then (1, 6, 0, 207, 0) else (99, 0, 0, 0, 0)) else (bif Nat.ble pc 207 then (bif Nat.beq pc 207 then (2, 0, 0, 208, 0) else (99, 0, 0, 0, 0)) else (bif Nat.beq pc 208 then (7, 8, 16, 211, 0) else (99, 0, 0, 0, 0))))) else (bif Nat.ble pc 213 then (bif Nat.ble pc 211 then (bif Nat.beq pc 211 then (1, 3, 0, 212, 0) else (99, 0, 0, 0, 0)) else (bif Nat.ble pc 212 then (bif Nat.beq pc 212 then (9, 0, 0, 213, 0) else (99, 0, 0, 0, 0)) else (bif Nat.beq pc 213 then (13, 3, 280, 216, 0) else (99, 0, 0, 0, 0)))) else (bif Nat.ble pc 216 then (bif Nat.beq pc 216 then (2, 0, 0, 217, 0) else (99, 0, 0, 0, 0)) else (bif Nat.ble pc 217 then (bif Nat.beq pc 217 then (7, 8, 17, 220, 0) else (99, 0, 0, 0, 0)) else (bif Nat.beq pc 220 then (0, 0, 0, 223, 400) else (99, 0, 0, 0, 0)))))) else (bif Nat.ble pc 229 then (bif Nat.ble pc 225 then (bif Nat.ble pc 223 then (bif Nat.beq pc 223 then (1, 3, 0, 224, 0) else (99, 0, 0, 0, 0)) else (bif Nat.ble pc 224 then (bif Nat.beq pc 224 then (6, 2, 0, 225, 0) else (99, 0, 0, 0, 0)) else (bif Nat.beq pc 225 then (1, 6, 0, 227, 0) else (99, 0, 0, 0, 0)))) else (bif Nat.ble pc 227 then (bif Nat.beq pc 227 then (6, 0, 0, 228, 0) else (99, 0, 0, 0, 0)) else (bif Nat.ble pc 228 then (bif Nat.beq pc 228 then (2, 0, 0, 229, 0) else (99, 0, 0, 0, 0)) else (bif Nat.beq pc 229 then (7, 8, 17, 232, 0) else (99, 0, 0, 0, 0))))) else (bif Nat.ble pc 236 then (bif Nat.ble pc 232 then (bif Nat.beq pc 232 then (0, 0, 0, 235, 400) else (99, 0, 0, 0, 0)) else (bif Nat.ble pc 235 then (bif Nat.beq pc 235 then (1, 3, 0, 236, 0) else (99, 0, 0, 0, 0)) else (bif Nat.beq pc 236 then (6, 2, 0, 237, 0) else (99, 0, 0, 0, 0)))) else (bif Nat.ble pc 237 then (bif Nat.beq pc 237 then (1, 6, 0, 239, 0) else (99, 0, 0, 0, 0)) else (bif Nat.ble pc 239 then (bif Nat.beq pc 239 then (6, 0, 0, 240, 0) else (99, 0, 0, 0, 0)) else (bif Nat.beq pc 240 then (1, 4, 0, 242, 0) else (99, 0, 0, 0, 0)))))))) else (bif Nat.ble pc 277 then (bif Nat.ble pc 257 then (bif Nat.ble pc 246 then (bif Nat.ble pc 243 then (bif Nat.ble pc 242 then (bif Nat.beq pc 242 then (6, 0, 0, 243, 0) else (99, 0, 0, 0, 0)) else (bif Nat.beq pc 243 then (9, 0, 0, 244, 0) else (99, 0, 0, 0, 0))) else (bif Nat.ble pc 244 then (bif Nat.beq pc 244 then (10, 0, 0, 245, 0) else (99, 0, 0, 0, 0)) else (bif Nat.ble pc 245 then (bif Nat.beq pc 245 then (2, 0, 0, 246, 0) else (99, 0, 0, 0, 0)) else (bif Nat.beq pc 246 then (7, 8, 18, 249, 0) else (99, 0, 0, 0, 0))))) else (bif Nat.ble pc 253 then (bif Nat.ble pc 249 then (bif Nat.beq pc 249 then (0, 0, 0, 252, 400) else (99, 0, 0, 0, 0)) else (bif Nat.ble pc 252 then (bif Nat.beq pc 252 then (1, 3, 0, 253, 0) else (99, 0, 0, 0, 0)) else (bif Nat.beq pc 253 then (6, 2, 0, 254, 0) else (99, 0, 0, 0, 0)))) else (bif Nat.ble pc 254 then (bif Nat.beq pc 254 then (1, 6, 0, 256, 0) else (99, 0, 0, 0, 0)) else (bif Nat.ble pc 256 then (bif Nat.beq pc 256 then (6, 0, 0, 257, 0) else (99, 0, 0, 0, 0)) else (bif Nat.beq pc 257 then (2, 0, 0, 258, 0) else (99, 0, 0, 0, 0)))))) else (bif Nat.ble pc 268 then (bif Nat.ble pc 264 then (bif Nat.ble pc 258 then (bif Nat.beq pc 258 then (7, 8, 18, 261, 0) else (99, 0, 0, 0, 0)) else (bif Nat.ble pc 261 then (bif Nat.beq pc 261 then (0, 0, 0, 264, 400) else (99, 0, 0, 0, 0)) else (bif Nat.beq pc 264 then (1, 3, 0, 265, 0) else (99, 0, 0, 0, 0)))) else (bif Nat.ble pc 265 then (bif Nat.beq pc 265 then (6, 2, 0, 266, 0) else (99, 0, 0, 0, 0)) else (bif Nat.ble pc 266 then (bif Nat.beq pc 266 then (1, 6, 0, 268, 0) else (99, 0, 0, 0, 0)) else (bif Nat.beq pc 268 then (6, 0, 0, 269, 0) else (99, 0, 0, 0, 0))))) else (bif Nat.ble pc 272 then (bif Nat.ble pc 269 then (bif Nat.beq pc 269 then (1, 4, 0, 271, 0) else (99, 0, 0, 0, 0)) else (bif Nat.ble pc 271 then (bif Nat.beq pc 271 then (6, 0, 0, 272, 0) else (99, 0, 0, 0, 0)) else (bif Nat.beq pc 272 then (9, 1, 0, 273, 0) else (99, 0, 0, 0, 0)))) else (bif Nat.ble pc 273 then (bif Nat.beq pc 273 then (10, 1, 0, 274, 0) else (99, 0, 0, 0, 0)) else (bif Nat.ble pc 274 then (bif Nat.beq pc 274 then (5, 6, 0, 277, 1) else (99, 0, 0, 0, 0)) else (bif Nat.beq pc 277 then (16, 0, 205, 0, 0) else (99, 0, 0, 0, 0))))))) else (bif Nat.ble pc 298 then (bif Nat.ble pc 287 then (bif Nat.ble pc 284 then (bif Nat.ble pc 280 then (bif Nat.beq pc 280 then (2, 0, 0, 281, 0) else (99, 0, 0, 0, 0)) else (bif Nat.ble pc 281 then (bif Nat.beq pc 281 then (7, 8, 8, 284, 0) else (99, 0, 0, 0, 0)) else (bif Nat.beq pc 284 then (1, 3, 0, 285, 0) else (99, 0, 0, 0, 0)))) else (bif Nat.ble pc 285 then (bif Nat.beq pc 285 then (23, 0, 0, 286, 0) else (99, 0, 0, 0, 0)) else (bif Nat.ble pc 286 then (bif Nat.beq pc 286 then (9, 0, 0, 287, 0) else (99, 0, 0, 0, 0)) else (bif Nat.beq pc 287 then (1, 4, 0, 289, 0) else (99, 0, 0, 0, 0))))) else (bif Nat.ble pc 291 then (bif Nat.ble pc 289 then (bif Nat.beq pc 289 then (6, 1, 0, 290, 0) else (99, 0, 0, 0, 0)) else (bif Nat.ble pc 290 then (bif Nat.beq pc 290 then (10, 0, 0, 291, 0) else (99, 0, 0, 0, 0)) else (bif Nat.beq pc 291 then (16, 0, 309, 0, 0) else (99, 0, 0, 0, 0)))) else (bif Nat.ble pc 294 then (bif Nat.beq pc 294 then (2, 0, 0, 295, 0) else (99, 0, 0, 0, 0)) else (bif Nat.ble pc 295 then (bif Nat.beq pc 295 then (7, 8, 12, 298, 0) else (99, 0, 0, 0, 0)) else (bif Nat.beq pc 298 then (1, 3, 0, 299, 0) else (99, 0, 0, 0, 0)))))) else (bif Nat.ble pc 304 then (bif Nat.ble pc 301 then (bif Nat.ble pc 299 then (bif Nat.beq pc 299 then (0, 0, 0, 300, 0) else (99, 0, 0, 0, 0)) else (bif Nat.ble pc 300 then (bif Nat.beq pc 300 then (10, 1, 0, 301, 0) else (99, 0, 0, 0, 0)) else (bif Nat.beq pc 301 then (2, 0, 0, 302, 0) else (99, 0, 0, 0, 0)))) else (bif Nat.ble pc 302 then (bif Nat.beq pc 302 then (1, 1, 0, 303, 0) else (99, 0, 0, 0, 0)) else (bif Nat.ble pc 303 then (bif Nat.beq pc 303 then (0, 0, 0, 304, 4) else (99, 0, 0, 0, 0)) else (bif Nat.beq pc 304 then (1, 2, 0, 305, 0) else (99, 0, 0, 0, 0))))) else (bif Nat.ble pc 309 then (bif Nat.ble pc 305 then (bif Nat.beq pc 305 then (0, 0, 0, 306, 0) else (99, 0, 0, 0, 0)) else (bif Nat.ble pc 306 then (bif Nat.beq pc 306 then (18, 166, 0, 309, 0) else (99, 0, 0, 0, 0)) else (bif Nat.beq pc 309 then (2, 0, 0, 310, 0) else (99, 0, 0, 0, 0)))) else (bif Nat.ble pc 310 then (bif Nat.beq pc 310 then (1, 1, 0, 311, 0) else (99, 0, 0, 0, 0)) else (bif Nat.ble pc 311 then (bif Nat.beq pc 311 then (18, 170, 0, 314, 0) else (99, 0, 0, 0, 0)) else (bif Nat.beq pc 314 then (21, 0, 0, 0, 0) else (99, 0, 0, 0, 0))))))))))
def sX8_sendOf : sw_T := fun _ => []
set_option maxRecDepth 100000 in
theorem kX8_sendOf : sw_chk cX8_sendOf flX8 cnX8 sX8_sendOf 314 tX8_sendOf = true := by decide +kernel
def tX8_pump : Nat → sw_I := fun pc => (bif Nat.ble pc 133 then (bif Nat.ble pc 66 then (bif Nat.ble pc 34 then (bif Nat.ble pc 15 then (bif Nat.ble pc 8 then (bif Nat.ble pc 1 then (bif Nat.ble pc 0 then (bif Nat.beq pc 0 then (1, 1, 0, 1, 0) else (99, 0, 0, 0, 0)) else (bif Nat.beq pc 1 then (18, 133, 1, 4, 0) else (99, 0, 0, 0, 0))) else (bif Nat.ble pc 4 then (bif Nat.beq pc 4 then (12, 1, 9, 7, 0) else (99, 0, 0, 0, 0)) else (bif Nat.ble pc 7 then (bif Nat.beq pc 7 then (0, 0, 0, 8, (-1)) else (99, 0, 0, 0, 0)) else (bif Nat.beq pc 8 then (19, 0, 0, 0, 0) else (99, 0, 0, 0, 0))))) else (bif Nat.ble pc 10 then (bif Nat.ble pc 9 then (bif Nat.beq pc 9 then (2, 0, 0, 10, 0) else (99, 0, 0, 0, 0)) else (bif Nat.beq pc 10 then (7, 8, 25, 13, 0) else (99, 0, 0, 0, 0))) else (bif Nat.ble pc 13 then (bif Nat.beq pc 13 then (1, 1, 0, 14, 0) else (99, 0, 0, 0, 0)) else (bif Nat.ble pc 14 then (bif Nat.beq pc 14 then (9, 0, 0, 15, 0) else (99, 0, 0, 0, 0)) else (bif Nat.beq pc 15 then (2, 0, 0, 16, 0) else (99, 0, 0, 0, 0)))))) else (bif Nat.ble pc 24 then (bif Nat.ble pc 19 then (bif Nat.ble pc 16 then (bif Nat.beq pc 16 then (7, 8, 4, 19, 0) else (99, 0, 0, 0, 0)) else (bif Nat.beq pc 19 then (13, 1, 24, 22, 0) else (99, 0, 0, 0, 0))) else (bif Nat.ble pc 22 then (bif Nat.beq pc 22 then (0, 0, 0, 23, 0) else (99, 0, 0, 0, 0)) else (bif Nat.ble pc 23 then (bif Nat.beq pc 23 then (19, 0, 0, 0, 0) else (99, 0, 0, 0, 0)) else (bif Nat.beq pc 24 then (2, 0, 0, 25, 0) else (99, 0, 0, 0, 0))))) else (bif Nat.ble pc 29 then (bif Nat.ble pc 25 then (bif Nat.beq pc 25 then (7, 8, 22, 28, 0) else (99, 0, 0, 0, 0)) else (bif Nat.ble pc 28 then (bif Nat.beq pc 28 then (1, 1, 0, 29, 0) else (99, 0, 0, 0, 0)) else (bif Nat.beq pc 29 then (9, 0, 0, 30, 0) else (99, 0, 0, 0, 0)))) else (bif Nat.ble pc 30 then (bif Nat.beq pc 30 then (2, 0, 0, 31, 0) else (99, 0, 0, 0, 0)) else (bif Nat.ble pc 31 then (bif Nat.beq pc 31 then (7, 8, 2, 34, 0) else (99, 0, 0, 0, 0)) else (bif Nat.beq pc 34 then (13, 3, 235, 37, 0) else (99, 0, 0, 0, 0))))))) else (bif Nat.ble pc 51 then (bif Nat.ble pc 41 then (bif Nat.ble pc 38 then (bif Nat.ble pc 37 then (bif Nat.beq pc 37 then (0, 0, 0, 38, 0) else (99, 0, 0, 0, 0)) else (bif Nat.beq pc 38 then (3, 2, 0, 39, 0) else (99, 0, 0, 0, 0))) else (bif Nat.ble pc 39 then (bif Nat.beq pc 39 then (1, 2, 0, 40, 0) else (99, 0, 0, 0, 0)) else (bif Nat.ble pc 40 then (bif Nat.beq pc 40 then (2, 0, 0, 41, 0) else (99, 0, 0, 0, 0)) else (bif Nat.beq pc 41 then (7, 8, 0, 44, 0) else (99, 0, 0, 0, 0))))) else (bif Nat.ble pc 47 then (bif Nat.ble pc 44 then (bif Nat.beq pc 44 then (13, 3, 103, 47, 0) else (99, 0, 0, 0, 0)) else (bif Nat.beq pc 47 then (0, 0, 0, 49, 8) else (99, 0, 0, 0, 0))) else (bif Nat.ble pc 49 then (bif Nat.beq pc 49 then (1, 1, 0, 50, 0) else (99, 0, 0, 0, 0)) else (bif Nat.ble pc 50 then (bif Nat.beq pc 50 then (6, 2, 0, 51, 0) else (99, 0, 0, 0, 0)) else (bif Nat.beq pc 51 then (1, 2, 0, 52, 0) else (99, 0, 0, 0, 0)))))) else (bif Nat.ble pc 58 then (bif Nat.ble pc 53 then (bif Nat.ble pc 52 then (bif Nat.beq pc 52 then (6, 0, 0, 53, 0) else (99, 0, 0, 0, 0)) else (bif Nat.beq pc 53 then (3, 3, 0, 54, 0) else (99, 0, 0, 0, 0))) else (bif Nat.ble pc 54 then (bif Nat.beq pc 54 then (2, 0, 0, 55, 0) else (99, 0, 0, 0, 0)) else (bif Nat.ble pc 55 then (bif Nat.beq pc 55 then (7, 8, 9, 58, 0) else (99, 0, 0, 0, 0)) else (bif Nat.beq pc 58 then (1, 3, 0, 59, 0) else (99, 0, 0, 0, 0))))) else (bif Nat.ble pc 63 then (bif Nat.ble pc 59 then (bif Nat.beq pc 59 then (9, 0, 0, 60, 0) else (99, 0, 0, 0, 0)) else (bif Nat.ble pc 60 then (bif Nat.beq pc 60 then (12, 5, 97, 63, 0) else (99, 0, 0, 0, 0)) else (bif Nat.beq pc 63 then (2, 0, 0, 64, 0) else (99, 0, 0, 0, 0)))) else (bif Nat.ble pc 64 then (bif Nat.beq pc 64 then (1, 1, 0, 65, 0) else (99, 0, 0, 0, 0)) else (bif Nat.ble pc 65 then (bif Nat.beq pc 65 then (0, 0, 0, 66, 2) else (99, 0, 0, 0, 0)) else (bif Nat.beq pc 66 then (1, 2, 0, 67, 0) else (99, 0, 0, 0, 0)))))))) else (bif Nat.ble pc 97 then (bif Nat.ble pc 82 then (bif Nat.ble pc 73 then (bif Nat.ble pc 68 then (bif Nat.ble pc 67 then (bif Nat.beq pc 67 then (0, 0, 0, 68, 0) else (99, 0, 0, 0, 0)) else (bif Nat.beq pc 68 then (18, 166, 0, 71, 0) else (99, 0, 0, 0, 0))) else (bif Nat.ble pc 71 then (bif Nat.beq pc 71 then (2, 0, 0, 72, 0) else (99, 0, 0, 0, 0)) else (bif Nat.ble pc 72 then (bif Nat.beq pc 72 then (2, 0, 0, 73, 0) else (99, 0, 0, 0, 0)) else (bif Nat.beq pc 73 then (7, 8, 9, 76, 0) else (99, 0, 0, 0, 0))))) else (bif Nat.ble pc 77 then (bif Nat.ble pc 76 then (bif Nat.beq pc 76 then (1, 3, 0, 77, 0) else (99, 0, 0, 0, 0)) else (bif Nat.beq pc 77 then (9, 0, 0, 78, 0) else (99, 0, 0, 0, 0))) else (bif Nat.ble pc 78 then (bif Nat.beq pc 78 then (18, 160, 0, 81, 0) else (99, 0, 0, 0, 0)) else (bif Nat.ble pc 81 then (bif Nat.beq pc 81 then (2, 0, 0, 82, 0) else (99, 0, 0, 0, 0)) else (bif Nat.beq pc 82 then (7, 8, 9, 85, 0) else (99, 0, 0, 0, 0)))))) else (bif Nat.ble pc 89 then (bif Nat.ble pc 86 then (bif Nat.ble pc 85 then (bif Nat.beq pc 85 then (1, 3, 0, 86, 0) else (99, 0, 0, 0, 0)) else (bif Nat.beq pc 86 then (0, 0, 0, 87, 0) else (99, 0, 0, 0, 0))) else (bif Nat.ble pc 87 then (bif Nat.beq pc 87 then (10, 0, 0, 88, 0) else (99, 0, 0, 0, 0)) else (bif Nat.ble pc 88 then (bif Nat.beq pc 88 then (2, 0, 0, 89, 0) else (99, 0, 0, 0, 0)) else (bif Nat.beq pc 89 then (1, 1, 0, 90, 0) else (99, 0, 0, 0, 0))))) else (bif Nat.ble pc 94 then (bif Nat.ble pc 90 then (bif Nat.beq pc 90 then (18, 170, 0, 93, 0) else (99, 0, 0, 0, 0)) else (bif Nat.ble pc 93 then (bif Nat.beq pc 93 then (0, 0, 0, 94, 1) else (99, 0, 0, 0, 0)) else (bif Nat.beq pc 94 then (1, 2, 0, 95, 0) else (99, 0, 0, 0, 0)))) else (bif Nat.ble pc 95 then (bif Nat.beq pc 95 then (6, 0, 0, 96, 0) else (99, 0, 0, 0, 0)) else (bif Nat.ble pc 96 then (bif Nat.beq pc 96 then (19, 0, 0, 0, 0) else (99, 0, 0, 0, 0)) else (bif Nat.beq pc 97 then (5, 2, 0, 100, 1) else (99, 0, 0, 0, 0))))))) else (bif Nat.ble pc 118 then (bif Nat.ble pc 106 then (bif Nat.ble pc 103 then (bif Nat.ble pc 100 then (bif Nat.beq pc 100 then (16, 0, 39, 0, 0) else (99, 0, 0, 0, 0)) else (bif Nat.beq pc 103 then (0, 0, 0, 104, 0) else (99, 0, 0, 0, 0))) else (bif Nat.ble pc 104 then (bif Nat.beq pc 104 then (3, 2, 0, 105, 0) else (99, 0, 0, 0, 0)) else (bif Nat.ble pc 105 then (bif Nat.beq pc 105 then (1, 2, 0, 106, 0) else (99, 0, 0, 0, 0)) else (bif Nat.beq pc 106 then (2, 0, 0, 107, 0) else (99, 0, 0, 0, 0))))) else (bif Nat.ble pc 113 then (bif Nat.ble pc 107 then (bif Nat.beq pc 107 then (7, 8, 0, 110, 0) else (99, 0, 0, 0, 0)) else (bif Nat.ble pc 110 then (bif Nat.beq pc 110 then (13, 3, 235, 113, 0) else (99, 0, 0, 0, 0)) else (bif Nat.beq pc 113 then (2, 0, 0, 114, 0) else (99, 0, 0, 0, 0)))) else (bif Nat.ble pc 114 then (bif Nat.beq pc 114 then (7, 8, 30, 117, 0) else (99, 0, 0, 0, 0)) else (bif Nat.ble pc 117 then (bif Nat.beq pc 117 then (1, 1, 0, 118, 0) else (99, 0, 0, 0, 0)) else (bif Nat.beq pc 118 then (9, 0, 0, 119, 0) else (99, 0, 0, 0, 0)))))) else (bif Nat.ble pc 125 then (bif Nat.ble pc 120 then (bif Nat.ble pc 119 then (bif Nat.beq pc 119 then (1, 2, 0, 120, 0) else (99, 0, 0, 0, 0)) else (bif Nat.beq pc 120 then (6, 0, 0, 121, 0) else (99, 0, 0, 0, 0))) else (bif Nat.ble pc 121 then (bif Nat.beq pc 121 then (2, 0, 0, 122, 0) else (99, 0, 0, 0, 0)) else (bif Nat.ble pc 122 then (bif Nat.beq pc 122 then (7, 8, 0, 125, 0) else (99, 0, 0, 0, 0)) else (bif Nat.beq pc 125 then (27, 0, 0, 126, 0) else (99, 0, 0, 0, 0))))) else (bif Nat.ble pc 128 then (bif Nat.ble pc 126 then (bif Nat.beq pc 126 then (3, 3, 0, 127, 0) else (99, 0, 0, 0, 0)) else (bif Nat.ble pc 127 then (bif Nat.beq pc 127 then (2, 0, 0, 128, 0) else (99, 0, 0, 0, 0)) else (bif Nat.beq pc 128 then (1, 1, 0, 129, 0) else (99, 0, 0, 0, 0)))) else (bif Nat.ble pc 129 then (bif Nat.beq pc 129 then (1, 3, 0, 130, 0) else (99, 0, 0, 0, 0)) else (bif Nat.ble pc 130 then (bif Nat.beq pc 130 then (18, 173, 0, 133, 0) else (99, 0, 0, 0, 0)) else (bif Nat.beq pc 133 then (12, 0, 229, 136, 0) else (99, 0, 0, 0, 0))))))))) else (bif Nat.ble pc 196 then (bif Nat.ble pc 165 then (bif Nat.ble pc 151 then (bif Nat.ble pc 144 then (bif Nat.ble pc 137 then (bif Nat.ble pc 136 then (bif Nat.beq pc 136 then (1, 2, 0, 137, 0) else (99, 0, 0, 0, 0)) else (bif Nat.beq pc 137 then (12, 5, 164, 140, 0) else (99, 0, 0, 0, 0))) else (bif Nat.ble pc 140 then (bif Nat.beq pc 140 then (2, 0, 0, 141, 0) else (99, 0, 0, 0, 0)) else (bif Nat.ble pc 141 then (bif Nat.beq pc 141 then (7, 8, 30, 144, 0) else (99, 0, 0, 0, 0)) else (bif Nat.beq pc 144 then (1, 1, 0, 145, 0) else (99, 0, 0, 0, 0))))) else (bif Nat.ble pc 146 then (bif Nat.ble pc 145 then (bif Nat.beq pc 145 then (1, 3, 0, 146, 0) else (99, 0, 0, 0, 0)) else (bif Nat.beq pc 146 then (10, 0, 0, 147, 0) else (99, 0, 0, 0, 0))) else (bif Nat.ble pc 147 then (bif Nat.beq pc 147 then (2, 0, 0, 148, 0) else (99, 0, 0, 0, 0)) else (bif Nat.ble pc 148 then (bif Nat.beq pc 148 then (7, 8, 31, 151, 0) else (99, 0, 0, 0, 0)) else (bif Nat.beq pc 151 then (1, 1, 0, 152, 0) else (99, 0, 0, 0, 0)))))) else (bif Nat.ble pc 159 then (bif Nat.ble pc 153 then (bif Nat.ble pc 152 then (bif Nat.beq pc 152 then (2, 0, 0, 153, 0) else (99, 0, 0, 0, 0)) else (bif Nat.beq pc 153 then (7, 8, 10, 156, 0) else (99, 0, 0, 0, 0))) else (bif Nat.ble pc 156 then (bif Nat.beq pc 156 then (0, 0, 0, 158, 8) else (99, 0, 0, 0, 0)) else (bif Nat.ble pc 158 then (bif Nat.beq pc 158 then (1, 1, 0, 159, 0) else (99, 0, 0, 0, 0)) else (bif Nat.beq pc 159 then (6, 2, 0, 160, 0) else (99, 0, 0, 0, 0))))) else (bif Nat.ble pc 162 then (bif Nat.ble pc 160 then (bif Nat.beq pc 160 then (1, 3, 0, 161, 0) else (99, 0, 0, 0, 0)) else (bif Nat.ble pc 161 then (bif Nat.beq pc 161 then (6, 0, 0, 162, 0) else (99, 0, 0, 0, 0)) else (bif Nat.beq pc 162 then (9, 0, 0, 163, 0) else (99, 0, 0, 0, 0)))) else (bif Nat.ble pc 163 then (bif Nat.beq pc 163 then (10, 0, 0, 164, 0) else (99, 0, 0, 0, 0)) else (bif Nat.ble pc 164 then (bif Nat.beq pc 164 then (2, 0, 0, 165, 0) else (99, 0, 0, 0, 0)) else (bif Nat.beq pc 165 then (1, 1, 0, 166, 0) else (99, 0, 0, 0, 0))))))) else (bif Nat.ble pc 179 then (bif Nat.ble pc 174 then (bif Nat.ble pc 167 then (bif Nat.ble pc 166 then (bif Nat.beq pc 166 then (1, 3, 0, 167, 0) else (99, 0, 0, 0, 0)) else (bif Nat.beq pc 167 then (18, 176, 0, 170, 0) else (99, 0, 0, 0, 0))) else (bif Nat.ble pc 170 then (bif Nat.beq pc 170 then (2, 0, 0, 171, 0) else (99, 0, 0, 0, 0)) else (bif Nat.ble pc 171 then (bif Nat.beq pc 171 then (7, 8, 31, 174, 0) else (99, 0, 0, 0, 0)) else (bif Nat.beq pc 174 then (1, 1, 0, 175, 0) else (99, 0, 0, 0, 0))))) else (bif Nat.ble pc 176 then (bif Nat.ble pc 175 then (bif Nat.beq pc 175 then (23, 0, 0, 176, 0) else (99, 0, 0, 0, 0)) else (bif Nat.beq pc 176 then (9, 0, 0, 177, 0) else (99, 0, 0, 0, 0))) else (bif Nat.ble pc 177 then (bif Nat.beq pc 177 then (0, 0, 0, 178, 1) else (99, 0, 0, 0, 0)) else (bif Nat.ble pc 178 then (bif Nat.beq pc 178 then (6, 1, 0, 179, 0) else (99, 0, 0, 0, 0)) else (bif Nat.beq pc 179 then (10, 0, 0, 180, 0) else (99, 0, 0, 0, 0)))))) else (bif Nat.ble pc 186 then (bif Nat.ble pc 181 then (bif Nat.ble pc 180 then (bif Nat.beq pc 180 then (2, 0, 0, 181, 0) else (99, 0, 0, 0, 0)) else (bif Nat.beq pc 181 then (7, 8, 31, 184, 0) else (99, 0, 0, 0, 0))) else (bif Nat.ble pc 184 then (bif Nat.beq pc 184 then (1, 1, 0, 185, 0) else (99, 0, 0, 0, 0)) else (bif Nat.ble pc 185 then (bif Nat.beq pc 185 then (9, 0, 0, 186, 0) else (99, 0, 0, 0, 0)) else (bif Nat.beq pc 186 then (12, 1, 225, 189, 0) else (99, 0, 0, 0, 0))))) else (bif Nat.ble pc 193 then (bif Nat.ble pc 189 then (bif Nat.beq pc 189 then (2, 0, 0, 190, 0) else (99, 0, 0, 0, 0)) else (bif Nat.ble pc 190 then (bif Nat.beq pc 190 then (7, 8, 30, 193, 0) else (99, 0, 0, 0, 0)) else (bif Nat.beq pc 193 then (1, 1, 0, 194, 0) else (99, 0, 0, 0, 0)))) else (bif Nat.ble pc 194 then (bif Nat.beq pc 194 then (1, 3, 0, 195, 0) else (99, 0, 0, 0, 0)) else (bif Nat.ble pc 195 then (bif Nat.beq pc 195 then (0, 0, 0, 196, 1) else (99, 0, 0, 0, 0)) else (bif Nat.beq pc 196 then (6, 0, 0, 197, 0) else (99, 0, 0, 0, 0)))))))) else (bif Nat.ble pc 226 then (bif Nat.ble pc 212 then (bif Nat.ble pc 203 then (bif Nat.ble pc 198 then (bif Nat.ble pc 197 then (bif Nat.beq pc 197 then (2, 0, 0, 198, 0) else (99, 0, 0, 0, 0)) else (bif Nat.beq pc 198 then (7, 8, 0, 201, 0) else (99, 0, 0, 0, 0))) else (bif Nat.ble pc 201 then (bif Nat.beq pc 201 then (27, 0, 0, 202, 0) else (99, 0, 0, 0, 0)) else (bif Nat.ble pc 202 then (bif Nat.beq pc 202 then (10, 0, 0, 203, 0) else (99, 0, 0, 0, 0)) else (bif Nat.beq pc 203 then (2, 0, 0, 204, 0) else (99, 0, 0, 0, 0))))) else (bif Nat.ble pc 207 then (bif Nat.ble pc 204 then (bif Nat.beq pc 204 then (7, 8, 31, 207, 0) else (99, 0, 0, 0, 0)) else (bif Nat.beq pc 207 then (1, 1, 0, 208, 0) else (99, 0, 0, 0, 0))) else (bif Nat.ble pc 208 then (bif Nat.beq pc 208 then (2, 0, 0, 209, 0) else (99, 0, 0, 0, 0)) else (bif Nat.ble pc 209 then (bif Nat.beq pc 209 then (7, 8, 10, 212, 0) else (99, 0, 0, 0, 0)) else (bif Nat.beq pc 212 then (0, 0, 0, 214, 8) else (99, 0, 0, 0, 0)))))) else (bif Nat.ble pc 220 then (bif Nat.ble pc 215 then (bif Nat.ble pc 214 then (bif Nat.beq pc 214 then (1, 1, 0, 215, 0) else (99, 0, 0, 0, 0)) else (bif Nat.beq pc 215 then (6, 2, 0, 216, 0) else (99, 0, 0, 0, 0))) else (bif Nat.ble pc 216 then (bif Nat.beq pc 216 then (2, 0, 0, 217, 0) else (99, 0, 0, 0, 0)) else (bif Nat.ble pc 217 then (bif Nat.beq pc 217 then (7, 8, 30, 220, 0) else (99, 0, 0, 0, 0)) else (bif Nat.beq pc 220 then (1, 1, 0, 221, 0) else (99, 0, 0, 0, 0))))) else (bif Nat.ble pc 223 then (bif Nat.ble pc 221 then (bif Nat.beq pc 221 then (9, 0, 0, 222, 0) else (99, 0, 0, 0, 0)) else (bif Nat.ble pc 222 then (bif Nat.beq pc 222 then (6, 0, 0, 223, 0) else (99, 0, 0, 0, 0)) else (bif Nat.beq pc 223 then (9, 0, 0, 224, 0) else (99, 0, 0, 0, 0)))) else (bif Nat.ble pc 224 then (bif Nat.beq pc 224 then (10, 0, 0, 225, 0) else (99, 0, 0, 0, 0)) else (bif Nat.ble pc 225 then (bif Nat.beq pc 225 then (0, 0, 0, 226, 1) else (99, 0, 0, 0, 0)) else (bif Nat.beq pc 226 then (1, 3, 0, 227, 0) else (99, 0, 0, 0, 0))))))) else (bif Nat.ble pc 245 then (bif Nat.ble pc 235 then (bif Nat.ble pc 228 then (bif Nat.ble pc 227 then (bif Nat.beq pc 227 then (6, 0, 0, 228, 0) else (99, 0, 0, 0, 0)) else (bif Nat.beq pc 228 then (19, 0, 0, 0, 0) else (99, 0, 0, 0, 0))) else (bif Nat.ble pc 229 then (bif Nat.beq pc 229 then (5, 2, 0, 232, 1) else (99, 0, 0, 0, 0)) else (bif Nat.ble pc 232 then (bif Nat.beq pc 232 then (16, 0, 105, 0, 0) else (99, 0, 0, 0, 0)) else (bif Nat.beq pc 235 then (2, 0, 0, 236, 0) else (99, 0, 0, 0, 0))))) else (bif Nat.ble pc 240 then (bif Nat.ble pc 236 then (bif Nat.beq pc 236 then (7, 8, 32, 239, 0) else (99, 0, 0, 0, 0)) else (bif Nat.ble pc 239 then (bif Nat.beq pc 239 then (1, 1, 0, 240, 0) else (99, 0, 0, 0, 0)) else (bif Nat.beq pc 240 then (9, 1, 0, 241, 0) else (99, 0, 0, 0, 0)))) else (bif Nat.ble pc 241 then (bif Nat.beq pc 241 then (12, 1, 246, 244, 0) else (99, 0, 0, 0, 0)) else (bif Nat.ble pc 244 then (bif Nat.beq pc 244 then (0, 0, 0, 245, 0) else (99, 0, 0, 0, 0)) else (bif Nat.beq pc 245 then (19, 0, 0, 0, 0) else (99, 0, 0, 0, 0)))))) else (bif Nat.ble pc 250 then (bif Nat.ble pc 247 then (bif Nat.ble pc 246 then (bif Nat.beq pc 246 then (2, 0, 0, 247, 0) else (99, 0, 0, 0, 0)) else (bif Nat.beq pc 247 then (1, 1, 0, 248, 0) else (99, 0, 0, 0, 0))) else (bif Nat.ble pc 248 then (bif Nat.beq pc 248 then (0, 0, 0, 249, 0) else (99, 0, 0, 0, 0)) else (bif Nat.ble pc 249 then (bif Nat.beq pc 249 then (0, 0, 0, 250, 0) else (99, 0, 0, 0, 0)) else (bif Nat.beq pc 250 then (0, 0, 0, 251, 0) else (99, 0, 0, 0, 0))))) else (bif Nat.ble pc 255 then (bif Nat.ble pc 251 then (bif Nat.beq pc 251 then (18, 166, 0, 254, 0) else (99, 0, 0, 0, 0)) else (bif Nat.ble pc 254 then (bif Nat.beq pc 254 then (2, 0, 0, 255, 0) else (99, 0, 0, 0, 0)) else (bif Nat.beq pc 255 then (1, 1, 0, 256, 0) else (99, 0, 0, 0, 0)))) else (bif Nat.ble pc 256 then (bif Nat.beq pc 256 then (18, 170, 0, 259, 0) else (99, 0, 0, 0, 0)) else (bif Nat.ble pc 259 then (bif Nat.beq pc 259 then (0, 0, 0, 261, 50) else (99, 0, 0, 0, 0)) else (bif Nat.beq pc 261 then (19, 0, 0, 0, 0) else (99, 0, 0, 0, 0))))))))))
def sX8_pump : sw_T := fun _ => []
set_option maxRecDepth 100000 in
theorem kX8_pump : sw_chk cX8_pump flX8 cnX8 sX8_pump 261 tX8_pump = true := by decide +kernel
def tX8_drain : Nat → sw_I := fun pc => (bif Nat.ble pc 20 then (bif Nat.ble pc 8 then (bif Nat.ble pc 1 then (bif Nat.ble pc 0 then (bif Nat.beq pc 0 then (1, 1, 0, 1, 0) else (99, 0, 0, 0, 0)) else (bif Nat.beq pc 1 then (18, 133, 1, 4, 0) else (99, 0, 0, 0, 0))) else (bif Nat.ble pc 4 then (bif Nat.beq pc 4 then (12, 0, 18, 7, 0) else (99, 0, 0, 0, 0)) else (bif Nat.ble pc 7 then (bif Nat.beq pc 7 then (1, 2, 0, 8, 0) else (99, 0, 0, 0, 0)) else (bif Nat.beq pc 8 then (12, 2, 18, 11, 0) else (99, 0, 0, 0, 0))))) else (bif Nat.ble pc 15 then (bif Nat.ble pc 11 then (bif Nat.beq pc 11 then (1, 2, 0, 12, 0) else (99, 0, 0, 0, 0)) else (bif Nat.ble pc 12 then (bif Nat.beq pc 12 then (0, 0, 0, 15, 1000) else (99, 0, 0, 0, 0)) else (bif Nat.beq pc 15 then (13, 5, 20, 18, 0) else (99, 0, 0, 0, 0)))) else (bif Nat.ble pc 18 then (bif Nat.beq pc 18 then (0, 0, 0, 19, (-1)) else (99, 0, 0, 0, 0)) else (bif Nat.ble pc 19 then (bif Nat.beq pc 19 then (19, 0, 0, 0, 0) else (99, 0, 0, 0, 0)) else (bif Nat.beq pc 20 then (0, 0, 0, 21, 0) else (99, 0, 0, 0, 0)))))) else (bif Nat.ble pc 28 then (bif Nat.ble pc 23 then (bif Nat.ble pc 21 then (bif Nat.beq pc 21 then (3, 3, 0, 22, 0) else (99, 0, 0, 0, 0)) else (bif Nat.ble pc 22 then (bif Nat.beq pc 22 then (1, 3, 0, 23, 0) else (99, 0, 0, 0, 0)) else (bif Nat.beq pc 23 then (1, 2, 0, 24, 0) else (99, 0, 0, 0, 0)))) else (bif Nat.ble pc 24 then (bif Nat.beq pc 24 then (13, 3, 41, 27, 0) else (99, 0, 0, 0, 0)) else (bif Nat.ble pc 27 then (bif Nat.beq pc 27 then (2, 0, 0, 28, 0) else (99, 0, 0, 0, 0)) else (bif Nat.beq pc 28 then (1, 1, 0, 29, 0) else (99, 0, 0, 0, 0))))) else (bif Nat.ble pc 35 then (bif Nat.ble pc 29 then (bif Nat.beq pc 29 then (18, 180, 0, 32, 0) else (99, 0, 0, 0, 0)) else (bif Nat.ble pc 32 then (bif Nat.beq pc 32 then (12, 0, 41, 35, 0) else (99, 0, 0, 0, 0)) else (bif Nat.beq pc 35 then (5, 3, 0, 38, 1) else (99, 0, 0, 0, 0)))) else (bif Nat.ble pc 38 then (bif Nat.beq pc 38 then (16, 0, 22, 0, 0) else (99, 0, 0, 0, 0)) else (bif Nat.ble pc 41 then (bif Nat.beq pc 41 then (1, 3, 0, 42, 0) else (99, 0, 0, 0, 0)) else (bif Nat.beq pc 42 then (19, 0, 0, 0, 0) else (99, 0, 0, 0, 0)))))))
def sX8_drain : sw_T := fun _ => []
set_option maxRecDepth 100000 in
theorem kX8_drain : sw_chk cX8_drain flX8 cnX8 sX8_drain 42 tX8_drain = true := by decide +kernel
def tX8_dropOldest : Nat → sw_I := fun pc => (bif Nat.ble pc 41 then (bif Nat.ble pc 18 then (bif Nat.ble pc 8 then (bif Nat.ble pc 4 then (bif Nat.ble pc 0 then (bif Nat.beq pc 0 then (2, 0, 0, 1, 0) else (99, 0, 0, 0, 0)) else (bif Nat.ble pc 1 then (bif Nat.beq pc 1 then (7, 8, 25, 4, 0) else (99, 0, 0, 0, 0)) else (bif Nat.beq pc 4 then (1, 1, 0, 5, 0) else (99, 0, 0, 0, 0)))) else (bif Nat.ble pc 6 then (bif Nat.ble pc 5 then (bif Nat.beq pc 5 then (23, 0, 0, 6, 0) else (99, 0, 0, 0, 0)) else (bif Nat.beq pc 6 then (9, 0, 0, 7, 0) else (99, 0, 0, 0, 0))) else (bif Nat.ble pc 7 then (bif Nat.beq pc 7 then (0, 0, 0, 8, 1) else (99, 0, 0, 0, 0)) else (bif Nat.beq pc 8 then (6, 1, 0, 9, 0) else (99, 0, 0, 0, 0))))) else (bif Nat.ble pc 13 then (bif Nat.ble pc 10 then (bif Nat.ble pc 9 then (bif Nat.beq pc 9 then (10, 0, 0, 10, 0) else (99, 0, 0, 0, 0)) else (bif Nat.beq pc 10 then (0, 0, 0, 12, 20) else (99, 0, 0, 0, 0))) else (bif Nat.ble pc 12 then (bif Nat.beq pc 12 then (1, 1, 0, 13, 0) else (99, 0, 0, 0, 0)) else (bif Nat.beq pc 13 then (6, 2, 0, 14, 0) else (99, 0, 0, 0, 0)))) else (bif Nat.ble pc 15 then (bif Nat.ble pc 14 then (bif Nat.beq pc 14 then (3, 2, 0, 15, 0) else (99, 0, 0, 0, 0)) else (bif Nat.beq pc 15 then (1, 2, 0, 16, 0) else (99, 0, 0, 0, 0))) else (bif Nat.ble pc 16 then (bif Nat.beq pc 16 then (0, 0, 0, 18, 20) else (99, 0, 0, 0, 0)) else (bif Nat.beq pc 18 then (1, 1, 0, 19, 0) else (99, 0, 0, 0, 0)))))) else (bif Nat.ble pc 27 then (bif Nat.ble pc 21 then (bif Nat.ble pc 19 then (bif Nat.beq pc 19 then (6, 2, 0, 20, 0) else (99, 0, 0, 0, 0)) else (bif Nat.ble pc 20 then (bif Nat.beq pc 20 then (2, 0, 0, 21, 0) else (99, 0, 0, 0, 0)) else (bif Nat.beq pc 21 then (7, 8, 25, 24, 0) else (99, 0, 0, 0, 0)))) else (bif Nat.ble pc 25 then (bif Nat.ble pc 24 then (bif Nat.beq pc 24 then (1, 1, 0, 25, 0) else (99, 0, 0, 0, 0)) else (bif Nat.beq pc 25 then (9, 0, 0, 26, 0) else (99, 0, 0, 0, 0))) else (bif Nat.ble pc 26 then (bif Nat.beq pc 26 then (6, 0, 0, 27, 0) else (99, 0, 0, 0, 0)) else (bif Nat.beq pc 27 then (13, 3, 88, 30, 0) else (99, 0, 0, 0, 0))))) else (bif Nat.ble pc 35 then (bif Nat.ble pc 31 then (bif Nat.ble pc 30 then (bif Nat.beq pc 30 then (2, 0, 0, 31, 0) else (99, 0, 0, 0, 0)) else (bif Nat.beq pc 31 then (7, 8, 26, 34, 0) else (99, 0, 0, 0, 0))) else (bif Nat.ble pc 34 then (bif Nat.beq pc 34 then (1, 2, 0, 35, 0) else (99, 0, 0, 0, 0)) else (bif Nat.beq pc 35 then (2, 0, 0, 36, 0) else (99, 0, 0, 0, 0)))) else (bif Nat.ble pc 39 then (bif Nat.ble pc 36 then (bif Nat.beq pc 36 then (7, 8, 26, 39, 0) else (99, 0, 0, 0, 0)) else (bif Nat.beq pc 39 then (1, 2, 0, 40, 0) else (99, 0, 0, 0, 0))) else (bif Nat.ble pc 40 then (bif Nat.beq pc 40 then (0, 0, 0, 41, 1) else (99, 0, 0, 0, 0)) else (bif Nat.beq pc 41 then (6, 0, 0, 42, 0) else (99, 0, 0, 0, 0))))))) else (bif Nat.ble pc 62 then (bif Nat.ble pc 49 then (bif Nat.ble pc 44 then (bif Nat.ble pc 42 then (bif Nat.beq pc 42 then (9, 0, 0, 43, 0) else (99, 0, 0, 0, 0)) else (bif Nat.ble pc 43 then (bif Nat.beq pc 43 then (10, 0, 0, 44, 0) else (99, 0, 0, 0, 0)) else (bif Nat.beq pc 44 then (0, 0, 0, 45, 0) else (99, 0, 0, 0, 0)))) else (bif Nat.ble pc 46 then (bif Nat.ble pc 45 then (bif Nat.beq pc 45 then (3, 3, 0, 46, 0) else (99, 0, 0, 0, 0)) else (bif Nat.beq pc 46 then (1, 3, 0, 47, 0) else (99, 0, 0, 0, 0))) else (bif Nat.ble pc 47 then (bif Nat.beq pc 47 then (0, 0, 0, 49, 19) else (99, 0, 0, 0, 0)) else (bif Nat.beq pc 49 then (13, 3, 82, 52, 0) else (99, 0, 0, 0, 0))))) else (bif Nat.ble pc 58 then (bif Nat.ble pc 53 then (bif Nat.ble pc 52 then (bif Nat.beq pc 52 then (2, 0, 0, 53, 0) else (99, 0, 0, 0, 0)) else (bif Nat.beq pc 53 then (7, 8, 27, 56, 0) else (99, 0, 0, 0, 0))) else (bif Nat.ble pc 56 then (bif Nat.beq pc 56 then (0, 0, 0, 58, 19) else (99, 0, 0, 0, 0)) else (bif Nat.beq pc 58 then (1, 2, 0, 59, 0) else (99, 0, 0, 0, 0)))) else (bif Nat.ble pc 60 then (bif Nat.ble pc 59 then (bif Nat.beq pc 59 then (6, 2, 0, 60, 0) else (99, 0, 0, 0, 0)) else (bif Nat.beq pc 60 then (1, 3, 0, 61, 0) else (99, 0, 0, 0, 0))) else (bif Nat.ble pc 61 then (bif Nat.beq pc 61 then (6, 0, 0, 62, 0) else (99, 0, 0, 0, 0)) else (bif Nat.beq pc 62 then (2, 0, 0, 63, 0) else (99, 0, 0, 0, 0)))))) else (bif Nat.ble pc 72 then (bif Nat.ble pc 68 then (bif Nat.ble pc 63 then (bif Nat.beq pc 63 then (7, 8, 27, 66, 0) else (99, 0, 0, 0, 0)) else (bif Nat.ble pc 66 then (bif Nat.beq pc 66 then (0, 0, 0, 68, 19) else (99, 0, 0, 0, 0)) else (bif Nat.beq pc 68 then (1, 2, 0, 69, 0) else (99, 0, 0, 0, 0)))) else (bif Nat.ble pc 70 then (bif Nat.ble pc 69 then (bif Nat.beq pc 69 then (0, 0, 0, 70, 1) else (99, 0, 0, 0, 0)) else (bif Nat.beq pc 70 then (6, 0, 0, 71, 0) else (99, 0, 0, 0, 0))) else (bif Nat.ble pc 71 then (bif Nat.beq pc 71 then (6, 2, 0, 72, 0) else (99, 0, 0, 0, 0)) else (bif Nat.beq pc 72 then (1, 3, 0, 73, 0) else (99, 0, 0, 0, 0))))) else (bif Nat.ble pc 76 then (bif Nat.ble pc 74 then (bif Nat.ble pc 73 then (bif Nat.beq pc 73 then (6, 0, 0, 74, 0) else (99, 0, 0, 0, 0)) else (bif Nat.beq pc 74 then (9, 0, 0, 75, 0) else (99, 0, 0, 0, 0))) else (bif Nat.ble pc 75 then (bif Nat.beq pc 75 then (10, 0, 0, 76, 0) else (99, 0, 0, 0, 0)) else (bif Nat.beq pc 76 then (5, 3, 0, 79, 1) else (99, 0, 0, 0, 0)))) else (bif Nat.ble pc 82 then (bif Nat.ble pc 79 then (bif Nat.beq pc 79 then (16, 0, 46, 0, 0) else (99, 0, 0, 0, 0)) else (bif Nat.beq pc 82 then (5, 2, 0, 85, 1) else (99, 0, 0, 0, 0))) else (bif Nat.ble pc 85 then (bif Nat.beq pc 85 then (16, 0, 15, 0, 0) else (99, 0, 0, 0, 0)) else (bif Nat.beq pc 88 then (21, 0, 0, 0, 0) else (99, 0, 0, 0, 0))))))))
def sX8_dropOldest : sw_T := fun _ => []
set_option maxRecDepth 100000 in
theorem kX8_dropOldest : sw_chk cX8_dropOldest flX8 cnX8 sX8_dropOldest 88 tX8_dropOldest = true := by decide +kernel
def tX8_kind : Nat → sw_I := fun pc => (bif Nat.ble pc 4 then (bif Nat.ble pc 0 then (bif Nat.beq pc 0 then (2, 0, 0, 1, 0) else (99, 0, 0, 0, 0)) else (bif Nat.ble pc 1 then (bif Nat.beq pc 1 then (7, 8, 38, 4, 0) else (99, 0, 0, 0, 0)) else (bif Nat.beq pc 4 then (0, 0, 0, 5, 0) else (99, 0, 0, 0, 0)))) else (bif Nat.ble pc 6 then (bif Nat.ble pc 5 then (bif Nat.beq pc 5 then (9, 0, 0, 6, 0) else (99, 0, 0, 0, 0)) else (bif Nat.beq pc 6 then (0, 0, 0, 8, 7) else (99, 0, 0, 0, 0))) else (bif Nat.ble pc 8 then (bif Nat.beq pc 8 then (6, 3, 0, 9, 0) else (99, 0, 0, 0, 0)) else (bif Nat.beq pc 9 then (19, 0, 0, 0, 0) else (99, 0, 0, 0, 0)))))
def sX8_kind : sw_T := fun _ => []
set_option maxRecDepth 100000 in
theorem kX8_kind : sw_chk cX8_kind flX8 cnX8 sX8_kind 9 tX8_kind = true := by decide +kernel
def tX8_streamIn : Nat → sw_I := fun pc => (bif Nat.ble pc 5 then (bif Nat.ble pc 1 then (bif Nat.ble pc 0 then (bif Nat.beq pc 0 then (2, 0, 0, 1, 0) else (99, 0, 0, 0, 0)) else (bif Nat.beq pc 1 then (7, 8, 38, 4, 0) else (99, 0, 0, 0, 0))) else (bif Nat.ble pc 4 then (bif Nat.beq pc 4 then (0, 0, 0, 5, 0) else (99, 0, 0, 0, 0)) else (bif Nat.beq pc 5 then (9, 0, 0, 6, 0) else (99, 0, 0, 0, 0)))) else (bif Nat.ble pc 7 then (bif Nat.ble pc 6 then (bif Nat.beq pc 6 then (0, 0, 0, 7, 3) else (99, 0, 0, 0, 0)) else (bif Nat.beq pc 7 then (6, 8, 0, 8, 0) else (99, 0, 0, 0, 0))) else (bif Nat.ble pc 8 then (bif Nat.beq pc 8 then (0, 0, 0, 10, 31) else (99, 0, 0, 0, 0)) else (bif Nat.ble pc 10 then (bif Nat.beq pc 10 then (6, 3, 0, 11, 0) else (99, 0, 0, 0, 0)) else (bif Nat.beq pc 11 then (19, 0, 0, 0, 0) else (99, 0, 0, 0, 0))))))
def sX8_streamIn : sw_T := fun _ => []
set_option maxRecDepth 100000 in
theorem kX8_streamIn : sw_chk cX8_streamIn flX8 cnX8 sX8_streamIn 11 tX8_streamIn = true := by decide +kernel
def tX8_countIn : Nat → sw_I := fun pc => (bif Nat.ble pc 4 then (bif Nat.ble pc 0 then (bif Nat.beq pc 0 then (2, 0, 0, 1, 0) else (99, 0, 0, 0, 0)) else (bif Nat.ble pc 1 then (bif Nat.beq pc 1 then (7, 8, 38, 4, 0) else (99, 0, 0, 0, 0)) else (bif Nat.beq pc 4 then (0, 0, 0, 5, 0) else (99, 0, 0, 0, 0)))) else (bif Nat.ble pc 6 then (bif Nat.ble pc 5 then (bif Nat.beq pc 5 then (9, 0, 0, 6, 0) else (99, 0, 0, 0, 0)) else (bif Nat.beq pc 6 then (0, 0, 0, 8, 24) else (99, 0, 0, 0, 0))) else (bif Nat.ble pc 8 then (bif Nat.beq pc 8 then (6, 8, 0, 9, 0) else (99, 0, 0, 0, 0)) else (bif Nat.beq pc 9 then (19, 0, 0, 0, 0) else (99, 0, 0, 0, 0)))))
def sX8_countIn : sw_T := fun _ => []
set_option maxRecDepth 100000 in
theorem kX8_countIn : sw_chk cX8_countIn flX8 cnX8 sX8_countIn 9 tX8_countIn = true := by decide +kernel
def tX8_isFrame : Nat → sw_I := fun pc => (bif Nat.ble pc 132 then (bif Nat.ble pc 58 then (bif Nat.ble pc 27 then (bif Nat.ble pc 12 then (bif Nat.ble pc 5 then (bif Nat.ble pc 1 then (bif Nat.ble pc 0 then (bif Nat.beq pc 0 then (2, 0, 0, 1, 0) else (99, 0, 0, 0, 0)) else (bif Nat.beq pc 1 then (18, 183, 0, 4, 0) else (99, 0, 0, 0, 0))) else (bif Nat.ble pc 4 then (bif Nat.beq pc 4 then (3, 1, 0, 5, 0) else (99, 0, 0, 0, 0)) else (bif Nat.beq pc 5 then (2, 0, 0, 6, 0) else (99, 0, 0, 0, 0)))) else (bif Nat.ble pc 9 then (bif Nat.ble pc 6 then (bif Nat.beq pc 6 then (18, 187, 0, 9, 0) else (99, 0, 0, 0, 0)) else (bif Nat.beq pc 9 then (3, 2, 0, 10, 0) else (99, 0, 0, 0, 0))) else (bif Nat.ble pc 10 then (bif Nat.beq pc 10 then (1, 1, 0, 11, 0) else (99, 0, 0, 0, 0)) else (bif Nat.ble pc 11 then (bif Nat.beq pc 11 then (0, 0, 0, 12, 1) else (99, 0, 0, 0, 0)) else (bif Nat.beq pc 12 then (13, 1, 21, 15, 0) else (99, 0, 0, 0, 0)))))) else (bif Nat.ble pc 18 then (bif Nat.ble pc 16 then (bif Nat.ble pc 15 then (bif Nat.beq pc 15 then (0, 0, 0, 16, 3) else (99, 0, 0, 0, 0)) else (bif Nat.beq pc 16 then (1, 2, 0, 17, 0) else (99, 0, 0, 0, 0))) else (bif Nat.ble pc 17 then (bif Nat.beq pc 17 then (6, 0, 0, 18, 0) else (99, 0, 0, 0, 0)) else (bif Nat.beq pc 18 then (16, 0, 31, 0, 0) else (99, 0, 0, 0, 0)))) else (bif Nat.ble pc 22 then (bif Nat.ble pc 21 then (bif Nat.beq pc 21 then (1, 1, 0, 22, 0) else (99, 0, 0, 0, 0)) else (bif Nat.beq pc 22 then (0, 0, 0, 23, 2) else (99, 0, 0, 0, 0))) else (bif Nat.ble pc 23 then (bif Nat.beq pc 23 then (13, 1, 30, 26, 0) else (99, 0, 0, 0, 0)) else (bif Nat.ble pc 26 then (bif Nat.beq pc 26 then (0, 0, 0, 27, 3) else (99, 0, 0, 0, 0)) else (bif Nat.beq pc 27 then (16, 0, 31, 0, 0) else (99, 0, 0, 0, 0))))))) else (bif Nat.ble pc 42 then (bif Nat.ble pc 33 then (bif Nat.ble pc 31 then (bif Nat.ble pc 30 then (bif Nat.beq pc 30 then (0, 0, 0, 31, 2) else (99, 0, 0, 0, 0)) else (bif Nat.beq pc 31 then (3, 3, 0, 32, 0) else (99, 0, 0, 0, 0))) else (bif Nat.ble pc 32 then (bif Nat.beq pc 32 then (1, 1, 0, 33, 0) else (99, 0, 0, 0, 0)) else (bif Nat.beq pc 33 then (0, 0, 0, 34, 4) else (99, 0, 0, 0, 0)))) else (bif Nat.ble pc 37 then (bif Nat.ble pc 34 then (bif Nat.beq pc 34 then (13, 4, 124, 37, 0) else (99, 0, 0, 0, 0)) else (bif Nat.beq pc 37 then (2, 0, 0, 38, 0) else (99, 0, 0, 0, 0))) else (bif Nat.ble pc 38 then (bif Nat.beq pc 38 then (7, 8, 39, 41, 0) else (99, 0, 0, 0, 0)) else (bif Nat.ble pc 41 then (bif Nat.beq pc 41 then (1, 3, 0, 42, 0) else (99, 0, 0, 0, 0)) else (bif Nat.beq pc 42 then (13, 1, 124, 45, 0) else (99, 0, 0, 0, 0)))))) else (bif Nat.ble pc 53 then (bif Nat.ble pc 46 then (bif Nat.ble pc 45 then (bif Nat.beq pc 45 then (2, 0, 0, 46, 0) else (99, 0, 0, 0, 0)) else (bif Nat.beq pc 46 then (7, 8, 38, 49, 0) else (99, 0, 0, 0, 0))) else (bif Nat.ble pc 49 then (bif Nat.beq pc 49 then (2, 0, 0, 50, 0) else (99, 0, 0, 0, 0)) else (bif Nat.ble pc 50 then (bif Nat.beq pc 50 then (7, 8, 39, 53, 0) else (99, 0, 0, 0, 0)) else (bif Nat.beq pc 53 then (0, 0, 0, 54, 1) else (99, 0, 0, 0, 0))))) else (bif Nat.ble pc 55 then (bif Nat.ble pc 54 then (bif Nat.beq pc 54 then (6, 1, 0, 55, 0) else (99, 0, 0, 0, 0)) else (bif Nat.beq pc 55 then (9, 0, 0, 56, 0) else (99, 0, 0, 0, 0))) else (bif Nat.ble pc 56 then (bif Nat.beq pc 56 then (2, 0, 0, 57, 0) else (99, 0, 0, 0, 0)) else (bif Nat.ble pc 57 then (bif Nat.beq pc 57 then (2, 0, 0, 58, 0) else (99, 0, 0, 0, 0)) else (bif Nat.beq pc 58 then (7, 8, 39, 61, 0) else (99, 0, 0, 0, 0)))))))) else (bif Nat.ble pc 94 then (bif Nat.ble pc 77 then (bif Nat.ble pc 66 then (bif Nat.ble pc 62 then (bif Nat.ble pc 61 then (bif Nat.beq pc 61 then (0, 0, 0, 62, 1) else (99, 0, 0, 0, 0)) else (bif Nat.beq pc 62 then (6, 1, 0, 63, 0) else (99, 0, 0, 0, 0))) else (bif Nat.ble pc 63 then (bif Nat.beq pc 63 then (18, 157, 0, 66, 0) else (99, 0, 0, 0, 0)) else (bif Nat.beq pc 66 then (13, 1, 124, 69, 0) else (99, 0, 0, 0, 0)))) else (bif Nat.ble pc 70 then (bif Nat.ble pc 69 then (bif Nat.beq pc 69 then (2, 0, 0, 70, 0) else (99, 0, 0, 0, 0)) else (bif Nat.beq pc 70 then (18, 190, 0, 73, 0) else (99, 0, 0, 0, 0))) else (bif Nat.ble pc 73 then (bif Nat.beq pc 73 then (2, 0, 0, 74, 0) else (99, 0, 0, 0, 0)) else (bif Nat.ble pc 74 then (bif Nat.beq pc 74 then (7, 8, 0, 77, 0) else (99, 0, 0, 0, 0)) else (bif Nat.beq pc 77 then (13, 3, 124, 80, 0) else (99, 0, 0, 0, 0)))))) else (bif Nat.ble pc 86 then (bif Nat.ble pc 81 then (bif Nat.ble pc 80 then (bif Nat.beq pc 80 then (2, 0, 0, 81, 0) else (99, 0, 0, 0, 0)) else (bif Nat.beq pc 81 then (7, 8, 38, 84, 0) else (99, 0, 0, 0, 0))) else (bif Nat.ble pc 84 then (bif Nat.beq pc 84 then (0, 0, 0, 85, 0) else (99, 0, 0, 0, 0)) else (bif Nat.ble pc 85 then (bif Nat.beq pc 85 then (9, 0, 0, 86, 0) else (99, 0, 0, 0, 0)) else (bif Nat.beq pc 86 then (0, 0, 0, 88, 8) else (99, 0, 0, 0, 0))))) else (bif Nat.ble pc 89 then (bif Nat.ble pc 88 then (bif Nat.beq pc 88 then (6, 8, 0, 89, 0) else (99, 0, 0, 0, 0)) else (bif Nat.beq pc 89 then (0, 0, 0, 92, 255) else (99, 0, 0, 0, 0))) else (bif Nat.ble pc 92 then (bif Nat.beq pc 92 then (6, 3, 0, 93, 0) else (99, 0, 0, 0, 0)) else (bif Nat.ble pc 93 then (bif Nat.beq pc 93 then (2, 0, 0, 94, 0) else (99, 0, 0, 0, 0)) else (bif Nat.beq pc 94 then (7, 8, 2, 97, 0) else (99, 0, 0, 0, 0))))))) else (bif Nat.ble pc 112 then (bif Nat.ble pc 104 then (bif Nat.ble pc 100 then (bif Nat.ble pc 97 then (bif Nat.beq pc 97 then (13, 4, 124, 100, 0) else (99, 0, 0, 0, 0)) else (bif Nat.beq pc 100 then (2, 0, 0, 101, 0) else (99, 0, 0, 0, 0))) else (bif Nat.ble pc 101 then (bif Nat.beq pc 101 then (7, 8, 38, 104, 0) else (99, 0, 0, 0, 0)) else (bif Nat.beq pc 104 then (0, 0, 0, 105, 0) else (99, 0, 0, 0, 0)))) else (bif Nat.ble pc 106 then (bif Nat.ble pc 105 then (bif Nat.beq pc 105 then (9, 0, 0, 106, 0) else (99, 0, 0, 0, 0)) else (bif Nat.beq pc 106 then (0, 0, 0, 108, 16) else (99, 0, 0, 0, 0))) else (bif Nat.ble pc 108 then (bif Nat.beq pc 108 then (6, 8, 0, 109, 0) else (99, 0, 0, 0, 0)) else (bif Nat.ble pc 109 then (bif Nat.beq pc 109 then (0, 0, 0, 112, 255) else (99, 0, 0, 0, 0)) else (bif Nat.beq pc 112 then (6, 3, 0, 113, 0) else (99, 0, 0, 0, 0)))))) else (bif Nat.ble pc 121 then (bif Nat.ble pc 114 then (bif Nat.ble pc 113 then (bif Nat.beq pc 113 then (2, 0, 0, 114, 0) else (99, 0, 0, 0, 0)) else (bif Nat.beq pc 114 then (7, 8, 2, 117, 0) else (99, 0, 0, 0, 0))) else (bif Nat.ble pc 117 then (bif Nat.beq pc 117 then (13, 4, 124, 120, 0) else (99, 0, 0, 0, 0)) else (bif Nat.ble pc 120 then (bif Nat.beq pc 120 then (0, 0, 0, 121, 1) else (99, 0, 0, 0, 0)) else (bif Nat.beq pc 121 then (16, 0, 125, 0, 0) else (99, 0, 0, 0, 0))))) else (bif Nat.ble pc 125 then (bif Nat.ble pc 124 then (bif Nat.beq pc 124 then (0, 0, 0, 125, 0) else (99, 0, 0, 0, 0)) else (bif Nat.beq pc 125 then (3, 4, 0, 127, 0) else (99, 0, 0, 0, 0))) else (bif Nat.ble pc 127 then (bif Nat.beq pc 127 then (1, 4, 0, 129, 0) else (99, 0, 0, 0, 0)) else (bif Nat.ble pc 129 then (bif Nat.beq pc 129 then (12, 0, 171, 132, 0) else (99, 0, 0, 0, 0)) else (bif Nat.beq pc 132 then (1, 1, 0, 133, 0) else (99, 0, 0, 0, 0))))))))) else (bif Nat.ble pc 196 then (bif Nat.ble pc 163 then (bif Nat.ble pc 149 then (bif Nat.ble pc 138 then (bif Nat.ble pc 134 then (bif Nat.ble pc 133 then (bif Nat.beq pc 133 then (0, 0, 0, 134, 1) else (99, 0, 0, 0, 0)) else (bif Nat.beq pc 134 then (13, 0, 141, 137, 0) else (99, 0, 0, 0, 0))) else (bif Nat.ble pc 137 then (bif Nat.beq pc 137 then (1, 2, 0, 138, 0) else (99, 0, 0, 0, 0)) else (bif Nat.beq pc 138 then (12, 1, 171, 141, 0) else (99, 0, 0, 0, 0)))) else (bif Nat.ble pc 142 then (bif Nat.ble pc 141 then (bif Nat.beq pc 141 then (1, 1, 0, 142, 0) else (99, 0, 0, 0, 0)) else (bif Nat.beq pc 142 then (12, 1, 157, 145, 0) else (99, 0, 0, 0, 0))) else (bif Nat.ble pc 145 then (bif Nat.beq pc 145 then (2, 0, 0, 146, 0) else (99, 0, 0, 0, 0)) else (bif Nat.ble pc 146 then (bif Nat.beq pc 146 then (7, 8, 38, 149, 0) else (99, 0, 0, 0, 0)) else (bif Nat.beq pc 149 then (0, 0, 0, 150, 0) else (99, 0, 0, 0, 0)))))) else (bif Nat.ble pc 154 then (bif Nat.ble pc 151 then (bif Nat.ble pc 150 then (bif Nat.beq pc 150 then (9, 0, 0, 151, 0) else (99, 0, 0, 0, 0)) else (bif Nat.beq pc 151 then (0, 0, 0, 153, 65528) else (99, 0, 0, 0, 0))) else (bif Nat.ble pc 153 then (bif Nat.beq pc 153 then (6, 3, 0, 154, 0) else (99, 0, 0, 0, 0)) else (bif Nat.beq pc 154 then (12, 1, 171, 157, 0) else (99, 0, 0, 0, 0)))) else (bif Nat.ble pc 158 then (bif Nat.ble pc 157 then (bif Nat.beq pc 157 then (1, 1, 0, 158, 0) else (99, 0, 0, 0, 0)) else (bif Nat.beq pc 158 then (0, 0, 0, 159, 2) else (99, 0, 0, 0, 0))) else (bif Nat.ble pc 159 then (bif Nat.beq pc 159 then (13, 1, 173, 162, 0) else (99, 0, 0, 0, 0)) else (bif Nat.ble pc 162 then (bif Nat.beq pc 162 then (2, 0, 0, 163, 0) else (99, 0, 0, 0, 0)) else (bif Nat.beq pc 163 then (7, 8, 38, 166, 0) else (99, 0, 0, 0, 0))))))) else (bif Nat.ble pc 178 then (bif Nat.ble pc 171 then (bif Nat.ble pc 167 then (bif Nat.ble pc 166 then (bif Nat.beq pc 166 then (0, 0, 0, 167, 1) else (99, 0, 0, 0, 0)) else (bif Nat.beq pc 167 then (9, 0, 0, 168, 0) else (99, 0, 0, 0, 0))) else (bif Nat.ble pc 168 then (bif Nat.beq pc 168 then (12, 4, 173, 171, 0) else (99, 0, 0, 0, 0)) else (bif Nat.beq pc 171 then (0, 0, 0, 172, 0) else (99, 0, 0, 0, 0)))) else (bif Nat.ble pc 173 then (bif Nat.ble pc 172 then (bif Nat.beq pc 172 then (19, 0, 0, 0, 0) else (99, 0, 0, 0, 0)) else (bif Nat.beq pc 173 then (1, 1, 0, 174, 0) else (99, 0, 0, 0, 0))) else (bif Nat.ble pc 174 then (bif Nat.beq pc 174 then (0, 0, 0, 175, 1) else (99, 0, 0, 0, 0)) else (bif Nat.ble pc 175 then (bif Nat.beq pc 175 then (13, 1, 262, 178, 0) else (99, 0, 0, 0, 0)) else (bif Nat.beq pc 178 then (1, 2, 0, 179, 0) else (99, 0, 0, 0, 0)))))) else (bif Nat.ble pc 185 then (bif Nat.ble pc 180 then (bif Nat.ble pc 179 then (bif Nat.beq pc 179 then (0, 0, 0, 180, 1) else (99, 0, 0, 0, 0)) else (bif Nat.beq pc 180 then (13, 2, 206, 183, 0) else (99, 0, 0, 0, 0))) else (bif Nat.ble pc 183 then (bif Nat.beq pc 183 then (1, 2, 0, 184, 0) else (99, 0, 0, 0, 0)) else (bif Nat.ble pc 184 then (bif Nat.beq pc 184 then (2, 0, 0, 185, 0) else (99, 0, 0, 0, 0)) else (bif Nat.beq pc 185 then (7, 8, 1, 188, 0) else (99, 0, 0, 0, 0))))) else (bif Nat.ble pc 191 then (bif Nat.ble pc 188 then (bif Nat.beq pc 188 then (13, 4, 206, 191, 0) else (99, 0, 0, 0, 0)) else (bif Nat.beq pc 191 then (2, 0, 0, 192, 0) else (99, 0, 0, 0, 0))) else (bif Nat.ble pc 192 then (bif Nat.beq pc 192 then (7, 8, 38, 195, 0) else (99, 0, 0, 0, 0)) else (bif Nat.ble pc 195 then (bif Nat.beq pc 195 then (0, 0, 0, 196, 1) else (99, 0, 0, 0, 0)) else (bif Nat.beq pc 196 then (9, 0, 0, 197, 0) else (99, 0, 0, 0, 0)))))))) else (bif Nat.ble pc 229 then (bif Nat.ble pc 210 then (bif Nat.ble pc 202 then (bif Nat.ble pc 198 then (bif Nat.ble pc 197 then (bif Nat.beq pc 197 then (1, 2, 0, 198, 0) else (99, 0, 0, 0, 0)) else (bif Nat.beq pc 198 then (6, 8, 0, 199, 0) else (99, 0, 0, 0, 0))) else (bif Nat.ble pc 199 then (bif Nat.beq pc 199 then (12, 1, 206, 202, 0) else (99, 0, 0, 0, 0)) else (bif Nat.beq pc 202 then (0, 0, 0, 203, 1) else (99, 0, 0, 0, 0)))) else (bif Nat.ble pc 206 then (bif Nat.ble pc 203 then (bif Nat.beq pc 203 then (16, 0, 207, 0, 0) else (99, 0, 0, 0, 0)) else (bif Nat.beq pc 206 then (0, 0, 0, 207, 0) else (99, 0, 0, 0, 0))) else (bif Nat.ble pc 207 then (bif Nat.beq pc 207 then (3, 4, 0, 209, 0) else (99, 0, 0, 0, 0)) else (bif Nat.ble pc 209 then (bif Nat.beq pc 209 then (0, 0, 0, 210, 0) else (99, 0, 0, 0, 0)) else (bif Nat.beq pc 210 then (3, 5, 0, 212, 0) else (99, 0, 0, 0, 0)))))) else (bif Nat.ble pc 220 then (bif Nat.ble pc 214 then (bif Nat.ble pc 212 then (bif Nat.beq pc 212 then (1, 5, 0, 214, 0) else (99, 0, 0, 0, 0)) else (bif Nat.beq pc 214 then (1, 2, 0, 215, 0) else (99, 0, 0, 0, 0))) else (bif Nat.ble pc 215 then (bif Nat.beq pc 215 then (13, 3, 262, 218, 0) else (99, 0, 0, 0, 0)) else (bif Nat.ble pc 218 then (bif Nat.beq pc 218 then (1, 4, 0, 220, 0) else (99, 0, 0, 0, 0)) else (bif Nat.beq pc 220 then (12, 0, 262, 223, 0) else (99, 0, 0, 0, 0))))) else (bif Nat.ble pc 224 then (bif Nat.ble pc 223 then (bif Nat.beq pc 223 then (2, 0, 0, 224, 0) else (99, 0, 0, 0, 0)) else (bif Nat.beq pc 224 then (7, 8, 38, 227, 0) else (99, 0, 0, 0, 0))) else (bif Nat.ble pc 227 then (bif Nat.beq pc 227 then (0, 0, 0, 228, 1) else (99, 0, 0, 0, 0)) else (bif Nat.ble pc 228 then (bif Nat.beq pc 228 then (9, 0, 0, 229, 0) else (99, 0, 0, 0, 0)) else (bif Nat.beq pc 229 then (1, 5, 0, 231, 0) else (99, 0, 0, 0, 0))))))) else (bif Nat.ble pc 244 then (bif Nat.ble pc 234 then (bif Nat.ble pc 232 then (bif Nat.ble pc 231 then (bif Nat.beq pc 231 then (6, 7, 0, 232, 0) else (99, 0, 0, 0, 0)) else (bif Nat.beq pc 232 then (0, 0, 0, 233, 1) else (99, 0, 0, 0, 0))) else (bif Nat.ble pc 233 then (bif Nat.beq pc 233 then (6, 3, 0, 234, 0) else (99, 0, 0, 0, 0)) else (bif Nat.beq pc 234 then (12, 0, 249, 237, 0) else (99, 0, 0, 0, 0)))) else (bif Nat.ble pc 238 then (bif Nat.ble pc 237 then (bif Nat.beq pc 237 then (2, 0, 0, 238, 0) else (99, 0, 0, 0, 0)) else (bif Nat.beq pc 238 then (7, 8, 38, 241, 0) else (99, 0, 0, 0, 0))) else (bif Nat.ble pc 241 then (bif Nat.beq pc 241 then (0, 0, 0, 242, 2) else (99, 0, 0, 0, 0)) else (bif Nat.ble pc 242 then (bif Nat.beq pc 242 then (1, 5, 0, 244, 0) else (99, 0, 0, 0, 0)) else (bif Nat.beq pc 244 then (6, 0, 0, 245, 0) else (99, 0, 0, 0, 0)))))) else (bif Nat.ble pc 253 then (bif Nat.ble pc 246 then (bif Nat.ble pc 245 then (bif Nat.beq pc 245 then (9, 0, 0, 246, 0) else (99, 0, 0, 0, 0)) else (bif Nat.beq pc 246 then (12, 1, 253, 249, 0) else (99, 0, 0, 0, 0))) else (bif Nat.ble pc 249 then (bif Nat.beq pc 249 then (0, 0, 0, 250, 1) else (99, 0, 0, 0, 0)) else (bif Nat.ble pc 250 then (bif Nat.beq pc 250 then (16, 0, 254, 0, 0) else (99, 0, 0, 0, 0)) else (bif Nat.beq pc 253 then (0, 0, 0, 254, 0) else (99, 0, 0, 0, 0))))) else (bif Nat.ble pc 256 then (bif Nat.ble pc 254 then (bif Nat.beq pc 254 then (3, 4, 0, 256, 0) else (99, 0, 0, 0, 0)) else (bif Nat.beq pc 256 then (5, 5, 0, 259, 1) else (99, 0, 0, 0, 0))) else (bif Nat.ble pc 259 then (bif Nat.beq pc 259 then (16, 0, 212, 0, 0) else (99, 0, 0, 0, 0)) else (bif Nat.ble pc 262 then (bif Nat.beq pc 262 then (1, 4, 0, 264, 0) else (99, 0, 0, 0, 0)) else (bif Nat.beq pc 264 then (19, 0, 0, 0, 0) else (99, 0, 0, 0, 0))))))))))
def sX8_isFrame : sw_T := fun _ => []
set_option maxRecDepth 100000 in
theorem kX8_isFrame : sw_chk cX8_isFrame flX8 cnX8 sX8_isFrame 264 tX8_isFrame = true := by decide +kernel
def tX8_confirm : Nat → sw_I := fun pc => (bif Nat.ble pc 70 then (bif Nat.ble pc 34 then (bif Nat.ble pc 17 then (bif Nat.ble pc 7 then (bif Nat.ble pc 4 then (bif Nat.ble pc 0 then (bif Nat.beq pc 0 then (2, 0, 0, 1, 0) else (99, 0, 0, 0, 0)) else (bif Nat.ble pc 1 then (bif Nat.beq pc 1 then (7, 8, 28, 4, 0) else (99, 0, 0, 0, 0)) else (bif Nat.beq pc 4 then (1, 1, 0, 5, 0) else (99, 0, 0, 0, 0)))) else (bif Nat.ble pc 5 then (bif Nat.beq pc 5 then (9, 0, 0, 6, 0) else (99, 0, 0, 0, 0)) else (bif Nat.ble pc 6 then (bif Nat.beq pc 6 then (2, 0, 0, 7, 0) else (99, 0, 0, 0, 0)) else (bif Nat.beq pc 7 then (7, 8, 2, 10, 0) else (99, 0, 0, 0, 0))))) else (bif Nat.ble pc 12 then (bif Nat.ble pc 10 then (bif Nat.beq pc 10 then (6, 0, 0, 11, 0) else (99, 0, 0, 0, 0)) else (bif Nat.ble pc 11 then (bif Nat.beq pc 11 then (0, 0, 0, 12, 1) else (99, 0, 0, 0, 0)) else (bif Nat.beq pc 12 then (6, 0, 0, 13, 0) else (99, 0, 0, 0, 0)))) else (bif Nat.ble pc 13 then (bif Nat.beq pc 13 then (2, 0, 0, 14, 0) else (99, 0, 0, 0, 0)) else (bif Nat.ble pc 14 then (bif Nat.beq pc 14 then (7, 8, 22, 17, 0) else (99, 0, 0, 0, 0)) else (bif Nat.beq pc 17 then (1, 1, 0, 18, 0) else (99, 0, 0, 0, 0)))))) else (bif Nat.ble pc 25 then (bif Nat.ble pc 20 then (bif Nat.ble pc 18 then (bif Nat.beq pc 18 then (9, 0, 0, 19, 0) else (99, 0, 0, 0, 0)) else (bif Nat.ble pc 19 then (bif Nat.beq pc 19 then (6, 1, 0, 20, 0) else (99, 0, 0, 0, 0)) else (bif Nat.beq pc 20 then (2, 0, 0, 21, 0) else (99, 0, 0, 0, 0)))) else (bif Nat.ble pc 21 then (bif Nat.beq pc 21 then (7, 8, 2, 24, 0) else (99, 0, 0, 0, 0)) else (bif Nat.ble pc 24 then (bif Nat.beq pc 24 then (0, 0, 0, 25, 1) else (99, 0, 0, 0, 0)) else (bif Nat.beq pc 25 then (6, 0, 0, 26, 0) else (99, 0, 0, 0, 0))))) else (bif Nat.ble pc 28 then (bif Nat.ble pc 26 then (bif Nat.beq pc 26 then (27, 0, 0, 27, 0) else (99, 0, 0, 0, 0)) else (bif Nat.ble pc 27 then (bif Nat.beq pc 27 then (3, 3, 0, 28, 0) else (99, 0, 0, 0, 0)) else (bif Nat.beq pc 28 then (1, 2, 0, 29, 0) else (99, 0, 0, 0, 0)))) else (bif Nat.ble pc 30 then (bif Nat.ble pc 29 then (bif Nat.beq pc 29 then (2, 0, 0, 30, 0) else (99, 0, 0, 0, 0)) else (bif Nat.beq pc 30 then (7, 8, 2, 33, 0) else (99, 0, 0, 0, 0))) else (bif Nat.ble pc 33 then (bif Nat.beq pc 33 then (6, 0, 0, 34, 0) else (99, 0, 0, 0, 0)) else (bif Nat.beq pc 34 then (0, 0, 0, 35, 1) else (99, 0, 0, 0, 0))))))) else (bif Nat.ble pc 50 then (bif Nat.ble pc 42 then (bif Nat.ble pc 37 then (bif Nat.ble pc 35 then (bif Nat.beq pc 35 then (6, 0, 0, 36, 0) else (99, 0, 0, 0, 0)) else (bif Nat.ble pc 36 then (bif Nat.beq pc 36 then (1, 3, 0, 37, 0) else (99, 0, 0, 0, 0)) else (bif Nat.beq pc 37 then (6, 1, 0, 38, 0) else (99, 0, 0, 0, 0)))) else (bif Nat.ble pc 38 then (bif Nat.beq pc 38 then (2, 0, 0, 39, 0) else (99, 0, 0, 0, 0)) else (bif Nat.ble pc 39 then (bif Nat.beq pc 39 then (7, 8, 2, 42, 0) else (99, 0, 0, 0, 0)) else (bif Nat.beq pc 42 then (0, 0, 0, 43, 1) else (99, 0, 0, 0, 0))))) else (bif Nat.ble pc 45 then (bif Nat.ble pc 43 then (bif Nat.beq pc 43 then (6, 0, 0, 44, 0) else (99, 0, 0, 0, 0)) else (bif Nat.ble pc 44 then (bif Nat.beq pc 44 then (27, 0, 0, 45, 0) else (99, 0, 0, 0, 0)) else (bif Nat.beq pc 45 then (3, 4, 0, 47, 0) else (99, 0, 0, 0, 0)))) else (bif Nat.ble pc 47 then (bif Nat.beq pc 47 then (1, 4, 0, 49, 0) else (99, 0, 0, 0, 0)) else (bif Nat.ble pc 49 then (bif Nat.beq pc 49 then (2, 0, 0, 50, 0) else (99, 0, 0, 0, 0)) else (bif Nat.beq pc 50 then (7, 8, 22, 53, 0) else (99, 0, 0, 0, 0)))))) else (bif Nat.ble pc 60 then (bif Nat.ble pc 55 then (bif Nat.ble pc 53 then (bif Nat.beq pc 53 then (1, 1, 0, 54, 0) else (99, 0, 0, 0, 0)) else (bif Nat.ble pc 54 then (bif Nat.beq pc 54 then (9, 0, 0, 55, 0) else (99, 0, 0, 0, 0)) else (bif Nat.beq pc 55 then (13, 5, 59, 58, 0) else (99, 0, 0, 0, 0)))) else (bif Nat.ble pc 58 then (bif Nat.beq pc 58 then (21, 0, 0, 0, 0) else (99, 0, 0, 0, 0)) else (bif Nat.ble pc 59 then (bif Nat.beq pc 59 then (2, 0, 0, 60, 0) else (99, 0, 0, 0, 0)) else (bif Nat.beq pc 60 then (7, 8, 22, 63, 0) else (99, 0, 0, 0, 0))))) else (bif Nat.ble pc 65 then (bif Nat.ble pc 63 then (bif Nat.beq pc 63 then (1, 1, 0, 64, 0) else (99, 0, 0, 0, 0)) else (bif Nat.ble pc 64 then (bif Nat.beq pc 64 then (23, 0, 0, 65, 0) else (99, 0, 0, 0, 0)) else (bif Nat.beq pc 65 then (9, 0, 0, 66, 0) else (99, 0, 0, 0, 0)))) else (bif Nat.ble pc 68 then (bif Nat.ble pc 66 then (bif Nat.beq pc 66 then (1, 4, 0, 68, 0) else (99, 0, 0, 0, 0)) else (bif Nat.beq pc 68 then (6, 1, 0, 69, 0) else (99, 0, 0, 0, 0))) else (bif Nat.ble pc 69 then (bif Nat.beq pc 69 then (10, 0, 0, 70, 0) else (99, 0, 0, 0, 0)) else (bif Nat.beq pc 70 then (0, 0, 0, 72, 15) else (99, 0, 0, 0, 0)))))))) else (bif Nat.ble pc 110 then (bif Nat.ble pc 88 then (bif Nat.ble pc 80 then (bif Nat.ble pc 74 then (bif Nat.ble pc 72 then (bif Nat.beq pc 72 then (1, 1, 0, 73, 0) else (99, 0, 0, 0, 0)) else (bif Nat.ble pc 73 then (bif Nat.beq pc 73 then (6, 2, 0, 74, 0) else (99, 0, 0, 0, 0)) else (bif Nat.beq pc 74 then (3, 5, 0, 76, 0) else (99, 0, 0, 0, 0)))) else (bif Nat.ble pc 76 then (bif Nat.beq pc 76 then (1, 5, 0, 78, 0) else (99, 0, 0, 0, 0)) else (bif Nat.ble pc 78 then (bif Nat.beq pc 78 then (0, 0, 0, 80, 15) else (99, 0, 0, 0, 0)) else (bif Nat.beq pc 80 then (1, 1, 0, 81, 0) else (99, 0, 0, 0, 0))))) else (bif Nat.ble pc 83 then (bif Nat.ble pc 81 then (bif Nat.beq pc 81 then (6, 2, 0, 82, 0) else (99, 0, 0, 0, 0)) else (bif Nat.ble pc 82 then (bif Nat.beq pc 82 then (2, 0, 0, 83, 0) else (99, 0, 0, 0, 0)) else (bif Nat.beq pc 83 then (7, 8, 22, 86, 0) else (99, 0, 0, 0, 0)))) else (bif Nat.ble pc 86 then (bif Nat.beq pc 86 then (1, 1, 0, 87, 0) else (99, 0, 0, 0, 0)) else (bif Nat.ble pc 87 then (bif Nat.beq pc 87 then (9, 0, 0, 88, 0) else (99, 0, 0, 0, 0)) else (bif Nat.beq pc 88 then (6, 0, 0, 89, 0) else (99, 0, 0, 0, 0)))))) else (bif Nat.ble pc 99 then (bif Nat.ble pc 93 then (bif Nat.ble pc 89 then (bif Nat.beq pc 89 then (13, 3, 160, 92, 0) else (99, 0, 0, 0, 0)) else (bif Nat.ble pc 92 then (bif Nat.beq pc 92 then (2, 0, 0, 93, 0) else (99, 0, 0, 0, 0)) else (bif Nat.beq pc 93 then (7, 8, 23, 96, 0) else (99, 0, 0, 0, 0)))) else (bif Nat.ble pc 96 then (bif Nat.beq pc 96 then (1, 5, 0, 98, 0) else (99, 0, 0, 0, 0)) else (bif Nat.ble pc 98 then (bif Nat.beq pc 98 then (2, 0, 0, 99, 0) else (99, 0, 0, 0, 0)) else (bif Nat.beq pc 99 then (7, 8, 23, 102, 0) else (99, 0, 0, 0, 0))))) else (bif Nat.ble pc 106 then (bif Nat.ble pc 102 then (bif Nat.beq pc 102 then (1, 5, 0, 104, 0) else (99, 0, 0, 0, 0)) else (bif Nat.ble pc 104 then (bif Nat.beq pc 104 then (1, 4, 0, 106, 0) else (99, 0, 0, 0, 0)) else (bif Nat.beq pc 106 then (6, 0, 0, 107, 0) else (99, 0, 0, 0, 0)))) else (bif Nat.ble pc 108 then (bif Nat.ble pc 107 then (bif Nat.beq pc 107 then (9, 0, 0, 108, 0) else (99, 0, 0, 0, 0)) else (bif Nat.beq pc 108 then (10, 0, 0, 109, 0) else (99, 0, 0, 0, 0))) else (bif Nat.ble pc 109 then (bif Nat.beq pc 109 then (0, 0, 0, 110, 0) else (99, 0, 0, 0, 0)) else (bif Nat.beq pc 110 then (3, 6, 0, 112, 0) else (99, 0, 0, 0, 0))))))) else (bif Nat.ble pc 135 then (bif Nat.ble pc 123 then (bif Nat.ble pc 116 then (bif Nat.ble pc 112 then (bif Nat.beq pc 112 then (1, 6, 0, 114, 0) else (99, 0, 0, 0, 0)) else (bif Nat.ble pc 114 then (bif Nat.beq pc 114 then (0, 0, 0, 116, 19) else (99, 0, 0, 0, 0)) else (bif Nat.beq pc 116 then (13, 3, 154, 119, 0) else (99, 0, 0, 0, 0)))) else (bif Nat.ble pc 119 then (bif Nat.beq pc 119 then (2, 0, 0, 120, 0) else (99, 0, 0, 0, 0)) else (bif Nat.ble pc 120 then (bif Nat.beq pc 120 then (7, 8, 24, 123, 0) else (99, 0, 0, 0, 0)) else (bif Nat.beq pc 123 then (0, 0, 0, 125, 19) else (99, 0, 0, 0, 0))))) else (bif Nat.ble pc 128 then (bif Nat.ble pc 125 then (bif Nat.beq pc 125 then (1, 5, 0, 127, 0) else (99, 0, 0, 0, 0)) else (bif Nat.ble pc 127 then (bif Nat.beq pc 127 then (6, 2, 0, 128, 0) else (99, 0, 0, 0, 0)) else (bif Nat.beq pc 128 then (1, 6, 0, 130, 0) else (99, 0, 0, 0, 0)))) else (bif Nat.ble pc 131 then (bif Nat.ble pc 130 then (bif Nat.beq pc 130 then (6, 0, 0, 131, 0) else (99, 0, 0, 0, 0)) else (bif Nat.beq pc 131 then (2, 0, 0, 132, 0) else (99, 0, 0, 0, 0))) else (bif Nat.ble pc 132 then (bif Nat.beq pc 132 then (7, 8, 24, 135, 0) else (99, 0, 0, 0, 0)) else (bif Nat.beq pc 135 then (0, 0, 0, 137, 19) else (99, 0, 0, 0, 0)))))) else (bif Nat.ble pc 145 then (bif Nat.ble pc 141 then (bif Nat.ble pc 137 then (bif Nat.beq pc 137 then (1, 5, 0, 139, 0) else (99, 0, 0, 0, 0)) else (bif Nat.ble pc 139 then (bif Nat.beq pc 139 then (1, 4, 0, 141, 0) else (99, 0, 0, 0, 0)) else (bif Nat.beq pc 141 then (6, 0, 0, 142, 0) else (99, 0, 0, 0, 0)))) else (bif Nat.ble pc 142 then (bif Nat.beq pc 142 then (6, 2, 0, 143, 0) else (99, 0, 0, 0, 0)) else (bif Nat.ble pc 143 then (bif Nat.beq pc 143 then (1, 6, 0, 145, 0) else (99, 0, 0, 0, 0)) else (bif Nat.beq pc 145 then (6, 0, 0, 146, 0) else (99, 0, 0, 0, 0))))) else (bif Nat.ble pc 148 then (bif Nat.ble pc 146 then (bif Nat.beq pc 146 then (9, 0, 0, 147, 0) else (99, 0, 0, 0, 0)) else (bif Nat.ble pc 147 then (bif Nat.beq pc 147 then (10, 0, 0, 148, 0) else (99, 0, 0, 0, 0)) else (bif Nat.beq pc 148 then (5, 6, 0, 151, 1) else (99, 0, 0, 0, 0)))) else (bif Nat.ble pc 154 then (bif Nat.ble pc 151 then (bif Nat.beq pc 151 then (16, 0, 112, 0, 0) else (99, 0, 0, 0, 0)) else (bif Nat.beq pc 154 then (5, 5, 0, 157, 1) else (99, 0, 0, 0, 0))) else (bif Nat.ble pc 157 then (bif Nat.beq pc 157 then (16, 0, 76, 0, 0) else (99, 0, 0, 0, 0)) else (bif Nat.beq pc 160 then (21, 0, 0, 0, 0) else (99, 0, 0, 0, 0)))))))))
def sX8_confirm : sw_T := fun _ => []
set_option maxRecDepth 100000 in
theorem kX8_confirm : sw_chk cX8_confirm flX8 cnX8 sX8_confirm 160 tX8_confirm = true := by decide +kernel
def tX8_canBe : Nat → sw_I := fun pc => (bif Nat.ble pc 94 then (bif Nat.ble pc 59 then (bif Nat.ble pc 14 then (bif Nat.ble pc 5 then (bif Nat.ble pc 2 then (bif Nat.ble pc 0 then (bif Nat.beq pc 0 then (0, 0, 0, 2, 8) else (99, 0, 0, 0, 0)) else (bif Nat.beq pc 2 then (1, 1, 0, 3, 0) else (99, 0, 0, 0, 0))) else (bif Nat.ble pc 3 then (bif Nat.beq pc 3 then (6, 2, 0, 4, 0) else (99, 0, 0, 0, 0)) else (bif Nat.ble pc 4 then (bif Nat.beq pc 4 then (2, 0, 0, 5, 0) else (99, 0, 0, 0, 0)) else (bif Nat.beq pc 5 then (18, 190, 0, 8, 0) else (99, 0, 0, 0, 0))))) else (bif Nat.ble pc 9 then (bif Nat.ble pc 8 then (bif Nat.beq pc 8 then (6, 0, 0, 9, 0) else (99, 0, 0, 0, 0)) else (bif Nat.beq pc 9 then (3, 2, 0, 10, 0) else (99, 0, 0, 0, 0))) else (bif Nat.ble pc 10 then (bif Nat.beq pc 10 then (2, 0, 0, 11, 0) else (99, 0, 0, 0, 0)) else (bif Nat.ble pc 11 then (bif Nat.beq pc 11 then (18, 183, 0, 14, 0) else (99, 0, 0, 0, 0)) else (bif Nat.beq pc 14 then (17, 152, 0, 0, 0) else (99, 0, 0, 0, 0)))))) else (bif Nat.ble pc 50 then (bif Nat.ble pc 45 then (bif Nat.ble pc 44 then (bif Nat.beq pc 44 then (2, 0, 0, 45, 0) else (99, 0, 0, 0, 0)) else (bif Nat.beq pc 45 then (7, 8, 6, 48, 0) else (99, 0, 0, 0, 0))) else (bif Nat.ble pc 48 then (bif Nat.beq pc 48 then (1, 2, 0, 49, 0) else (99, 0, 0, 0, 0)) else (bif Nat.ble pc 49 then (bif Nat.beq pc 49 then (9, 0, 0, 50, 0) else (99, 0, 0, 0, 0)) else (bif Nat.beq pc 50 then (12, 0, 91, 53, 0) else (99, 0, 0, 0, 0))))) else (bif Nat.ble pc 54 then (bif Nat.ble pc 53 then (bif Nat.beq pc 53 then (2, 0, 0, 54, 0) else (99, 0, 0, 0, 0)) else (bif Nat.beq pc 54 then (7, 8, 7, 57, 0) else (99, 0, 0, 0, 0))) else (bif Nat.ble pc 57 then (bif Nat.beq pc 57 then (1, 2, 0, 58, 0) else (99, 0, 0, 0, 0)) else (bif Nat.ble pc 58 then (bif Nat.beq pc 58 then (9, 1, 0, 59, 0) else (99, 0, 0, 0, 0)) else (bif Nat.beq pc 59 then (12, 1, 91, 62, 0) else (99, 0, 0, 0, 0))))))) else (bif Nat.ble pc 77 then (bif Nat.ble pc 70 then (bif Nat.ble pc 63 then (bif Nat.ble pc 62 then (bif Nat.beq pc 62 then (2, 0, 0, 63, 0) else (99, 0, 0, 0, 0)) else (bif Nat.beq pc 63 then (18, 187, 0, 66, 0) else (99, 0, 0, 0, 0))) else (bif Nat.ble pc 66 then (bif Nat.beq pc 66 then (2, 0, 0, 67, 0) else (99, 0, 0, 0, 0)) else (bif Nat.ble pc 67 then (bif Nat.beq pc 67 then (7, 8, 5, 70, 0) else (99, 0, 0, 0, 0)) else (bif Nat.beq pc 70 then (2, 0, 0, 71, 0) else (99, 0, 0, 0, 0))))) else (bif Nat.ble pc 74 then (bif Nat.ble pc 71 then (bif Nat.beq pc 71 then (7, 8, 19, 74, 0) else (99, 0, 0, 0, 0)) else (bif Nat.beq pc 74 then (1, 2, 0, 75, 0) else (99, 0, 0, 0, 0))) else (bif Nat.ble pc 75 then (bif Nat.beq pc 75 then (9, 0, 0, 76, 0) else (99, 0, 0, 0, 0)) else (bif Nat.ble pc 76 then (bif Nat.beq pc 76 then (6, 1, 0, 77, 0) else (99, 0, 0, 0, 0)) else (bif Nat.beq pc 77 then (2, 0, 0, 78, 0) else (99, 0, 0, 0, 0)))))) else (bif Nat.ble pc 84 then (bif Nat.ble pc 81 then (bif Nat.ble pc 78 then (bif Nat.beq pc 78 then (7, 8, 9, 81, 0) else (99, 0, 0, 0, 0)) else (bif Nat.beq pc 81 then (1, 2, 0, 82, 0) else (99, 0, 0, 0, 0))) else (bif Nat.ble pc 82 then (bif Nat.beq pc 82 then (9, 0, 0, 83, 0) else (99, 0, 0, 0, 0)) else (bif Nat.ble pc 83 then (bif Nat.beq pc 83 then (6, 1, 0, 84, 0) else (99, 0, 0, 0, 0)) else (bif Nat.beq pc 84 then (13, 4, 91, 87, 0) else (99, 0, 0, 0, 0))))) else (bif Nat.ble pc 91 then (bif Nat.ble pc 87 then (bif Nat.beq pc 87 then (0, 0, 0, 88, 1) else (99, 0, 0, 0, 0)) else (bif Nat.ble pc 88 then (bif Nat.beq pc 88 then (16, 0, 92, 0, 0) else (99, 0, 0, 0, 0)) else (bif Nat.beq pc 91 then (0, 0, 0, 92, 0) else (99, 0, 0, 0, 0)))) else (bif Nat.ble pc 92 then (bif Nat.beq pc 92 then (19, 0, 0, 0, 0) else (99, 0, 0, 0, 0)) else (bif Nat.ble pc 93 then (bif Nat.beq pc 93 then (2, 0, 0, 94, 0) else (99, 0, 0, 0, 0)) else (bif Nat.beq pc 94 then (7, 8, 6, 97, 0) else (99, 0, 0, 0, 0)))))))) else (bif Nat.ble pc 131 then (bif Nat.ble pc 112 then (bif Nat.ble pc 103 then (bif Nat.ble pc 98 then (bif Nat.ble pc 97 then (bif Nat.beq pc 97 then (1, 2, 0, 98, 0) else (99, 0, 0, 0, 0)) else (bif Nat.beq pc 98 then (9, 0, 0, 99, 0) else (99, 0, 0, 0, 0))) else (bif Nat.ble pc 99 then (bif Nat.beq pc 99 then (12, 0, 115, 102, 0) else (99, 0, 0, 0, 0)) else (bif Nat.ble pc 102 then (bif Nat.beq pc 102 then (2, 0, 0, 103, 0) else (99, 0, 0, 0, 0)) else (bif Nat.beq pc 103 then (7, 8, 7, 106, 0) else (99, 0, 0, 0, 0))))) else (bif Nat.ble pc 107 then (bif Nat.ble pc 106 then (bif Nat.beq pc 106 then (1, 2, 0, 107, 0) else (99, 0, 0, 0, 0)) else (bif Nat.beq pc 107 then (9, 1, 0, 108, 0) else (99, 0, 0, 0, 0))) else (bif Nat.ble pc 108 then (bif Nat.beq pc 108 then (12, 1, 115, 111, 0) else (99, 0, 0, 0, 0)) else (bif Nat.ble pc 111 then (bif Nat.beq pc 111 then (0, 0, 0, 112, 1) else (99, 0, 0, 0, 0)) else (bif Nat.beq pc 112 then (16, 0, 116, 0, 0) else (99, 0, 0, 0, 0)))))) else (bif Nat.ble pc 121 then (bif Nat.ble pc 116 then (bif Nat.ble pc 115 then (bif Nat.beq pc 115 then (0, 0, 0, 116, 0) else (99, 0, 0, 0, 0)) else (bif Nat.beq pc 116 then (19, 0, 0, 0, 0) else (99, 0, 0, 0, 0))) else (bif Nat.ble pc 117 then (bif Nat.beq pc 117 then (2, 0, 0, 118, 0) else (99, 0, 0, 0, 0)) else (bif Nat.ble pc 118 then (bif Nat.beq pc 118 then (7, 8, 6, 121, 0) else (99, 0, 0, 0, 0)) else (bif Nat.beq pc 121 then (1, 2, 0, 122, 0) else (99, 0, 0, 0, 0))))) else (bif Nat.ble pc 126 then (bif Nat.ble pc 122 then (bif Nat.beq pc 122 then (9, 0, 0, 123, 0) else (99, 0, 0, 0, 0)) else (bif Nat.ble pc 123 then (bif Nat.beq pc 123 then (12, 0, 150, 126, 0) else (99, 0, 0, 0, 0)) else (bif Nat.beq pc 126 then (2, 0, 0, 127, 0) else (99, 0, 0, 0, 0)))) else (bif Nat.ble pc 127 then (bif Nat.beq pc 127 then (7, 8, 38, 130, 0) else (99, 0, 0, 0, 0)) else (bif Nat.ble pc 130 then (bif Nat.beq pc 130 then (0, 0, 0, 131, 1) else (99, 0, 0, 0, 0)) else (bif Nat.beq pc 131 then (9, 0, 0, 132, 0) else (99, 0, 0, 0, 0))))))) else (bif Nat.ble pc 147 then (bif Nat.ble pc 140 then (bif Nat.ble pc 133 then (bif Nat.ble pc 132 then (bif Nat.beq pc 132 then (2, 0, 0, 133, 0) else (99, 0, 0, 0, 0)) else (bif Nat.beq pc 133 then (7, 8, 5, 136, 0) else (99, 0, 0, 0, 0))) else (bif Nat.ble pc 136 then (bif Nat.beq pc 136 then (2, 0, 0, 137, 0) else (99, 0, 0, 0, 0)) else (bif Nat.ble pc 137 then (bif Nat.beq pc 137 then (7, 8, 8, 140, 0) else (99, 0, 0, 0, 0)) else (bif Nat.beq pc 140 then (1, 2, 0, 141, 0) else (99, 0, 0, 0, 0))))) else (bif Nat.ble pc 142 then (bif Nat.ble pc 141 then (bif Nat.beq pc 141 then (9, 0, 0, 142, 0) else (99, 0, 0, 0, 0)) else (bif Nat.beq pc 142 then (6, 1, 0, 143, 0) else (99, 0, 0, 0, 0))) else (bif Nat.ble pc 143 then (bif Nat.beq pc 143 then (13, 4, 150, 146, 0) else (99, 0, 0, 0, 0)) else (bif Nat.ble pc 146 then (bif Nat.beq pc 146 then (0, 0, 0, 147, 1) else (99, 0, 0, 0, 0)) else (bif Nat.beq pc 147 then (16, 0, 151, 0, 0) else (99, 0, 0, 0, 0)))))) else (bif Nat.ble pc 156 then (bif Nat.ble pc 151 then (bif Nat.ble pc 150 then (bif Nat.beq pc 150 then (0, 0, 0, 151, 0) else (99, 0, 0, 0, 0)) else (bif Nat.beq pc 151 then (19, 0, 0, 0, 0) else (99, 0, 0, 0, 0))) else (bif Nat.ble pc 152 then (bif Nat.beq pc 152 then (2, 0, 0, 153, 0) else (99, 0, 0, 0, 0)) else (bif Nat.ble pc 153 then (bif Nat.beq pc 153 then (7, 8, 13, 156, 0) else (99, 0, 0, 0, 0)) else (bif Nat.beq pc 156 then (1, 2, 0, 157, 0) else (99, 0, 0, 0, 0))))) else (bif Nat.ble pc 161 then (bif Nat.ble pc 157 then (bif Nat.beq pc 157 then (9, 1, 0, 158, 0) else (99, 0, 0, 0, 0)) else (bif Nat.ble pc 158 then (bif Nat.beq pc 158 then (12, 1, 165, 161, 0) else (99, 0, 0, 0, 0)) else (bif Nat.beq pc 161 then (0, 0, 0, 162, 1) else (99, 0, 0, 0, 0)))) else (bif Nat.ble pc 162 then (bif Nat.beq pc 162 then (16, 0, 166, 0, 0) else (99, 0, 0, 0, 0)) else (bif Nat.ble pc 165 then (bif Nat.beq pc 165 then (0, 0, 0, 166, 0) else (99, 0, 0, 0, 0)) else (bif Nat.beq pc 166 then (19, 0, 0, 0, 0) else (99, 0, 0, 0, 0)))))))))
def sX8_canBe : sw_T := fun pc => (bif Nat.beq pc 14 then [(1, 44), (2, 117), (3, 152), (4, 93)] else [])
set_option maxRecDepth 100000 in
theorem kX8_canBe : sw_chk cX8_canBe flX8 cnX8 sX8_canBe 166 tX8_canBe = true := by decide +kernel
def tX8_take : Nat → sw_I := fun pc => (bif Nat.ble pc 103 then (bif Nat.ble pc 68 then (bif Nat.ble pc 45 then (bif Nat.ble pc 8 then (bif Nat.ble pc 3 then (bif Nat.ble pc 0 then (bif Nat.beq pc 0 then (0, 0, 0, 2, 8) else (99, 0, 0, 0, 0)) else (bif Nat.ble pc 2 then (bif Nat.beq pc 2 then (1, 1, 0, 3, 0) else (99, 0, 0, 0, 0)) else (bif Nat.beq pc 3 then (6, 2, 0, 4, 0) else (99, 0, 0, 0, 0)))) else (bif Nat.ble pc 4 then (bif Nat.beq pc 4 then (2, 0, 0, 5, 0) else (99, 0, 0, 0, 0)) else (bif Nat.ble pc 5 then (bif Nat.beq pc 5 then (18, 190, 0, 8, 0) else (99, 0, 0, 0, 0)) else (bif Nat.beq pc 8 then (6, 0, 0, 9, 0) else (99, 0, 0, 0, 0))))) else (bif Nat.ble pc 11 then (bif Nat.ble pc 9 then (bif Nat.beq pc 9 then (3, 2, 0, 10, 0) else (99, 0, 0, 0, 0)) else (bif Nat.ble pc 10 then (bif Nat.beq pc 10 then (2, 0, 0, 11, 0) else (99, 0, 0, 0, 0)) else (bif Nat.beq pc 11 then (18, 183, 0, 14, 0) else (99, 0, 0, 0, 0)))) else (bif Nat.ble pc 14 then (bif Nat.beq pc 14 then (17, 162, 0, 0, 0) else (99, 0, 0, 0, 0)) else (bif Nat.ble pc 44 then (bif Nat.beq pc 44 then (0, 0, 0, 45, 0) else (99, 0, 0, 0, 0)) else (bif Nat.beq pc 45 then (3, 3, 0, 46, 0) else (99, 0, 0, 0, 0)))))) else (bif Nat.ble pc 55 then (bif Nat.ble pc 48 then (bif Nat.ble pc 46 then (bif Nat.beq pc 46 then (1, 3, 0, 47, 0) else (99, 0, 0, 0, 0)) else (bif Nat.ble pc 47 then (bif Nat.beq pc 47 then (2, 0, 0, 48, 0) else (99, 0, 0, 0, 0)) else (bif Nat.beq pc 48 then (18, 187, 0, 51, 0) else (99, 0, 0, 0, 0)))) else (bif Nat.ble pc 51 then (bif Nat.beq pc 51 then (13, 3, 131, 54, 0) else (99, 0, 0, 0, 0)) else (bif Nat.ble pc 54 then (bif Nat.beq pc 54 then (2, 0, 0, 55, 0) else (99, 0, 0, 0, 0)) else (bif Nat.beq pc 55 then (7, 8, 20, 58, 0) else (99, 0, 0, 0, 0))))) else (bif Nat.ble pc 62 then (bif Nat.ble pc 58 then (bif Nat.beq pc 58 then (0, 0, 0, 61, 400) else (99, 0, 0, 0, 0)) else (bif Nat.ble pc 61 then (bif Nat.beq pc 61 then (1, 2, 0, 62, 0) else (99, 0, 0, 0, 0)) else (bif Nat.beq pc 62 then (6, 2, 0, 63, 0) else (99, 0, 0, 0, 0)))) else (bif Nat.ble pc 64 then (bif Nat.ble pc 63 then (bif Nat.beq pc 63 then (2, 0, 0, 64, 0) else (99, 0, 0, 0, 0)) else (bif Nat.beq pc 64 then (7, 8, 19, 67, 0) else (99, 0, 0, 0, 0))) else (bif Nat.ble pc 67 then (bif Nat.beq pc 67 then (1, 2, 0, 68, 0) else (99, 0, 0, 0, 0)) else (bif Nat.beq pc 68 then (9, 0, 0, 69, 0) else (99, 0, 0, 0, 0))))))) else (bif Nat.ble pc 86 then (bif Nat.ble pc 76 then (bif Nat.ble pc 71 then (bif Nat.ble pc 69 then (bif Nat.beq pc 69 then (6, 0, 0, 70, 0) else (99, 0, 0, 0, 0)) else (bif Nat.ble pc 70 then (bif Nat.beq pc 70 then (2, 0, 0, 71, 0) else (99, 0, 0, 0, 0)) else (bif Nat.beq pc 71 then (7, 8, 38, 74, 0) else (99, 0, 0, 0, 0)))) else (bif Nat.ble pc 74 then (bif Nat.beq pc 74 then (0, 0, 0, 75, 2) else (99, 0, 0, 0, 0)) else (bif Nat.ble pc 75 then (bif Nat.beq pc 75 then (1, 3, 0, 76, 0) else (99, 0, 0, 0, 0)) else (bif Nat.beq pc 76 then (6, 0, 0, 77, 0) else (99, 0, 0, 0, 0))))) else (bif Nat.ble pc 79 then (bif Nat.ble pc 77 then (bif Nat.beq pc 77 then (9, 0, 0, 78, 0) else (99, 0, 0, 0, 0)) else (bif Nat.ble pc 78 then (bif Nat.beq pc 78 then (10, 0, 0, 79, 0) else (99, 0, 0, 0, 0)) else (bif Nat.beq pc 79 then (2, 0, 0, 80, 0) else (99, 0, 0, 0, 0)))) else (bif Nat.ble pc 80 then (bif Nat.beq pc 80 then (7, 8, 21, 83, 0) else (99, 0, 0, 0, 0)) else (bif Nat.ble pc 83 then (bif Nat.beq pc 83 then (0, 0, 0, 86, 400) else (99, 0, 0, 0, 0)) else (bif Nat.beq pc 86 then (1, 2, 0, 87, 0) else (99, 0, 0, 0, 0)))))) else (bif Nat.ble pc 94 then (bif Nat.ble pc 89 then (bif Nat.ble pc 87 then (bif Nat.beq pc 87 then (6, 2, 0, 88, 0) else (99, 0, 0, 0, 0)) else (bif Nat.ble pc 88 then (bif Nat.beq pc 88 then (2, 0, 0, 89, 0) else (99, 0, 0, 0, 0)) else (bif Nat.beq pc 89 then (7, 8, 19, 92, 0) else (99, 0, 0, 0, 0)))) else (bif Nat.ble pc 92 then (bif Nat.beq pc 92 then (1, 2, 0, 93, 0) else (99, 0, 0, 0, 0)) else (bif Nat.ble pc 93 then (bif Nat.beq pc 93 then (9, 0, 0, 94, 0) else (99, 0, 0, 0, 0)) else (bif Nat.beq pc 94 then (6, 0, 0, 95, 0) else (99, 0, 0, 0, 0))))) else (bif Nat.ble pc 99 then (bif Nat.ble pc 95 then (bif Nat.beq pc 95 then (2, 0, 0, 96, 0) else (99, 0, 0, 0, 0)) else (bif Nat.ble pc 96 then (bif Nat.beq pc 96 then (7, 8, 38, 99, 0) else (99, 0, 0, 0, 0)) else (bif Nat.beq pc 99 then (0, 0, 0, 100, 1) else (99, 0, 0, 0, 0)))) else (bif Nat.ble pc 101 then (bif Nat.ble pc 100 then (bif Nat.beq pc 100 then (9, 0, 0, 101, 0) else (99, 0, 0, 0, 0)) else (bif Nat.beq pc 101 then (1, 3, 0, 102, 0) else (99, 0, 0, 0, 0))) else (bif Nat.ble pc 102 then (bif Nat.beq pc 102 then (6, 7, 0, 103, 0) else (99, 0, 0, 0, 0)) else (bif Nat.beq pc 103 then (0, 0, 0, 104, 1) else (99, 0, 0, 0, 0)))))))) else (bif Nat.ble pc 144 then (bif Nat.ble pc 121 then (bif Nat.ble pc 113 then (bif Nat.ble pc 106 then (bif Nat.ble pc 104 then (bif Nat.beq pc 104 then (6, 3, 0, 105, 0) else (99, 0, 0, 0, 0)) else (bif Nat.ble pc 105 then (bif Nat.beq pc 105 then (0, 0, 0, 106, 1) else (99, 0, 0, 0, 0)) else (bif Nat.beq pc 106 then (13, 1, 113, 109, 0) else (99, 0, 0, 0, 0)))) else (bif Nat.ble pc 109 then (bif Nat.beq pc 109 then (0, 0, 0, 110, 1) else (99, 0, 0, 0, 0)) else (bif Nat.ble pc 110 then (bif Nat.beq pc 110 then (16, 0, 114, 0, 0) else (99, 0, 0, 0, 0)) else (bif Nat.beq pc 113 then (0, 0, 0, 114, 0) else (99, 0, 0, 0, 0))))) else (bif Nat.ble pc 116 then (bif Nat.ble pc 114 then (bif Nat.beq pc 114 then (10, 1, 0, 115, 0) else (99, 0, 0, 0, 0)) else (bif Nat.ble pc 115 then (bif Nat.beq pc 115 then (2, 0, 0, 116, 0) else (99, 0, 0, 0, 0)) else (bif Nat.beq pc 116 then (7, 8, 19, 119, 0) else (99, 0, 0, 0, 0)))) else (bif Nat.ble pc 119 then (bif Nat.beq pc 119 then (1, 2, 0, 120, 0) else (99, 0, 0, 0, 0)) else (bif Nat.ble pc 120 then (bif Nat.beq pc 120 then (23, 0, 0, 121, 0) else (99, 0, 0, 0, 0)) else (bif Nat.beq pc 121 then (9, 0, 0, 122, 0) else (99, 0, 0, 0, 0)))))) else (bif Nat.ble pc 131 then (bif Nat.ble pc 124 then (bif Nat.ble pc 122 then (bif Nat.beq pc 122 then (0, 0, 0, 123, 1) else (99, 0, 0, 0, 0)) else (bif Nat.ble pc 123 then (bif Nat.beq pc 123 then (6, 0, 0, 124, 0) else (99, 0, 0, 0, 0)) else (bif Nat.beq pc 124 then (10, 0, 0, 125, 0) else (99, 0, 0, 0, 0)))) else (bif Nat.ble pc 125 then (bif Nat.beq pc 125 then (5, 3, 0, 128, 1) else (99, 0, 0, 0, 0)) else (bif Nat.ble pc 128 then (bif Nat.beq pc 128 then (16, 0, 46, 0, 0) else (99, 0, 0, 0, 0)) else (bif Nat.beq pc 131 then (16, 0, 183, 0, 0) else (99, 0, 0, 0, 0))))) else (bif Nat.ble pc 138 then (bif Nat.ble pc 134 then (bif Nat.beq pc 134 then (2, 0, 0, 135, 0) else (99, 0, 0, 0, 0)) else (bif Nat.ble pc 135 then (bif Nat.beq pc 135 then (7, 8, 7, 138, 0) else (99, 0, 0, 0, 0)) else (bif Nat.beq pc 138 then (1, 2, 0, 139, 0) else (99, 0, 0, 0, 0)))) else (bif Nat.ble pc 140 then (bif Nat.ble pc 139 then (bif Nat.beq pc 139 then (0, 0, 0, 140, 1) else (99, 0, 0, 0, 0)) else (bif Nat.beq pc 140 then (10, 1, 0, 141, 0) else (99, 0, 0, 0, 0))) else (bif Nat.ble pc 141 then (bif Nat.beq pc 141 then (16, 0, 183, 0, 0) else (99, 0, 0, 0, 0)) else (bif Nat.beq pc 144 then (2, 0, 0, 145, 0) else (99, 0, 0, 0, 0))))))) else (bif Nat.ble pc 162 then (bif Nat.ble pc 152 then (bif Nat.ble pc 149 then (bif Nat.ble pc 145 then (bif Nat.beq pc 145 then (7, 8, 8, 148, 0) else (99, 0, 0, 0, 0)) else (bif Nat.ble pc 148 then (bif Nat.beq pc 148 then (1, 2, 0, 149, 0) else (99, 0, 0, 0, 0)) else (bif Nat.beq pc 149 then (23, 0, 0, 150, 0) else (99, 0, 0, 0, 0)))) else (bif Nat.ble pc 150 then (bif Nat.beq pc 150 then (9, 0, 0, 151, 0) else (99, 0, 0, 0, 0)) else (bif Nat.ble pc 151 then (bif Nat.beq pc 151 then (2, 0, 0, 152, 0) else (99, 0, 0, 0, 0)) else (bif Nat.beq pc 152 then (7, 8, 38, 155, 0) else (99, 0, 0, 0, 0))))) else (bif Nat.ble pc 157 then (bif Nat.ble pc 155 then (bif Nat.beq pc 155 then (0, 0, 0, 156, 1) else (99, 0, 0, 0, 0)) else (bif Nat.ble pc 156 then (bif Nat.beq pc 156 then (9, 0, 0, 157, 0) else (99, 0, 0, 0, 0)) else (bif Nat.beq pc 157 then (6, 0, 0, 158, 0) else (99, 0, 0, 0, 0)))) else (bif Nat.ble pc 158 then (bif Nat.beq pc 158 then (10, 0, 0, 159, 0) else (99, 0, 0, 0, 0)) else (bif Nat.ble pc 159 then (bif Nat.beq pc 159 then (16, 0, 183, 0, 0) else (99, 0, 0, 0, 0)) else (bif Nat.beq pc 162 then (2, 0, 0, 163, 0) else (99, 0, 0, 0, 0)))))) else (bif Nat.ble pc 170 then (bif Nat.ble pc 167 then (bif Nat.ble pc 163 then (bif Nat.beq pc 163 then (7, 8, 13, 166, 0) else (99, 0, 0, 0, 0)) else (bif Nat.ble pc 166 then (bif Nat.beq pc 166 then (1, 2, 0, 167, 0) else (99, 0, 0, 0, 0)) else (bif Nat.beq pc 167 then (0, 0, 0, 168, 1) else (99, 0, 0, 0, 0)))) else (bif Nat.ble pc 168 then (bif Nat.beq pc 168 then (10, 1, 0, 169, 0) else (99, 0, 0, 0, 0)) else (bif Nat.ble pc 169 then (bif Nat.beq pc 169 then (2, 0, 0, 170, 0) else (99, 0, 0, 0, 0)) else (bif Nat.beq pc 170 then (7, 8, 6, 173, 0) else (99, 0, 0, 0, 0))))) else (bif Nat.ble pc 175 then (bif Nat.ble pc 173 then (bif Nat.beq pc 173 then (1, 2, 0, 174, 0) else (99, 0, 0, 0, 0)) else (bif Nat.ble pc 174 then (bif Nat.beq pc 174 then (9, 0, 0, 175, 0) else (99, 0, 0, 0, 0)) else (bif Nat.beq pc 175 then (12, 1, 183, 178, 0) else (99, 0, 0, 0, 0)))) else (bif Nat.ble pc 179 then (bif Nat.ble pc 178 then (bif Nat.beq pc 178 then (2, 0, 0, 179, 0) else (99, 0, 0, 0, 0)) else (bif Nat.beq pc 179 then (1, 2, 0, 180, 0) else (99, 0, 0, 0, 0))) else (bif Nat.ble pc 180 then (bif Nat.beq pc 180 then (18, 141, 0, 183, 0) else (99, 0, 0, 0, 0)) else (bif Nat.beq pc 183 then (21, 0, 0, 0, 0) else (99, 0, 0, 0, 0)))))))))
def sX8_take : sw_T := fun pc => (bif Nat.beq pc 14 then [(1, 44), (2, 144), (3, 162), (4, 134)] else [])
set_option maxRecDepth 100000 in
theorem kX8_take : sw_chk cX8_take flX8 cnX8 sX8_take 183 tX8_take = true := by decide +kernel
def tX8_deliver : Nat → sw_I := fun pc => (bif Nat.ble pc 120 then (bif Nat.ble pc 59 then (bif Nat.ble pc 28 then (bif Nat.ble pc 14 then (bif Nat.ble pc 7 then (bif Nat.ble pc 1 then (bif Nat.ble pc 0 then (bif Nat.beq pc 0 then (1, 1, 0, 1, 0) else (99, 0, 0, 0, 0)) else (bif Nat.beq pc 1 then (18, 133, 1, 4, 0) else (99, 0, 0, 0, 0))) else (bif Nat.ble pc 4 then (bif Nat.beq pc 4 then (12, 1, 9, 7, 0) else (99, 0, 0, 0, 0)) else (bif Nat.beq pc 7 then (0, 0, 0, 8, (-1)) else (99, 0, 0, 0, 0)))) else (bif Nat.ble pc 9 then (bif Nat.ble pc 8 then (bif Nat.beq pc 8 then (19, 0, 0, 0, 0) else (99, 0, 0, 0, 0)) else (bif Nat.beq pc 9 then (2, 0, 0, 10, 0) else (99, 0, 0, 0, 0))) else (bif Nat.ble pc 10 then (bif Nat.beq pc 10 then (7, 8, 25, 13, 0) else (99, 0, 0, 0, 0)) else (bif Nat.ble pc 13 then (bif Nat.beq pc 13 then (1, 1, 0, 14, 0) else (99, 0, 0, 0, 0)) else (bif Nat.beq pc 14 then (9, 0, 0, 15, 0) else (99, 0, 0, 0, 0)))))) else (bif Nat.ble pc 20 then (bif Nat.ble pc 18 then (bif Nat.ble pc 15 then (bif Nat.beq pc 15 then (12, 1, 20, 18, 0) else (99, 0, 0, 0, 0)) else (bif Nat.beq pc 18 then (0, 0, 0, 19, 0) else (99, 0, 0, 0, 0))) else (bif Nat.ble pc 19 then (bif Nat.beq pc 19 then (19, 0, 0, 0, 0) else (99, 0, 0, 0, 0)) else (bif Nat.beq pc 20 then (2, 0, 0, 21, 0) else (99, 0, 0, 0, 0)))) else (bif Nat.ble pc 22 then (bif Nat.ble pc 21 then (bif Nat.beq pc 21 then (2, 0, 0, 22, 0) else (99, 0, 0, 0, 0)) else (bif Nat.beq pc 22 then (7, 8, 26, 25, 0) else (99, 0, 0, 0, 0))) else (bif Nat.ble pc 25 then (bif Nat.beq pc 25 then (0, 0, 0, 27, 20) else (99, 0, 0, 0, 0)) else (bif Nat.ble pc 27 then (bif Nat.beq pc 27 then (1, 1, 0, 28, 0) else (99, 0, 0, 0, 0)) else (bif Nat.beq pc 28 then (6, 2, 0, 29, 0) else (99, 0, 0, 0, 0))))))) else (bif Nat.ble pc 43 then (bif Nat.ble pc 34 then (bif Nat.ble pc 30 then (bif Nat.ble pc 29 then (bif Nat.beq pc 29 then (9, 0, 0, 30, 0) else (99, 0, 0, 0, 0)) else (bif Nat.beq pc 30 then (8, 8, 39, 33, 0) else (99, 0, 0, 0, 0))) else (bif Nat.ble pc 33 then (bif Nat.beq pc 33 then (0, 0, 0, 34, 0) else (99, 0, 0, 0, 0)) else (bif Nat.beq pc 34 then (3, 2, 0, 35, 0) else (99, 0, 0, 0, 0)))) else (bif Nat.ble pc 36 then (bif Nat.ble pc 35 then (bif Nat.beq pc 35 then (1, 2, 0, 36, 0) else (99, 0, 0, 0, 0)) else (bif Nat.beq pc 36 then (2, 0, 0, 37, 0) else (99, 0, 0, 0, 0))) else (bif Nat.ble pc 37 then (bif Nat.beq pc 37 then (7, 8, 39, 40, 0) else (99, 0, 0, 0, 0)) else (bif Nat.ble pc 40 then (bif Nat.beq pc 40 then (13, 3, 67, 43, 0) else (99, 0, 0, 0, 0)) else (bif Nat.beq pc 43 then (2, 0, 0, 44, 0) else (99, 0, 0, 0, 0)))))) else (bif Nat.ble pc 52 then (bif Nat.ble pc 47 then (bif Nat.ble pc 44 then (bif Nat.beq pc 44 then (7, 8, 38, 47, 0) else (99, 0, 0, 0, 0)) else (bif Nat.beq pc 47 then (1, 2, 0, 48, 0) else (99, 0, 0, 0, 0))) else (bif Nat.ble pc 48 then (bif Nat.beq pc 48 then (2, 0, 0, 49, 0) else (99, 0, 0, 0, 0)) else (bif Nat.ble pc 49 then (bif Nat.beq pc 49 then (7, 8, 27, 52, 0) else (99, 0, 0, 0, 0)) else (bif Nat.beq pc 52 then (0, 0, 0, 55, 380) else (99, 0, 0, 0, 0))))) else (bif Nat.ble pc 56 then (bif Nat.ble pc 55 then (bif Nat.beq pc 55 then (1, 1, 0, 56, 0) else (99, 0, 0, 0, 0)) else (bif Nat.beq pc 56 then (6, 2, 0, 57, 0) else (99, 0, 0, 0, 0))) else (bif Nat.ble pc 57 then (bif Nat.beq pc 57 then (1, 2, 0, 58, 0) else (99, 0, 0, 0, 0)) else (bif Nat.ble pc 58 then (bif Nat.beq pc 58 then (6, 0, 0, 59, 0) else (99, 0, 0, 0, 0)) else (bif Nat.beq pc 59 then (9, 0, 0, 60, 0) else (99, 0, 0, 0, 0)))))))) else (bif Nat.ble pc 90 then (bif Nat.ble pc 74 then (bif Nat.ble pc 67 then (bif Nat.ble pc 61 then (bif Nat.ble pc 60 then (bif Nat.beq pc 60 then (10, 0, 0, 61, 0) else (99, 0, 0, 0, 0)) else (bif Nat.beq pc 61 then (5, 2, 0, 64, 1) else (99, 0, 0, 0, 0))) else (bif Nat.ble pc 64 then (bif Nat.beq pc 64 then (16, 0, 35, 0, 0) else (99, 0, 0, 0, 0)) else (bif Nat.beq pc 67 then (2, 0, 0, 68, 0) else (99, 0, 0, 0, 0)))) else (bif Nat.ble pc 69 then (bif Nat.ble pc 68 then (bif Nat.beq pc 68 then (1, 1, 0, 69, 0) else (99, 0, 0, 0, 0)) else (bif Nat.beq pc 69 then (18, 194, 0, 72, 0) else (99, 0, 0, 0, 0))) else (bif Nat.ble pc 72 then (bif Nat.beq pc 72 then (0, 0, 0, 73, 1) else (99, 0, 0, 0, 0)) else (bif Nat.ble pc 73 then (bif Nat.beq pc 73 then (1, 1, 0, 74, 0) else (99, 0, 0, 0, 0)) else (bif Nat.beq pc 74 then (6, 1, 0, 75, 0) else (99, 0, 0, 0, 0)))))) else (bif Nat.ble pc 83 then (bif Nat.ble pc 76 then (bif Nat.ble pc 75 then (bif Nat.beq pc 75 then (3, 2, 0, 76, 0) else (99, 0, 0, 0, 0)) else (bif Nat.beq pc 76 then (2, 0, 0, 77, 0) else (99, 0, 0, 0, 0))) else (bif Nat.ble pc 77 then (bif Nat.beq pc 77 then (18, 197, 0, 80, 0) else (99, 0, 0, 0, 0)) else (bif Nat.ble pc 80 then (bif Nat.beq pc 80 then (12, 1, 95, 83, 0) else (99, 0, 0, 0, 0)) else (bif Nat.beq pc 83 then (2, 0, 0, 84, 0) else (99, 0, 0, 0, 0))))) else (bif Nat.ble pc 87 then (bif Nat.ble pc 84 then (bif Nat.beq pc 84 then (7, 8, 35, 87, 0) else (99, 0, 0, 0, 0)) else (bif Nat.beq pc 87 then (1, 2, 0, 88, 0) else (99, 0, 0, 0, 0))) else (bif Nat.ble pc 88 then (bif Nat.beq pc 88 then (23, 0, 0, 89, 0) else (99, 0, 0, 0, 0)) else (bif Nat.ble pc 89 then (bif Nat.beq pc 89 then (9, 0, 0, 90, 0) else (99, 0, 0, 0, 0)) else (bif Nat.beq pc 90 then (0, 0, 0, 91, 1) else (99, 0, 0, 0, 0))))))) else (bif Nat.ble pc 101 then (bif Nat.ble pc 94 then (bif Nat.ble pc 92 then (bif Nat.ble pc 91 then (bif Nat.beq pc 91 then (6, 0, 0, 92, 0) else (99, 0, 0, 0, 0)) else (bif Nat.beq pc 92 then (10, 0, 0, 93, 0) else (99, 0, 0, 0, 0))) else (bif Nat.ble pc 93 then (bif Nat.beq pc 93 then (0, 0, 0, 94, 2) else (99, 0, 0, 0, 0)) else (bif Nat.beq pc 94 then (19, 0, 0, 0, 0) else (99, 0, 0, 0, 0)))) else (bif Nat.ble pc 96 then (bif Nat.ble pc 95 then (bif Nat.beq pc 95 then (2, 0, 0, 96, 0) else (99, 0, 0, 0, 0)) else (bif Nat.beq pc 96 then (1, 2, 0, 97, 0) else (99, 0, 0, 0, 0))) else (bif Nat.ble pc 97 then (bif Nat.beq pc 97 then (2, 0, 0, 98, 0) else (99, 0, 0, 0, 0)) else (bif Nat.ble pc 98 then (bif Nat.beq pc 98 then (7, 8, 38, 101, 0) else (99, 0, 0, 0, 0)) else (bif Nat.beq pc 101 then (0, 0, 0, 102, 0) else (99, 0, 0, 0, 0)))))) else (bif Nat.ble pc 109 then (bif Nat.ble pc 103 then (bif Nat.ble pc 102 then (bif Nat.beq pc 102 then (9, 0, 0, 103, 0) else (99, 0, 0, 0, 0)) else (bif Nat.beq pc 103 then (0, 0, 0, 105, 16) else (99, 0, 0, 0, 0))) else (bif Nat.ble pc 105 then (bif Nat.beq pc 105 then (6, 8, 0, 106, 0) else (99, 0, 0, 0, 0)) else (bif Nat.ble pc 106 then (bif Nat.beq pc 106 then (0, 0, 0, 109, 255) else (99, 0, 0, 0, 0)) else (bif Nat.beq pc 109 then (6, 3, 0, 110, 0) else (99, 0, 0, 0, 0))))) else (bif Nat.ble pc 113 then (bif Nat.ble pc 110 then (bif Nat.beq pc 110 then (18, 201, 0, 113, 0) else (99, 0, 0, 0, 0)) else (bif Nat.beq pc 113 then (2, 0, 0, 114, 0) else (99, 0, 0, 0, 0))) else (bif Nat.ble pc 114 then (bif Nat.beq pc 114 then (18, 183, 0, 117, 0) else (99, 0, 0, 0, 0)) else (bif Nat.ble pc 117 then (bif Nat.beq pc 117 then (12, 1, 122, 120, 0) else (99, 0, 0, 0, 0)) else (bif Nat.beq pc 120 then (0, 0, 0, 121, 3) else (99, 0, 0, 0, 0))))))))) else (bif Nat.ble pc 177 then (bif Nat.ble pc 150 then (bif Nat.ble pc 134 then (bif Nat.ble pc 126 then (bif Nat.ble pc 122 then (bif Nat.ble pc 121 then (bif Nat.beq pc 121 then (19, 0, 0, 0, 0) else (99, 0, 0, 0, 0)) else (bif Nat.beq pc 122 then (2, 0, 0, 123, 0) else (99, 0, 0, 0, 0))) else (bif Nat.ble pc 123 then (bif Nat.beq pc 123 then (7, 8, 38, 126, 0) else (99, 0, 0, 0, 0)) else (bif Nat.beq pc 126 then (0, 0, 0, 127, 0) else (99, 0, 0, 0, 0)))) else (bif Nat.ble pc 128 then (bif Nat.ble pc 127 then (bif Nat.beq pc 127 then (9, 0, 0, 128, 0) else (99, 0, 0, 0, 0)) else (bif Nat.beq pc 128 then (0, 0, 0, 130, 8) else (99, 0, 0, 0, 0))) else (bif Nat.ble pc 130 then (bif Nat.beq pc 130 then (6, 8, 0, 131, 0) else (99, 0, 0, 0, 0)) else (bif Nat.ble pc 131 then (bif Nat.beq pc 131 then (0, 0, 0, 134, 255) else (99, 0, 0, 0, 0)) else (bif Nat.beq pc 134 then (6, 3, 0, 135, 0) else (99, 0, 0, 0, 0)))))) else (bif Nat.ble pc 141 then (bif Nat.ble pc 136 then (bif Nat.ble pc 135 then (bif Nat.beq pc 135 then (2, 0, 0, 136, 0) else (99, 0, 0, 0, 0)) else (bif Nat.beq pc 136 then (7, 8, 29, 139, 0) else (99, 0, 0, 0, 0))) else (bif Nat.ble pc 139 then (bif Nat.beq pc 139 then (1, 2, 0, 140, 0) else (99, 0, 0, 0, 0)) else (bif Nat.ble pc 140 then (bif Nat.beq pc 140 then (9, 0, 0, 141, 0) else (99, 0, 0, 0, 0)) else (bif Nat.beq pc 141 then (13, 0, 163, 144, 0) else (99, 0, 0, 0, 0))))) else (bif Nat.ble pc 145 then (bif Nat.ble pc 144 then (bif Nat.beq pc 144 then (2, 0, 0, 145, 0) else (99, 0, 0, 0, 0)) else (bif Nat.beq pc 145 then (7, 8, 36, 148, 0) else (99, 0, 0, 0, 0))) else (bif Nat.ble pc 148 then (bif Nat.beq pc 148 then (1, 2, 0, 149, 0) else (99, 0, 0, 0, 0)) else (bif Nat.ble pc 149 then (bif Nat.beq pc 149 then (23, 0, 0, 150, 0) else (99, 0, 0, 0, 0)) else (bif Nat.beq pc 150 then (9, 0, 0, 151, 0) else (99, 0, 0, 0, 0))))))) else (bif Nat.ble pc 161 then (bif Nat.ble pc 154 then (bif Nat.ble pc 152 then (bif Nat.ble pc 151 then (bif Nat.beq pc 151 then (0, 0, 0, 152, 1) else (99, 0, 0, 0, 0)) else (bif Nat.beq pc 152 then (6, 0, 0, 153, 0) else (99, 0, 0, 0, 0))) else (bif Nat.ble pc 153 then (bif Nat.beq pc 153 then (10, 0, 0, 154, 0) else (99, 0, 0, 0, 0)) else (bif Nat.beq pc 154 then (2, 0, 0, 155, 0) else (99, 0, 0, 0, 0)))) else (bif Nat.ble pc 158 then (bif Nat.ble pc 155 then (bif Nat.beq pc 155 then (7, 8, 32, 158, 0) else (99, 0, 0, 0, 0)) else (bif Nat.beq pc 158 then (1, 2, 0, 159, 0) else (99, 0, 0, 0, 0))) else (bif Nat.ble pc 159 then (bif Nat.beq pc 159 then (0, 0, 0, 160, 1) else (99, 0, 0, 0, 0)) else (bif Nat.ble pc 160 then (bif Nat.beq pc 160 then (10, 1, 0, 161, 0) else (99, 0, 0, 0, 0)) else (bif Nat.beq pc 161 then (0, 0, 0, 162, 4) else (99, 0, 0, 0, 0)))))) else (bif Nat.ble pc 168 then (bif Nat.ble pc 163 then (bif Nat.ble pc 162 then (bif Nat.beq pc 162 then (19, 0, 0, 0, 0) else (99, 0, 0, 0, 0)) else (bif Nat.beq pc 163 then (2, 0, 0, 164, 0) else (99, 0, 0, 0, 0))) else (bif Nat.ble pc 164 then (bif Nat.beq pc 164 then (1, 2, 0, 165, 0) else (99, 0, 0, 0, 0)) else (bif Nat.ble pc 165 then (bif Nat.beq pc 165 then (18, 204, 0, 168, 0) else (99, 0, 0, 0, 0)) else (bif Nat.beq pc 168 then (12, 1, 183, 171, 0) else (99, 0, 0, 0, 0))))) else (bif Nat.ble pc 172 then (bif Nat.ble pc 171 then (bif Nat.beq pc 171 then (2, 0, 0, 172, 0) else (99, 0, 0, 0, 0)) else (bif Nat.beq pc 172 then (7, 8, 35, 175, 0) else (99, 0, 0, 0, 0))) else (bif Nat.ble pc 175 then (bif Nat.beq pc 175 then (1, 2, 0, 176, 0) else (99, 0, 0, 0, 0)) else (bif Nat.ble pc 176 then (bif Nat.beq pc 176 then (23, 0, 0, 177, 0) else (99, 0, 0, 0, 0)) else (bif Nat.beq pc 177 then (9, 0, 0, 178, 0) else (99, 0, 0, 0, 0)))))))) else (bif Nat.ble pc 202 then (bif Nat.ble pc 188 then (bif Nat.ble pc 181 then (bif Nat.ble pc 179 then (bif Nat.ble pc 178 then (bif Nat.beq pc 178 then (0, 0, 0, 179, 1) else (99, 0, 0, 0, 0)) else (bif Nat.beq pc 179 then (6, 0, 0, 180, 0) else (99, 0, 0, 0, 0))) else (bif Nat.ble pc 180 then (bif Nat.beq pc 180 then (10, 0, 0, 181, 0) else (99, 0, 0, 0, 0)) else (bif Nat.beq pc 181 then (0, 0, 0, 182, 2) else (99, 0, 0, 0, 0)))) else (bif Nat.ble pc 183 then (bif Nat.ble pc 182 then (bif Nat.beq pc 182 then (19, 0, 0, 0, 0) else (99, 0, 0, 0, 0)) else (bif Nat.beq pc 183 then (2, 0, 0, 184, 0) else (99, 0, 0, 0, 0))) else (bif Nat.ble pc 184 then (bif Nat.beq pc 184 then (1, 2, 0, 185, 0) else (99, 0, 0, 0, 0)) else (bif Nat.ble pc 185 then (bif Nat.beq pc 185 then (18, 207, 0, 188, 0) else (99, 0, 0, 0, 0)) else (bif Nat.beq pc 188 then (2, 0, 0, 189, 0) else (99, 0, 0, 0, 0)))))) else (bif Nat.ble pc 197 then (bif Nat.ble pc 192 then (bif Nat.ble pc 189 then (bif Nat.beq pc 189 then (7, 8, 29, 192, 0) else (99, 0, 0, 0, 0)) else (bif Nat.beq pc 192 then (1, 2, 0, 193, 0) else (99, 0, 0, 0, 0))) else (bif Nat.ble pc 193 then (bif Nat.beq pc 193 then (2, 0, 0, 194, 0) else (99, 0, 0, 0, 0)) else (bif Nat.ble pc 194 then (bif Nat.beq pc 194 then (7, 8, 29, 197, 0) else (99, 0, 0, 0, 0)) else (bif Nat.beq pc 197 then (1, 2, 0, 198, 0) else (99, 0, 0, 0, 0))))) else (bif Nat.ble pc 199 then (bif Nat.ble pc 198 then (bif Nat.beq pc 198 then (9, 0, 0, 199, 0) else (99, 0, 0, 0, 0)) else (bif Nat.beq pc 199 then (0, 0, 0, 200, 1) else (99, 0, 0, 0, 0))) else (bif Nat.ble pc 200 then (bif Nat.beq pc 200 then (6, 0, 0, 201, 0) else (99, 0, 0, 0, 0)) else (bif Nat.ble pc 201 then (bif Nat.beq pc 201 then (2, 0, 0, 202, 0) else (99, 0, 0, 0, 0)) else (bif Nat.beq pc 202 then (7, 8, 2, 205, 0) else (99, 0, 0, 0, 0))))))) else (bif Nat.ble pc 215 then (bif Nat.ble pc 208 then (bif Nat.ble pc 206 then (bif Nat.ble pc 205 then (bif Nat.beq pc 205 then (0, 0, 0, 206, 1) else (99, 0, 0, 0, 0)) else (bif Nat.beq pc 206 then (6, 0, 0, 207, 0) else (99, 0, 0, 0, 0))) else (bif Nat.ble pc 207 then (bif Nat.beq pc 207 then (27, 0, 0, 208, 0) else (99, 0, 0, 0, 0)) else (bif Nat.beq pc 208 then (10, 0, 0, 209, 0) else (99, 0, 0, 0, 0)))) else (bif Nat.ble pc 210 then (bif Nat.ble pc 209 then (bif Nat.beq pc 209 then (2, 0, 0, 210, 0) else (99, 0, 0, 0, 0)) else (bif Nat.beq pc 210 then (7, 8, 34, 213, 0) else (99, 0, 0, 0, 0))) else (bif Nat.ble pc 213 then (bif Nat.beq pc 213 then (1, 2, 0, 214, 0) else (99, 0, 0, 0, 0)) else (bif Nat.ble pc 214 then (bif Nat.beq pc 214 then (23, 0, 0, 215, 0) else (99, 0, 0, 0, 0)) else (bif Nat.beq pc 215 then (9, 0, 0, 216, 0) else (99, 0, 0, 0, 0)))))) else (bif Nat.ble pc 220 then (bif Nat.ble pc 217 then (bif Nat.ble pc 216 then (bif Nat.beq pc 216 then (0, 0, 0, 217, 1) else (99, 0, 0, 0, 0)) else (bif Nat.beq pc 217 then (6, 0, 0, 218, 0) else (99, 0, 0, 0, 0))) else (bif Nat.ble pc 218 then (bif Nat.beq pc 218 then (10, 0, 0, 219, 0) else (99, 0, 0, 0, 0)) else (bif Nat.ble pc 219 then (bif Nat.beq pc 219 then (2, 0, 0, 220, 0) else (99, 0, 0, 0, 0)) else (bif Nat.beq pc 220 then (7, 8, 32, 223, 0) else (99, 0, 0, 0, 0))))) else (bif Nat.ble pc 224 then (bif Nat.ble pc 223 then (bif Nat.beq pc 223 then (1, 2, 0, 224, 0) else (99, 0, 0, 0, 0)) else (bif Nat.beq pc 224 then (0, 0, 0, 225, 1) else (99, 0, 0, 0, 0))) else (bif Nat.ble pc 225 then (bif Nat.beq pc 225 then (10, 1, 0, 226, 0) else (99, 0, 0, 0, 0)) else (bif Nat.ble pc 226 then (bif Nat.beq pc 226 then (0, 0, 0, 227, 1) else (99, 0, 0, 0, 0)) else (bif Nat.beq pc 227 then (19, 0, 0, 0, 0) else (99, 0, 0, 0, 0))))))))))
def sX8_deliver : sw_T := fun _ => []
set_option maxRecDepth 100000 in
theorem kX8_deliver : sw_chk cX8_deliver flX8 cnX8 sX8_deliver 227 tX8_deliver = true := by decide +kernel
def tX8_lose : Nat → sw_I := fun pc => (bif Nat.ble pc 12 then (bif Nat.ble pc 4 then (bif Nat.ble pc 0 then (bif Nat.beq pc 0 then (1, 1, 0, 1, 0) else (99, 0, 0, 0, 0)) else (bif Nat.ble pc 1 then (bif Nat.beq pc 1 then (18, 133, 1, 4, 0) else (99, 0, 0, 0, 0)) else (bif Nat.beq pc 4 then (12, 0, 16, 7, 0) else (99, 0, 0, 0, 0)))) else (bif Nat.ble pc 8 then (bif Nat.ble pc 7 then (bif Nat.beq pc 7 then (2, 0, 0, 8, 0) else (99, 0, 0, 0, 0)) else (bif Nat.beq pc 8 then (7, 8, 25, 11, 0) else (99, 0, 0, 0, 0))) else (bif Nat.ble pc 11 then (bif Nat.beq pc 11 then (1, 1, 0, 12, 0) else (99, 0, 0, 0, 0)) else (bif Nat.beq pc 12 then (9, 0, 0, 13, 0) else (99, 0, 0, 0, 0))))) else (bif Nat.ble pc 18 then (bif Nat.ble pc 16 then (bif Nat.ble pc 13 then (bif Nat.beq pc 13 then (12, 1, 18, 16, 0) else (99, 0, 0, 0, 0)) else (bif Nat.beq pc 16 then (0, 0, 0, 17, 0) else (99, 0, 0, 0, 0))) else (bif Nat.ble pc 17 then (bif Nat.beq pc 17 then (19, 0, 0, 0, 0) else (99, 0, 0, 0, 0)) else (bif Nat.beq pc 18 then (2, 0, 0, 19, 0) else (99, 0, 0, 0, 0)))) else (bif Nat.ble pc 20 then (bif Nat.ble pc 19 then (bif Nat.beq pc 19 then (1, 1, 0, 20, 0) else (99, 0, 0, 0, 0)) else (bif Nat.beq pc 20 then (18, 194, 0, 23, 0) else (99, 0, 0, 0, 0))) else (bif Nat.ble pc 23 then (bif Nat.beq pc 23 then (0, 0, 0, 24, 1) else (99, 0, 0, 0, 0)) else (bif Nat.beq pc 24 then (19, 0, 0, 0, 0) else (99, 0, 0, 0, 0))))))
def sX8_lose : sw_T := fun _ => []
set_option maxRecDepth 100000 in
theorem kX8_lose : sw_chk cX8_lose flX8 cnX8 sX8_lose 24 tX8_lose = true := by decide +kernel
def tX8_corrupt : Nat → sw_I := fun pc => (bif Nat.ble pc 30 then (bif Nat.ble pc 16 then (bif Nat.ble pc 7 then (bif Nat.ble pc 1 then (bif Nat.ble pc 0 then (bif Nat.beq pc 0 then (1, 1, 0, 1, 0) else (99, 0, 0, 0, 0)) else (bif Nat.beq pc 1 then (18, 133, 1, 4, 0) else (99, 0, 0, 0, 0))) else (bif Nat.ble pc 4 then (bif Nat.beq pc 4 then (12, 0, 37, 7, 0) else (99, 0, 0, 0, 0)) else (bif Nat.beq pc 7 then (2, 0, 0, 8, 0) else (99, 0, 0, 0, 0)))) else (bif Nat.ble pc 11 then (bif Nat.ble pc 8 then (bif Nat.beq pc 8 then (7, 8, 25, 11, 0) else (99, 0, 0, 0, 0)) else (bif Nat.beq pc 11 then (1, 1, 0, 12, 0) else (99, 0, 0, 0, 0))) else (bif Nat.ble pc 12 then (bif Nat.beq pc 12 then (9, 0, 0, 13, 0) else (99, 0, 0, 0, 0)) else (bif Nat.ble pc 13 then (bif Nat.beq pc 13 then (12, 0, 37, 16, 0) else (99, 0, 0, 0, 0)) else (bif Nat.beq pc 16 then (1, 2, 0, 17, 0) else (99, 0, 0, 0, 0)))))) else (bif Nat.ble pc 22 then (bif Nat.ble pc 20 then (bif Nat.ble pc 17 then (bif Nat.beq pc 17 then (12, 2, 37, 20, 0) else (99, 0, 0, 0, 0)) else (bif Nat.beq pc 20 then (1, 2, 0, 21, 0) else (99, 0, 0, 0, 0))) else (bif Nat.ble pc 21 then (bif Nat.beq pc 21 then (2, 0, 0, 22, 0) else (99, 0, 0, 0, 0)) else (bif Nat.beq pc 22 then (7, 8, 26, 25, 0) else (99, 0, 0, 0, 0)))) else (bif Nat.ble pc 27 then (bif Nat.ble pc 25 then (bif Nat.beq pc 25 then (0, 0, 0, 27, 20) else (99, 0, 0, 0, 0)) else (bif Nat.beq pc 27 then (1, 1, 0, 28, 0) else (99, 0, 0, 0, 0))) else (bif Nat.ble pc 28 then (bif Nat.beq pc 28 then (6, 2, 0, 29, 0) else (99, 0, 0, 0, 0)) else (bif Nat.ble pc 29 then (bif Nat.beq pc 29 then (9, 0, 0, 30, 0) else (99, 0, 0, 0, 0)) else (bif Nat.beq pc 30 then (13, 3, 37, 33, 0) else (99, 0, 0, 0, 0))))))) else (bif Nat.ble pc 47 then (bif Nat.ble pc 38 then (bif Nat.ble pc 34 then (bif Nat.ble pc 33 then (bif Nat.beq pc 33 then (1, 3, 0, 34, 0) else (99, 0, 0, 0, 0)) else (bif Nat.beq pc 34 then (12, 1, 39, 37, 0) else (99, 0, 0, 0, 0))) else (bif Nat.ble pc 37 then (bif Nat.beq pc 37 then (0, 0, 0, 38, 0) else (99, 0, 0, 0, 0)) else (bif Nat.beq pc 38 then (19, 0, 0, 0, 0) else (99, 0, 0, 0, 0)))) else (bif Nat.ble pc 40 then (bif Nat.ble pc 39 then (bif Nat.beq pc 39 then (2, 0, 0, 40, 0) else (99, 0, 0, 0, 0)) else (bif Nat.beq pc 40 then (7, 8, 27, 43, 0) else (99, 0, 0, 0, 0))) else (bif Nat.ble pc 43 then (bif Nat.beq pc 43 then (0, 0, 0, 46, 380) else (99, 0, 0, 0, 0)) else (bif Nat.ble pc 46 then (bif Nat.beq pc 46 then (1, 1, 0, 47, 0) else (99, 0, 0, 0, 0)) else (bif Nat.beq pc 47 then (6, 2, 0, 48, 0) else (99, 0, 0, 0, 0)))))) else (bif Nat.ble pc 51 then (bif Nat.ble pc 49 then (bif Nat.ble pc 48 then (bif Nat.beq pc 48 then (1, 2, 0, 49, 0) else (99, 0, 0, 0, 0)) else (bif Nat.beq pc 49 then (6, 0, 0, 50, 0) else (99, 0, 0, 0, 0))) else (bif Nat.ble pc 50 then (bif Nat.beq pc 50 then (23, 0, 0, 51, 0) else (99, 0, 0, 0, 0)) else (bif Nat.beq pc 51 then (9, 0, 0, 52, 0) else (99, 0, 0, 0, 0)))) else (bif Nat.ble pc 53 then (bif Nat.ble pc 52 then (bif Nat.beq pc 52 then (1, 3, 0, 53, 0) else (99, 0, 0, 0, 0)) else (bif Nat.beq pc 53 then (6, 5, 0, 54, 0) else (99, 0, 0, 0, 0))) else (bif Nat.ble pc 54 then (bif Nat.beq pc 54 then (10, 0, 0, 55, 0) else (99, 0, 0, 0, 0)) else (bif Nat.ble pc 55 then (bif Nat.beq pc 55 then (0, 0, 0, 56, 1) else (99, 0, 0, 0, 0)) else (bif Nat.beq pc 56 then (19, 0, 0, 0, 0) else (99, 0, 0, 0, 0))))))))
def sX8_corrupt : sw_T := fun _ => []
set_option maxRecDepth 100000 in
theorem kX8_corrupt : sw_chk cX8_corrupt flX8 cnX8 sX8_corrupt 56 tX8_corrupt = true := by decide +kernel
def tX8_timeout : Nat → sw_I := fun pc => (bif Nat.ble pc 66 then (bif Nat.ble pc 34 then (bif Nat.ble pc 13 then (bif Nat.ble pc 8 then (bif Nat.ble pc 1 then (bif Nat.ble pc 0 then (bif Nat.beq pc 0 then (1, 1, 0, 1, 0) else (99, 0, 0, 0, 0)) else (bif Nat.beq pc 1 then (18, 133, 1, 4, 0) else (99, 0, 0, 0, 0))) else (bif Nat.ble pc 4 then (bif Nat.beq pc 4 then (12, 1, 9, 7, 0) else (99, 0, 0, 0, 0)) else (bif Nat.ble pc 7 then (bif Nat.beq pc 7 then (0, 0, 0, 8, (-1)) else (99, 0, 0, 0, 0)) else (bif Nat.beq pc 8 then (19, 0, 0, 0, 0) else (99, 0, 0, 0, 0))))) else (bif Nat.ble pc 10 then (bif Nat.ble pc 9 then (bif Nat.beq pc 9 then (0, 0, 0, 10, 0) else (99, 0, 0, 0, 0)) else (bif Nat.beq pc 10 then (3, 2, 0, 11, 0) else (99, 0, 0, 0, 0))) else (bif Nat.ble pc 11 then (bif Nat.beq pc 11 then (1, 2, 0, 12, 0) else (99, 0, 0, 0, 0)) else (bif Nat.ble pc 12 then (bif Nat.beq pc 12 then (2, 0, 0, 13, 0) else (99, 0, 0, 0, 0)) else (bif Nat.beq pc 13 then (7, 8, 22, 16, 0) else (99, 0, 0, 0, 0)))))) else (bif Nat.ble pc 22 then (bif Nat.ble pc 17 then (bif Nat.ble pc 16 then (bif Nat.beq pc 16 then (1, 1, 0, 17, 0) else (99, 0, 0, 0, 0)) else (bif Nat.beq pc 17 then (9, 0, 0, 18, 0) else (99, 0, 0, 0, 0))) else (bif Nat.ble pc 18 then (bif Nat.beq pc 18 then (13, 3, 138, 21, 0) else (99, 0, 0, 0, 0)) else (bif Nat.ble pc 21 then (bif Nat.beq pc 21 then (2, 0, 0, 22, 0) else (99, 0, 0, 0, 0)) else (bif Nat.beq pc 22 then (7, 8, 25, 25, 0) else (99, 0, 0, 0, 0))))) else (bif Nat.ble pc 27 then (bif Nat.ble pc 25 then (bif Nat.beq pc 25 then (1, 1, 0, 26, 0) else (99, 0, 0, 0, 0)) else (bif Nat.ble pc 26 then (bif Nat.beq pc 26 then (9, 0, 0, 27, 0) else (99, 0, 0, 0, 0)) else (bif Nat.beq pc 27 then (2, 0, 0, 28, 0) else (99, 0, 0, 0, 0)))) else (bif Nat.ble pc 28 then (bif Nat.beq pc 28 then (7, 8, 4, 31, 0) else (99, 0, 0, 0, 0)) else (bif Nat.ble pc 31 then (bif Nat.beq pc 31 then (13, 3, 138, 34, 0) else (99, 0, 0, 0, 0)) else (bif Nat.beq pc 34 then (0, 0, 0, 36, 15) else (99, 0, 0, 0, 0))))))) else (bif Nat.ble pc 47 then (bif Nat.ble pc 40 then (bif Nat.ble pc 37 then (bif Nat.ble pc 36 then (bif Nat.beq pc 36 then (1, 1, 0, 37, 0) else (99, 0, 0, 0, 0)) else (bif Nat.beq pc 37 then (6, 2, 0, 38, 0) else (99, 0, 0, 0, 0))) else (bif Nat.ble pc 38 then (bif Nat.beq pc 38 then (1, 2, 0, 39, 0) else (99, 0, 0, 0, 0)) else (bif Nat.ble pc 39 then (bif Nat.beq pc 39 then (6, 0, 0, 40, 0) else (99, 0, 0, 0, 0)) else (bif Nat.beq pc 40 then (3, 3, 0, 41, 0) else (99, 0, 0, 0, 0))))) else (bif Nat.ble pc 42 then (bif Nat.ble pc 41 then (bif Nat.beq pc 41 then (2, 0, 0, 42, 0) else (99, 0, 0, 0, 0)) else (bif Nat.beq pc 42 then (2, 0, 0, 43, 0) else (99, 0, 0, 0, 0))) else (bif Nat.ble pc 43 then (bif Nat.beq pc 43 then (7, 8, 23, 46, 0) else (99, 0, 0, 0, 0)) else (bif Nat.ble pc 46 then (bif Nat.beq pc 46 then (1, 3, 0, 47, 0) else (99, 0, 0, 0, 0)) else (bif Nat.beq pc 47 then (9, 0, 0, 48, 0) else (99, 0, 0, 0, 0)))))) else (bif Nat.ble pc 54 then (bif Nat.ble pc 49 then (bif Nat.ble pc 48 then (bif Nat.beq pc 48 then (0, 0, 0, 49, 1) else (99, 0, 0, 0, 0)) else (bif Nat.beq pc 49 then (6, 1, 0, 50, 0) else (99, 0, 0, 0, 0))) else (bif Nat.ble pc 50 then (bif Nat.beq pc 50 then (8, 8, 39, 53, 0) else (99, 0, 0, 0, 0)) else (bif Nat.ble pc 53 then (bif Nat.beq pc 53 then (0, 0, 0, 54, 0) else (99, 0, 0, 0, 0)) else (bif Nat.beq pc 54 then (3, 4, 0, 56, 0) else (99, 0, 0, 0, 0))))) else (bif Nat.ble pc 59 then (bif Nat.ble pc 56 then (bif Nat.beq pc 56 then (1, 4, 0, 58, 0) else (99, 0, 0, 0, 0)) else (bif Nat.ble pc 58 then (bif Nat.beq pc 58 then (2, 0, 0, 59, 0) else (99, 0, 0, 0, 0)) else (bif Nat.beq pc 59 then (7, 8, 39, 62, 0) else (99, 0, 0, 0, 0)))) else (bif Nat.ble pc 62 then (bif Nat.beq pc 62 then (13, 3, 90, 65, 0) else (99, 0, 0, 0, 0)) else (bif Nat.ble pc 65 then (bif Nat.beq pc 65 then (2, 0, 0, 66, 0) else (99, 0, 0, 0, 0)) else (bif Nat.beq pc 66 then (7, 8, 38, 69, 0) else (99, 0, 0, 0, 0)))))))) else (bif Nat.ble pc 103 then (bif Nat.ble pc 83 then (bif Nat.ble pc 77 then (bif Nat.ble pc 71 then (bif Nat.ble pc 69 then (bif Nat.beq pc 69 then (1, 4, 0, 71, 0) else (99, 0, 0, 0, 0)) else (bif Nat.beq pc 71 then (2, 0, 0, 72, 0) else (99, 0, 0, 0, 0))) else (bif Nat.ble pc 72 then (bif Nat.beq pc 72 then (7, 8, 24, 75, 0) else (99, 0, 0, 0, 0)) else (bif Nat.ble pc 75 then (bif Nat.beq pc 75 then (0, 0, 0, 77, 19) else (99, 0, 0, 0, 0)) else (bif Nat.beq pc 77 then (1, 3, 0, 78, 0) else (99, 0, 0, 0, 0))))) else (bif Nat.ble pc 79 then (bif Nat.ble pc 78 then (bif Nat.beq pc 78 then (6, 2, 0, 79, 0) else (99, 0, 0, 0, 0)) else (bif Nat.beq pc 79 then (1, 4, 0, 81, 0) else (99, 0, 0, 0, 0))) else (bif Nat.ble pc 81 then (bif Nat.beq pc 81 then (6, 0, 0, 82, 0) else (99, 0, 0, 0, 0)) else (bif Nat.ble pc 82 then (bif Nat.beq pc 82 then (9, 0, 0, 83, 0) else (99, 0, 0, 0, 0)) else (bif Nat.beq pc 83 then (10, 0, 0, 84, 0) else (99, 0, 0, 0, 0)))))) else (bif Nat.ble pc 94 then (bif Nat.ble pc 87 then (bif Nat.ble pc 84 then (bif Nat.beq pc 84 then (5, 4, 0, 87, 1) else (99, 0, 0, 0, 0)) else (bif Nat.beq pc 87 then (16, 0, 56, 0, 0) else (99, 0, 0, 0, 0))) else (bif Nat.ble pc 90 then (bif Nat.beq pc 90 then (2, 0, 0, 91, 0) else (99, 0, 0, 0, 0)) else (bif Nat.ble pc 91 then (bif Nat.beq pc 91 then (7, 8, 38, 94, 0) else (99, 0, 0, 0, 0)) else (bif Nat.beq pc 94 then (0, 0, 0, 95, 0) else (99, 0, 0, 0, 0))))) else (bif Nat.ble pc 99 then (bif Nat.ble pc 95 then (bif Nat.beq pc 95 then (2, 0, 0, 96, 0) else (99, 0, 0, 0, 0)) else (bif Nat.ble pc 96 then (bif Nat.beq pc 96 then (7, 8, 38, 99, 0) else (99, 0, 0, 0, 0)) else (bif Nat.beq pc 99 then (0, 0, 0, 100, 0) else (99, 0, 0, 0, 0)))) else (bif Nat.ble pc 100 then (bif Nat.beq pc 100 then (9, 0, 0, 101, 0) else (99, 0, 0, 0, 0)) else (bif Nat.ble pc 101 then (bif Nat.beq pc 101 then (0, 0, 0, 103, (-16711681)) else (99, 0, 0, 0, 0)) else (bif Nat.beq pc 103 then (6, 3, 0, 104, 0) else (99, 0, 0, 0, 0))))))) else (bif Nat.ble pc 116 then (bif Nat.ble pc 110 then (bif Nat.ble pc 105 then (bif Nat.ble pc 104 then (bif Nat.beq pc 104 then (2, 0, 0, 105, 0) else (99, 0, 0, 0, 0)) else (bif Nat.beq pc 105 then (7, 8, 29, 108, 0) else (99, 0, 0, 0, 0))) else (bif Nat.ble pc 108 then (bif Nat.beq pc 108 then (1, 1, 0, 109, 0) else (99, 0, 0, 0, 0)) else (bif Nat.ble pc 109 then (bif Nat.beq pc 109 then (9, 0, 0, 110, 0) else (99, 0, 0, 0, 0)) else (bif Nat.beq pc 110 then (0, 0, 0, 112, 16) else (99, 0, 0, 0, 0))))) else (bif Nat.ble pc 113 then (bif Nat.ble pc 112 then (bif Nat.beq pc 112 then (6, 6, 0, 113, 0) else (99, 0, 0, 0, 0)) else (bif Nat.beq pc 113 then (6, 4, 0, 114, 0) else (99, 0, 0, 0, 0))) else (bif Nat.ble pc 114 then (bif Nat.beq pc 114 then (10, 0, 0, 115, 0) else (99, 0, 0, 0, 0)) else (bif Nat.ble pc 115 then (bif Nat.beq pc 115 then (2, 0, 0, 116, 0) else (99, 0, 0, 0, 0)) else (bif Nat.beq pc 116 then (2, 0, 0, 117, 0) else (99, 0, 0, 0, 0)))))) else (bif Nat.ble pc 127 then (bif Nat.ble pc 118 then (bif Nat.ble pc 117 then (bif Nat.beq pc 117 then (2, 0, 0, 118, 0) else (99, 0, 0, 0, 0)) else (bif Nat.beq pc 118 then (7, 8, 39, 121, 0) else (99, 0, 0, 0, 0))) else (bif Nat.ble pc 121 then (bif Nat.beq pc 121 then (18, 157, 0, 124, 0) else (99, 0, 0, 0, 0)) else (bif Nat.ble pc 124 then (bif Nat.beq pc 124 then (18, 160, 0, 127, 0) else (99, 0, 0, 0, 0)) else (bif Nat.beq pc 127 then (2, 0, 0, 128, 0) else (99, 0, 0, 0, 0))))) else (bif Nat.ble pc 132 then (bif Nat.ble pc 128 then (bif Nat.beq pc 128 then (1, 1, 0, 129, 0) else (99, 0, 0, 0, 0)) else (bif Nat.ble pc 129 then (bif Nat.beq pc 129 then (18, 163, 0, 132, 0) else (99, 0, 0, 0, 0)) else (bif Nat.beq pc 132 then (5, 2, 0, 135, 1) else (99, 0, 0, 0, 0)))) else (bif Nat.ble pc 135 then (bif Nat.beq pc 135 then (16, 0, 11, 0, 0) else (99, 0, 0, 0, 0)) else (bif Nat.ble pc 138 then (bif Nat.beq pc 138 then (1, 2, 0, 139, 0) else (99, 0, 0, 0, 0)) else (bif Nat.beq pc 139 then (19, 0, 0, 0, 0) else (99, 0, 0, 0, 0)))))))))
def sX8_timeout : sw_T := fun _ => []
set_option maxRecDepth 100000 in
theorem kX8_timeout : sw_chk cX8_timeout flX8 cnX8 sX8_timeout 139 tX8_timeout = true := by decide +kernel
def tX8_wire : Nat → sw_I := fun pc => (bif Nat.ble pc 39 then (bif Nat.ble pc 17 then (bif Nat.ble pc 8 then (bif Nat.ble pc 1 then (bif Nat.ble pc 0 then (bif Nat.beq pc 0 then (1, 1, 0, 1, 0) else (99, 0, 0, 0, 0)) else (bif Nat.beq pc 1 then (18, 133, 1, 4, 0) else (99, 0, 0, 0, 0))) else (bif Nat.ble pc 4 then (bif Nat.beq pc 4 then (12, 0, 51, 7, 0) else (99, 0, 0, 0, 0)) else (bif Nat.ble pc 7 then (bif Nat.beq pc 7 then (1, 2, 0, 8, 0) else (99, 0, 0, 0, 0)) else (bif Nat.beq pc 8 then (12, 2, 51, 11, 0) else (99, 0, 0, 0, 0))))) else (bif Nat.ble pc 12 then (bif Nat.ble pc 11 then (bif Nat.beq pc 11 then (1, 2, 0, 12, 0) else (99, 0, 0, 0, 0)) else (bif Nat.beq pc 12 then (2, 0, 0, 13, 0) else (99, 0, 0, 0, 0))) else (bif Nat.ble pc 13 then (bif Nat.beq pc 13 then (7, 8, 25, 16, 0) else (99, 0, 0, 0, 0)) else (bif Nat.ble pc 16 then (bif Nat.beq pc 16 then (1, 1, 0, 17, 0) else (99, 0, 0, 0, 0)) else (bif Nat.beq pc 17 then (9, 0, 0, 18, 0) else (99, 0, 0, 0, 0)))))) else (bif Nat.ble pc 26 then (bif Nat.ble pc 21 then (bif Nat.ble pc 18 then (bif Nat.beq pc 18 then (13, 3, 51, 21, 0) else (99, 0, 0, 0, 0)) else (bif Nat.beq pc 21 then (1, 3, 0, 22, 0) else (99, 0, 0, 0, 0))) else (bif Nat.ble pc 22 then (bif Nat.beq pc 22 then (12, 2, 51, 25, 0) else (99, 0, 0, 0, 0)) else (bif Nat.ble pc 25 then (bif Nat.beq pc 25 then (1, 3, 0, 26, 0) else (99, 0, 0, 0, 0)) else (bif Nat.beq pc 26 then (2, 0, 0, 27, 0) else (99, 0, 0, 0, 0))))) else (bif Nat.ble pc 32 then (bif Nat.ble pc 27 then (bif Nat.beq pc 27 then (7, 8, 26, 30, 0) else (99, 0, 0, 0, 0)) else (bif Nat.ble pc 30 then (bif Nat.beq pc 30 then (0, 0, 0, 32, 20) else (99, 0, 0, 0, 0)) else (bif Nat.beq pc 32 then (1, 1, 0, 33, 0) else (99, 0, 0, 0, 0)))) else (bif Nat.ble pc 33 then (bif Nat.beq pc 33 then (18, 133, 1, 36, 0) else (99, 0, 0, 0, 0)) else (bif Nat.ble pc 36 then (bif Nat.beq pc 36 then (12, 0, 43, 39, 0) else (99, 0, 0, 0, 0)) else (bif Nat.beq pc 39 then (1, 1, 0, 40, 0) else (99, 0, 0, 0, 0))))))) else (bif Nat.ble pc 56 then (bif Nat.ble pc 46 then (bif Nat.ble pc 43 then (bif Nat.ble pc 40 then (bif Nat.beq pc 40 then (16, 0, 44, 0, 0) else (99, 0, 0, 0, 0)) else (bif Nat.beq pc 43 then (0, 0, 0, 44, 0) else (99, 0, 0, 0, 0))) else (bif Nat.ble pc 44 then (bif Nat.beq pc 44 then (6, 2, 0, 45, 0) else (99, 0, 0, 0, 0)) else (bif Nat.ble pc 45 then (bif Nat.beq pc 45 then (1, 2, 0, 46, 0) else (99, 0, 0, 0, 0)) else (bif Nat.beq pc 46 then (6, 0, 0, 47, 0) else (99, 0, 0, 0, 0))))) else (bif Nat.ble pc 51 then (bif Nat.ble pc 47 then (bif Nat.beq pc 47 then (9, 0, 0, 48, 0) else (99, 0, 0, 0, 0)) else (bif Nat.ble pc 48 then (bif Nat.beq pc 48 then (13, 2, 55, 51, 0) else (99, 0, 0, 0, 0)) else (bif Nat.beq pc 51 then (0, 0, 0, 52, 0) else (99, 0, 0, 0, 0)))) else (bif Nat.ble pc 52 then (bif Nat.beq pc 52 then (16, 0, 71, 0, 0) else (99, 0, 0, 0, 0)) else (bif Nat.ble pc 55 then (bif Nat.beq pc 55 then (2, 0, 0, 56, 0) else (99, 0, 0, 0, 0)) else (bif Nat.beq pc 56 then (7, 8, 27, 59, 0) else (99, 0, 0, 0, 0)))))) else (bif Nat.ble pc 65 then (bif Nat.ble pc 61 then (bif Nat.ble pc 59 then (bif Nat.beq pc 59 then (0, 0, 0, 61, 19) else (99, 0, 0, 0, 0)) else (bif Nat.beq pc 61 then (0, 0, 0, 63, 20) else (99, 0, 0, 0, 0))) else (bif Nat.ble pc 63 then (bif Nat.beq pc 63 then (1, 1, 0, 64, 0) else (99, 0, 0, 0, 0)) else (bif Nat.ble pc 64 then (bif Nat.beq pc 64 then (6, 2, 0, 65, 0) else (99, 0, 0, 0, 0)) else (bif Nat.beq pc 65 then (1, 2, 0, 66, 0) else (99, 0, 0, 0, 0))))) else (bif Nat.ble pc 68 then (bif Nat.ble pc 66 then (bif Nat.beq pc 66 then (6, 0, 0, 67, 0) else (99, 0, 0, 0, 0)) else (bif Nat.ble pc 67 then (bif Nat.beq pc 67 then (6, 2, 0, 68, 0) else (99, 0, 0, 0, 0)) else (bif Nat.beq pc 68 then (1, 3, 0, 69, 0) else (99, 0, 0, 0, 0)))) else (bif Nat.ble pc 69 then (bif Nat.beq pc 69 then (6, 0, 0, 70, 0) else (99, 0, 0, 0, 0)) else (bif Nat.ble pc 70 then (bif Nat.beq pc 70 then (9, 0, 0, 71, 0) else (99, 0, 0, 0, 0)) else (bif Nat.beq pc 71 then (19, 0, 0, 0, 0) else (99, 0, 0, 0, 0))))))))
def sX8_wire : sw_T := fun _ => []
set_option maxRecDepth 100000 in
theorem kX8_wire : sw_chk cX8_wire flX8 cnX8 sX8_wire 71 tX8_wire = true := by decide +kernel
def tX8_stream : Nat → sw_I := fun pc => (bif Nat.ble pc 115 then (bif Nat.ble pc 82 then (bif Nat.ble pc 13 then (bif Nat.ble pc 3 then (bif Nat.ble pc 1 then (bif Nat.ble pc 0 then (bif Nat.beq pc 0 then (2, 0, 0, 1, 0) else (99, 0, 0, 0, 0)) else (bif Nat.beq pc 1 then (1, 1, 0, 2, 0) else (99, 0, 0, 0, 0))) else (bif Nat.ble pc 2 then (bif Nat.beq pc 2 then (1, 2, 0, 3, 0) else (99, 0, 0, 0, 0)) else (bif Nat.beq pc 3 then (18, 137, 0, 6, 0) else (99, 0, 0, 0, 0)))) else (bif Nat.ble pc 9 then (bif Nat.ble pc 6 then (bif Nat.beq pc 6 then (12, 1, 11, 9, 0) else (99, 0, 0, 0, 0)) else (bif Nat.beq pc 9 then (0, 0, 0, 10, (-1)) else (99, 0, 0, 0, 0))) else (bif Nat.ble pc 10 then (bif Nat.beq pc 10 then (19, 0, 0, 0, 0) else (99, 0, 0, 0, 0)) else (bif Nat.ble pc 11 then (bif Nat.beq pc 11 then (0, 0, 0, 13, 8) else (99, 0, 0, 0, 0)) else (bif Nat.beq pc 13 then (1, 1, 0, 14, 0) else (99, 0, 0, 0, 0)))))) else (bif Nat.ble pc 19 then (bif Nat.ble pc 15 then (bif Nat.ble pc 14 then (bif Nat.beq pc 14 then (6, 2, 0, 15, 0) else (99, 0, 0, 0, 0)) else (bif Nat.beq pc 15 then (1, 2, 0, 16, 0) else (99, 0, 0, 0, 0))) else (bif Nat.ble pc 16 then (bif Nat.beq pc 16 then (6, 0, 0, 17, 0) else (99, 0, 0, 0, 0)) else (bif Nat.ble pc 17 then (bif Nat.beq pc 17 then (3, 4, 0, 19, 0) else (99, 0, 0, 0, 0)) else (bif Nat.beq pc 19 then (1, 3, 0, 20, 0) else (99, 0, 0, 0, 0))))) else (bif Nat.ble pc 76 then (bif Nat.ble pc 20 then (bif Nat.beq pc 20 then (17, 180, 0, 0, 0) else (99, 0, 0, 0, 0)) else (bif Nat.beq pc 76 then (2, 0, 0, 77, 0) else (99, 0, 0, 0, 0))) else (bif Nat.ble pc 77 then (bif Nat.beq pc 77 then (7, 8, 6, 80, 0) else (99, 0, 0, 0, 0)) else (bif Nat.ble pc 80 then (bif Nat.beq pc 80 then (1, 4, 0, 82, 0) else (99, 0, 0, 0, 0)) else (bif Nat.beq pc 82 then (9, 0, 0, 83, 0) else (99, 0, 0, 0, 0))))))) else (bif Nat.ble pc 99 then (bif Nat.ble pc 90 then (bif Nat.ble pc 84 then (bif Nat.ble pc 83 then (bif Nat.beq pc 83 then (19, 0, 0, 0, 0) else (99, 0, 0, 0, 0)) else (bif Nat.beq pc 84 then (2, 0, 0, 85, 0) else (99, 0, 0, 0, 0))) else (bif Nat.ble pc 85 then (bif Nat.beq pc 85 then (7, 8, 7, 88, 0) else (99, 0, 0, 0, 0)) else (bif Nat.ble pc 88 then (bif Nat.beq pc 88 then (1, 4, 0, 90, 0) else (99, 0, 0, 0, 0)) else (bif Nat.beq pc 90 then (9, 1, 0, 91, 0) else (99, 0, 0, 0, 0))))) else (bif Nat.ble pc 94 then (bif Nat.ble pc 91 then (bif Nat.beq pc 91 then (12, 0, 98, 94, 0) else (99, 0, 0, 0, 0)) else (bif Nat.beq pc 94 then (0, 0, 0, 95, 1) else (99, 0, 0, 0, 0))) else (bif Nat.ble pc 95 then (bif Nat.beq pc 95 then (16, 0, 99, 0, 0) else (99, 0, 0, 0, 0)) else (bif Nat.ble pc 98 then (bif Nat.beq pc 98 then (0, 0, 0, 99, 0) else (99, 0, 0, 0, 0)) else (bif Nat.beq pc 99 then (19, 0, 0, 0, 0) else (99, 0, 0, 0, 0)))))) else (bif Nat.ble pc 107 then (bif Nat.ble pc 101 then (bif Nat.ble pc 100 then (bif Nat.beq pc 100 then (2, 0, 0, 101, 0) else (99, 0, 0, 0, 0)) else (bif Nat.beq pc 101 then (7, 8, 8, 104, 0) else (99, 0, 0, 0, 0))) else (bif Nat.ble pc 104 then (bif Nat.beq pc 104 then (1, 4, 0, 106, 0) else (99, 0, 0, 0, 0)) else (bif Nat.ble pc 106 then (bif Nat.beq pc 106 then (9, 0, 0, 107, 0) else (99, 0, 0, 0, 0)) else (bif Nat.beq pc 107 then (19, 0, 0, 0, 0) else (99, 0, 0, 0, 0))))) else (bif Nat.ble pc 109 then (bif Nat.ble pc 108 then (bif Nat.beq pc 108 then (2, 0, 0, 109, 0) else (99, 0, 0, 0, 0)) else (bif Nat.beq pc 109 then (7, 8, 9, 112, 0) else (99, 0, 0, 0, 0))) else (bif Nat.ble pc 112 then (bif Nat.beq pc 112 then (1, 4, 0, 114, 0) else (99, 0, 0, 0, 0)) else (bif Nat.ble pc 114 then (bif Nat.beq pc 114 then (9, 0, 0, 115, 0) else (99, 0, 0, 0, 0)) else (bif Nat.beq pc 115 then (19, 0, 0, 0, 0) else (99, 0, 0, 0, 0)))))))) else (bif Nat.ble pc 148 then (bif Nat.ble pc 131 then (bif Nat.ble pc 123 then (bif Nat.ble pc 117 then (bif Nat.ble pc 116 then (bif Nat.beq pc 116 then (2, 0, 0, 117, 0) else (99, 0, 0, 0, 0)) else (bif Nat.beq pc 117 then (7, 8, 16, 120, 0) else (99, 0, 0, 0, 0))) else (bif Nat.ble pc 120 then (bif Nat.beq pc 120 then (1, 4, 0, 122, 0) else (99, 0, 0, 0, 0)) else (bif Nat.ble pc 122 then (bif Nat.beq pc 122 then (9, 0, 0, 123, 0) else (99, 0, 0, 0, 0)) else (bif Nat.beq pc 123 then (19, 0, 0, 0, 0) else (99, 0, 0, 0, 0))))) else (bif Nat.ble pc 125 then (bif Nat.ble pc 124 then (bif Nat.beq pc 124 then (2, 0, 0, 125, 0) else (99, 0, 0, 0, 0)) else (bif Nat.beq pc 125 then (7, 8, 19, 128, 0) else (99, 0, 0, 0, 0))) else (bif Nat.ble pc 128 then (bif Nat.beq pc 128 then (1, 4, 0, 130, 0) else (99, 0, 0, 0, 0)) else (bif Nat.ble pc 130 then (bif Nat.beq pc 130 then (9, 0, 0, 131, 0) else (99, 0, 0, 0, 0)) else (bif Nat.beq pc 131 then (19, 0, 0, 0, 0) else (99, 0, 0, 0, 0)))))) else (bif Nat.ble pc 139 then (bif Nat.ble pc 133 then (bif Nat.ble pc 132 then (bif Nat.beq pc 132 then (2, 0, 0, 133, 0) else (99, 0, 0, 0, 0)) else (bif Nat.beq pc 133 then (7, 8, 11, 136, 0) else (99, 0, 0, 0, 0))) else (bif Nat.ble pc 136 then (bif Nat.beq pc 136 then (1, 4, 0, 138, 0) else (99, 0, 0, 0, 0)) else (bif Nat.ble pc 138 then (bif Nat.beq pc 138 then (9, 1, 0, 139, 0) else (99, 0, 0, 0, 0)) else (bif Nat.beq pc 139 then (12, 0, 146, 142, 0) else (99, 0, 0, 0, 0))))) else (bif Nat.ble pc 143 then (bif Nat.ble pc 142 then (bif Nat.beq pc 142 then (0, 0, 0, 143, 1) else (99, 0, 0, 0, 0)) else (bif Nat.beq pc 143 then (16, 0, 147, 0, 0) else (99, 0, 0, 0, 0))) else (bif Nat.ble pc 146 then (bif Nat.beq pc 146 then (0, 0, 0, 147, 0) else (99, 0, 0, 0, 0)) else (bif Nat.ble pc 147 then (bif Nat.beq pc 147 then (19, 0, 0, 0, 0) else (99, 0, 0, 0, 0)) else (bif Nat.beq pc 148 then (2, 0, 0, 149, 0) else (99, 0, 0, 0, 0))))))) else (bif Nat.ble pc 165 then (bif Nat.ble pc 158 then (bif Nat.ble pc 152 then (bif Nat.ble pc 149 then (bif Nat.beq pc 149 then (7, 8, 12, 152, 0) else (99, 0, 0, 0, 0)) else (bif Nat.beq pc 152 then (1, 4, 0, 154, 0) else (99, 0, 0, 0, 0))) else (bif Nat.ble pc 154 then (bif Nat.beq pc 154 then (9, 1, 0, 155, 0) else (99, 0, 0, 0, 0)) else (bif Nat.ble pc 155 then (bif Nat.beq pc 155 then (12, 0, 162, 158, 0) else (99, 0, 0, 0, 0)) else (bif Nat.beq pc 158 then (0, 0, 0, 159, 1) else (99, 0, 0, 0, 0))))) else (bif Nat.ble pc 162 then (bif Nat.ble pc 159 then (bif Nat.beq pc 159 then (16, 0, 163, 0, 0) else (99, 0, 0, 0, 0)) else (bif Nat.beq pc 162 then (0, 0, 0, 163, 0) else (99, 0, 0, 0, 0))) else (bif Nat.ble pc 163 then (bif Nat.beq pc 163 then (19, 0, 0, 0, 0) else (99, 0, 0, 0, 0)) else (bif Nat.ble pc 164 then (bif Nat.beq pc 164 then (2, 0, 0, 165, 0) else (99, 0, 0, 0, 0)) else (bif Nat.beq pc 165 then (7, 8, 14, 168, 0) else (99, 0, 0, 0, 0)))))) else (bif Nat.ble pc 173 then (bif Nat.ble pc 170 then (bif Nat.ble pc 168 then (bif Nat.beq pc 168 then (1, 4, 0, 170, 0) else (99, 0, 0, 0, 0)) else (bif Nat.beq pc 170 then (9, 0, 0, 171, 0) else (99, 0, 0, 0, 0))) else (bif Nat.ble pc 171 then (bif Nat.beq pc 171 then (19, 0, 0, 0, 0) else (99, 0, 0, 0, 0)) else (bif Nat.ble pc 172 then (bif Nat.beq pc 172 then (2, 0, 0, 173, 0) else (99, 0, 0, 0, 0)) else (bif Nat.beq pc 173 then (7, 8, 15, 176, 0) else (99, 0, 0, 0, 0))))) else (bif Nat.ble pc 178 then (bif Nat.ble pc 176 then (bif Nat.beq pc 176 then (1, 4, 0, 178, 0) else (99, 0, 0, 0, 0)) else (bif Nat.beq pc 178 then (9, 0, 0, 179, 0) else (99, 0, 0, 0, 0))) else (bif Nat.ble pc 179 then (bif Nat.beq pc 179 then (19, 0, 0, 0, 0) else (99, 0, 0, 0, 0)) else (bif Nat.ble pc 180 then (bif Nat.beq pc 180 then (0, 0, 0, 181, (-1)) else (99, 0, 0, 0, 0)) else (bif Nat.beq pc 181 then (19, 0, 0, 0, 0) else (99, 0, 0, 0, 0)))))))))
def sX8_stream : sw_T := fun pc => (bif Nat.beq pc 20 then [(0, 76), (1, 84), (2, 100), (3, 108), (4, 116), (5, 124), (6, 132), (7, 148), (8, 164), (9, 172)] else [])
set_option maxRecDepth 100000 in
theorem kX8_stream : sw_chk cX8_stream flX8 cnX8 sX8_stream 181 tX8_stream = true := by decide +kernel
def tX8_side : Nat → sw_I := fun pc => (bif Nat.ble pc 121 then (bif Nat.ble pc 91 then (bif Nat.ble pc 74 then (bif Nat.ble pc 8 then (bif Nat.ble pc 1 then (bif Nat.ble pc 0 then (bif Nat.beq pc 0 then (1, 1, 0, 1, 0) else (99, 0, 0, 0, 0)) else (bif Nat.beq pc 1 then (18, 133, 1, 4, 0) else (99, 0, 0, 0, 0))) else (bif Nat.ble pc 4 then (bif Nat.beq pc 4 then (12, 1, 9, 7, 0) else (99, 0, 0, 0, 0)) else (bif Nat.ble pc 7 then (bif Nat.beq pc 7 then (0, 0, 0, 8, (-1)) else (99, 0, 0, 0, 0)) else (bif Nat.beq pc 8 then (19, 0, 0, 0, 0) else (99, 0, 0, 0, 0))))) else (bif Nat.ble pc 10 then (bif Nat.ble pc 9 then (bif Nat.beq pc 9 then (1, 2, 0, 10, 0) else (99, 0, 0, 0, 0)) else (bif Nat.beq pc 10 then (17, 184, 0, 0, 0) else (99, 0, 0, 0, 0))) else (bif Nat.ble pc 72 then (bif Nat.beq pc 72 then (2, 0, 0, 73, 0) else (99, 0, 0, 0, 0)) else (bif Nat.ble pc 73 then (bif Nat.beq pc 73 then (1, 1, 0, 74, 0) else (99, 0, 0, 0, 0)) else (bif Nat.beq pc 74 then (18, 145, 0, 77, 0) else (99, 0, 0, 0, 0)))))) else (bif Nat.ble pc 83 then (bif Nat.ble pc 78 then (bif Nat.ble pc 77 then (bif Nat.beq pc 77 then (19, 0, 0, 0, 0) else (99, 0, 0, 0, 0)) else (bif Nat.beq pc 78 then (2, 0, 0, 79, 0) else (99, 0, 0, 0, 0))) else (bif Nat.ble pc 79 then (bif Nat.beq pc 79 then (7, 8, 22, 82, 0) else (99, 0, 0, 0, 0)) else (bif Nat.ble pc 82 then (bif Nat.beq pc 82 then (1, 1, 0, 83, 0) else (99, 0, 0, 0, 0)) else (bif Nat.beq pc 83 then (9, 0, 0, 84, 0) else (99, 0, 0, 0, 0))))) else (bif Nat.ble pc 86 then (bif Nat.ble pc 84 then (bif Nat.beq pc 84 then (19, 0, 0, 0, 0) else (99, 0, 0, 0, 0)) else (bif Nat.ble pc 85 then (bif Nat.beq pc 85 then (2, 0, 0, 86, 0) else (99, 0, 0, 0, 0)) else (bif Nat.beq pc 86 then (7, 8, 28, 89, 0) else (99, 0, 0, 0, 0)))) else (bif Nat.ble pc 89 then (bif Nat.beq pc 89 then (1, 1, 0, 90, 0) else (99, 0, 0, 0, 0)) else (bif Nat.ble pc 90 then (bif Nat.beq pc 90 then (9, 0, 0, 91, 0) else (99, 0, 0, 0, 0)) else (bif Nat.beq pc 91 then (2, 0, 0, 92, 0) else (99, 0, 0, 0, 0))))))) else (bif Nat.ble pc 106 then (bif Nat.ble pc 98 then (bif Nat.ble pc 95 then (bif Nat.ble pc 92 then (bif Nat.beq pc 92 then (7, 8, 2, 95, 0) else (99, 0, 0, 0, 0)) else (bif Nat.beq pc 95 then (6, 0, 0, 96, 0) else (99, 0, 0, 0, 0))) else (bif Nat.ble pc 96 then (bif Nat.beq pc 96 then (0, 0, 0, 97, 1) else (99, 0, 0, 0, 0)) else (bif Nat.ble pc 97 then (bif Nat.beq pc 97 then (6, 0, 0, 98, 0) else (99, 0, 0, 0, 0)) else (bif Nat.beq pc 98 then (2, 0, 0, 99, 0) else (99, 0, 0, 0, 0))))) else (bif Nat.ble pc 103 then (bif Nat.ble pc 99 then (bif Nat.beq pc 99 then (7, 8, 22, 102, 0) else (99, 0, 0, 0, 0)) else (bif Nat.ble pc 102 then (bif Nat.beq pc 102 then (1, 1, 0, 103, 0) else (99, 0, 0, 0, 0)) else (bif Nat.beq pc 103 then (9, 0, 0, 104, 0) else (99, 0, 0, 0, 0)))) else (bif Nat.ble pc 104 then (bif Nat.beq pc 104 then (6, 1, 0, 105, 0) else (99, 0, 0, 0, 0)) else (bif Nat.ble pc 105 then (bif Nat.beq pc 105 then (2, 0, 0, 106, 0) else (99, 0, 0, 0, 0)) else (bif Nat.beq pc 106 then (7, 8, 2, 109, 0) else (99, 0, 0, 0, 0)))))) else (bif Nat.ble pc 113 then (bif Nat.ble pc 110 then (bif Nat.ble pc 109 then (bif Nat.beq pc 109 then (0, 0, 0, 110, 1) else (99, 0, 0, 0, 0)) else (bif Nat.beq pc 110 then (6, 0, 0, 111, 0) else (99, 0, 0, 0, 0))) else (bif Nat.ble pc 111 then (bif Nat.beq pc 111 then (27, 0, 0, 112, 0) else (99, 0, 0, 0, 0)) else (bif Nat.ble pc 112 then (bif Nat.beq pc 112 then (19, 0, 0, 0, 0) else (99, 0, 0, 0, 0)) else (bif Nat.beq pc 113 then (2, 0, 0, 114, 0) else (99, 0, 0, 0, 0))))) else (bif Nat.ble pc 118 then (bif Nat.ble pc 114 then (bif Nat.beq pc 114 then (7, 8, 29, 117, 0) else (99, 0, 0, 0, 0)) else (bif Nat.ble pc 117 then (bif Nat.beq pc 117 then (1, 1, 0, 118, 0) else (99, 0, 0, 0, 0)) else (bif Nat.beq pc 118 then (9, 0, 0, 119, 0) else (99, 0, 0, 0, 0)))) else (bif Nat.ble pc 119 then (bif Nat.beq pc 119 then (19, 0, 0, 0, 0) else (99, 0, 0, 0, 0)) else (bif Nat.ble pc 120 then (bif Nat.beq pc 120 then (2, 0, 0, 121, 0) else (99, 0, 0, 0, 0)) else (bif Nat.beq pc 121 then (7, 8, 25, 124, 0) else (99, 0, 0, 0, 0)))))))) else (bif Nat.ble pc 155 then (bif Nat.ble pc 138 then (bif Nat.ble pc 128 then (bif Nat.ble pc 125 then (bif Nat.ble pc 124 then (bif Nat.beq pc 124 then (1, 1, 0, 125, 0) else (99, 0, 0, 0, 0)) else (bif Nat.beq pc 125 then (9, 0, 0, 126, 0) else (99, 0, 0, 0, 0))) else (bif Nat.ble pc 126 then (bif Nat.beq pc 126 then (19, 0, 0, 0, 0) else (99, 0, 0, 0, 0)) else (bif Nat.ble pc 127 then (bif Nat.beq pc 127 then (2, 0, 0, 128, 0) else (99, 0, 0, 0, 0)) else (bif Nat.beq pc 128 then (7, 8, 30, 131, 0) else (99, 0, 0, 0, 0))))) else (bif Nat.ble pc 133 then (bif Nat.ble pc 131 then (bif Nat.beq pc 131 then (1, 1, 0, 132, 0) else (99, 0, 0, 0, 0)) else (bif Nat.ble pc 132 then (bif Nat.beq pc 132 then (9, 0, 0, 133, 0) else (99, 0, 0, 0, 0)) else (bif Nat.beq pc 133 then (19, 0, 0, 0, 0) else (99, 0, 0, 0, 0)))) else (bif Nat.ble pc 134 then (bif Nat.beq pc 134 then (2, 0, 0, 135, 0) else (99, 0, 0, 0, 0)) else (bif Nat.ble pc 135 then (bif Nat.beq pc 135 then (7, 8, 31, 138, 0) else (99, 0, 0, 0, 0)) else (bif Nat.beq pc 138 then (1, 1, 0, 139, 0) else (99, 0, 0, 0, 0)))))) else (bif Nat.ble pc 145 then (bif Nat.ble pc 140 then (bif Nat.ble pc 139 then (bif Nat.beq pc 139 then (9, 0, 0, 140, 0) else (99, 0, 0, 0, 0)) else (bif Nat.beq pc 140 then (19, 0, 0, 0, 0) else (99, 0, 0, 0, 0))) else (bif Nat.ble pc 141 then (bif Nat.beq pc 141 then (2, 0, 0, 142, 0) else (99, 0, 0, 0, 0)) else (bif Nat.ble pc 142 then (bif Nat.beq pc 142 then (7, 8, 32, 145, 0) else (99, 0, 0, 0, 0)) else (bif Nat.beq pc 145 then (1, 1, 0, 146, 0) else (99, 0, 0, 0, 0))))) else (bif Nat.ble pc 150 then (bif Nat.ble pc 146 then (bif Nat.beq pc 146 then (9, 1, 0, 147, 0) else (99, 0, 0, 0, 0)) else (bif Nat.ble pc 147 then (bif Nat.beq pc 147 then (12, 0, 154, 150, 0) else (99, 0, 0, 0, 0)) else (bif Nat.beq pc 150 then (0, 0, 0, 151, 1) else (99, 0, 0, 0, 0)))) else (bif Nat.ble pc 151 then (bif Nat.beq pc 151 then (16, 0, 155, 0, 0) else (99, 0, 0, 0, 0)) else (bif Nat.ble pc 154 then (bif Nat.beq pc 154 then (0, 0, 0, 155, 0) else (99, 0, 0, 0, 0)) else (bif Nat.beq pc 155 then (19, 0, 0, 0, 0) else (99, 0, 0, 0, 0))))))) else (bif Nat.ble pc 170 then (bif Nat.ble pc 162 then (bif Nat.ble pc 157 then (bif Nat.ble pc 156 then (bif Nat.beq pc 156 then (2, 0, 0, 157, 0) else (99, 0, 0, 0, 0)) else (bif Nat.beq pc 157 then (7, 8, 33, 160, 0) else (99, 0, 0, 0, 0))) else (bif Nat.ble pc 160 then (bif Nat.beq pc 160 then (1, 1, 0, 161, 0) else (99, 0, 0, 0, 0)) else (bif Nat.ble pc 161 then (bif Nat.beq pc 161 then (9, 0, 0, 162, 0) else (99, 0, 0, 0, 0)) else (bif Nat.beq pc 162 then (19, 0, 0, 0, 0) else (99, 0, 0, 0, 0))))) else (bif Nat.ble pc 167 then (bif Nat.ble pc 163 then (bif Nat.beq pc 163 then (2, 0, 0, 164, 0) else (99, 0, 0, 0, 0)) else (bif Nat.ble pc 164 then (bif Nat.beq pc 164 then (7, 8, 34, 167, 0) else (99, 0, 0, 0, 0)) else (bif Nat.beq pc 167 then (1, 1, 0, 168, 0) else (99, 0, 0, 0, 0)))) else (bif Nat.ble pc 168 then (bif Nat.beq pc 168 then (9, 0, 0, 169, 0) else (99, 0, 0, 0, 0)) else (bif Nat.ble pc 169 then (bif Nat.beq pc 169 then (19, 0, 0, 0, 0) else (99, 0, 0, 0, 0)) else (bif Nat.beq pc 170 then (2, 0, 0, 171, 0) else (99, 0, 0, 0, 0)))))) else (bif Nat.ble pc 177 then (bif Nat.ble pc 174 then (bif Nat.ble pc 171 then (bif Nat.beq pc 171 then (7, 8, 35, 174, 0) else (99, 0, 0, 0, 0)) else (bif Nat.beq pc 174 then (1, 1, 0, 175, 0) else (99, 0, 0, 0, 0))) else (bif Nat.ble pc 175 then (bif Nat.beq pc 175 then (9, 0, 0, 176, 0) else (99, 0, 0, 0, 0)) else (bif Nat.ble pc 176 then (bif Nat.beq pc 176 then (19, 0, 0, 0, 0) else (99, 0, 0, 0, 0)) else (bif Nat.beq pc 177 then (2, 0, 0, 178, 0) else (99, 0, 0, 0, 0))))) else (bif Nat.ble pc 182 then (bif Nat.ble pc 178 then (bif Nat.beq pc 178 then (7, 8, 36, 181, 0) else (99, 0, 0, 0, 0)) else (bif Nat.ble pc 181 then (bif Nat.beq pc 181 then (1, 1, 0, 182, 0) else (99, 0, 0, 0, 0)) else (bif Nat.beq pc 182 then (9, 0, 0, 183, 0) else (99, 0, 0, 0, 0)))) else (bif Nat.ble pc 183 then (bif Nat.beq pc 183 then (19, 0, 0, 0, 0) else (99, 0, 0, 0, 0)) else (bif Nat.ble pc 184 then (bif Nat.beq pc 184 then (0, 0, 0, 185, (-1)) else (99, 0, 0, 0, 0)) else (bif Nat.beq pc 185 then (19, 0, 0, 0, 0) else (99, 0, 0, 0, 0)))))))))
def sX8_side : sw_T := fun pc => (bif Nat.beq pc 10 then [(0, 72), (1, 78), (2, 85), (3, 113), (4, 120), (5, 127), (6, 134), (7, 141), (8, 156), (9, 163), (10, 170), (11, 177)] else [])
set_option maxRecDepth 100000 in
theorem kX8_side : sw_chk cX8_side flX8 cnX8 sX8_side 185 tX8_side = true := by decide +kernel
end
section
/-! The numbering of the objects: which reference leads where; specs by their arguments -/
def sw_rf : sw_R := fun c k j => match c with
  | 0 => k
  | 1 => 2 * k + j
  | 2 => k
  | 3 => k
  | 5 => k / 16
  | 6 => (match j with
    | 0 => 0
    | 1 => k
    | 2 => 2 * k
    | 3 => 2 * k + 1
    | _ => 128 + k)
  | 7 => j
  | 8 => j
  | 13 => 32 * k + j
  | 14 => 8 * k + j
  | _ => 0
abbrev sw_X : Type := Prop × (Option sw_V × sw_S)
def sw_if (b : Bool) (x : sw_X) : sw_X := (bif b then x.1 else False, x.2)
def sw_fo (c : Nat) (g : Nat → sw_S → sw_X) : sw_F := fun avs σ => match avs with
  | [.inr (some q)] => sw_if (Nat.beq q.1 c) (g q.2 σ)
  | _ => (False, none, σ)
def sw_foi (c : Nat) (g : Nat → Int32 → sw_S → sw_X) : sw_F := fun avs σ => match avs with
  | [.inr (some q), .inl i] => sw_if (Nat.beq q.1 c) (g q.2 i σ)
  | _ => (False, none, σ)
def sw_foii (c : Nat) (g : Nat → Int32 → Int32 → sw_S → sw_X) : sw_F := fun avs σ => match avs with
  | [.inr (some q), .inl i, .inl j] => sw_if (Nat.beq q.1 c) (g q.2 i j σ)
  | _ => (False, none, σ)
def sw_foiii (c : Nat) (g : Nat → Int32 → Int32 → Int32 → sw_S → sw_X) : sw_F := fun avs σ => match avs with
  | [.inr (some q), .inl i, .inl j, .inl x] => sw_if (Nat.beq q.1 c) (g q.2 i j x σ)
  | _ => (False, none, σ)
def sw_foiiii (c : Nat) (g : Nat → Int32 → Int32 → Int32 → Int32 → sw_S → sw_X) : sw_F := fun avs σ => match avs with
  | [.inr (some q), .inl i, .inl j, .inl x, .inl y] => sw_if (Nat.beq q.1 c) (g q.2 i j x y σ)
  | _ => (False, none, σ)
def sw_foo (c d : Nat) (g : Nat → Nat → sw_S → sw_X) : sw_F := fun avs σ => match avs with
  | [.inr (some q), .inr (some p)] => sw_if (Nat.beq q.1 c && Nat.beq p.1 d) (g q.2 p.2 σ)
  | _ => (False, none, σ)
def sw_fooi (c d : Nat) (g : Nat → Nat → Int32 → sw_S → sw_X) : sw_F := fun avs σ => match avs with
  | [.inr (some q), .inr (some p), .inl i] => sw_if (Nat.beq q.1 c && Nat.beq p.1 d) (g q.2 p.2 i σ)
  | _ => (False, none, σ)
def sw_fooii (c d : Nat) (g : Nat → Nat → Int32 → Int32 → sw_S → sw_X) : sw_F := fun avs σ => match avs with
  | [.inr (some q), .inr (some p), .inl i, .inl j] => sw_if (Nat.beq q.1 c && Nat.beq p.1 d) (g q.2 p.2 i j σ)
  | _ => (False, none, σ)
def sw_fi (g : Int32 → sw_S → sw_X) : sw_F := fun avs σ => match avs with
  | [.inl i] => g i σ
  | _ => (False, none, σ)
def sw_fiii (g : Int32 → Int32 → Int32 → sw_S → sw_X) : sw_F := fun avs σ => match avs with
  | [.inl i, .inl j, .inl x] => g i j x σ
  | _ => (False, none, σ)
theorem sw_if_of {b : Bool} {x : sw_X} (h : (sw_if b x).1) : b = true ∧ x.1 := by
  cases b with
  | true => exact ⟨rfl, h⟩
  | false => exact False.elim h
/-- a run that ends in what a spec says -/
abbrev sw_end (x : sw_X) : Option sw_V → sw_S → Prop := fun r σ' => r = x.2.1 ∧ σ' = x.2.2
section swSpec
variable {W : (Option sw_V → sw_S → Prop) → sw_L → sw_S → Prop} {maxL n c d : Nat}
theorem sw_fo_h {g : Nat → sw_S → sw_X} (h : ∀ k σ, (g k σ).1 → W (sw_end (g k σ)) (sw_ent maxL [.inr (some (c, k))]) σ) : ∀ (avs : List sw_V) (σ : sw_S), avs.length = n → (sw_fo c g avs σ).1 → W (sw_end (sw_fo c g avs σ)) (sw_ent maxL avs) σ := by
  intro avs σ _ hf
  match avs, hf with
  | [.inr (some (q1, q2))], hf =>
    obtain ⟨hb, hf2⟩ := sw_if_of hf
    have hb : q1 = c := Nat.eq_of_beq_eq_true hb
    subst hb
    exact h q2 σ hf2
theorem sw_foi_h {g : Nat → Int32 → sw_S → sw_X} (h : ∀ k i σ, (g k i σ).1 → W (sw_end (g k i σ)) (sw_ent maxL [.inr (some (c, k)), .inl i]) σ) : ∀ (avs : List sw_V) (σ : sw_S), avs.length = n → (sw_foi c g avs σ).1 → W (sw_end (sw_foi c g avs σ)) (sw_ent maxL avs) σ := by
  intro avs σ _ hf
  match avs, hf with
  | [.inr (some (q1, q2)), .inl i], hf =>
    obtain ⟨hb, hf2⟩ := sw_if_of hf
    have hb : q1 = c := Nat.eq_of_beq_eq_true hb
    subst hb
    exact h q2 i σ hf2
theorem sw_foii_h {g : Nat → Int32 → Int32 → sw_S → sw_X} (h : ∀ k i j σ, (g k i j σ).1 → W (sw_end (g k i j σ)) (sw_ent maxL [.inr (some (c, k)), .inl i, .inl j]) σ) : ∀ (avs : List sw_V) (σ : sw_S), avs.length = n → (sw_foii c g avs σ).1 → W (sw_end (sw_foii c g avs σ)) (sw_ent maxL avs) σ := by
  intro avs σ _ hf
  match avs, hf with
  | [.inr (some (q1, q2)), .inl i, .inl j], hf =>
    obtain ⟨hb, hf2⟩ := sw_if_of hf
    have hb : q1 = c := Nat.eq_of_beq_eq_true hb
    subst hb
    exact h q2 i j σ hf2
theorem sw_foiii_h {g : Nat → Int32 → Int32 → Int32 → sw_S → sw_X} (h : ∀ k i j x σ, (g k i j x σ).1 → W (sw_end (g k i j x σ)) (sw_ent maxL [.inr (some (c, k)), .inl i, .inl j, .inl x]) σ) : ∀ (avs : List sw_V) (σ : sw_S), avs.length = n → (sw_foiii c g avs σ).1 → W (sw_end (sw_foiii c g avs σ)) (sw_ent maxL avs) σ := by
  intro avs σ _ hf
  match avs, hf with
  | [.inr (some (q1, q2)), .inl i, .inl j, .inl x], hf =>
    obtain ⟨hb, hf2⟩ := sw_if_of hf
    have hb : q1 = c := Nat.eq_of_beq_eq_true hb
    subst hb
    exact h q2 i j x σ hf2
theorem sw_foiiii_h {g : Nat → Int32 → Int32 → Int32 → Int32 → sw_S → sw_X} (h : ∀ k i j x y σ, (g k i j x y σ).1 → W (sw_end (g k i j x y σ)) (sw_ent maxL [.inr (some (c, k)), .inl i, .inl j, .inl x, .inl y]) σ) : ∀ (avs : List sw_V) (σ : sw_S), avs.length = n → (sw_foiiii c g avs σ).1 → W (sw_end (sw_foiiii c g avs σ)) (sw_ent maxL avs) σ := by
  intro avs σ _ hf
  match avs, hf with
  | [.inr (some (q1, q2)), .inl i, .inl j, .inl x, .inl y], hf =>
    obtain ⟨hb, hf2⟩ := sw_if_of hf
    have hb : q1 = c := Nat.eq_of_beq_eq_true hb
    subst hb
    exact h q2 i j x y σ hf2
theorem sw_foo_h {g : Nat → Nat → sw_S → sw_X} (h : ∀ k k2 σ, (g k k2 σ).1 → W (sw_end (g k k2 σ)) (sw_ent maxL [.inr (some (c, k)), .inr (some (d, k2))]) σ) : ∀ (avs : List sw_V) (σ : sw_S), avs.length = n → (sw_foo c d g avs σ).1 → W (sw_end (sw_foo c d g avs σ)) (sw_ent maxL avs) σ := by
  intro avs σ _ hf
  match avs, hf with
  | [.inr (some (q1, q2)), .inr (some (p1, p2))], hf =>
    obtain ⟨hb, hf2⟩ := sw_if_of hf
    rw [Bool.and_eq_true] at hb
    have hb1 : q1 = c := Nat.eq_of_beq_eq_true hb.1
    have hb2 : p1 = d := Nat.eq_of_beq_eq_true hb.2
    subst hb1
    subst hb2
    exact h q2 p2 σ hf2
theorem sw_fooi_h {g : Nat → Nat → Int32 → sw_S → sw_X} (h : ∀ k k2 i σ, (g k k2 i σ).1 → W (sw_end (g k k2 i σ)) (sw_ent maxL [.inr (some (c, k)), .inr (some (d, k2)), .inl i]) σ) : ∀ (avs : List sw_V) (σ : sw_S), avs.length = n → (sw_fooi c d g avs σ).1 → W (sw_end (sw_fooi c d g avs σ)) (sw_ent maxL avs) σ := by
  intro avs σ _ hf
  match avs, hf with
  | [.inr (some (q1, q2)), .inr (some (p1, p2)), .inl i], hf =>
    obtain ⟨hb, hf2⟩ := sw_if_of hf
    rw [Bool.and_eq_true] at hb
    have hb1 : q1 = c := Nat.eq_of_beq_eq_true hb.1
    have hb2 : p1 = d := Nat.eq_of_beq_eq_true hb.2
    subst hb1
    subst hb2
    exact h q2 p2 i σ hf2
theorem sw_fooii_h {g : Nat → Nat → Int32 → Int32 → sw_S → sw_X} (h : ∀ k k2 i j σ, (g k k2 i j σ).1 → W (sw_end (g k k2 i j σ)) (sw_ent maxL [.inr (some (c, k)), .inr (some (d, k2)), .inl i, .inl j]) σ) : ∀ (avs : List sw_V) (σ : sw_S), avs.length = n → (sw_fooii c d g avs σ).1 → W (sw_end (sw_fooii c d g avs σ)) (sw_ent maxL avs) σ := by
  intro avs σ _ hf
  match avs, hf with
  | [.inr (some (q1, q2)), .inr (some (p1, p2)), .inl i, .inl j], hf =>
    obtain ⟨hb, hf2⟩ := sw_if_of hf
    rw [Bool.and_eq_true] at hb
    have hb1 : q1 = c := Nat.eq_of_beq_eq_true hb.1
    have hb2 : p1 = d := Nat.eq_of_beq_eq_true hb.2
    subst hb1
    subst hb2
    exact h q2 p2 i j σ hf2
theorem sw_fi_h {g : Int32 → sw_S → sw_X} (h : ∀ i σ, (g i σ).1 → W (sw_end (g i σ)) (sw_ent maxL [.inl i]) σ) : ∀ (avs : List sw_V) (σ : sw_S), avs.length = n → (sw_fi g avs σ).1 → W (sw_end (sw_fi g avs σ)) (sw_ent maxL avs) σ := by
  intro avs σ _ hf
  match avs, hf with
  | [.inl i], hf => exact h i σ hf
theorem sw_fiii_h {g : Int32 → Int32 → Int32 → sw_S → sw_X} (h : ∀ i j x σ, (g i j x σ).1 → W (sw_end (g i j x σ)) (sw_ent maxL [.inl i, .inl j, .inl x]) σ) : ∀ (avs : List sw_V) (σ : sw_S), avs.length = n → (sw_fiii g avs σ).1 → W (sw_end (sw_fiii g avs σ)) (sw_ent maxL avs) σ := by
  intro avs σ _ hf
  match avs, hf with
  | [.inl i, .inl j, .inl x], hf => exact h i j x σ hf
end swSpec
end
section
/-! Frame: its small methods -/
/-- word i of frame k, as wordAt tells it -/
def fr_at (σ : sw_S) (k : Nat) (i : Int32) : Int32 := if 0 ≤ i ∧ i < σ 2 k 1 then σ 12 k i.toNatClampNeg else 0
theorem sw_ri {x y : Int32} (h : x = y) : some (Sum.inl x : sw_V) = some (Sum.inl y) := by rw [h]
theorem vp_in_lt {i n : Int32} {c : Nat} (h0 : ¬ i < 0) (h1 : i < n) (h2 : n ≤ nI c) (hc : c < 2 ^ 31) : vp_in i c := by
  rw [vp_in_iff]
  rw [Int32.lt_iff_toInt_lt] at h0 h1
  rw [Int32.le_iff_toInt_le, nI_toInt hc] at h2
  rw [Int32.toInt_zero] at h0
  omega
/-- a frame's length fits its row -/
def fr_ok (ln : sw_A) (k : Nat) (σ : sw_S) : Prop := σ 2 k 1 ≤ nI (ln 12 k) ∧ ln 12 k < 2 ^ 31
def gX2_wordAt (ln : sw_A) (k : Nat) (i : Int32) (σ : sw_S) : sw_X := (fr_ok ln k σ, some (.inl (fr_at σ k i)), σ)
def fX2_wordAt (ln : sw_A) : sw_F := sw_foi 2 (gX2_wordAt ln)
def ctX2_wordAt (ln : sw_A) : sw_C := []
abbrev wX2_wordAt (ln : sw_A) (Q : Option sw_V → sw_S → Prop) : Nat → Nat → sw_L → List sw_V → sw_S → Prop := sw_wp sw_rf ln (ctX2_wordAt ln) sX2_wordAt 1 22 tX2_wordAt Q
theorem hX2_wordAt (ln : sw_A) (k : Nat) (i : Int32) (σ : sw_S) (h : (gX2_wordAt ln k i σ).1) : ∃ fuel, wX2_wordAt ln (sw_end (gX2_wordAt ln k i σ)) fuel 0 (sw_ent 2 [.inr (some (2, k)), .inl i]) [] σ := by
  refine ⟨20, ?_⟩
  refine And.intro (fun h1 => ?_) (fun h1 => ?_)
  · exact ⟨sw_ri (if_neg (fun z => absurd h1 (Int32.not_lt.mpr z.1))).symm, rfl⟩
  · refine And.intro (fun h2 => ?_) (fun h2 => ?_)
    · exact ⟨sw_ri (if_neg (fun z => absurd z.2 (Int32.not_lt.mpr h2))).symm, rfl⟩
    · refine And.intro (vp_in_lt h1 (Int32.not_le.mp h2) h.1 h.2) ?_
      exact ⟨sw_ri (if_pos ⟨Int32.not_lt.mp h1, Int32.not_le.mp h2⟩).symm, rfl⟩
set_option maxRecDepth 100000 in
theorem mX2_wordAt {l : Launch} {ad : sw_A} {V : Nat → Nat → Prop} {ln : sw_A} {ca : Nat → ClassId} {D : va_G} (hG : sw_wf ad V sw_rf ln) : sw_met l ad V sw_rf ln ca D yX2_wordAt cX2_wordAt 2 (some .int) { frames := 0, cells := 0, slots := 0, locals := 0 } 2 (fX2_wordAt ln) := by
  refine sw_meth hG (by decide) (by refine ⟨?_, ?_, ?_, ?_⟩ <;> intro h <;> first | rfl | exact ⟨_, rfl⟩ | exact absurd h (by decide)) (by decide) kX2_wordAt flX2_in cnX2_in ?_ (sw_foi_h (W := fun Q L σ => ∃ fuel, wX2_wordAt ln Q fuel 0 L [] σ) (fun a0 a1 σ h => hX2_wordAt ln a0 a1 σ h))
  intro p e s m args below meth c S hT hnw
  exact fun q h => absurd h List.not_mem_nil
def gX2_put (ln : sw_A) (k : Nat) (x : Int32) (σ : sw_S) : sw_X := (0 ≤ σ 2 k 1 ∧ ln 12 k < 2 ^ 31, none, if σ 2 k 1 < nI (ln 12 k) then sw_up (sw_up σ 12 k (σ 2 k 1).toNatClampNeg x) 2 k 1 (σ 2 k 1 + 1) else σ)
def fX2_put (ln : sw_A) : sw_F := sw_foi 2 (gX2_put ln)
def ctX2_put (ln : sw_A) : sw_C := []
abbrev wX2_put (ln : sw_A) (Q : Option sw_V → sw_S → Prop) : Nat → Nat → sw_L → List sw_V → sw_S → Prop := sw_wp sw_rf ln (ctX2_put ln) sX2_put 0 32 tX2_put Q
theorem hX2_put (ln : sw_A) (k : Nat) (x : Int32) (σ : sw_S) (h : (gX2_put ln k x σ).1) : ∃ fuel, wX2_put ln (sw_end (gX2_put ln k x σ)) fuel 0 (sw_ent 2 [.inr (some (2, k)), .inl x]) [] σ := by
  refine ⟨30, ?_⟩
  refine And.intro (fun h1 => ?_) (fun h1 => ?_)
  · refine ⟨rfl, ?_⟩
    exact (if_neg (Int32.not_lt.mpr h1)).symm
  · have h2 := Int32.not_le.mp h1
    refine And.intro ?_ ?_
    · exact vp_in_lt (Int32.not_lt.mpr h.1) h2 (Int32.le_refl _) h.2
    · refine ⟨rfl, ?_⟩
      exact (if_pos h2).symm
set_option maxRecDepth 100000 in
theorem mX2_put {l : Launch} {ad : sw_A} {V : Nat → Nat → Prop} {ln : sw_A} {ca : Nat → ClassId} {D : va_G} (hG : sw_wf ad V sw_rf ln) : sw_met l ad V sw_rf ln ca D yX2_put cX2_put 2 none { frames := 0, cells := 0, slots := 0, locals := 0 } 2 (fX2_put ln) := by
  refine sw_meth hG (by decide) (by refine ⟨?_, ?_, ?_, ?_⟩ <;> intro h <;> first | rfl | exact ⟨_, rfl⟩ | exact absurd h (by decide)) (by decide) kX2_put flX2_in cnX2_in ?_ (sw_foi_h (W := fun Q L σ => ∃ fuel, wX2_put ln Q fuel 0 L [] σ) (fun a0 a1 σ h => hX2_put ln a0 a1 σ h))
  intro p e s m args below meth c S hT hnw
  exact fun q h => absurd h List.not_mem_nil
def gX2_begin (ln : sw_A) (k : Nat) (x : Int32) (σ : sw_S) : sw_X := gX2_put ln k x (sw_up σ 2 k 1 0)
def fX2_begin (ln : sw_A) : sw_F := sw_foi 2 (gX2_begin ln)
def ctX2_begin (ln : sw_A) : sw_C := [(25, 2, 3, fX2_put ln)]
abbrev wX2_begin (ln : sw_A) (Q : Option sw_V → sw_S → Prop) : Nat → Nat → sw_L → List sw_V → sw_S → Prop := sw_wp sw_rf ln (ctX2_begin ln) sX2_begin 0 10 tX2_begin Q
theorem hX2_begin (ln : sw_A) (k : Nat) (x : Int32) (σ : sw_S) (h : (gX2_begin ln k x σ).1) : ∃ fuel, wX2_begin ln (sw_end (gX2_begin ln k x σ)) fuel 0 (sw_ent 2 [.inr (some (2, k)), .inl x]) [] σ :=
  ⟨20, And.intro h ⟨rfl, rfl⟩⟩
set_option maxRecDepth 100000 in
theorem mX2_begin {l : Launch} {ad : sw_A} {V : Nat → Nat → Prop} {ln : sw_A} {ca : Nat → ClassId} {D : va_G} (hG : sw_wf ad V sw_rf ln) : sw_met l ad V sw_rf ln ca D yX2_begin cX2_begin 2 none { frames := 1, cells := 0, slots := 0, locals := 21 } 2 (fX2_begin ln) := by
  refine sw_meth hG (by decide) (by refine ⟨?_, ?_, ?_, ?_⟩ <;> intro h <;> first | rfl | exact ⟨_, rfl⟩ | exact absurd h (by decide)) (by decide) kX2_begin flX2_in cnX2_in ?_ (sw_foi_h (W := fun Q L σ => ∃ fuel, wX2_begin ln Q fuel 0 L [] σ) (fun a0 a1 σ h => hX2_begin ln a0 a1 σ h))
  intro p e s m args below meth c S hT hnw
  refine List.forall_mem_cons.mpr ⟨sw_cokV S hT hnw (mX2_put hG) 25 2 (by decide) ⟨by decide +kernel, by decide +kernel, by decide +kernel, by decide +kernel, by decide +kernel⟩ ⟨rfl, by decide, by decide, by decide +kernel⟩ ⟨rfl, rfl⟩ ⟨by decide, by decide⟩, ?_⟩
  exact fun q h => absurd h List.not_mem_nil
def gX2_flip (ln : sw_A) (k : Nat) (i x : Int32) (σ : sw_S) : sw_X := (fr_ok ln k σ, some (.inl (if 0 ≤ i ∧ i < σ 2 k 1 then 1 else 0)), if 0 ≤ i ∧ i < σ 2 k 1 then sw_up σ 12 k i.toNatClampNeg (σ 12 k i.toNatClampNeg ^^^ x) else σ)
def fX2_flip (ln : sw_A) : sw_F := sw_foii 2 (gX2_flip ln)
def ctX2_flip (ln : sw_A) : sw_C := []
abbrev wX2_flip (ln : sw_A) (Q : Option sw_V → sw_S → Prop) : Nat → Nat → sw_L → List sw_V → sw_S → Prop := sw_wp sw_rf ln (ctX2_flip ln) sX2_flip 2 25 tX2_flip Q
theorem hX2_flip (ln : sw_A) (k : Nat) (i x : Int32) (σ : sw_S) (h : (gX2_flip ln k i x σ).1) : ∃ fuel, wX2_flip ln (sw_end (gX2_flip ln k i x σ)) fuel 0 (sw_ent 3 [.inr (some (2, k)), .inl i, .inl x]) [] σ := by
  refine ⟨30, ?_⟩
  refine And.intro (fun h1 => ?_) (fun h1 => ?_)
  · have hn : ¬ (0 ≤ i ∧ i < σ 2 k 1) := fun z => absurd h1 (Int32.not_lt.mpr z.1)
    exact ⟨Or.inl rfl, sw_ri (if_neg hn).symm, (if_neg hn).symm⟩
  · refine And.intro (fun h2 => ?_) (fun h2 => ?_)
    · have hn : 0 ≤ i ∧ i < σ 2 k 1 := ⟨Int32.not_lt.mp h1, h2⟩
      exact And.intro (vp_in_lt h1 h2 h.1 h.2) (And.intro (vp_in_lt h1 h2 h.1 h.2) ⟨Or.inr rfl, sw_ri (if_pos hn).symm, (if_pos hn).symm⟩)
    · have hn : ¬ (0 ≤ i ∧ i < σ 2 k 1) := fun z => h2 z.2
      exact ⟨Or.inl rfl, sw_ri (if_neg hn).symm, (if_neg hn).symm⟩
set_option maxRecDepth 100000 in
theorem mX2_flip {l : Launch} {ad : sw_A} {V : Nat → Nat → Prop} {ln : sw_A} {ca : Nat → ClassId} {D : va_G} (hG : sw_wf ad V sw_rf ln) : sw_met l ad V sw_rf ln ca D yX2_flip cX2_flip 3 (some .boolean) { frames := 0, cells := 0, slots := 0, locals := 0 } 3 (fX2_flip ln) := by
  refine sw_meth hG (by decide) (by refine ⟨?_, ?_, ?_, ?_⟩ <;> intro h <;> first | rfl | exact ⟨_, rfl⟩ | exact absurd h (by decide)) (by decide) kX2_flip flX2_in cnX2_in ?_ (sw_foii_h (W := fun Q L σ => ∃ fuel, wX2_flip ln Q fuel 0 L [] σ) (fun a0 a1 a2 σ h => hX2_flip ln a0 a1 a2 σ h))
  intro p e s m args below meth c S hT hnw
  exact fun q h => absurd h List.not_mem_nil
def gX2_kind (ln : sw_A) (k : Nat) (σ : sw_S) : sw_X := (fr_ok ln k σ, some (.inl (fr_at σ k 0 &&& 7)), σ)
def fX2_kind (ln : sw_A) : sw_F := sw_fo 2 (gX2_kind ln)
def ctX2_kind (ln : sw_A) : sw_C := [(47, 2, 3, fX2_wordAt ln)]
abbrev wX2_kind (ln : sw_A) (Q : Option sw_V → sw_S → Prop) : Nat → Nat → sw_L → List sw_V → sw_S → Prop := sw_wp sw_rf ln (ctX2_kind ln) sX2_kind 1 8 tX2_kind Q
theorem hX2_kind (ln : sw_A) (k : Nat) (σ : sw_S) (h : (gX2_kind ln k σ).1) : ∃ fuel, wX2_kind ln (sw_end (gX2_kind ln k σ)) fuel 0 (sw_ent 1 [.inr (some (2, k))]) [] σ :=
  ⟨20, And.intro h ⟨rfl, rfl⟩⟩
set_option maxRecDepth 100000 in
theorem mX2_kind {l : Launch} {ad : sw_A} {V : Nat → Nat → Prop} {ln : sw_A} {ca : Nat → ClassId} {D : va_G} (hG : sw_wf ad V sw_rf ln) : sw_met l ad V sw_rf ln ca D yX2_kind cX2_kind 1 (some .int) { frames := 1, cells := 0, slots := 0, locals := 21 } 1 (fX2_kind ln) := by
  refine sw_meth hG (by decide) (by refine ⟨?_, ?_, ?_, ?_⟩ <;> intro h <;> first | rfl | exact ⟨_, rfl⟩ | exact absurd h (by decide)) (by decide) kX2_kind flX2_in cnX2_in ?_ (sw_fo_h (W := fun Q L σ => ∃ fuel, wX2_kind ln Q fuel 0 L [] σ) (fun a0 σ h => hX2_kind ln a0 σ h))
  intro p e s m args below meth c S hT hnw
  refine List.forall_mem_cons.mpr ⟨sw_cokV S hT hnw (mX2_wordAt hG) 47 2 (by decide) ⟨by decide +kernel, by decide +kernel, by decide +kernel, by decide +kernel, by decide +kernel⟩ ⟨rfl, by decide, by decide, by decide +kernel⟩ ⟨rfl, rfl⟩ ⟨by decide, by decide⟩, ?_⟩
  exact fun q h => absurd h List.not_mem_nil
def gX2_streamNumber (ln : sw_A) (k : Nat) (σ : sw_S) : sw_X := (fr_ok ln k σ, some (.inl (sw_ushr (fr_at σ k 0) 3 &&& 31)), σ)
def fX2_streamNumber (ln : sw_A) : sw_F := sw_fo 2 (gX2_streamNumber ln)
def ctX2_streamNumber (ln : sw_A) : sw_C := [(47, 2, 3, fX2_wordAt ln)]
abbrev wX2_streamNumber (ln : sw_A) (Q : Option sw_V → sw_S → Prop) : Nat → Nat → sw_L → List sw_V → sw_S → Prop := sw_wp sw_rf ln (ctX2_streamNumber ln) sX2_streamNumber 1 10 tX2_streamNumber Q
theorem hX2_streamNumber (ln : sw_A) (k : Nat) (σ : sw_S) (h : (gX2_streamNumber ln k σ).1) : ∃ fuel, wX2_streamNumber ln (sw_end (gX2_streamNumber ln k σ)) fuel 0 (sw_ent 1 [.inr (some (2, k))]) [] σ :=
  ⟨20, And.intro h ⟨rfl, rfl⟩⟩
set_option maxRecDepth 100000 in
theorem mX2_streamNumber {l : Launch} {ad : sw_A} {V : Nat → Nat → Prop} {ln : sw_A} {ca : Nat → ClassId} {D : va_G} (hG : sw_wf ad V sw_rf ln) : sw_met l ad V sw_rf ln ca D yX2_streamNumber cX2_streamNumber 1 (some .int) { frames := 1, cells := 0, slots := 0, locals := 21 } 1 (fX2_streamNumber ln) := by
  refine sw_meth hG (by decide) (by refine ⟨?_, ?_, ?_, ?_⟩ <;> intro h <;> first | rfl | exact ⟨_, rfl⟩ | exact absurd h (by decide)) (by decide) kX2_streamNumber flX2_in cnX2_in ?_ (sw_fo_h (W := fun Q L σ => ∃ fuel, wX2_streamNumber ln Q fuel 0 L [] σ) (fun a0 σ h => hX2_streamNumber ln a0 σ h))
  intro p e s m args below meth c S hT hnw
  refine List.forall_mem_cons.mpr ⟨sw_cokV S hT hnw (mX2_wordAt hG) 47 2 (by decide) ⟨by decide +kernel, by decide +kernel, by decide +kernel, by decide +kernel, by decide +kernel⟩ ⟨rfl, by decide, by decide, by decide +kernel⟩ ⟨rfl, rfl⟩ ⟨by decide, by decide⟩, ?_⟩
  exact fun q h => absurd h List.not_mem_nil
def gX2_number (ln : sw_A) (k : Nat) (σ : sw_S) : sw_X := (fr_ok ln k σ, some (.inl (sw_ushr (fr_at σ k 0) 8 &&& 255)), σ)
def fX2_number (ln : sw_A) : sw_F := sw_fo 2 (gX2_number ln)
def ctX2_number (ln : sw_A) : sw_C := [(47, 2, 3, fX2_wordAt ln)]
abbrev wX2_number (ln : sw_A) (Q : Option sw_V → sw_S → Prop) : Nat → Nat → sw_L → List sw_V → sw_S → Prop := sw_wp sw_rf ln (ctX2_number ln) sX2_number 1 12 tX2_number Q
theorem hX2_number (ln : sw_A) (k : Nat) (σ : sw_S) (h : (gX2_number ln k σ).1) : ∃ fuel, wX2_number ln (sw_end (gX2_number ln k σ)) fuel 0 (sw_ent 1 [.inr (some (2, k))]) [] σ :=
  ⟨20, And.intro h ⟨rfl, rfl⟩⟩
set_option maxRecDepth 100000 in
theorem mX2_number {l : Launch} {ad : sw_A} {V : Nat → Nat → Prop} {ln : sw_A} {ca : Nat → ClassId} {D : va_G} (hG : sw_wf ad V sw_rf ln) : sw_met l ad V sw_rf ln ca D yX2_number cX2_number 1 (some .int) { frames := 1, cells := 0, slots := 0, locals := 21 } 1 (fX2_number ln) := by
  refine sw_meth hG (by decide) (by refine ⟨?_, ?_, ?_, ?_⟩ <;> intro h <;> first | rfl | exact ⟨_, rfl⟩ | exact absurd h (by decide)) (by decide) kX2_number flX2_in cnX2_in ?_ (sw_fo_h (W := fun Q L σ => ∃ fuel, wX2_number ln Q fuel 0 L [] σ) (fun a0 σ h => hX2_number ln a0 σ h))
  intro p e s m args below meth c S hT hnw
  refine List.forall_mem_cons.mpr ⟨sw_cokV S hT hnw (mX2_wordAt hG) 47 2 (by decide) ⟨by decide +kernel, by decide +kernel, by decide +kernel, by decide +kernel, by decide +kernel⟩ ⟨rfl, by decide, by decide, by decide +kernel⟩ ⟨rfl, rfl⟩ ⟨by decide, by decide⟩, ?_⟩
  exact fun q h => absurd h List.not_mem_nil
def gX2_wanted (ln : sw_A) (k : Nat) (σ : sw_S) : sw_X := (fr_ok ln k σ, some (.inl (sw_ushr (fr_at σ k 0) 16 &&& 255)), σ)
def fX2_wanted (ln : sw_A) : sw_F := sw_fo 2 (gX2_wanted ln)
def ctX2_wanted (ln : sw_A) : sw_C := [(47, 2, 3, fX2_wordAt ln)]
abbrev wX2_wanted (ln : sw_A) (Q : Option sw_V → sw_S → Prop) : Nat → Nat → sw_L → List sw_V → sw_S → Prop := sw_wp sw_rf ln (ctX2_wanted ln) sX2_wanted 1 12 tX2_wanted Q
theorem hX2_wanted (ln : sw_A) (k : Nat) (σ : sw_S) (h : (gX2_wanted ln k σ).1) : ∃ fuel, wX2_wanted ln (sw_end (gX2_wanted ln k σ)) fuel 0 (sw_ent 1 [.inr (some (2, k))]) [] σ :=
  ⟨20, And.intro h ⟨rfl, rfl⟩⟩
set_option maxRecDepth 100000 in
theorem mX2_wanted {l : Launch} {ad : sw_A} {V : Nat → Nat → Prop} {ln : sw_A} {ca : Nat → ClassId} {D : va_G} (hG : sw_wf ad V sw_rf ln) : sw_met l ad V sw_rf ln ca D yX2_wanted cX2_wanted 1 (some .int) { frames := 1, cells := 0, slots := 0, locals := 21 } 1 (fX2_wanted ln) := by
  refine sw_meth hG (by decide) (by refine ⟨?_, ?_, ?_, ?_⟩ <;> intro h <;> first | rfl | exact ⟨_, rfl⟩ | exact absurd h (by decide)) (by decide) kX2_wanted flX2_in cnX2_in ?_ (sw_fo_h (W := fun Q L σ => ∃ fuel, wX2_wanted ln Q fuel 0 L [] σ) (fun a0 σ h => hX2_wanted ln a0 σ h))
  intro p e s m args below meth c S hT hnw
  refine List.forall_mem_cons.mpr ⟨sw_cokV S hT hnw (mX2_wordAt hG) 47 2 (by decide) ⟨by decide +kernel, by decide +kernel, by decide +kernel, by decide +kernel, by decide +kernel⟩ ⟨rfl, by decide, by decide, by decide +kernel⟩ ⟨rfl, rfl⟩ ⟨by decide, by decide⟩, ?_⟩
  exact fun q h => absurd h List.not_mem_nil
def gX2_count (ln : sw_A) (k : Nat) (σ : sw_S) : sw_X := (fr_ok ln k σ, some (.inl (sw_ushr (fr_at σ k 0) 24)), σ)
def fX2_count (ln : sw_A) : sw_F := sw_fo 2 (gX2_count ln)
def ctX2_count (ln : sw_A) : sw_C := [(47, 2, 3, fX2_wordAt ln)]
abbrev wX2_count (ln : sw_A) (Q : Option sw_V → sw_S → Prop) : Nat → Nat → sw_L → List sw_V → sw_S → Prop := sw_wp sw_rf ln (ctX2_count ln) sX2_count 1 8 tX2_count Q
theorem hX2_count (ln : sw_A) (k : Nat) (σ : sw_S) (h : (gX2_count ln k σ).1) : ∃ fuel, wX2_count ln (sw_end (gX2_count ln k σ)) fuel 0 (sw_ent 1 [.inr (some (2, k))]) [] σ :=
  ⟨20, And.intro h ⟨rfl, rfl⟩⟩
set_option maxRecDepth 100000 in
theorem mX2_count {l : Launch} {ad : sw_A} {V : Nat → Nat → Prop} {ln : sw_A} {ca : Nat → ClassId} {D : va_G} (hG : sw_wf ad V sw_rf ln) : sw_met l ad V sw_rf ln ca D yX2_count cX2_count 1 (some .int) { frames := 1, cells := 0, slots := 0, locals := 21 } 1 (fX2_count ln) := by
  refine sw_meth hG (by decide) (by refine ⟨?_, ?_, ?_, ?_⟩ <;> intro h <;> first | rfl | exact ⟨_, rfl⟩ | exact absurd h (by decide)) (by decide) kX2_count flX2_in cnX2_in ?_ (sw_fo_h (W := fun Q L σ => ∃ fuel, wX2_count ln Q fuel 0 L [] σ) (fun a0 σ h => hX2_count ln a0 σ h))
  intro p e s m args below meth c S hT hnw
  refine List.forall_mem_cons.mpr ⟨sw_cokV S hT hnw (mX2_wordAt hG) 47 2 (by decide) ⟨by decide +kernel, by decide +kernel, by decide +kernel, by decide +kernel, by decide +kernel⟩ ⟨rfl, by decide, by decide, by decide +kernel⟩ ⟨rfl, rfl⟩ ⟨by decide, by decide⟩, ?_⟩
  exact fun q h => absurd h List.not_mem_nil
def gX2_itemWord (ln : sw_A) (k : Nat) (i : Int32) (σ : sw_S) : sw_X := (fr_ok ln k σ, some (.inl (fr_at σ k (2 + i))), σ)
def fX2_itemWord (ln : sw_A) : sw_F := sw_foi 2 (gX2_itemWord ln)
def ctX2_itemWord (ln : sw_A) : sw_C := [(47, 2, 3, fX2_wordAt ln)]
abbrev wX2_itemWord (ln : sw_A) (Q : Option sw_V → sw_S → Prop) : Nat → Nat → sw_L → List sw_V → sw_S → Prop := sw_wp sw_rf ln (ctX2_itemWord ln) sX2_itemWord 1 7 tX2_itemWord Q
theorem hX2_itemWord (ln : sw_A) (k : Nat) (i : Int32) (σ : sw_S) (h : (gX2_itemWord ln k i σ).1) : ∃ fuel, wX2_itemWord ln (sw_end (gX2_itemWord ln k i σ)) fuel 0 (sw_ent 2 [.inr (some (2, k)), .inl i]) [] σ :=
  ⟨20, And.intro h ⟨rfl, rfl⟩⟩
set_option maxRecDepth 100000 in
theorem mX2_itemWord {l : Launch} {ad : sw_A} {V : Nat → Nat → Prop} {ln : sw_A} {ca : Nat → ClassId} {D : va_G} (hG : sw_wf ad V sw_rf ln) : sw_met l ad V sw_rf ln ca D yX2_itemWord cX2_itemWord 2 (some .int) { frames := 1, cells := 0, slots := 0, locals := 21 } 2 (fX2_itemWord ln) := by
  refine sw_meth hG (by decide) (by refine ⟨?_, ?_, ?_, ?_⟩ <;> intro h <;> first | rfl | exact ⟨_, rfl⟩ | exact absurd h (by decide)) (by decide) kX2_itemWord flX2_in cnX2_in ?_ (sw_foi_h (W := fun Q L σ => ∃ fuel, wX2_itemWord ln Q fuel 0 L [] σ) (fun a0 a1 σ h => hX2_itemWord ln a0 a1 σ h))
  intro p e s m args below meth c S hT hnw
  refine List.forall_mem_cons.mpr ⟨sw_cokV S hT hnw (mX2_wordAt hG) 47 2 (by decide) ⟨by decide +kernel, by decide +kernel, by decide +kernel, by decide +kernel, by decide +kernel⟩ ⟨rfl, by decide, by decide, by decide +kernel⟩ ⟨rfl, rfl⟩ ⟨by decide, by decide⟩, ?_⟩
  exact fun q h => absurd h List.not_mem_nil
def gX2_granted (ln : sw_A) (k : Nat) (σ : sw_S) : sw_X := (fr_ok ln k σ, some (.inl (fr_at σ k 1)), σ)
def fX2_granted (ln : sw_A) : sw_F := sw_fo 2 (gX2_granted ln)
def ctX2_granted (ln : sw_A) : sw_C := [(47, 2, 3, fX2_wordAt ln)]
abbrev wX2_granted (ln : sw_A) (Q : Option sw_V → sw_S → Prop) : Nat → Nat → sw_L → List sw_V → sw_S → Prop := sw_wp sw_rf ln (ctX2_granted ln) sX2_granted 1 5 tX2_granted Q
theorem hX2_granted (ln : sw_A) (k : Nat) (σ : sw_S) (h : (gX2_granted ln k σ).1) : ∃ fuel, wX2_granted ln (sw_end (gX2_granted ln k σ)) fuel 0 (sw_ent 1 [.inr (some (2, k))]) [] σ :=
  ⟨20, And.intro h ⟨rfl, rfl⟩⟩
set_option maxRecDepth 100000 in
theorem mX2_granted {l : Launch} {ad : sw_A} {V : Nat → Nat → Prop} {ln : sw_A} {ca : Nat → ClassId} {D : va_G} (hG : sw_wf ad V sw_rf ln) : sw_met l ad V sw_rf ln ca D yX2_granted cX2_granted 1 (some .int) { frames := 1, cells := 0, slots := 0, locals := 21 } 1 (fX2_granted ln) := by
  refine sw_meth hG (by decide) (by refine ⟨?_, ?_, ?_, ?_⟩ <;> intro h <;> first | rfl | exact ⟨_, rfl⟩ | exact absurd h (by decide)) (by decide) kX2_granted flX2_in cnX2_in ?_ (sw_fo_h (W := fun Q L σ => ∃ fuel, wX2_granted ln Q fuel 0 L [] σ) (fun a0 σ h => hX2_granted ln a0 σ h))
  intro p e s m args below meth c S hT hnw
  refine List.forall_mem_cons.mpr ⟨sw_cokV S hT hnw (mX2_wordAt hG) 47 2 (by decide) ⟨by decide +kernel, by decide +kernel, by decide +kernel, by decide +kernel, by decide +kernel⟩ ⟨rfl, by decide, by decide, by decide +kernel⟩ ⟨rfl, rfl⟩ ⟨by decide, by decide⟩, ?_⟩
  exact fun q h => absurd h List.not_mem_nil
def fr_mk (σ : sw_S) (k : Nat) (i : Int32) : Int32 := if sw_ushr (fr_at σ k 1) i &&& 1 = 1 then 1 else 0
def gX2_isMark (ln : sw_A) (k : Nat) (i : Int32) (σ : sw_S) : sw_X := (fr_ok ln k σ, some (.inl (fr_mk σ k i)), σ)
def fX2_isMark (ln : sw_A) : sw_F := sw_foi 2 (gX2_isMark ln)
def ctX2_isMark (ln : sw_A) : sw_C := [(47, 2, 3, fX2_wordAt ln)]
abbrev wX2_isMark (ln : sw_A) (Q : Option sw_V → sw_S → Prop) : Nat → Nat → sw_L → List sw_V → sw_S → Prop := sw_wp sw_rf ln (ctX2_isMark ln) sX2_isMark 2 18 tX2_isMark Q
theorem hX2_isMark (ln : sw_A) (k : Nat) (i : Int32) (σ : sw_S) (h : (gX2_isMark ln k i σ).1) : ∃ fuel, wX2_isMark ln (sw_end (gX2_isMark ln k i σ)) fuel 0 (sw_ent 2 [.inr (some (2, k)), .inl i]) [] σ :=
  ⟨20, And.intro h (And.intro (fun h1 => ⟨Or.inl rfl, sw_ri (if_neg h1).symm, rfl⟩) (fun h1 => ⟨Or.inr rfl, sw_ri (if_pos h1).symm, rfl⟩))⟩
set_option maxRecDepth 100000 in
theorem mX2_isMark {l : Launch} {ad : sw_A} {V : Nat → Nat → Prop} {ln : sw_A} {ca : Nat → ClassId} {D : va_G} (hG : sw_wf ad V sw_rf ln) : sw_met l ad V sw_rf ln ca D yX2_isMark cX2_isMark 2 (some .boolean) { frames := 1, cells := 0, slots := 0, locals := 21 } 2 (fX2_isMark ln) := by
  refine sw_meth hG (by decide) (by refine ⟨?_, ?_, ?_, ?_⟩ <;> intro h <;> first | rfl | exact ⟨_, rfl⟩ | exact absurd h (by decide)) (by decide) kX2_isMark flX2_in cnX2_in ?_ (sw_foi_h (W := fun Q L σ => ∃ fuel, wX2_isMark ln Q fuel 0 L [] σ) (fun a0 a1 σ h => hX2_isMark ln a0 a1 σ h))
  intro p e s m args below meth c S hT hnw
  refine List.forall_mem_cons.mpr ⟨sw_cokV S hT hnw (mX2_wordAt hG) 47 2 (by decide) ⟨by decide +kernel, by decide +kernel, by decide +kernel, by decide +kernel, by decide +kernel⟩ ⟨rfl, by decide, by decide, by decide +kernel⟩ ⟨rfl, rfl⟩ ⟨by decide, by decide⟩, ?_⟩
  exact fun q h => absurd h List.not_mem_nil
/-- the sum of the first n words that w tells: a and b -/
def sm_ab (w : Int32 → Int32) : Nat → Int32 × Int32
  | 0 => (0, 0)
  | n + 1 => (sw_rem (sw_rem ((sm_ab w n).1 + sw_ushr (w (nI n)) 16) 65535 + (w (nI n) &&& 65535)) 65535,
    sw_rem (sw_rem ((sm_ab w n).2 + sw_rem ((sm_ab w n).1 + sw_ushr (w (nI n)) 16) 65535) 65535 + sw_rem (sw_rem ((sm_ab w n).1 + sw_ushr (w (nI n)) 16) 65535 + (w (nI n) &&& 65535)) 65535) 65535)
def sm (w : Int32 → Int32) (n : Nat) : Int32 := (sm_ab w n).2 <<< (16 &&& 31) ||| (sm_ab w n).1
def gX2_sumBefore (ln : sw_A) (k : Nat) (e : Int32) (σ : sw_S) : sw_X := (fr_ok ln k σ ∧ 0 ≤ e, some (.inl (sm (fr_at σ k) e.toNatClampNeg)), σ)
def fX2_sumBefore (ln : sw_A) : sw_F := sw_foi 2 (gX2_sumBefore ln)
def ctX2_sumBefore (ln : sw_A) : sw_C := [(47, 2, 3, fX2_wordAt ln)]
abbrev wX2_sumBefore (ln : sw_A) (Q : Option sw_V → sw_S → Prop) : Nat → Nat → sw_L → List sw_V → sw_S → Prop := sw_wp sw_rf ln (ctX2_sumBefore ln) sX2_sumBefore 1 69 tX2_sumBefore Q
theorem hX2_sumBefore_l (ln : sw_A) (k n : Nat) (σ : sw_S) (hn : n < 2 ^ 31) (hk : fr_ok ln k σ) : ∀ (d j : Nat) (x5 : Option sw_V), j + d = n → ∃ fuel, wX2_sumBefore ln (sw_end (gX2_sumBefore ln k (nI n) σ)) fuel 7 [some (.inr (some (2, k))), some (.inl (nI n)), some (.inl (sm_ab (fr_at σ k) j).1), some (.inl (sm_ab (fr_at σ k) j).2), some (.inl (nI j)), x5] [] σ := by
  intro d
  induction d with
  | zero =>
    intro j x5 hj
    have hj : j = n := by omega
    subst hj
    refine ⟨20, And.intro (fun _ => ⟨?_, rfl⟩) (fun h => absurd (Int32.le_refl _) h)⟩
    show some _ = some (Sum.inl (sm (fr_at σ k) (nI j).toNatClampNeg))
    rw [nI_clamp hn]
    rfl
  | succ d ih =>
    intro j x5 hj
    obtain ⟨f, hf⟩ := ih (j + 1) (some (.inl (fr_at σ k (nI j)))) (by omega)
    rw [← nI_1] at hf
    refine ⟨f + 60, sw_ws_wp [7] f 60 _ _ _ _ ?_⟩
    refine And.intro (fun h => absurd h (nI_ge (by omega) hn)) (fun _ => And.intro hk (And.intro (by decide) (And.intro (by decide) (And.intro (by decide) (And.intro (by decide) ?_)))))
    exact hf
theorem hX2_sumBefore (ln : sw_A) (k : Nat) (e : Int32) (σ : sw_S) (h : (gX2_sumBefore ln k e σ).1) : ∃ fuel, wX2_sumBefore ln (sw_end (gX2_sumBefore ln k e σ)) fuel 0 (sw_ent 6 [.inr (some (2, k)), .inl e]) [] σ := by
  obtain ⟨n, hn, rfl⟩ := nI_of (Int32.not_lt.mpr h.2)
  obtain ⟨f, hf⟩ := hX2_sumBefore_l ln k n σ hn h.1 n 0 none (by omega)
  exact ⟨f + 10, sw_wp_mono hf _⟩
set_option maxRecDepth 100000 in
theorem mX2_sumBefore {l : Launch} {ad : sw_A} {V : Nat → Nat → Prop} {ln : sw_A} {ca : Nat → ClassId} {D : va_G} (hG : sw_wf ad V sw_rf ln) : sw_met l ad V sw_rf ln ca D yX2_sumBefore cX2_sumBefore 6 (some .int) { frames := 1, cells := 0, slots := 0, locals := 21 } 2 (fX2_sumBefore ln) := by
  refine sw_meth hG (by decide) (by refine ⟨?_, ?_, ?_, ?_⟩ <;> intro h <;> first | rfl | exact ⟨_, rfl⟩ | exact absurd h (by decide)) (by decide) kX2_sumBefore flX2_in cnX2_in ?_ (sw_foi_h (W := fun Q L σ => ∃ fuel, wX2_sumBefore ln Q fuel 0 L [] σ) (fun a0 a1 σ h => hX2_sumBefore ln a0 a1 σ h))
  intro p e s m args below meth c S hT hnw
  refine List.forall_mem_cons.mpr ⟨sw_cokV S hT hnw (mX2_wordAt hG) 47 2 (by decide) ⟨by decide +kernel, by decide +kernel, by decide +kernel, by decide +kernel, by decide +kernel⟩ ⟨rfl, by decide, by decide, by decide +kernel⟩ ⟨rfl, rfl⟩ ⟨by decide, by decide⟩, ?_⟩
  exact fun q h => absurd h List.not_mem_nil
end
section
/-! Frame: the rest -/
theorem sw_upk (σ : sw_S) {c k j c' k' j' : Nat} {v : Int32} (h : ¬ c' = c) : sw_up σ c k j v c' k' j' = σ c' k' j' := if_neg (fun z => h z.1)
theorem sw_ushr_N {n : Nat} (hn : n < 2 ^ 32) (s : Int32) (k : Nat) (hs : ((s.toUInt32 &&& Int32.toUInt32 31).toBitVec % 32).toNat = k) : sw_ushr (nI n) s = nI (n / 2 ^ k) := pk_ushrN hn s k hs
theorem sw_nI_all (x : Int32) : ∃ n : Nat, n < 2 ^ 32 ∧ x = nI n := by
  refine ⟨x.toBitVec.toNat, x.toBitVec.isLt, ?_⟩
  apply Int32.toBitVec_inj.mp
  apply BitVec.eq_of_toNat_eq
  rw [pk_tn x.toBitVec.isLt]
theorem sw_ushr24 (x : Int32) : ∃ n : Nat, n < 256 ∧ sw_ushr x 24 = nI n := by
  obtain ⟨n, hn, rfl⟩ := sw_nI_all x
  exact ⟨n / 2 ^ 24, by omega, sw_ushr_N hn 24 24 (by decide)⟩
abbrev fr_kd (σ : sw_S) (k : Nat) : Int32 := fr_at σ k 0 &&& 7
abbrev fr_sn (σ : sw_S) (k : Nat) : Int32 := sw_ushr (fr_at σ k 0) 3 &&& 31
abbrev fr_nu (σ : sw_S) (k : Nat) : Int32 := sw_ushr (fr_at σ k 0) 8 &&& 255
abbrev fr_wa (σ : sw_S) (k : Nat) : Int32 := sw_ushr (fr_at σ k 0) 16 &&& 255
abbrev fr_ct (σ : sw_S) (k : Nat) : Int32 := sw_ushr (fr_at σ k 0) 24
def gX2_seal (ln : sw_A) (k : Nat) (σ : sw_S) : sw_X := (fr_ok ln k σ ∧ 0 ≤ σ 2 k 1, none, (gX2_put ln k (sm (fr_at σ k) (σ 2 k 1).toNatClampNeg) σ).2.2)
def fX2_seal (ln : sw_A) : sw_F := sw_fo 2 (gX2_seal ln)
def ctX2_seal (ln : sw_A) : sw_C := [(32, 2, 3, fX2_sumBefore ln), (25, 2, 3, fX2_put ln)]
abbrev wX2_seal (ln : sw_A) (Q : Option sw_V → sw_S → Prop) : Nat → Nat → sw_L → List sw_V → sw_S → Prop := sw_wp sw_rf ln (ctX2_seal ln) sX2_seal 0 12 tX2_seal Q
theorem hX2_seal (ln : sw_A) (k : Nat) (σ : sw_S) (h : (gX2_seal ln k σ).1) : ∃ fuel, wX2_seal ln (sw_end (gX2_seal ln k σ)) fuel 0 (sw_ent 1 [.inr (some (2, k))]) [] σ :=
  ⟨20, And.intro h (And.intro ⟨h.2, h.1.2⟩ ⟨rfl, rfl⟩)⟩
set_option maxRecDepth 100000 in
theorem mX2_seal {l : Launch} {ad : sw_A} {V : Nat → Nat → Prop} {ln : sw_A} {ca : Nat → ClassId} {D : va_G} (hG : sw_wf ad V sw_rf ln) : sw_met l ad V sw_rf ln ca D yX2_seal cX2_seal 1 none { frames := 2, cells := 0, slots := 0, locals := 46 } 1 (fX2_seal ln) := by
  refine sw_meth hG (by decide) (by refine ⟨?_, ?_, ?_, ?_⟩ <;> intro h <;> first | rfl | exact ⟨_, rfl⟩ | exact absurd h (by decide)) (by decide) kX2_seal flX2_in cnX2_in ?_ (sw_fo_h (W := fun Q L σ => ∃ fuel, wX2_seal ln Q fuel 0 L [] σ) (fun a0 σ h => hX2_seal ln a0 σ h))
  intro p e s m args below meth c S hT hnw
  refine List.forall_mem_cons.mpr ⟨sw_cokV S hT hnw (mX2_sumBefore hG) 32 2 (by decide) ⟨by decide +kernel, by decide +kernel, by decide +kernel, by decide +kernel, by decide +kernel⟩ ⟨rfl, by decide, by decide, by decide +kernel⟩ ⟨rfl, rfl⟩ ⟨by decide, by decide⟩, ?_⟩
  refine List.forall_mem_cons.mpr ⟨sw_cokV S hT hnw (mX2_put hG) 25 2 (by decide) ⟨by decide +kernel, by decide +kernel, by decide +kernel, by decide +kernel, by decide +kernel⟩ ⟨rfl, by decide, by decide, by decide +kernel⟩ ⟨rfl, rfl⟩ ⟨by decide, by decide⟩, ?_⟩
  exact fun q h => absurd h List.not_mem_nil
def fr_rf (ln : sw_A) (k : Nat) (x : Int32) (σ : sw_S) : sw_S := (gX2_flip ln k 0 ((fr_wa σ k ^^^ x) <<< (16 &&& 31)) σ).2.2
def fr_rl (s : sw_S) (k : Nat) : Int32 := s 2 k 1 - 1
def fr_re (ln : sw_A) (k : Nat) (x : Int32) (σ : sw_S) : sw_S := sw_up (fr_rf ln k x σ) 2 k 1 (if 0 < fr_rl (fr_rf ln k x σ) k then fr_rl (fr_rf ln k x σ) k else 0)
def gX2_renew (ln : sw_A) (k : Nat) (x : Int32) (σ : sw_S) : sw_X := (fr_ok ln k σ ∧ (gX2_seal ln k (fr_re ln k x σ)).1, none, (gX2_seal ln k (fr_re ln k x σ)).2.2)
def fX2_renew (ln : sw_A) : sw_F := sw_foi 2 (gX2_renew ln)
def ctX2_renew (ln : sw_A) : sw_C := [(36, 1, 3, fX2_wanted ln), (40, 3, 3, fX2_flip ln), (9, 2, 0, sw_max), (44, 1, 3, fX2_seal ln)]
abbrev wX2_renew (ln : sw_A) (Q : Option sw_V → sw_S → Prop) : Nat → Nat → sw_L → List sw_V → sw_S → Prop := sw_wp sw_rf ln (ctX2_renew ln) sX2_renew 0 33 tX2_renew Q
theorem hX2_renew (ln : sw_A) (k : Nat) (x : Int32) (σ : sw_S) (h : (gX2_renew ln k x σ).1) : ∃ fuel, wX2_renew ln (sw_end (gX2_renew ln k x σ)) fuel 0 (sw_ent 2 [.inr (some (2, k)), .inl x]) [] σ :=
  ⟨40, And.intro h.1 (And.intro h.1 (And.intro trivial (And.intro h.2 ⟨rfl, rfl⟩)))⟩
set_option maxRecDepth 100000 in
theorem mX2_renew {l : Launch} {ad : sw_A} {V : Nat → Nat → Prop} {ln : sw_A} {ca : Nat → ClassId} {D : va_G} (hG : sw_wf ad V sw_rf ln) : sw_met l ad V sw_rf ln ca D yX2_renew cX2_renew 2 none { frames := 3, cells := 0, slots := 0, locals := 66 } 2 (fX2_renew ln) := by
  refine sw_meth hG (by decide) (by refine ⟨?_, ?_, ?_, ?_⟩ <;> intro h <;> first | rfl | exact ⟨_, rfl⟩ | exact absurd h (by decide)) (by decide) kX2_renew flX2_in cnX2_in ?_ (sw_foi_h (W := fun Q L σ => ∃ fuel, wX2_renew ln Q fuel 0 L [] σ) (fun a0 a1 σ h => hX2_renew ln a0 a1 σ h))
  intro p e s m args below meth c S hT hnw
  refine List.forall_mem_cons.mpr ⟨sw_cokV S hT hnw (mX2_wanted hG) 36 2 (by decide) ⟨by decide +kernel, by decide +kernel, by decide +kernel, by decide +kernel, by decide +kernel⟩ ⟨rfl, by decide, by decide, by decide +kernel⟩ ⟨rfl, rfl⟩ ⟨by decide, by decide⟩, ?_⟩
  refine List.forall_mem_cons.mpr ⟨sw_cokV S hT hnw (mX2_flip hG) 40 2 (by decide) ⟨by decide +kernel, by decide +kernel, by decide +kernel, by decide +kernel, by decide +kernel⟩ ⟨rfl, by decide, by decide, by decide +kernel⟩ ⟨rfl, rfl⟩ ⟨by decide, by decide⟩, ?_⟩
  refine List.forall_mem_cons.mpr ⟨sw_cokX S 9 (by decide +kernel) ⟨by decide, by decide⟩, ?_⟩
  refine List.forall_mem_cons.mpr ⟨sw_cokV S hT hnw (mX2_seal hG) 44 2 (by decide) ⟨by decide +kernel, by decide +kernel, by decide +kernel, by decide +kernel, by decide +kernel⟩ ⟨rfl, by decide, by decide, by decide +kernel⟩ ⟨rfl, rfl⟩ ⟨by decide, by decide⟩, ?_⟩
  exact fun q h => absurd h List.not_mem_nil
def fr_cp (k o : Nat) : Nat → sw_S → sw_S
  | 0, σ => σ
  | n + 1, σ => sw_up (fr_cp k o n σ) 12 k (nI n).toNatClampNeg (fr_cp k o n σ 12 o (nI n).toNatClampNeg)
theorem fr_cp_k (k o : Nat) {c : Nat} (hc : ¬ c = 12) (k' j' : Nat) : ∀ (n : Nat) (σ : sw_S), fr_cp k o n σ c k' j' = σ c k' j'
  | 0, _ => rfl
  | n + 1, σ => (sw_upk _ hc).trans (fr_cp_k k o hc k' j' n σ)
def fr_cl (ln : sw_A) (k o : Nat) (σ : sw_S) : Int32 := if σ 2 o 1 < nI (ln 12 k) then σ 2 o 1 else nI (ln 12 k)
def gX2_copyFrom (ln : sw_A) (k o : Nat) (σ : sw_S) : sw_X := (0 ≤ σ 2 o 1 ∧ fr_ok ln o σ ∧ ln 12 k < 2 ^ 31, none, fr_cp k o (fr_cl ln k o σ).toNatClampNeg (sw_up σ 2 k 1 (fr_cl ln k o σ)))
def fX2_copyFrom (ln : sw_A) : sw_F := sw_foo 2 2 (gX2_copyFrom ln)
def ctX2_copyFrom (ln : sw_A) : sw_C := [(29, 2, 0, sw_min)]
abbrev wX2_copyFrom (ln : sw_A) (Q : Option sw_V → sw_S → Prop) : Nat → Nat → sw_L → List sw_V → sw_S → Prop := sw_wp sw_rf ln (ctX2_copyFrom ln) sX2_copyFrom 0 44 tX2_copyFrom Q
theorem hX2_copyFrom_l (ln : sw_A) (k o n : Nat) (σ : sw_S) (X : sw_X) (hn : n < 2 ^ 31) (h1 : σ 2 k 1 = nI n) (hX : X.2 = (none, fr_cp k o n σ)) (hk : n ≤ ln 12 k) (ho : n ≤ ln 12 o) (hk2 : ln 12 k < 2 ^ 31) (ho2 : ln 12 o < 2 ^ 31) : ∀ (d j : Nat), j + d = n → ∃ fuel, wX2_copyFrom ln (sw_end X) fuel 18 [some (.inr (some (2, k))), some (.inr (some (2, o))), some (.inl (nI j))] [] (fr_cp k o j σ) := by
  intro d
  induction d with
  | zero =>
    intro j hj
    have hj : j = n := by omega
    subst hj
    have hl : fr_cp k o j σ 2 k 1 = nI j := (fr_cp_k k o (by decide) k 1 j σ).trans h1
    refine ⟨20, And.intro (fun _ => ?_) (fun (h : ¬ fr_cp k o j σ 2 k 1 ≤ nI j) => absurd (by rw [hl]; exact Int32.le_refl _) h)⟩
    show none = X.2.1 ∧ fr_cp k o j σ = X.2.2
    rw [hX]
    exact ⟨rfl, rfl⟩
  | succ d ih =>
    intro j hj
    have hl : fr_cp k o j σ 2 k 1 = nI n := (fr_cp_k k o (by decide) k 1 j σ).trans h1
    obtain ⟨f, hf⟩ := ih (j + 1) (by omega)
    rw [← nI_1] at hf
    have v1 : vp_in (nI j) (ln 12 o) := vp_in_nI (by omega) ho2
    have v2 : vp_in (nI j) (ln 12 k) := vp_in_nI (by omega) hk2
    refine ⟨f + 30, sw_ws_wp [18] f 30 _ _ _ _ ?_⟩
    refine And.intro (fun (h : fr_cp k o j σ 2 k 1 ≤ nI j) => absurd (by rw [← hl]; exact h) (nI_ge (a := j) (b := n) (by omega) hn)) (fun _ => And.intro v1 (And.intro v2 ?_))
    exact hf
theorem hX2_copyFrom (ln : sw_A) (k o : Nat) (σ : sw_S) (h : (gX2_copyFrom ln k o σ).1) : ∃ fuel, wX2_copyFrom ln (sw_end (gX2_copyFrom ln k o σ)) fuel 0 (sw_ent 3 [.inr (some (2, k)), .inr (some (2, o))]) [] σ := by
  obtain ⟨h0, ⟨h1, h2⟩, h3⟩ := h
  have hle : 0 ≤ fr_cl ln k o σ := by
    unfold fr_cl
    split
    · exact h0
    · exact nI_pos' h3
  obtain ⟨n, hn, hcl⟩ := nI_of (Int32.not_lt.mpr hle)
  have hk : n ≤ ln 12 k := by
    have : fr_cl ln k o σ ≤ nI (ln 12 k) := by
      unfold fr_cl
      split
      · rename_i z; exact Int32.le_of_lt z
      · exact Int32.le_refl _
    rw [hcl, nI_leI hn h3] at this
    exact this
  have ho : n ≤ ln 12 o := by
    have : fr_cl ln k o σ ≤ nI (ln 12 o) := by
      unfold fr_cl
      split
      · exact h1
      · rename_i z; exact Int32.le_trans (Int32.not_lt.mp z) h1
    rw [hcl, nI_leI hn h2] at this
    exact this
  have e1 : (gX2_copyFrom ln k o σ).2 = (none, fr_cp k o n (sw_up σ 2 k 1 (nI n))) := by
    unfold gX2_copyFrom
    rw [hcl, nI_clamp hn]
  obtain ⟨f, hf⟩ := hX2_copyFrom_l ln k o n (sw_up σ 2 k 1 (nI n)) (gX2_copyFrom ln k o σ) hn (if_pos ⟨rfl, rfl, rfl⟩) e1 hk ho h3 h2 n 0 (by omega)
  rw [← hcl] at hf
  refine ⟨f + 20, sw_ws_wp [18] f 20 _ _ _ _ ?_⟩
  exact And.intro trivial hf
set_option maxRecDepth 100000 in
theorem mX2_copyFrom {l : Launch} {ad : sw_A} {V : Nat → Nat → Prop} {ln : sw_A} {ca : Nat → ClassId} {D : va_G} (hG : sw_wf ad V sw_rf ln) : sw_met l ad V sw_rf ln ca D yX2_copyFrom cX2_copyFrom 3 none { frames := 1, cells := 0, slots := 0, locals := 21 } 2 (fX2_copyFrom ln) := by
  refine sw_meth hG (by decide) (by refine ⟨?_, ?_, ?_, ?_⟩ <;> intro h <;> first | rfl | exact ⟨_, rfl⟩ | exact absurd h (by decide)) (by decide) kX2_copyFrom flX2_in cnX2_in ?_ (sw_foo_h (W := fun Q L σ => ∃ fuel, wX2_copyFrom ln Q fuel 0 L [] σ) (fun a0 a1 σ h => hX2_copyFrom ln a0 a1 σ h))
  intro p e s m args below meth c S hT hnw
  refine List.forall_mem_cons.mpr ⟨sw_cokM S 29 (by decide +kernel) ⟨by decide, by decide⟩, ?_⟩
  exact fun q h => absurd h List.not_mem_nil
def fr_lt (σ : sw_S) (k : Nat) : Int32 := if fr_kd σ k = 1 then 3 + fr_ct σ k else if fr_kd σ k = 2 then 3 else 2
def gX2_lengthTold (ln : sw_A) (k : Nat) (σ : sw_S) : sw_X := (fr_ok ln k σ, some (.inl (fr_lt σ k)), σ)
def fX2_lengthTold (ln : sw_A) : sw_F := sw_fo 2 (gX2_lengthTold ln)
def ctX2_lengthTold (ln : sw_A) : sw_C := [(71, 1, 3, fX2_kind ln), (74, 1, 3, fX2_count ln)]
abbrev wX2_lengthTold (ln : sw_A) (Q : Option sw_V → sw_S → Prop) : Nat → Nat → sw_L → List sw_V → sw_S → Prop := sw_wp sw_rf ln (ctX2_lengthTold ln) sX2_lengthTold 1 42 tX2_lengthTold Q
theorem hX2_lengthTold (ln : sw_A) (k : Nat) (σ : sw_S) (h : (gX2_lengthTold ln k σ).1) : ∃ fuel, wX2_lengthTold ln (sw_end (gX2_lengthTold ln k σ)) fuel 0 (sw_ent 1 [.inr (some (2, k))]) [] σ := by
  refine ⟨20, And.intro h (And.intro (fun (h1 : fr_kd σ k = 1) => And.intro h ⟨sw_ri ?_, rfl⟩) (fun (h1 : ¬ fr_kd σ k = 1) => And.intro (fun (h2 : fr_kd σ k = 2) => ⟨sw_ri ?_, rfl⟩) (fun (h2 : ¬ fr_kd σ k = 2) => ⟨sw_ri ?_, rfl⟩)))⟩
  · exact (if_pos h1).symm
  · exact ((if_neg h1).trans (if_pos h2)).symm
  · exact ((if_neg h1).trans (if_neg h2)).symm
set_option maxRecDepth 100000 in
theorem mX2_lengthTold {l : Launch} {ad : sw_A} {V : Nat → Nat → Prop} {ln : sw_A} {ca : Nat → ClassId} {D : va_G} (hG : sw_wf ad V sw_rf ln) : sw_met l ad V sw_rf ln ca D yX2_lengthTold cX2_lengthTold 1 (some .int) { frames := 2, cells := 0, slots := 0, locals := 41 } 1 (fX2_lengthTold ln) := by
  refine sw_meth hG (by decide) (by refine ⟨?_, ?_, ?_, ?_⟩ <;> intro h <;> first | rfl | exact ⟨_, rfl⟩ | exact absurd h (by decide)) (by decide) kX2_lengthTold flX2_in cnX2_in ?_ (sw_fo_h (W := fun Q L σ => ∃ fuel, wX2_lengthTold ln Q fuel 0 L [] σ) (fun a0 σ h => hX2_lengthTold ln a0 σ h))
  intro p e s m args below meth c S hT hnw
  refine List.forall_mem_cons.mpr ⟨sw_cokV S hT hnw (mX2_kind hG) 71 2 (by decide) ⟨by decide +kernel, by decide +kernel, by decide +kernel, by decide +kernel, by decide +kernel⟩ ⟨rfl, by decide, by decide, by decide +kernel⟩ ⟨rfl, rfl⟩ ⟨by decide, by decide⟩, ?_⟩
  refine List.forall_mem_cons.mpr ⟨sw_cokV S hT hnw (mX2_count hG) 74 2 (by decide) ⟨by decide +kernel, by decide +kernel, by decide +kernel, by decide +kernel, by decide +kernel⟩ ⟨rfl, by decide, by decide, by decide +kernel⟩ ⟨rfl, rfl⟩ ⟨by decide, by decide⟩, ?_⟩
  exact fun q h => absurd h List.not_mem_nil
def fr_ms (σ : sw_S) (k : Nat) : Nat → Nat → Int32
  | 0, _ => 1
  | d + 1, j => if fr_mk σ k (nI j) = 0 then fr_ms σ k d (j + 1) else if fr_at σ k (2 + nI j) = 0 then fr_ms σ k d (j + 1) else 0
def fr_am (σ : sw_S) (k : Nat) : Int32 := if sw_ushr (fr_at σ k 1) (fr_ct σ k) = 0 then fr_ms σ k (fr_ct σ k).toNatClampNeg 0 else 0
def gX2_areMarksSound (ln : sw_A) (k : Nat) (σ : sw_S) : sw_X := (fr_ok ln k σ, some (.inl (fr_am σ k)), σ)
def fX2_areMarksSound (ln : sw_A) : sw_F := sw_fo 2 (gX2_areMarksSound ln)
def ctX2_areMarksSound (ln : sw_A) : sw_C := [(47, 2, 3, fX2_wordAt ln), (74, 1, 3, fX2_count ln), (87, 2, 3, fX2_isMark ln), (91, 2, 3, fX2_itemWord ln)]
abbrev wX2_areMarksSound (ln : sw_A) (Q : Option sw_V → sw_S → Prop) : Nat → Nat → sw_L → List sw_V → sw_S → Prop := sw_wp sw_rf ln (ctX2_areMarksSound ln) sX2_areMarksSound 2 50 tX2_areMarksSound Q
theorem hX2_areMarksSound_l (ln : sw_A) (k n : Nat) (σ : sw_S) (X : sw_X) (hn : n < 2 ^ 31) (hk : fr_ok ln k σ) (hc : fr_ct σ k = nI n) : ∀ (d j : Nat), j + d = n → X.2 = (some (.inl (fr_ms σ k d j)), σ) → ∃ fuel, wX2_areMarksSound ln (sw_end X) fuel 17 [some (.inr (some (2, k))), some (.inl (nI j))] [] σ := by
  intro d
  induction d with
  | zero =>
    intro j hj hX
    have hj : j = n := by omega
    subst hj
    refine ⟨20, And.intro hk (And.intro (fun _ => ?_) (fun (h : ¬ fr_ct σ k ≤ nI j) => absurd (by rw [hc]; exact Int32.le_refl _) h))⟩
    refine ⟨Or.inr rfl, ?_⟩
    show some _ = X.2.1 ∧ σ = X.2.2
    rw [hX]
    exact ⟨rfl, rfl⟩
  | succ d ih =>
    intro j hj hX
    by_cases hm : fr_mk σ k (nI j) = 0
    · obtain ⟨f, hf⟩ := ih (j + 1) (by omega) (by rw [hX]; exact congrArg (fun z => (some (Sum.inl z), σ)) (if_pos hm))
      rw [← nI_1] at hf
      refine ⟨f + 30, sw_ws_wp [17] f 30 _ _ _ _ ?_⟩
      refine And.intro hk (And.intro (fun (h : fr_ct σ k ≤ nI j) => absurd (by rw [← hc]; exact h) (nI_ge (a := j) (b := n) (by omega) hn)) (fun _ => And.intro hk (And.intro (fun _ => hf) (fun z => absurd hm z))))
    · by_cases hw : fr_at σ k (2 + nI j) = 0
      · obtain ⟨f, hf⟩ := ih (j + 1) (by omega) (by rw [hX]; exact congrArg (fun z => (some (Sum.inl z), σ)) ((if_neg hm).trans (if_pos hw)))
        rw [← nI_1] at hf
        refine ⟨f + 30, sw_ws_wp [17] f 30 _ _ _ _ ?_⟩
        refine And.intro hk (And.intro (fun (h : fr_ct σ k ≤ nI j) => absurd (by rw [← hc]; exact h) (nI_ge (a := j) (b := n) (by omega) hn)) (fun _ => And.intro hk (And.intro (fun z => absurd z hm) (fun _ => And.intro hk (And.intro (fun _ => hf) (fun z => absurd hw z))))))
      · refine ⟨30, And.intro hk (And.intro (fun (h : fr_ct σ k ≤ nI j) => absurd (by rw [← hc]; exact h) (nI_ge (a := j) (b := n) (by omega) hn)) (fun _ => And.intro hk (And.intro (fun z => absurd z hm) (fun _ => And.intro hk (And.intro (fun z => absurd z hw) (fun _ => ?_))))))⟩
        refine ⟨Or.inl rfl, ?_⟩
        show some _ = X.2.1 ∧ σ = X.2.2
        rw [hX]
        exact ⟨sw_ri ((if_neg hm).trans (if_neg hw)).symm, rfl⟩
theorem hX2_areMarksSound (ln : sw_A) (k : Nat) (σ : sw_S) (h : (gX2_areMarksSound ln k σ).1) : ∃ fuel, wX2_areMarksSound ln (sw_end (gX2_areMarksSound ln k σ)) fuel 0 (sw_ent 2 [.inr (some (2, k))]) [] σ := by
  by_cases h1 : sw_ushr (fr_at σ k 1) (fr_ct σ k) = 0
  · obtain ⟨n, hn, hc⟩ := sw_ushr24 (fr_at σ k 0)
    have hn2 : n < 2 ^ 31 := by omega
    obtain ⟨f, hf⟩ := hX2_areMarksSound_l ln k n σ (gX2_areMarksSound ln k σ) hn2 h hc n 0 (by omega) (by
      show (some (Sum.inl (fr_am σ k)), σ) = _
      unfold fr_am
      rw [if_pos h1]
      show (some (Sum.inl (fr_ms σ k (sw_ushr (fr_at σ k 0) 24).toNatClampNeg 0)), σ) = _
      rw [hc, nI_clamp hn2])
    refine ⟨f + 20, sw_ws_wp [17] f 20 _ _ _ _ ?_⟩
    exact And.intro h (And.intro h (And.intro (fun _ => hf) (fun z => absurd h1 z)))
  · refine ⟨20, And.intro h (And.intro h (And.intro (fun z => absurd z h1) (fun _ => ⟨Or.inl rfl, sw_ri ?_, rfl⟩)))⟩
    exact (if_neg h1).symm
set_option maxRecDepth 100000 in
theorem mX2_areMarksSound {l : Launch} {ad : sw_A} {V : Nat → Nat → Prop} {ln : sw_A} {ca : Nat → ClassId} {D : va_G} (hG : sw_wf ad V sw_rf ln) : sw_met l ad V sw_rf ln ca D yX2_areMarksSound cX2_areMarksSound 2 (some .boolean) { frames := 2, cells := 0, slots := 0, locals := 42 } 1 (fX2_areMarksSound ln) := by
  refine sw_meth hG (by decide) (by refine ⟨?_, ?_, ?_, ?_⟩ <;> intro h <;> first | rfl | exact ⟨_, rfl⟩ | exact absurd h (by decide)) (by decide) kX2_areMarksSound flX2_in cnX2_in ?_ (sw_fo_h (W := fun Q L σ => ∃ fuel, wX2_areMarksSound ln Q fuel 0 L [] σ) (fun a0 σ h => hX2_areMarksSound ln a0 σ h))
  intro p e s m args below meth c S hT hnw
  refine List.forall_mem_cons.mpr ⟨sw_cokV S hT hnw (mX2_wordAt hG) 47 2 (by decide) ⟨by decide +kernel, by decide +kernel, by decide +kernel, by decide +kernel, by decide +kernel⟩ ⟨rfl, by decide, by decide, by decide +kernel⟩ ⟨rfl, rfl⟩ ⟨by decide, by decide⟩, ?_⟩
  refine List.forall_mem_cons.mpr ⟨sw_cokV S hT hnw (mX2_count hG) 74 2 (by decide) ⟨by decide +kernel, by decide +kernel, by decide +kernel, by decide +kernel, by decide +kernel⟩ ⟨rfl, by decide, by decide, by decide +kernel⟩ ⟨rfl, rfl⟩ ⟨by decide, by decide⟩, ?_⟩
  refine List.forall_mem_cons.mpr ⟨sw_cokV S hT hnw (mX2_isMark hG) 87 2 (by decide) ⟨by decide +kernel, by decide +kernel, by decide +kernel, by decide +kernel, by decide +kernel⟩ ⟨rfl, by decide, by decide, by decide +kernel⟩ ⟨rfl, rfl⟩ ⟨by decide, by decide⟩, ?_⟩
  refine List.forall_mem_cons.mpr ⟨sw_cokV S hT hnw (mX2_itemWord hG) 91 2 (by decide) ⟨by decide +kernel, by decide +kernel, by decide +kernel, by decide +kernel, by decide +kernel⟩ ⟨rfl, by decide, by decide, by decide +kernel⟩ ⟨rfl, rfl⟩ ⟨by decide, by decide⟩, ?_⟩
  exact fun q h => absurd h List.not_mem_nil
end
section
/-! Frame: whether it is sound -/
def fr_sk (σ : sw_S) (k q : Nat) : Int32 :=
  if fr_kd σ k = 0 then (if fr_sn σ k = 0 then (if fr_nu σ k = 0 then (if fr_ct σ k = 0 then 1 else 0) else 0) else 0)
  else if fr_kd σ k = 1 then (if fr_ct σ k < 1 then 0 else if σ 4 q 1 < fr_ct σ k then 0 else if fr_am σ k = 0 then 0 else 1)
  else if fr_kd σ k = 2 then (if fr_ct σ k = 0 then (if fr_at σ k 1 ≤ 0 then 0 else 1) else 0)
  else if fr_kd σ k = 3 then (if fr_ct σ k = 0 then 1 else 0)
  else if fr_kd σ k = 4 then (if fr_ct σ k = 0 then 1 else 0)
  else 0
def gX2_isSoundForKind (ln : sw_A) (k q : Nat) (σ : sw_S) : sw_X := (fr_ok ln k σ, some (.inl (fr_sk σ k q)), σ)
def fX2_isSoundForKind (ln : sw_A) : sw_F := sw_foo 2 4 (gX2_isSoundForKind ln)
def ctX2_isSoundForKind (ln : sw_A) : sw_C := [(71, 1, 3, fX2_kind ln), (53, 1, 3, fX2_streamNumber ln), (61, 1, 3, fX2_number ln), (74, 1, 3, fX2_count ln), (80, 1, 3, fX2_areMarksSound ln), (84, 1, 3, fX2_granted ln)]
abbrev wX2_isSoundForKind (ln : sw_A) (Q : Option sw_V → sw_S → Prop) : Nat → Nat → sw_L → List sw_V → sw_S → Prop := sw_wp sw_rf ln (ctX2_isSoundForKind ln) sX2_isSoundForKind 2 133 tX2_isSoundForKind Q
theorem hX2_isSoundForKind (ln : sw_A) (k q : Nat) (σ : sw_S) (h : (gX2_isSoundForKind ln k q σ).1) : ∃ fuel, wX2_isSoundForKind ln (sw_end (gX2_isSoundForKind ln k q σ)) fuel 0 (sw_ent 2 [.inr (some (2, k)), .inr (some (4, q))]) [] σ := by
  refine ⟨30, And.intro h (And.intro (fun (h0 : fr_kd σ k = 0) => ?_) (fun (n0 : ¬ fr_kd σ k = 0) => And.intro (fun (h1 : fr_kd σ k = 1) => ?_) (fun (n1 : ¬ fr_kd σ k = 1) => And.intro (fun (h2 : fr_kd σ k = 2) => ?_) (fun (n2 : ¬ fr_kd σ k = 2) => And.intro (fun (h3 : fr_kd σ k = 3) => ?_) (fun (n3 : ¬ fr_kd σ k = 3) => And.intro (fun (h4 : fr_kd σ k = 4) => ?_) (fun (n4 : ¬ fr_kd σ k = 4) => ?_))))))⟩
  · refine And.intro h (And.intro (fun (a1 : ¬ fr_sn σ k = 0) => ⟨Or.inl rfl, sw_ri ?_, rfl⟩) (fun (a1 : fr_sn σ k = 0) => And.intro h (And.intro (fun (a2 : ¬ fr_nu σ k = 0) => ⟨Or.inl rfl, sw_ri ?_, rfl⟩) (fun (a2 : fr_nu σ k = 0) => And.intro h (And.intro (fun (a3 : ¬ fr_ct σ k = 0) => ⟨Or.inl rfl, sw_ri ?_, rfl⟩) (fun (a3 : fr_ct σ k = 0) => ⟨Or.inr rfl, sw_ri ?_, rfl⟩))))))
    · unfold fr_sk; rw [if_pos h0, if_neg a1]
    · unfold fr_sk; rw [if_pos h0, if_pos a1, if_neg a2]
    · unfold fr_sk; rw [if_pos h0, if_pos a1, if_pos a2, if_neg a3]
    · unfold fr_sk; rw [if_pos h0, if_pos a1, if_pos a2, if_pos a3]
  · refine And.intro h (And.intro (fun (a1 : fr_ct σ k < 1) => ⟨Or.inl rfl, sw_ri ?_, rfl⟩) (fun (a1 : ¬ fr_ct σ k < 1) => And.intro h (And.intro (fun (a2 : σ 4 q 1 < fr_ct σ k) => ⟨Or.inl rfl, sw_ri ?_, rfl⟩) (fun (a2 : ¬ σ 4 q 1 < fr_ct σ k) => And.intro h (And.intro (fun (a3 : fr_am σ k = 0) => ⟨Or.inl rfl, sw_ri ?_, rfl⟩) (fun (a3 : ¬ fr_am σ k = 0) => ⟨Or.inr rfl, sw_ri ?_, rfl⟩))))))
    · unfold fr_sk; rw [if_neg n0, if_pos h1, if_pos a1]
    · unfold fr_sk; rw [if_neg n0, if_pos h1, if_neg a1, if_pos a2]
    · unfold fr_sk; rw [if_neg n0, if_pos h1, if_neg a1, if_neg a2, if_pos a3]
    · unfold fr_sk; rw [if_neg n0, if_pos h1, if_neg a1, if_neg a2, if_neg a3]
  · refine And.intro h (And.intro (fun (a1 : ¬ fr_ct σ k = 0) => ⟨Or.inl rfl, sw_ri ?_, rfl⟩) (fun (a1 : fr_ct σ k = 0) => And.intro h (And.intro (fun (a2 : fr_at σ k 1 ≤ 0) => ⟨Or.inl rfl, sw_ri ?_, rfl⟩) (fun (a2 : ¬ fr_at σ k 1 ≤ 0) => ⟨Or.inr rfl, sw_ri ?_, rfl⟩))))
    · unfold fr_sk; rw [if_neg n0, if_neg n1, if_pos h2, if_neg a1]
    · unfold fr_sk; rw [if_neg n0, if_neg n1, if_pos h2, if_pos a1, if_pos a2]
    · unfold fr_sk; rw [if_neg n0, if_neg n1, if_pos h2, if_pos a1, if_neg a2]
  · refine And.intro h (And.intro (fun (a1 : ¬ fr_ct σ k = 0) => ⟨Or.inl rfl, sw_ri ?_, rfl⟩) (fun (a1 : fr_ct σ k = 0) => ⟨Or.inr rfl, sw_ri ?_, rfl⟩))
    · unfold fr_sk; rw [if_neg n0, if_neg n1, if_neg n2, if_pos h3, if_neg a1]
    · unfold fr_sk; rw [if_neg n0, if_neg n1, if_neg n2, if_pos h3, if_pos a1]
  · refine And.intro h (And.intro (fun (a1 : ¬ fr_ct σ k = 0) => ⟨Or.inl rfl, sw_ri ?_, rfl⟩) (fun (a1 : fr_ct σ k = 0) => ⟨Or.inr rfl, sw_ri ?_, rfl⟩))
    · unfold fr_sk; rw [if_neg n0, if_neg n1, if_neg n2, if_neg n3, if_pos h4, if_neg a1]
    · unfold fr_sk; rw [if_neg n0, if_neg n1, if_neg n2, if_neg n3, if_pos h4, if_pos a1]
  · refine ⟨Or.inl rfl, sw_ri ?_, rfl⟩
    unfold fr_sk; rw [if_neg n0, if_neg n1, if_neg n2, if_neg n3, if_neg n4]
set_option maxRecDepth 100000 in
theorem mX2_isSoundForKind {l : Launch} {ad : sw_A} {V : Nat → Nat → Prop} {ln : sw_A} {ca : Nat → ClassId} {D : va_G} (hG : sw_wf ad V sw_rf ln) : sw_met l ad V sw_rf ln ca D yX2_isSoundForKind cX2_isSoundForKind 2 (some .boolean) { frames := 3, cells := 0, slots := 0, locals := 63 } 2 (fX2_isSoundForKind ln) := by
  refine sw_meth hG (by decide) (by refine ⟨?_, ?_, ?_, ?_⟩ <;> intro h <;> first | rfl | exact ⟨_, rfl⟩ | exact absurd h (by decide)) (by decide) kX2_isSoundForKind flX2_in cnX2_in ?_ (sw_foo_h (W := fun Q L σ => ∃ fuel, wX2_isSoundForKind ln Q fuel 0 L [] σ) (fun a0 a1 σ h => hX2_isSoundForKind ln a0 a1 σ h))
  intro p e s m args below meth c S hT hnw
  refine List.forall_mem_cons.mpr ⟨sw_cokV S hT hnw (mX2_kind hG) 71 2 (by decide) ⟨by decide +kernel, by decide +kernel, by decide +kernel, by decide +kernel, by decide +kernel⟩ ⟨rfl, by decide, by decide, by decide +kernel⟩ ⟨rfl, rfl⟩ ⟨by decide, by decide⟩, ?_⟩
  refine List.forall_mem_cons.mpr ⟨sw_cokV S hT hnw (mX2_streamNumber hG) 53 2 (by decide) ⟨by decide +kernel, by decide +kernel, by decide +kernel, by decide +kernel, by decide +kernel⟩ ⟨rfl, by decide, by decide, by decide +kernel⟩ ⟨rfl, rfl⟩ ⟨by decide, by decide⟩, ?_⟩
  refine List.forall_mem_cons.mpr ⟨sw_cokV S hT hnw (mX2_number hG) 61 2 (by decide) ⟨by decide +kernel, by decide +kernel, by decide +kernel, by decide +kernel, by decide +kernel⟩ ⟨rfl, by decide, by decide, by decide +kernel⟩ ⟨rfl, rfl⟩ ⟨by decide, by decide⟩, ?_⟩
  refine List.forall_mem_cons.mpr ⟨sw_cokV S hT hnw (mX2_count hG) 74 2 (by decide) ⟨by decide +kernel, by decide +kernel, by decide +kernel, by decide +kernel, by decide +kernel⟩ ⟨rfl, by decide, by decide, by decide +kernel⟩ ⟨rfl, rfl⟩ ⟨by decide, by decide⟩, ?_⟩
  refine List.forall_mem_cons.mpr ⟨sw_cokV S hT hnw (mX2_areMarksSound hG) 80 2 (by decide) ⟨by decide +kernel, by decide +kernel, by decide +kernel, by decide +kernel, by decide +kernel⟩ ⟨rfl, by decide, by decide, by decide +kernel⟩ ⟨rfl, rfl⟩ ⟨by decide, by decide⟩, ?_⟩
  refine List.forall_mem_cons.mpr ⟨sw_cokV S hT hnw (mX2_granted hG) 84 2 (by decide) ⟨by decide +kernel, by decide +kernel, by decide +kernel, by decide +kernel, by decide +kernel⟩ ⟨rfl, by decide, by decide, by decide +kernel⟩ ⟨rfl, rfl⟩ ⟨by decide, by decide⟩, ?_⟩
  exact fun q h => absurd h List.not_mem_nil
def fr_so (σ : sw_S) (k q : Nat) : Int32 :=
  if σ 2 k 1 = fr_lt σ k then (if fr_at σ k (fr_rl σ k) = sm (fr_at σ k) (fr_rl σ k).toNatClampNeg then (if σ 4 q 0 ≤ fr_sn σ k then 0 else if σ 4 q 2 < fr_nu σ k then 0 else if σ 4 q 2 < fr_wa σ k then 0 else if fr_sk σ k q = 0 then 0 else 1) else 0) else 0
def gX2_isSound (ln : sw_A) (k q : Nat) (σ : sw_S) : sw_X := (fr_ok ln k σ ∧ 0 ≤ fr_rl σ k, some (.inl (fr_so σ k q)), σ)
def fX2_isSound (ln : sw_A) : sw_F := sw_foo 2 4 (gX2_isSound ln)
def ctX2_isSound (ln : sw_A) : sw_C := [(50, 1, 3, fX2_lengthTold ln), (47, 2, 3, fX2_wordAt ln), (32, 2, 3, fX2_sumBefore ln), (53, 1, 3, fX2_streamNumber ln), (61, 1, 3, fX2_number ln), (36, 1, 3, fX2_wanted ln), (67, 2, 3, fX2_isSoundForKind ln)]
abbrev wX2_isSound (ln : sw_A) (Q : Option sw_V → sw_S → Prop) : Nat → Nat → sw_L → List sw_V → sw_S → Prop := sw_wp sw_rf ln (ctX2_isSound ln) sX2_isSound 2 80 tX2_isSound Q
theorem hX2_isSound (ln : sw_A) (k q : Nat) (σ : sw_S) (h : (gX2_isSound ln k q σ).1) : ∃ fuel, wX2_isSound ln (sw_end (gX2_isSound ln k q σ)) fuel 0 (sw_ent 2 [.inr (some (2, k)), .inr (some (4, q))]) [] σ := by
  obtain ⟨h, hl⟩ := h
  refine ⟨60, And.intro h (And.intro (fun (a1 : ¬ σ 2 k 1 = fr_lt σ k) => ⟨Or.inl rfl, sw_ri ?_, rfl⟩) (fun (a1 : σ 2 k 1 = fr_lt σ k) => And.intro h (And.intro ⟨h, hl⟩ (And.intro (fun (a2 : ¬ fr_at σ k (fr_rl σ k) = sm (fr_at σ k) (fr_rl σ k).toNatClampNeg) => ⟨Or.inl rfl, sw_ri ?_, rfl⟩) (fun (a2 : fr_at σ k (fr_rl σ k) = sm (fr_at σ k) (fr_rl σ k).toNatClampNeg) => And.intro h (And.intro (fun (a3 : σ 4 q 0 ≤ fr_sn σ k) => ⟨Or.inl rfl, sw_ri ?_, rfl⟩) (fun (a3 : ¬ σ 4 q 0 ≤ fr_sn σ k) => And.intro h (And.intro (fun (a4 : σ 4 q 2 < fr_nu σ k) => ⟨Or.inl rfl, sw_ri ?_, rfl⟩) (fun (a4 : ¬ σ 4 q 2 < fr_nu σ k) => And.intro h (And.intro (fun (a5 : σ 4 q 2 < fr_wa σ k) => ⟨Or.inl rfl, sw_ri ?_, rfl⟩) (fun (a5 : ¬ σ 4 q 2 < fr_wa σ k) => And.intro h (And.intro (fun (a6 : fr_sk σ k q = 0) => ⟨Or.inl rfl, sw_ri ?_, rfl⟩) (fun (a6 : ¬ fr_sk σ k q = 0) => ⟨Or.inr rfl, sw_ri ?_, rfl⟩)))))))))))))⟩
  · unfold fr_so; rw [if_neg a1]
  · unfold fr_so; rw [if_pos a1, if_neg a2]
  · unfold fr_so; rw [if_pos a1, if_pos a2, if_pos a3]
  · unfold fr_so; rw [if_pos a1, if_pos a2, if_neg a3, if_pos a4]
  · unfold fr_so; rw [if_pos a1, if_pos a2, if_neg a3, if_neg a4, if_pos a5]
  · unfold fr_so; rw [if_pos a1, if_pos a2, if_neg a3, if_neg a4, if_neg a5, if_pos a6]
  · unfold fr_so; rw [if_pos a1, if_pos a2, if_neg a3, if_neg a4, if_neg a5, if_neg a6]
set_option maxRecDepth 100000 in
theorem mX2_isSound {l : Launch} {ad : sw_A} {V : Nat → Nat → Prop} {ln : sw_A} {ca : Nat → ClassId} {D : va_G} (hG : sw_wf ad V sw_rf ln) : sw_met l ad V sw_rf ln ca D yX2_isSound cX2_isSound 2 (some .boolean) { frames := 4, cells := 0, slots := 0, locals := 84 } 2 (fX2_isSound ln) := by
  refine sw_meth hG (by decide) (by refine ⟨?_, ?_, ?_, ?_⟩ <;> intro h <;> first | rfl | exact ⟨_, rfl⟩ | exact absurd h (by decide)) (by decide) kX2_isSound flX2_in cnX2_in ?_ (sw_foo_h (W := fun Q L σ => ∃ fuel, wX2_isSound ln Q fuel 0 L [] σ) (fun a0 a1 σ h => hX2_isSound ln a0 a1 σ h))
  intro p e s m args below meth c S hT hnw
  refine List.forall_mem_cons.mpr ⟨sw_cokV S hT hnw (mX2_lengthTold hG) 50 2 (by decide) ⟨by decide +kernel, by decide +kernel, by decide +kernel, by decide +kernel, by decide +kernel⟩ ⟨rfl, by decide, by decide, by decide +kernel⟩ ⟨rfl, rfl⟩ ⟨by decide, by decide⟩, ?_⟩
  refine List.forall_mem_cons.mpr ⟨sw_cokV S hT hnw (mX2_wordAt hG) 47 2 (by decide) ⟨by decide +kernel, by decide +kernel, by decide +kernel, by decide +kernel, by decide +kernel⟩ ⟨rfl, by decide, by decide, by decide +kernel⟩ ⟨rfl, rfl⟩ ⟨by decide, by decide⟩, ?_⟩
  refine List.forall_mem_cons.mpr ⟨sw_cokV S hT hnw (mX2_sumBefore hG) 32 2 (by decide) ⟨by decide +kernel, by decide +kernel, by decide +kernel, by decide +kernel, by decide +kernel⟩ ⟨rfl, by decide, by decide, by decide +kernel⟩ ⟨rfl, rfl⟩ ⟨by decide, by decide⟩, ?_⟩
  refine List.forall_mem_cons.mpr ⟨sw_cokV S hT hnw (mX2_streamNumber hG) 53 2 (by decide) ⟨by decide +kernel, by decide +kernel, by decide +kernel, by decide +kernel, by decide +kernel⟩ ⟨rfl, by decide, by decide, by decide +kernel⟩ ⟨rfl, rfl⟩ ⟨by decide, by decide⟩, ?_⟩
  refine List.forall_mem_cons.mpr ⟨sw_cokV S hT hnw (mX2_number hG) 61 2 (by decide) ⟨by decide +kernel, by decide +kernel, by decide +kernel, by decide +kernel, by decide +kernel⟩ ⟨rfl, by decide, by decide, by decide +kernel⟩ ⟨rfl, rfl⟩ ⟨by decide, by decide⟩, ?_⟩
  refine List.forall_mem_cons.mpr ⟨sw_cokV S hT hnw (mX2_wanted hG) 36 2 (by decide) ⟨by decide +kernel, by decide +kernel, by decide +kernel, by decide +kernel, by decide +kernel⟩ ⟨rfl, by decide, by decide, by decide +kernel⟩ ⟨rfl, rfl⟩ ⟨by decide, by decide⟩, ?_⟩
  refine List.forall_mem_cons.mpr ⟨sw_cokV S hT hnw (mX2_isSoundForKind hG) 67 2 (by decide) ⟨by decide +kernel, by decide +kernel, by decide +kernel, by decide +kernel, by decide +kernel⟩ ⟨rfl, by decide, by decide, by decide +kernel⟩ ⟨rfl, rfl⟩ ⟨by decide, by decide⟩, ?_⟩
  exact fun q h => absurd h List.not_mem_nil
end
section
/-! Cells and Queue -/
def ce_ok (ln : sw_A) (k : Nat) : Prop := ln 9 k = ln 11 k ∧ ln 10 k = ln 11 k ∧ ln 11 k < 2 ^ 31
def ce_ho (ln : sw_A) (k : Nat) (i : Int32) : Int32 := if i < 0 then 0 else if nI (ln 11 k) ≤ i then 0 else 1
theorem ce_ho_in {ln : sw_A} {k : Nat} {i : Int32} (h : ¬ ce_ho ln k i = 0) (hl : ln 11 k < 2 ^ 31) : vp_in i (ln 11 k) := by
  unfold ce_ho at h
  by_cases h1 : i < 0
  · rw [if_pos h1] at h
    exact absurd rfl h
  · rw [if_neg h1] at h
    by_cases h2 : nI (ln 11 k) ≤ i
    · rw [if_pos h2] at h
      exact absurd rfl h
    · exact vp_in_lt h1 (Int32.not_le.mp h2) (Int32.le_refl _) hl
def gX0_holds (ln : sw_A) (k : Nat) (i : Int32) (σ : sw_S) : sw_X := (True, some (.inl (ce_ho ln k i)), σ)
def fX0_holds (ln : sw_A) : sw_F := sw_foi 0 (gX0_holds ln)
def ctX0_holds (ln : sw_A) : sw_C := []
abbrev wX0_holds (ln : sw_A) (Q : Option sw_V → sw_S → Prop) : Nat → Nat → sw_L → List sw_V → sw_S → Prop := sw_wp sw_rf ln (ctX0_holds ln) sX0_holds 2 18 tX0_holds Q
theorem hX0_holds (ln : sw_A) (k : Nat) (i : Int32) (σ : sw_S) (h : (gX0_holds ln k i σ).1) : ∃ fuel, wX0_holds ln (sw_end (gX0_holds ln k i σ)) fuel 0 (sw_ent 2 [.inr (some (0, k)), .inl i]) [] σ :=
  ⟨20, And.intro (fun h1 => ⟨Or.inl rfl, sw_ri (if_pos h1).symm, rfl⟩) (fun h1 => And.intro (fun h2 => ⟨Or.inl rfl, sw_ri ((if_neg h1).trans (if_pos h2)).symm, rfl⟩) (fun h2 => ⟨Or.inr rfl, sw_ri ((if_neg h1).trans (if_neg h2)).symm, rfl⟩))⟩
set_option maxRecDepth 100000 in
theorem mX0_holds {l : Launch} {ad : sw_A} {V : Nat → Nat → Prop} {ln : sw_A} {ca : Nat → ClassId} {D : va_G} (hG : sw_wf ad V sw_rf ln) : sw_met l ad V sw_rf ln ca D yX0_holds cX0_holds 2 (some .boolean) { frames := 0, cells := 0, slots := 0, locals := 0 } 2 (fX0_holds ln) := by
  refine sw_meth hG (by decide) (by refine ⟨?_, ?_, ?_, ?_⟩ <;> intro h <;> first | rfl | exact ⟨_, rfl⟩ | exact absurd h (by decide)) (by decide) kX0_holds flX0_in cnX0_in ?_ (sw_foi_h (W := fun Q L σ => ∃ fuel, wX0_holds ln Q fuel 0 L [] σ) (fun a0 a1 σ h => hX0_holds ln a0 a1 σ h))
  intro p e s m args below meth c S hT hnw
  exact fun q h => absurd h List.not_mem_nil
def ce_fi (k : Nat) (c w b : Int32) (σ : sw_S) : sw_S := sw_up (sw_up (sw_up (sw_up σ 0 k 3 (σ 11 k c.toNatClampNeg)) 9 k c.toNatClampNeg w) 10 k c.toNatClampNeg b) 11 k c.toNatClampNeg (-1)
def ce_fc (ln : sw_A) (k : Nat) (σ : sw_S) : Int32 := if ce_ho ln k (σ 0 k 3) = 0 then -1 else σ 0 k 3
def gX0_fill (ln : sw_A) (k : Nat) (w b : Int32) (σ : sw_S) : sw_X := (ce_ok ln k ∧ sw_bo b, some (.inl (ce_fc ln k σ)), if ce_ho ln k (σ 0 k 3) = 0 then σ else ce_fi k (σ 0 k 3) w b σ)
def fX0_fill (ln : sw_A) : sw_F := sw_foii 0 (gX0_fill ln)
def ctX0_fill (ln : sw_A) : sw_C := [(30, 2, 1, fX0_holds ln)]
abbrev wX0_fill (ln : sw_A) (Q : Option sw_V → sw_S → Prop) : Nat → Nat → sw_L → List sw_V → sw_S → Prop := sw_wp sw_rf ln (ctX0_fill ln) sX0_fill 1 47 tX0_fill Q
theorem hX0_fill (ln : sw_A) (k : Nat) (w b : Int32) (σ : sw_S) (h : (gX0_fill ln k w b σ).1) : ∃ fuel, wX0_fill ln (sw_end (gX0_fill ln k w b σ)) fuel 0 (sw_ent 4 [.inr (some (0, k)), .inl w, .inl b]) [] σ := by
  obtain ⟨⟨e1, e2, e3⟩, hb⟩ := h
  refine ⟨40, And.intro trivial (And.intro (fun (h1 : ¬ ce_ho ln k (σ 0 k 3) = 0) => ?_) (fun (h1 : ce_ho ln k (σ 0 k 3) = 0) => ⟨sw_ri (if_pos h1).symm, (if_pos h1).symm⟩))⟩
  have hv := ce_ho_in h1 e3
  have hv1 : vp_in (σ 0 k 3) (ln 9 k) := by rw [e1]; exact hv
  have hv2 : vp_in (σ 0 k 3) (ln 10 k) := by rw [e2]; exact hv
  exact And.intro hv (And.intro hv1 (And.intro hv2 (And.intro hb (And.intro hv ⟨sw_ri (if_neg h1).symm, (if_neg h1).symm⟩))))
set_option maxRecDepth 100000 in
theorem mX0_fill {l : Launch} {ad : sw_A} {V : Nat → Nat → Prop} {ln : sw_A} {ca : Nat → ClassId} {D : va_G} (hG : sw_wf ad V sw_rf ln) : sw_met l ad V sw_rf ln ca D yX0_fill cX0_fill 4 (some .int) { frames := 1, cells := 0, slots := 0, locals := 21 } 3 (fX0_fill ln) := by
  refine sw_meth hG (by decide) (by refine ⟨?_, ?_, ?_, ?_⟩ <;> intro h <;> first | rfl | exact ⟨_, rfl⟩ | exact absurd h (by decide)) (by decide) kX0_fill flX0_in cnX0_in ?_ (sw_foii_h (W := fun Q L σ => ∃ fuel, wX0_fill ln Q fuel 0 L [] σ) (fun a0 a1 a2 σ h => hX0_fill ln a0 a1 a2 σ h))
  intro p e s m args below meth c S hT hnw
  refine List.forall_mem_cons.mpr ⟨sw_cokV S hT hnw (mX0_holds hG) 30 0 (by decide) ⟨by decide +kernel, by decide +kernel, by decide +kernel, by decide +kernel, by decide +kernel⟩ ⟨rfl, by decide, by decide, by decide +kernel⟩ ⟨rfl, rfl⟩ ⟨by decide, by decide⟩, ?_⟩
  exact fun q h => absurd h List.not_mem_nil
def gX0_chain (ln : sw_A) (k : Nat) (i v : Int32) (σ : sw_S) : sw_X := (ce_ok ln k, none, if ce_ho ln k i = 0 then σ else sw_up σ 11 k i.toNatClampNeg v)
def fX0_chain (ln : sw_A) : sw_F := sw_foii 0 (gX0_chain ln)
def ctX0_chain (ln : sw_A) : sw_C := [(30, 2, 1, fX0_holds ln)]
abbrev wX0_chain (ln : sw_A) (Q : Option sw_V → sw_S → Prop) : Nat → Nat → sw_L → List sw_V → sw_S → Prop := sw_wp sw_rf ln (ctX0_chain ln) sX0_chain 0 15 tX0_chain Q
theorem hX0_chain (ln : sw_A) (k : Nat) (i v : Int32) (σ : sw_S) (h : (gX0_chain ln k i v σ).1) : ∃ fuel, wX0_chain ln (sw_end (gX0_chain ln k i v σ)) fuel 0 (sw_ent 3 [.inr (some (0, k)), .inl i, .inl v]) [] σ :=
  ⟨40, And.intro trivial (And.intro (fun (h1 : ce_ho ln k i = 0) => ⟨rfl, (if_pos h1).symm⟩) (fun (h1 : ¬ ce_ho ln k i = 0) => And.intro (ce_ho_in h1 h.2.2) ⟨rfl, (if_neg h1).symm⟩))⟩
set_option maxRecDepth 100000 in
theorem mX0_chain {l : Launch} {ad : sw_A} {V : Nat → Nat → Prop} {ln : sw_A} {ca : Nat → ClassId} {D : va_G} (hG : sw_wf ad V sw_rf ln) : sw_met l ad V sw_rf ln ca D yX0_chain cX0_chain 3 none { frames := 1, cells := 0, slots := 0, locals := 21 } 3 (fX0_chain ln) := by
  refine sw_meth hG (by decide) (by refine ⟨?_, ?_, ?_, ?_⟩ <;> intro h <;> first | rfl | exact ⟨_, rfl⟩ | exact absurd h (by decide)) (by decide) kX0_chain flX0_in cnX0_in ?_ (sw_foii_h (W := fun Q L σ => ∃ fuel, wX0_chain ln Q fuel 0 L [] σ) (fun a0 a1 a2 σ h => hX0_chain ln a0 a1 a2 σ h))
  intro p e s m args below meth c S hT hnw
  refine List.forall_mem_cons.mpr ⟨sw_cokV S hT hnw (mX0_holds hG) 30 0 (by decide) ⟨by decide +kernel, by decide +kernel, by decide +kernel, by decide +kernel, by decide +kernel⟩ ⟨rfl, by decide, by decide, by decide +kernel⟩ ⟨rfl, rfl⟩ ⟨by decide, by decide⟩, ?_⟩
  exact fun q h => absurd h List.not_mem_nil
def gX0_giveBack (ln : sw_A) (k : Nat) (i : Int32) (σ : sw_S) : sw_X := (ce_ok ln k, some (.inl (if ce_ho ln k i = 0 then -1 else σ 11 k i.toNatClampNeg)), if ce_ho ln k i = 0 then σ else sw_up (sw_up σ 11 k i.toNatClampNeg (σ 0 k 3)) 0 k 3 i)
def fX0_giveBack (ln : sw_A) : sw_F := sw_foi 0 (gX0_giveBack ln)
def ctX0_giveBack (ln : sw_A) : sw_C := [(30, 2, 1, fX0_holds ln)]
abbrev wX0_giveBack (ln : sw_A) (Q : Option sw_V → sw_S → Prop) : Nat → Nat → sw_L → List sw_V → sw_S → Prop := sw_wp sw_rf ln (ctX0_giveBack ln) sX0_giveBack 1 33 tX0_giveBack Q
theorem hX0_giveBack (ln : sw_A) (k : Nat) (i : Int32) (σ : sw_S) (h : (gX0_giveBack ln k i σ).1) : ∃ fuel, wX0_giveBack ln (sw_end (gX0_giveBack ln k i σ)) fuel 0 (sw_ent 3 [.inr (some (0, k)), .inl i]) [] σ :=
  ⟨40, And.intro trivial (And.intro (fun (h1 : ¬ ce_ho ln k i = 0) => And.intro (ce_ho_in h1 h.2.2) (And.intro (ce_ho_in h1 h.2.2) ⟨sw_ri (if_neg h1).symm, (if_neg h1).symm⟩)) (fun (h1 : ce_ho ln k i = 0) => ⟨sw_ri (if_pos h1).symm, (if_pos h1).symm⟩))⟩
set_option maxRecDepth 100000 in
theorem mX0_giveBack {l : Launch} {ad : sw_A} {V : Nat → Nat → Prop} {ln : sw_A} {ca : Nat → ClassId} {D : va_G} (hG : sw_wf ad V sw_rf ln) : sw_met l ad V sw_rf ln ca D yX0_giveBack cX0_giveBack 3 (some .int) { frames := 1, cells := 0, slots := 0, locals := 21 } 2 (fX0_giveBack ln) := by
  refine sw_meth hG (by decide) (by refine ⟨?_, ?_, ?_, ?_⟩ <;> intro h <;> first | rfl | exact ⟨_, rfl⟩ | exact absurd h (by decide)) (by decide) kX0_giveBack flX0_in cnX0_in ?_ (sw_foi_h (W := fun Q L σ => ∃ fuel, wX0_giveBack ln Q fuel 0 L [] σ) (fun a0 a1 σ h => hX0_giveBack ln a0 a1 σ h))
  intro p e s m args below meth c S hT hnw
  refine List.forall_mem_cons.mpr ⟨sw_cokV S hT hnw (mX0_holds hG) 30 0 (by decide) ⟨by decide +kernel, by decide +kernel, by decide +kernel, by decide +kernel, by decide +kernel⟩ ⟨rfl, by decide, by decide, by decide +kernel⟩ ⟨rfl, rfl⟩ ⟨by decide, by decide⟩, ?_⟩
  exact fun q h => absurd h List.not_mem_nil
def ce_wo (ln : sw_A) (k : Nat) (i : Int32) (σ : sw_S) : Int32 := if ce_ho ln k i = 0 then 0 else σ 9 k i.toNatClampNeg
def gX0_wordIn (ln : sw_A) (k : Nat) (i : Int32) (σ : sw_S) : sw_X := (ce_ok ln k, some (.inl (ce_wo ln k i σ)), σ)
def fX0_wordIn (ln : sw_A) : sw_F := sw_foi 0 (gX0_wordIn ln)
def ctX0_wordIn (ln : sw_A) : sw_C := [(30, 2, 1, fX0_holds ln)]
abbrev wX0_wordIn (ln : sw_A) (Q : Option sw_V → sw_S → Prop) : Nat → Nat → sw_L → List sw_V → sw_S → Prop := sw_wp sw_rf ln (ctX0_wordIn ln) sX0_wordIn 1 18 tX0_wordIn Q
theorem hX0_wordIn (ln : sw_A) (k : Nat) (i : Int32) (σ : sw_S) (h : (gX0_wordIn ln k i σ).1) : ∃ fuel, wX0_wordIn ln (sw_end (gX0_wordIn ln k i σ)) fuel 0 (sw_ent 2 [.inr (some (0, k)), .inl i]) [] σ :=
  ⟨40, And.intro trivial (And.intro (fun (h1 : ce_ho ln k i = 0) => ⟨sw_ri (if_pos h1).symm, rfl⟩) (fun (h1 : ¬ ce_ho ln k i = 0) => And.intro (show vp_in i (ln 9 k) by rw [h.1]; exact ce_ho_in h1 h.2.2) ⟨sw_ri (if_neg h1).symm, rfl⟩))⟩
set_option maxRecDepth 100000 in
theorem mX0_wordIn {l : Launch} {ad : sw_A} {V : Nat → Nat → Prop} {ln : sw_A} {ca : Nat → ClassId} {D : va_G} (hG : sw_wf ad V sw_rf ln) : sw_met l ad V sw_rf ln ca D yX0_wordIn cX0_wordIn 2 (some .int) { frames := 1, cells := 0, slots := 0, locals := 21 } 2 (fX0_wordIn ln) := by
  refine sw_meth hG (by decide) (by refine ⟨?_, ?_, ?_, ?_⟩ <;> intro h <;> first | rfl | exact ⟨_, rfl⟩ | exact absurd h (by decide)) (by decide) kX0_wordIn flX0_in cnX0_in ?_ (sw_foi_h (W := fun Q L σ => ∃ fuel, wX0_wordIn ln Q fuel 0 L [] σ) (fun a0 a1 σ h => hX0_wordIn ln a0 a1 σ h))
  intro p e s m args below meth c S hT hnw
  refine List.forall_mem_cons.mpr ⟨sw_cokV S hT hnw (mX0_holds hG) 30 0 (by decide) ⟨by decide +kernel, by decide +kernel, by decide +kernel, by decide +kernel, by decide +kernel⟩ ⟨rfl, by decide, by decide, by decide +kernel⟩ ⟨rfl, rfl⟩ ⟨by decide, by decide⟩, ?_⟩
  exact fun q h => absurd h List.not_mem_nil
def ce_mk (ln : sw_A) (k : Nat) (i : Int32) (σ : sw_S) : Int32 := if ce_ho ln k i = 0 then 0 else if σ 10 k i.toNatClampNeg = 0 then 0 else 1
def gX0_isMark (ln : sw_A) (k : Nat) (i : Int32) (σ : sw_S) : sw_X := (ce_ok ln k, some (.inl (ce_mk ln k i σ)), σ)
def fX0_isMark (ln : sw_A) : sw_F := sw_foi 0 (gX0_isMark ln)
def ctX0_isMark (ln : sw_A) : sw_C := [(30, 2, 1, fX0_holds ln)]
abbrev wX0_isMark (ln : sw_A) (Q : Option sw_V → sw_S → Prop) : Nat → Nat → sw_L → List sw_V → sw_S → Prop := sw_wp sw_rf ln (ctX0_isMark ln) sX0_isMark 2 22 tX0_isMark Q
theorem hX0_isMark (ln : sw_A) (k : Nat) (i : Int32) (σ : sw_S) (h : (gX0_isMark ln k i σ).1) : ∃ fuel, wX0_isMark ln (sw_end (gX0_isMark ln k i σ)) fuel 0 (sw_ent 2 [.inr (some (0, k)), .inl i]) [] σ :=
  ⟨40, And.intro trivial (And.intro (fun (h1 : ce_ho ln k i = 0) => ⟨Or.inl rfl, sw_ri (if_pos h1).symm, rfl⟩) (fun (h1 : ¬ ce_ho ln k i = 0) => And.intro (show vp_in i (ln 10 k) by rw [h.2.1]; exact ce_ho_in h1 h.2.2) (And.intro (fun (h2 : σ 10 k i.toNatClampNeg = 0) => ⟨Or.inl rfl, sw_ri ((if_neg h1).trans (if_pos h2)).symm, rfl⟩) (fun (h2 : ¬ σ 10 k i.toNatClampNeg = 0) => ⟨Or.inr rfl, sw_ri ((if_neg h1).trans (if_neg h2)).symm, rfl⟩))))⟩
set_option maxRecDepth 100000 in
theorem mX0_isMark {l : Launch} {ad : sw_A} {V : Nat → Nat → Prop} {ln : sw_A} {ca : Nat → ClassId} {D : va_G} (hG : sw_wf ad V sw_rf ln) : sw_met l ad V sw_rf ln ca D yX0_isMark cX0_isMark 2 (some .boolean) { frames := 1, cells := 0, slots := 0, locals := 21 } 2 (fX0_isMark ln) := by
  refine sw_meth hG (by decide) (by refine ⟨?_, ?_, ?_, ?_⟩ <;> intro h <;> first | rfl | exact ⟨_, rfl⟩ | exact absurd h (by decide)) (by decide) kX0_isMark flX0_in cnX0_in ?_ (sw_foi_h (W := fun Q L σ => ∃ fuel, wX0_isMark ln Q fuel 0 L [] σ) (fun a0 a1 σ h => hX0_isMark ln a0 a1 σ h))
  intro p e s m args below meth c S hT hnw
  refine List.forall_mem_cons.mpr ⟨sw_cokV S hT hnw (mX0_holds hG) 30 0 (by decide) ⟨by decide +kernel, by decide +kernel, by decide +kernel, by decide +kernel, by decide +kernel⟩ ⟨rfl, by decide, by decide, by decide +kernel⟩ ⟨rfl, rfl⟩ ⟨by decide, by decide⟩, ?_⟩
  exact fun q h => absurd h List.not_mem_nil
def gX5_size (ln : sw_A) (q : Nat) (σ : sw_S) : sw_X := (True, some (.inl (σ 5 q 3)), σ)
def fX5_size (ln : sw_A) : sw_F := sw_fo 5 (gX5_size ln)
def ctX5_size (ln : sw_A) : sw_C := []
abbrev wX5_size (ln : sw_A) (Q : Option sw_V → sw_S → Prop) : Nat → Nat → sw_L → List sw_V → sw_S → Prop := sw_wp sw_rf ln (ctX5_size ln) sX5_size 1 4 tX5_size Q
theorem hX5_size (ln : sw_A) (q : Nat) (σ : sw_S) (h : (gX5_size ln q σ).1) : ∃ fuel, wX5_size ln (sw_end (gX5_size ln q σ)) fuel 0 (sw_ent 1 [.inr (some (5, q))]) [] σ :=
  ⟨10, ⟨rfl, rfl⟩⟩
set_option maxRecDepth 100000 in
theorem mX5_size {l : Launch} {ad : sw_A} {V : Nat → Nat → Prop} {ln : sw_A} {ca : Nat → ClassId} {D : va_G} (hG : sw_wf ad V sw_rf ln) : sw_met l ad V sw_rf ln ca D yX5_size cX5_size 1 (some .int) { frames := 0, cells := 0, slots := 0, locals := 0 } 1 (fX5_size ln) := by
  refine sw_meth hG (by decide) (by refine ⟨?_, ?_, ?_, ?_⟩ <;> intro h <;> first | rfl | exact ⟨_, rfl⟩ | exact absurd h (by decide)) (by decide) kX5_size flX5_in cnX5_in ?_ (sw_fo_h (W := fun Q L σ => ∃ fuel, wX5_size ln Q fuel 0 L [] σ) (fun a0 σ h => hX5_size ln a0 σ h))
  intro p e s m args below meth c S hT hnw
  exact fun q h => absurd h List.not_mem_nil
def qu_pb (ln : sw_A) (q : Nat) (c : Int32) (σ : sw_S) : sw_S := if σ 5 q 3 = 0 then sw_up σ 5 q 1 c else (gX0_chain ln (q / 16) (σ 5 q 2) c σ).2.2
def qu_pc (q : Nat) (c : Int32) (σ : sw_S) : sw_S := sw_up (sw_up σ 5 q 2 c) 5 q 3 (sw_up σ 5 q 2 c 5 q 3 + 1)
def qu_pu (ln : sw_A) (q : Nat) (w b : Int32) (σ : sw_S) : sw_S := if ce_fc ln (q / 16) σ = -1 then (gX0_fill ln (q / 16) w b σ).2.2 else qu_pc q (ce_fc ln (q / 16) σ) (qu_pb ln q (ce_fc ln (q / 16) σ) (gX0_fill ln (q / 16) w b σ).2.2)
def gX5_put (ln : sw_A) (q : Nat) (w b : Int32) (σ : sw_S) : sw_X := (ce_ok ln (q / 16) ∧ sw_bo b, none, qu_pu ln q w b σ)
def fX5_put (ln : sw_A) : sw_F := sw_foii 5 (gX5_put ln)
def ctX5_put (ln : sw_A) : sw_C := [(25, 3, 1, fX0_fill ln), (29, 3, 1, fX0_chain ln)]
abbrev wX5_put (ln : sw_A) (Q : Option sw_V → sw_S → Prop) : Nat → Nat → sw_L → List sw_V → sw_S → Prop := sw_wp sw_rf ln (ctX5_put ln) sX5_put 0 58 tX5_put Q
theorem hX5_put (ln : sw_A) (q : Nat) (w b : Int32) (σ : sw_S) (h : (gX5_put ln q w b σ).1) : ∃ fuel, wX5_put ln (sw_end (gX5_put ln q w b σ)) fuel 0 (sw_ent 4 [.inr (some (5, q)), .inl w, .inl b]) [] σ := by
  refine ⟨40, And.intro h (And.intro (fun (h1 : ¬ ce_fc ln (q / 16) σ = -1) => ?_) (fun (h1 : ce_fc ln (q / 16) σ = -1) => ⟨rfl, (if_pos h1).symm⟩))⟩
  refine And.intro (fun (h2 : ¬ (gX0_fill ln (q / 16) w b σ).2.2 5 q 3 = 0) => And.intro h.1 ⟨rfl, ?_⟩) (fun (h2 : (gX0_fill ln (q / 16) w b σ).2.2 5 q 3 = 0) => ⟨rfl, ?_⟩)
  · show _ = qu_pu ln q w b σ
    unfold qu_pu qu_pb
    rw [if_neg h1, if_neg h2]
    rfl
  · show _ = qu_pu ln q w b σ
    unfold qu_pu qu_pb
    rw [if_neg h1, if_pos h2]
    rfl
set_option maxRecDepth 100000 in
theorem mX5_put {l : Launch} {ad : sw_A} {V : Nat → Nat → Prop} {ln : sw_A} {ca : Nat → ClassId} {D : va_G} (hG : sw_wf ad V sw_rf ln) : sw_met l ad V sw_rf ln ca D yX5_put cX5_put 4 none { frames := 2, cells := 0, slots := 0, locals := 44 } 3 (fX5_put ln) := by
  refine sw_meth hG (by decide) (by refine ⟨?_, ?_, ?_, ?_⟩ <;> intro h <;> first | rfl | exact ⟨_, rfl⟩ | exact absurd h (by decide)) (by decide) kX5_put flX5_in cnX5_in ?_ (sw_foii_h (W := fun Q L σ => ∃ fuel, wX5_put ln Q fuel 0 L [] σ) (fun a0 a1 a2 σ h => hX5_put ln a0 a1 a2 σ h))
  intro p e s m args below meth c S hT hnw
  refine List.forall_mem_cons.mpr ⟨sw_cokV S hT hnw (mX0_fill hG) 25 0 (by decide) ⟨by decide +kernel, by decide +kernel, by decide +kernel, by decide +kernel, by decide +kernel⟩ ⟨rfl, by decide, by decide, by decide +kernel⟩ ⟨rfl, rfl⟩ ⟨by decide, by decide⟩, ?_⟩
  refine List.forall_mem_cons.mpr ⟨sw_cokV S hT hnw (mX0_chain hG) 29 0 (by decide) ⟨by decide +kernel, by decide +kernel, by decide +kernel, by decide +kernel, by decide +kernel⟩ ⟨rfl, by decide, by decide, by decide +kernel⟩ ⟨rfl, rfl⟩ ⟨by decide, by decide⟩, ?_⟩
  exact fun q h => absurd h List.not_mem_nil
def qu_ow (ln : sw_A) (q : Nat) (σ : sw_S) : Int32 := if σ 5 q 3 ≤ 0 then 0 else ce_wo ln (q / 16) (σ 5 q 1) σ
def gX5_oldestWord (ln : sw_A) (q : Nat) (σ : sw_S) : sw_X := (ce_ok ln (q / 16), some (.inl (qu_ow ln q σ)), σ)
def fX5_oldestWord (ln : sw_A) : sw_F := sw_fo 5 (gX5_oldestWord ln)
def ctX5_oldestWord (ln : sw_A) : sw_C := [(33, 2, 1, fX0_wordIn ln)]
abbrev wX5_oldestWord (ln : sw_A) (Q : Option sw_V → sw_S → Prop) : Nat → Nat → sw_L → List sw_V → sw_S → Prop := sw_wp sw_rf ln (ctX5_oldestWord ln) sX5_oldestWord 1 22 tX5_oldestWord Q
theorem hX5_oldestWord (ln : sw_A) (q : Nat) (σ : sw_S) (h : (gX5_oldestWord ln q σ).1) : ∃ fuel, wX5_oldestWord ln (sw_end (gX5_oldestWord ln q σ)) fuel 0 (sw_ent 1 [.inr (some (5, q))]) [] σ :=
  ⟨20, And.intro (fun (h1 : σ 5 q 3 ≤ 0) => ⟨sw_ri (if_pos h1).symm, rfl⟩) (fun (h1 : ¬ σ 5 q 3 ≤ 0) => And.intro h ⟨sw_ri (if_neg h1).symm, rfl⟩)⟩
set_option maxRecDepth 100000 in
theorem mX5_oldestWord {l : Launch} {ad : sw_A} {V : Nat → Nat → Prop} {ln : sw_A} {ca : Nat → ClassId} {D : va_G} (hG : sw_wf ad V sw_rf ln) : sw_met l ad V sw_rf ln ca D yX5_oldestWord cX5_oldestWord 1 (some .int) { frames := 2, cells := 0, slots := 0, locals := 42 } 1 (fX5_oldestWord ln) := by
  refine sw_meth hG (by decide) (by refine ⟨?_, ?_, ?_, ?_⟩ <;> intro h <;> first | rfl | exact ⟨_, rfl⟩ | exact absurd h (by decide)) (by decide) kX5_oldestWord flX5_in cnX5_in ?_ (sw_fo_h (W := fun Q L σ => ∃ fuel, wX5_oldestWord ln Q fuel 0 L [] σ) (fun a0 σ h => hX5_oldestWord ln a0 σ h))
  intro p e s m args below meth c S hT hnw
  refine List.forall_mem_cons.mpr ⟨sw_cokV S hT hnw (mX0_wordIn hG) 33 0 (by decide) ⟨by decide +kernel, by decide +kernel, by decide +kernel, by decide +kernel, by decide +kernel⟩ ⟨rfl, by decide, by decide, by decide +kernel⟩ ⟨rfl, rfl⟩ ⟨by decide, by decide⟩, ?_⟩
  exact fun q h => absurd h List.not_mem_nil
def qu_om (ln : sw_A) (q : Nat) (σ : sw_S) : Int32 := if σ 5 q 3 ≤ 0 then 0 else if ce_mk ln (q / 16) (σ 5 q 1) σ = 0 then 0 else 1
def gX5_oldestIsMark (ln : sw_A) (q : Nat) (σ : sw_S) : sw_X := (ce_ok ln (q / 16), some (.inl (qu_om ln q σ)), σ)
def fX5_oldestIsMark (ln : sw_A) : sw_F := sw_fo 5 (gX5_oldestIsMark ln)
def ctX5_oldestIsMark (ln : sw_A) : sw_C := [(37, 2, 1, fX0_isMark ln)]
abbrev wX5_oldestIsMark (ln : sw_A) (Q : Option sw_V → sw_S → Prop) : Nat → Nat → sw_L → List sw_V → sw_S → Prop := sw_wp sw_rf ln (ctX5_oldestIsMark ln) sX5_oldestIsMark 2 26 tX5_oldestIsMark Q
theorem hX5_oldestIsMark (ln : sw_A) (q : Nat) (σ : sw_S) (h : (gX5_oldestIsMark ln q σ).1) : ∃ fuel, wX5_oldestIsMark ln (sw_end (gX5_oldestIsMark ln q σ)) fuel 0 (sw_ent 1 [.inr (some (5, q))]) [] σ :=
  ⟨20, And.intro (fun (h1 : σ 5 q 3 ≤ 0) => ⟨Or.inl rfl, sw_ri (if_pos h1).symm, rfl⟩) (fun (h1 : ¬ σ 5 q 3 ≤ 0) => And.intro h (And.intro (fun (h2 : ce_mk ln (q / 16) (σ 5 q 1) σ = 0) => ⟨Or.inl rfl, sw_ri ((if_neg h1).trans (if_pos h2)).symm, rfl⟩) (fun (h2 : ¬ ce_mk ln (q / 16) (σ 5 q 1) σ = 0) => ⟨Or.inr rfl, sw_ri ((if_neg h1).trans (if_neg h2)).symm, rfl⟩)))⟩
set_option maxRecDepth 100000 in
theorem mX5_oldestIsMark {l : Launch} {ad : sw_A} {V : Nat → Nat → Prop} {ln : sw_A} {ca : Nat → ClassId} {D : va_G} (hG : sw_wf ad V sw_rf ln) : sw_met l ad V sw_rf ln ca D yX5_oldestIsMark cX5_oldestIsMark 1 (some .boolean) { frames := 2, cells := 0, slots := 0, locals := 42 } 1 (fX5_oldestIsMark ln) := by
  refine sw_meth hG (by decide) (by refine ⟨?_, ?_, ?_, ?_⟩ <;> intro h <;> first | rfl | exact ⟨_, rfl⟩ | exact absurd h (by decide)) (by decide) kX5_oldestIsMark flX5_in cnX5_in ?_ (sw_fo_h (W := fun Q L σ => ∃ fuel, wX5_oldestIsMark ln Q fuel 0 L [] σ) (fun a0 σ h => hX5_oldestIsMark ln a0 σ h))
  intro p e s m args below meth c S hT hnw
  refine List.forall_mem_cons.mpr ⟨sw_cokV S hT hnw (mX0_isMark hG) 37 0 (by decide) ⟨by decide +kernel, by decide +kernel, by decide +kernel, by decide +kernel, by decide +kernel⟩ ⟨rfl, by decide, by decide, by decide +kernel⟩ ⟨rfl, rfl⟩ ⟨by decide, by decide⟩, ?_⟩
  exact fun q h => absurd h List.not_mem_nil
def qu_da (ln : sw_A) (q : Nat) (σ : sw_S) : sw_S := sw_up (gX0_giveBack ln (q / 16) (σ 5 q 1) σ).2.2 5 q 1 (if ce_ho ln (q / 16) (σ 5 q 1) = 0 then -1 else σ 11 (q / 16) (σ 5 q 1).toNatClampNeg)
def qu_do (ln : sw_A) (q : Nat) (σ : sw_S) : sw_S := if σ 5 q 3 ≤ 0 then σ else sw_up (qu_da ln q σ) 5 q 3 (qu_da ln q σ 5 q 3 - 1)
def gX5_dropOldest (ln : sw_A) (q : Nat) (σ : sw_S) : sw_X := (ce_ok ln (q / 16), none, qu_do ln q σ)
def fX5_dropOldest (ln : sw_A) : sw_F := sw_fo 5 (gX5_dropOldest ln)
def ctX5_dropOldest (ln : sw_A) : sw_C := [(41, 2, 1, fX0_giveBack ln)]
abbrev wX5_dropOldest (ln : sw_A) (Q : Option sw_V → sw_S → Prop) : Nat → Nat → sw_L → List sw_V → sw_S → Prop := sw_wp sw_rf ln (ctX5_dropOldest ln) sX5_dropOldest 0 32 tX5_dropOldest Q
theorem hX5_dropOldest (ln : sw_A) (q : Nat) (σ : sw_S) (h : (gX5_dropOldest ln q σ).1) : ∃ fuel, wX5_dropOldest ln (sw_end (gX5_dropOldest ln q σ)) fuel 0 (sw_ent 1 [.inr (some (5, q))]) [] σ :=
  ⟨30, And.intro (fun (h1 : σ 5 q 3 ≤ 0) => ⟨rfl, (if_pos h1).symm⟩) (fun (h1 : ¬ σ 5 q 3 ≤ 0) => And.intro h ⟨rfl, (if_neg h1).symm⟩)⟩
set_option maxRecDepth 100000 in
theorem mX5_dropOldest {l : Launch} {ad : sw_A} {V : Nat → Nat → Prop} {ln : sw_A} {ca : Nat → ClassId} {D : va_G} (hG : sw_wf ad V sw_rf ln) : sw_met l ad V sw_rf ln ca D yX5_dropOldest cX5_dropOldest 1 none { frames := 2, cells := 0, slots := 0, locals := 43 } 1 (fX5_dropOldest ln) := by
  refine sw_meth hG (by decide) (by refine ⟨?_, ?_, ?_, ?_⟩ <;> intro h <;> first | rfl | exact ⟨_, rfl⟩ | exact absurd h (by decide)) (by decide) kX5_dropOldest flX5_in cnX5_in ?_ (sw_fo_h (W := fun Q L σ => ∃ fuel, wX5_dropOldest ln Q fuel 0 L [] σ) (fun a0 σ h => hX5_dropOldest ln a0 σ h))
  intro p e s m args below meth c S hT hnw
  refine List.forall_mem_cons.mpr ⟨sw_cokV S hT hnw (mX0_giveBack hG) 41 0 (by decide) ⟨by decide +kernel, by decide +kernel, by decide +kernel, by decide +kernel, by decide +kernel⟩ ⟨rfl, by decide, by decide, by decide +kernel⟩ ⟨rfl, rfl⟩ ⟨by decide, by decide⟩, ?_⟩
  exact fun q h => absurd h List.not_mem_nil
end
section
/-! Frames and Limits -/
def gX3_size (ln : sw_A) (r : Nat) (σ : sw_S) : sw_X := (True, some (.inl (σ 3 r 2)), σ)
def fX3_size (ln : sw_A) : sw_F := sw_fo 3 (gX3_size ln)
def ctX3_size (ln : sw_A) : sw_C := []
abbrev wX3_size (ln : sw_A) (Q : Option sw_V → sw_S → Prop) : Nat → Nat → sw_L → List sw_V → sw_S → Prop := sw_wp sw_rf ln (ctX3_size ln) sX3_size 1 4 tX3_size Q
theorem hX3_size (ln : sw_A) (r : Nat) (σ : sw_S) (h : (gX3_size ln r σ).1) : ∃ fuel, wX3_size ln (sw_end (gX3_size ln r σ)) fuel 0 (sw_ent 1 [.inr (some (3, r))]) [] σ :=
  ⟨10, ⟨rfl, rfl⟩⟩
set_option maxRecDepth 100000 in
theorem mX3_size {l : Launch} {ad : sw_A} {V : Nat → Nat → Prop} {ln : sw_A} {ca : Nat → ClassId} {D : va_G} (hG : sw_wf ad V sw_rf ln) : sw_met l ad V sw_rf ln ca D yX3_size cX3_size 1 (some .int) { frames := 0, cells := 0, slots := 0, locals := 0 } 1 (fX3_size ln) := by
  refine sw_meth hG (by decide) (by refine ⟨?_, ?_, ?_, ?_⟩ <;> intro h <;> first | rfl | exact ⟨_, rfl⟩ | exact absurd h (by decide)) (by decide) kX3_size flX3_in cnX3_in ?_ (sw_fo_h (W := fun Q L σ => ∃ fuel, wX3_size ln Q fuel 0 L [] σ) (fun a0 σ h => hX3_size ln a0 σ h))
  intro p e s m args below meth c S hT hnw
  exact fun q h => absurd h List.not_mem_nil
def rg_ro (ln : sw_A) (r : Nat) (σ : sw_S) : Int32 := if nI (ln 13 r) ≤ σ 3 r 2 then 0 else 1
def gX3_hasRoom (ln : sw_A) (r : Nat) (σ : sw_S) : sw_X := (True, some (.inl (rg_ro ln r σ)), σ)
def fX3_hasRoom (ln : sw_A) : sw_F := sw_fo 3 (gX3_hasRoom ln)
def ctX3_hasRoom (ln : sw_A) : sw_C := []
abbrev wX3_hasRoom (ln : sw_A) (Q : Option sw_V → sw_S → Prop) : Nat → Nat → sw_L → List sw_V → sw_S → Prop := sw_wp sw_rf ln (ctX3_hasRoom ln) sX3_hasRoom 2 17 tX3_hasRoom Q
theorem hX3_hasRoom (ln : sw_A) (r : Nat) (σ : sw_S) (h : (gX3_hasRoom ln r σ).1) : ∃ fuel, wX3_hasRoom ln (sw_end (gX3_hasRoom ln r σ)) fuel 0 (sw_ent 1 [.inr (some (3, r))]) [] σ :=
  ⟨20, And.intro (fun h1 => ⟨Or.inl rfl, sw_ri (if_pos h1).symm, rfl⟩) (fun h1 => ⟨Or.inr rfl, sw_ri (if_neg h1).symm, rfl⟩)⟩
set_option maxRecDepth 100000 in
theorem mX3_hasRoom {l : Launch} {ad : sw_A} {V : Nat → Nat → Prop} {ln : sw_A} {ca : Nat → ClassId} {D : va_G} (hG : sw_wf ad V sw_rf ln) : sw_met l ad V sw_rf ln ca D yX3_hasRoom cX3_hasRoom 1 (some .boolean) { frames := 0, cells := 0, slots := 0, locals := 0 } 1 (fX3_hasRoom ln) := by
  refine sw_meth hG (by decide) (by refine ⟨?_, ?_, ?_, ?_⟩ <;> intro h <;> first | rfl | exact ⟨_, rfl⟩ | exact absurd h (by decide)) (by decide) kX3_hasRoom flX3_in cnX3_in ?_ (sw_fo_h (W := fun Q L σ => ∃ fuel, wX3_hasRoom ln Q fuel 0 L [] σ) (fun a0 σ h => hX3_hasRoom ln a0 σ h))
  intro p e s m args below meth c S hT hnw
  exact fun q h => absurd h List.not_mem_nil
def rg_sl (ln : sw_A) (r : Nat) (i : Int32) (σ : sw_S) : Int32 := if nI (ln 13 r) ≤ σ 3 r 1 + i then σ 3 r 1 + i - nI (ln 13 r) else σ 3 r 1 + i
def rg_at (ln : sw_A) (r : Nat) (i : Int32) (σ : sw_S) : Option (Nat × Nat) := if rg_sl ln r i σ < 0 then none else if nI (ln 13 r) ≤ rg_sl ln r i σ then none else some (2, 32 * r + (rg_sl ln r i σ).toNatClampNeg)
theorem sw_rr {x y : Option (Nat × Nat)} (h : x = y) : some (Sum.inr x : sw_V) = some (Sum.inr y) := by rw [h]
def gX3_slotAt (ln : sw_A) (r : Nat) (i : Int32) (σ : sw_S) : sw_X := (ln 13 r < 2 ^ 31, some (.inr (rg_at ln r i σ)), σ)
def fX3_slotAt (ln : sw_A) : sw_F := sw_foi 3 (gX3_slotAt ln)
def ctX3_slotAt (ln : sw_A) : sw_C := []
abbrev wX3_slotAt (ln : sw_A) (Q : Option sw_V → sw_S → Prop) : Nat → Nat → sw_L → List sw_V → sw_S → Prop := sw_wp sw_rf ln (ctX3_slotAt ln) sX3_slotAt 3 59 tX3_slotAt Q
theorem hX3_slotAt (ln : sw_A) (r : Nat) (i : Int32) (σ : sw_S) (h : (gX3_slotAt ln r i σ).1) : ∃ fuel, wX3_slotAt ln (sw_end (gX3_slotAt ln r i σ)) fuel 0 (sw_ent 3 [.inr (some (3, r)), .inl i]) [] σ := by
  have key : ∃ M, ∀ v : Int32, v = rg_sl ln r i σ → wX3_slotAt ln (sw_end (gX3_slotAt ln r i σ)) M 35 [some (.inr (some (3, r))), some (.inl i), none] [.inl v] σ := by
    refine ⟨20, ?_⟩
    intro v hv
    refine And.intro (fun (h2 : v < 0) => ⟨sw_rr ?_, rfl⟩) (fun (h2 : ¬ v < 0) => And.intro (fun (h3 : nI (ln 13 r) ≤ v) => ⟨sw_rr ?_, rfl⟩) (fun (h3 : ¬ nI (ln 13 r) ≤ v) => And.intro (show vp_in v (ln 13 r) from vp_in_lt h2 (Int32.not_le.mp h3) (Int32.le_refl _) h) ⟨sw_rr ?_, rfl⟩))
    · rw [hv] at h2
      exact (if_pos h2).symm
    · rw [hv] at h2 h3
      exact ((if_neg h2).trans (if_pos h3)).symm
    · rw [hv] at h2 h3 ⊢
      exact ((if_neg h2).trans (if_neg h3)).symm
  obtain ⟨M, key⟩ := key
  refine ⟨M + 30, sw_ws_wp [35] M 30 _ _ _ _ ?_⟩
  refine And.intro (fun (h1 : nI (ln 13 r) ≤ σ 3 r 1 + i) => ?_) (fun (h1 : ¬ nI (ln 13 r) ≤ σ 3 r 1 + i) => ?_)
  · exact key _ (if_pos h1).symm
  · exact key _ (if_neg h1).symm
set_option maxRecDepth 100000 in
theorem mX3_slotAt {l : Launch} {ad : sw_A} {V : Nat → Nat → Prop} {ln : sw_A} {ca : Nat → ClassId} {D : va_G} (hG : sw_wf ad V sw_rf ln) : sw_met l ad V sw_rf ln ca D yX3_slotAt cX3_slotAt 3 (some (.object "StreamWires$Frame")) { frames := 0, cells := 0, slots := 0, locals := 0 } 2 (fX3_slotAt ln) := by
  refine sw_meth hG (by decide) (by refine ⟨?_, ?_, ?_, ?_⟩ <;> intro h <;> first | rfl | exact ⟨_, rfl⟩ | exact absurd h (by decide)) (by decide) kX3_slotAt flX3_in cnX3_in ?_ (sw_foi_h (W := fun Q L σ => ∃ fuel, wX3_slotAt ln Q fuel 0 L [] σ) (fun a0 a1 σ h => hX3_slotAt ln a0 a1 σ h))
  intro p e s m args below meth c S hT hnw
  exact fun q h => absurd h List.not_mem_nil
def rg_fa (ln : sw_A) (r : Nat) (i : Int32) (σ : sw_S) : Option (Nat × Nat) := if i < 0 then none else if σ 3 r 2 ≤ i then none else rg_at ln r i σ
def gX3_frameAt (ln : sw_A) (r : Nat) (i : Int32) (σ : sw_S) : sw_X := (ln 13 r < 2 ^ 31, some (.inr (rg_fa ln r i σ)), σ)
def fX3_frameAt (ln : sw_A) : sw_F := sw_foi 3 (gX3_frameAt ln)
def ctX3_frameAt (ln : sw_A) : sw_C := [(28, 2, 4, fX3_slotAt ln)]
abbrev wX3_frameAt (ln : sw_A) (Q : Option sw_V → sw_S → Prop) : Nat → Nat → sw_L → List sw_V → sw_S → Prop := sw_wp sw_rf ln (ctX3_frameAt ln) sX3_frameAt 3 21 tX3_frameAt Q
theorem hX3_frameAt (ln : sw_A) (r : Nat) (i : Int32) (σ : sw_S) (h : (gX3_frameAt ln r i σ).1) : ∃ fuel, wX3_frameAt ln (sw_end (gX3_frameAt ln r i σ)) fuel 0 (sw_ent 2 [.inr (some (3, r)), .inl i]) [] σ :=
  ⟨20, And.intro (fun (h1 : i < 0) => ⟨sw_rr (if_pos h1).symm, rfl⟩) (fun (h1 : ¬ i < 0) => And.intro (fun (h2 : σ 3 r 2 ≤ i) => ⟨sw_rr ((if_neg h1).trans (if_pos h2)).symm, rfl⟩) (fun (h2 : ¬ σ 3 r 2 ≤ i) => And.intro h ⟨sw_rr ((if_neg h1).trans (if_neg h2)).symm, rfl⟩))⟩
set_option maxRecDepth 100000 in
theorem mX3_frameAt {l : Launch} {ad : sw_A} {V : Nat → Nat → Prop} {ln : sw_A} {ca : Nat → ClassId} {D : va_G} (hG : sw_wf ad V sw_rf ln) : sw_met l ad V sw_rf ln ca D yX3_frameAt cX3_frameAt 2 (some (.object "StreamWires$Frame")) { frames := 1, cells := 0, slots := 0, locals := 22 } 2 (fX3_frameAt ln) := by
  refine sw_meth hG (by decide) (by refine ⟨?_, ?_, ?_, ?_⟩ <;> intro h <;> first | rfl | exact ⟨_, rfl⟩ | exact absurd h (by decide)) (by decide) kX3_frameAt flX3_in cnX3_in ?_ (sw_foi_h (W := fun Q L σ => ∃ fuel, wX3_frameAt ln Q fuel 0 L [] σ) (fun a0 a1 σ h => hX3_frameAt ln a0 a1 σ h))
  intro p e s m args below meth c S hT hnw
  refine List.forall_mem_cons.mpr ⟨sw_cokV S hT hnw (mX3_slotAt hG) 28 3 (by decide) ⟨by decide +kernel, by decide +kernel, by decide +kernel, by decide +kernel, by decide +kernel⟩ ⟨rfl, by decide, by decide, by decide +kernel⟩ ⟨rfl, rfl⟩ ⟨by decide, by decide⟩, ?_⟩
  exact fun q h => absurd h List.not_mem_nil
def rg_as (ln : sw_A) (r : Nat) (σ : sw_S) : Option (Nat × Nat) := if rg_ro ln r σ = 0 then none else rg_at ln r (σ 3 r 2) σ
def rg_ad (ln : sw_A) (r f : Nat) (σ : sw_S) : Option (Nat × Nat) → sw_S
  | none => σ
  | some q => sw_up (gX2_copyFrom ln q.2 f σ).2.2 3 r 2 ((gX2_copyFrom ln q.2 f σ).2.2 3 r 2 + 1)
def gX3_add (ln : sw_A) (r f : Nat) (σ : sw_S) : sw_X := (ln 13 r < 2 ^ 31 ∧ ∀ q, rg_as ln r σ = some q → q.1 = 2 ∧ (gX2_copyFrom ln q.2 f σ).1, none, rg_ad ln r f σ (rg_as ln r σ))
def fX3_add (ln : sw_A) : sw_F := sw_foo 3 2 (gX3_add ln)
def ctX3_add (ln : sw_A) : sw_C := [(32, 1, 4, fX3_hasRoom ln), (28, 2, 4, fX3_slotAt ln), (36, 2, 3, fX2_copyFrom ln)]
abbrev wX3_add (ln : sw_A) (Q : Option sw_V → sw_S → Prop) : Nat → Nat → sw_L → List sw_V → sw_S → Prop := sw_wp sw_rf ln (ctX3_add ln) sX3_add 0 39 tX3_add Q
theorem hX3_add (ln : sw_A) (r f : Nat) (σ : sw_S) (h : (gX3_add ln r f σ).1) : ∃ fuel, wX3_add ln (sw_end (gX3_add ln r f σ)) fuel 0 (sw_ent 3 [.inr (some (3, r)), .inr (some (2, f))]) [] σ := by
  have key : ∃ M, ∀ s, s = rg_as ln r σ → wX3_add ln (sw_end (gX3_add ln r f σ)) M 19 [some (.inr (some (3, r))), some (.inr (some (2, f))), none] [.inr s] σ := by
    refine ⟨20, ?_⟩
    intro s hs
    cases s with
    | none =>
      refine ⟨rfl, ?_⟩
      show σ = rg_ad ln r f σ (rg_as ln r σ)
      rw [← hs]
      rfl
    | some q =>
      obtain ⟨q1, q2⟩ := q
      obtain ⟨e1, e2⟩ := h.2 _ hs.symm
      have e1 : q1 = 2 := e1
      subst e1
      refine And.intro e2 ⟨rfl, ?_⟩
      show _ = rg_ad ln r f σ (rg_as ln r σ)
      rw [← hs]
      rfl
  obtain ⟨M, key⟩ := key
  refine ⟨M + 30, sw_ws_wp [19] M 30 _ _ _ _ ?_⟩
  refine And.intro trivial (And.intro (fun (h1 : rg_ro ln r σ = 0) => ?_) (fun (h1 : ¬ rg_ro ln r σ = 0) => And.intro h.1 ?_))
  · exact key _ (if_pos h1).symm
  · exact key _ (if_neg h1).symm
set_option maxRecDepth 100000 in
theorem mX3_add {l : Launch} {ad : sw_A} {V : Nat → Nat → Prop} {ln : sw_A} {ca : Nat → ClassId} {D : va_G} (hG : sw_wf ad V sw_rf ln) : sw_met l ad V sw_rf ln ca D yX3_add cX3_add 3 none { frames := 2, cells := 0, slots := 0, locals := 43 } 2 (fX3_add ln) := by
  refine sw_meth hG (by decide) (by refine ⟨?_, ?_, ?_, ?_⟩ <;> intro h <;> first | rfl | exact ⟨_, rfl⟩ | exact absurd h (by decide)) (by decide) kX3_add flX3_in cnX3_in ?_ (sw_foo_h (W := fun Q L σ => ∃ fuel, wX3_add ln Q fuel 0 L [] σ) (fun a0 a1 σ h => hX3_add ln a0 a1 σ h))
  intro p e s m args below meth c S hT hnw
  refine List.forall_mem_cons.mpr ⟨sw_cokV S hT hnw (mX3_hasRoom hG) 32 3 (by decide) ⟨by decide +kernel, by decide +kernel, by decide +kernel, by decide +kernel, by decide +kernel⟩ ⟨rfl, by decide, by decide, by decide +kernel⟩ ⟨rfl, rfl⟩ ⟨by decide, by decide⟩, ?_⟩
  refine List.forall_mem_cons.mpr ⟨sw_cokV S hT hnw (mX3_slotAt hG) 28 3 (by decide) ⟨by decide +kernel, by decide +kernel, by decide +kernel, by decide +kernel, by decide +kernel⟩ ⟨rfl, by decide, by decide, by decide +kernel⟩ ⟨rfl, rfl⟩ ⟨by decide, by decide⟩, ?_⟩
  refine List.forall_mem_cons.mpr ⟨sw_cokV S hT hnw (mX2_copyFrom hG) 36 2 (by decide) ⟨by decide +kernel, by decide +kernel, by decide +kernel, by decide +kernel, by decide +kernel⟩ ⟨rfl, by decide, by decide, by decide +kernel⟩ ⟨rfl, rfl⟩ ⟨by decide, by decide⟩, ?_⟩
  exact fun q h => absurd h List.not_mem_nil
def rg_nf (ln : sw_A) (r : Nat) (σ : sw_S) : Int32 := if nI (ln 13 r) ≤ σ 3 r 1 + 1 then 0 else σ 3 r 1 + 1
def rg_df (ln : sw_A) (r : Nat) (σ : sw_S) : sw_S := sw_up (sw_up σ 3 r 1 (rg_nf ln r σ)) 3 r 2 (sw_up σ 3 r 1 (rg_nf ln r σ) 3 r 2 - 1)
def gX3_dropFirst (ln : sw_A) (r : Nat) (σ : sw_S) : sw_X := (True, some (.inl (if σ 3 r 2 = 0 then 0 else 1)), if σ 3 r 2 = 0 then σ else rg_df ln r σ)
def fX3_dropFirst (ln : sw_A) : sw_F := sw_fo 3 (gX3_dropFirst ln)
def ctX3_dropFirst (ln : sw_A) : sw_C := []
abbrev wX3_dropFirst (ln : sw_A) (Q : Option sw_V → sw_S → Prop) : Nat → Nat → sw_L → List sw_V → sw_S → Prop := sw_wp sw_rf ln (ctX3_dropFirst ln) sX3_dropFirst 2 48 tX3_dropFirst Q
theorem hX3_dropFirst (ln : sw_A) (r : Nat) (σ : sw_S) (h : (gX3_dropFirst ln r σ).1) : ∃ fuel, wX3_dropFirst ln (sw_end (gX3_dropFirst ln r σ)) fuel 0 (sw_ent 1 [.inr (some (3, r))]) [] σ := by
  refine ⟨40, And.intro (fun (h1 : ¬ σ 3 r 2 = 0) => And.intro (fun (h2 : nI (ln 13 r) ≤ σ 3 r 1 + 1) => ⟨Or.inr rfl, sw_ri (if_neg h1).symm, ?_⟩) (fun (h2 : ¬ nI (ln 13 r) ≤ σ 3 r 1 + 1) => ⟨Or.inr rfl, sw_ri (if_neg h1).symm, ?_⟩)) (fun (h1 : σ 3 r 2 = 0) => ⟨Or.inl rfl, sw_ri (if_pos h1).symm, (if_pos h1).symm⟩)⟩
  · show _ = if σ 3 r 2 = 0 then σ else rg_df ln r σ
    rw [if_neg h1]
    unfold rg_df rg_nf
    rw [if_pos h2]
    rfl
  · show _ = if σ 3 r 2 = 0 then σ else rg_df ln r σ
    rw [if_neg h1]
    unfold rg_df rg_nf
    rw [if_neg h2]
    rfl
set_option maxRecDepth 100000 in
theorem mX3_dropFirst {l : Launch} {ad : sw_A} {V : Nat → Nat → Prop} {ln : sw_A} {ca : Nat → ClassId} {D : va_G} (hG : sw_wf ad V sw_rf ln) : sw_met l ad V sw_rf ln ca D yX3_dropFirst cX3_dropFirst 1 (some .boolean) { frames := 0, cells := 0, slots := 0, locals := 0 } 1 (fX3_dropFirst ln) := by
  refine sw_meth hG (by decide) (by refine ⟨?_, ?_, ?_, ?_⟩ <;> intro h <;> first | rfl | exact ⟨_, rfl⟩ | exact absurd h (by decide)) (by decide) kX3_dropFirst flX3_in cnX3_in ?_ (sw_fo_h (W := fun Q L σ => ∃ fuel, wX3_dropFirst ln Q fuel 0 L [] σ) (fun a0 σ h => hX3_dropFirst ln a0 σ h))
  intro p e s m args below meth c S hT hnw
  exact fun q h => absurd h List.not_mem_nil
def gX4_longestFrame (ln : sw_A) (q : Nat) (σ : sw_S) : sw_X := (True, some (.inl (σ 4 q 1 + 3)), σ)
def fX4_longestFrame (ln : sw_A) : sw_F := sw_fo 4 (gX4_longestFrame ln)
def ctX4_longestFrame (ln : sw_A) : sw_C := []
abbrev wX4_longestFrame (ln : sw_A) (Q : Option sw_V → sw_S → Prop) : Nat → Nat → sw_L → List sw_V → sw_S → Prop := sw_wp sw_rf ln (ctX4_longestFrame ln) sX4_longestFrame 1 6 tX4_longestFrame Q
theorem hX4_longestFrame (ln : sw_A) (q : Nat) (σ : sw_S) (h : (gX4_longestFrame ln q σ).1) : ∃ fuel, wX4_longestFrame ln (sw_end (gX4_longestFrame ln q σ)) fuel 0 (sw_ent 1 [.inr (some (4, q))]) [] σ :=
  ⟨10, ⟨rfl, rfl⟩⟩
set_option maxRecDepth 100000 in
theorem mX4_longestFrame {l : Launch} {ad : sw_A} {V : Nat → Nat → Prop} {ln : sw_A} {ca : Nat → ClassId} {D : va_G} (hG : sw_wf ad V sw_rf ln) : sw_met l ad V sw_rf ln ca D yX4_longestFrame cX4_longestFrame 1 (some .int) { frames := 0, cells := 0, slots := 0, locals := 0 } 1 (fX4_longestFrame ln) := by
  refine sw_meth hG (by decide) (by refine ⟨?_, ?_, ?_, ?_⟩ <;> intro h <;> first | rfl | exact ⟨_, rfl⟩ | exact absurd h (by decide)) (by decide) kX4_longestFrame flX4_in cnX4_in ?_ (sw_fo_h (W := fun Q L σ => ∃ fuel, wX4_longestFrame ln Q fuel 0 L [] σ) (fun a0 σ h => hX4_longestFrame ln a0 σ h))
  intro p e s m args below meth c S hT hnw
  exact fun q h => absurd h List.not_mem_nil
def li_nb (q : Nat) (a b : Int32) (σ : sw_S) : Int32 := if a + b ≤ σ 4 q 2 then a + b else a + b - σ 4 q 2 - 1
def gX4_numberBehind (ln : sw_A) (q : Nat) (a b : Int32) (σ : sw_S) : sw_X := (True, some (.inl (li_nb q a b σ)), σ)
def fX4_numberBehind (ln : sw_A) : sw_F := sw_foii 4 (gX4_numberBehind ln)
def ctX4_numberBehind (ln : sw_A) : sw_C := []
abbrev wX4_numberBehind (ln : sw_A) (Q : Option sw_V → sw_S → Prop) : Nat → Nat → sw_L → List sw_V → sw_S → Prop := sw_wp sw_rf ln (ctX4_numberBehind ln) sX4_numberBehind 1 24 tX4_numberBehind Q
theorem hX4_numberBehind (ln : sw_A) (q : Nat) (a b : Int32) (σ : sw_S) (h : (gX4_numberBehind ln q a b σ).1) : ∃ fuel, wX4_numberBehind ln (sw_end (gX4_numberBehind ln q a b σ)) fuel 0 (sw_ent 4 [.inr (some (4, q)), .inl a, .inl b]) [] σ :=
  ⟨20, And.intro (fun (h1 : a + b ≤ σ 4 q 2) => ⟨sw_ri (if_pos h1).symm, rfl⟩) (fun (h1 : ¬ a + b ≤ σ 4 q 2) => ⟨sw_ri (if_neg h1).symm, rfl⟩)⟩
set_option maxRecDepth 100000 in
theorem mX4_numberBehind {l : Launch} {ad : sw_A} {V : Nat → Nat → Prop} {ln : sw_A} {ca : Nat → ClassId} {D : va_G} (hG : sw_wf ad V sw_rf ln) : sw_met l ad V sw_rf ln ca D yX4_numberBehind cX4_numberBehind 4 (some .int) { frames := 0, cells := 0, slots := 0, locals := 0 } 3 (fX4_numberBehind ln) := by
  refine sw_meth hG (by decide) (by refine ⟨?_, ?_, ?_, ?_⟩ <;> intro h <;> first | rfl | exact ⟨_, rfl⟩ | exact absurd h (by decide)) (by decide) kX4_numberBehind flX4_in cnX4_in ?_ (sw_foii_h (W := fun Q L σ => ∃ fuel, wX4_numberBehind ln Q fuel 0 L [] σ) (fun a0 a1 a2 σ h => hX4_numberBehind ln a0 a1 a2 σ h))
  intro p e s m args below meth c S hT hnw
  exact fun q h => absurd h List.not_mem_nil
def li_sb (q : Nat) (a b : Int32) (σ : sw_S) : Int32 := if b < a then b - a + σ 4 q 2 + 1 else b - a
def gX4_stepsBetween (ln : sw_A) (q : Nat) (a b : Int32) (σ : sw_S) : sw_X := (True, some (.inl (li_sb q a b σ)), σ)
def fX4_stepsBetween (ln : sw_A) : sw_F := sw_foii 4 (gX4_stepsBetween ln)
def ctX4_stepsBetween (ln : sw_A) : sw_C := []
abbrev wX4_stepsBetween (ln : sw_A) (Q : Option sw_V → sw_S → Prop) : Nat → Nat → sw_L → List sw_V → sw_S → Prop := sw_wp sw_rf ln (ctX4_stepsBetween ln) sX4_stepsBetween 1 21 tX4_stepsBetween Q
theorem hX4_stepsBetween (ln : sw_A) (q : Nat) (a b : Int32) (σ : sw_S) (h : (gX4_stepsBetween ln q a b σ).1) : ∃ fuel, wX4_stepsBetween ln (sw_end (gX4_stepsBetween ln q a b σ)) fuel 0 (sw_ent 3 [.inr (some (4, q)), .inl a, .inl b]) [] σ :=
  ⟨20, And.intro (fun (h1 : b < a) => ⟨sw_ri (if_pos h1).symm, rfl⟩) (fun (h1 : ¬ b < a) => ⟨sw_ri (if_neg h1).symm, rfl⟩)⟩
set_option maxRecDepth 100000 in
theorem mX4_stepsBetween {l : Launch} {ad : sw_A} {V : Nat → Nat → Prop} {ln : sw_A} {ca : Nat → ClassId} {D : va_G} (hG : sw_wf ad V sw_rf ln) : sw_met l ad V sw_rf ln ca D yX4_stepsBetween cX4_stepsBetween 3 (some .int) { frames := 0, cells := 0, slots := 0, locals := 0 } 3 (fX4_stepsBetween ln) := by
  refine sw_meth hG (by decide) (by refine ⟨?_, ?_, ?_, ?_⟩ <;> intro h <;> first | rfl | exact ⟨_, rfl⟩ | exact absurd h (by decide)) (by decide) kX4_stepsBetween flX4_in cnX4_in ?_ (sw_foii_h (W := fun Q L σ => ∃ fuel, wX4_stepsBetween ln Q fuel 0 L [] σ) (fun a0 a1 a2 σ h => hX4_stepsBetween ln a0 a1 a2 σ h))
  intro p e s m args below meth c S hT hnw
  exact fun q h => absurd h List.not_mem_nil
end
section
/-! Flow -/
def bi (x : Int32) : Int32 := if x = 0 then 0 else 1
def gX7_bit (ln : sw_A) (x : Int32) (σ : sw_S) : sw_X := (True, some (.inl (bi x)), σ)
def fX7_bit (ln : sw_A) : sw_F := sw_fi (gX7_bit ln)
def ctX7_bit (ln : sw_A) : sw_C := []
abbrev wX7_bit (ln : sw_A) (Q : Option sw_V → sw_S → Prop) : Nat → Nat → sw_L → List sw_V → sw_S → Prop := sw_wp sw_rf ln (ctX7_bit ln) sX7_bit 1 9 tX7_bit Q
theorem hX7_bit (ln : sw_A) (x : Int32) (σ : sw_S) (h : (gX7_bit ln x σ).1) : ∃ fuel, wX7_bit ln (sw_end (gX7_bit ln x σ)) fuel 0 (sw_ent 1 [.inl x]) [] σ :=
  ⟨10, And.intro (fun (h1 : x = 0) => ⟨sw_ri (if_pos h1).symm, rfl⟩) (fun (h1 : ¬ x = 0) => ⟨sw_ri (if_neg h1).symm, rfl⟩)⟩
set_option maxRecDepth 100000 in
theorem mX7_bit {l : Launch} {ad : sw_A} {V : Nat → Nat → Prop} {ln : sw_A} {ca : Nat → ClassId} {D : va_G} (hG : sw_wf ad V sw_rf ln) : sw_met l ad V sw_rf ln ca D yX7_bit cX7_bit 1 (some .int) { frames := 0, cells := 0, slots := 0, locals := 0 } 1 (fX7_bit ln) := by
  refine sw_meth hG (by decide) (by refine ⟨?_, ?_, ?_, ?_⟩ <;> intro h <;> first | rfl | exact ⟨_, rfl⟩ | exact absurd h (by decide)) (by decide) kX7_bit flX7_in cnX7_in ?_ (sw_fi_h (W := fun Q L σ => ∃ fuel, wX7_bit ln Q fuel 0 L [] σ) (fun a0 σ h => hX7_bit ln a0 σ h))
  intro p e s m args below meth c S hT hnw
  exact fun q h => absurd h List.not_mem_nil
def fl_bo (w : Nat) (σ : sw_S) : sw_S := sw_up (sw_up σ 1 w 3 1) 1 w 5 (sw_up σ 1 w 3 1 1 w 2)
def gX1_becomeOpen (ln : sw_A) (w : Nat) (σ : sw_S) : sw_X := (True, none, fl_bo w σ)
def fX1_becomeOpen (ln : sw_A) : sw_F := sw_fo 1 (gX1_becomeOpen ln)
def ctX1_becomeOpen (ln : sw_A) : sw_C := []
abbrev wX1_becomeOpen (ln : sw_A) (Q : Option sw_V → sw_S → Prop) : Nat → Nat → sw_L → List sw_V → sw_S → Prop := sw_wp sw_rf ln (ctX1_becomeOpen ln) sX1_becomeOpen 0 13 tX1_becomeOpen Q
theorem hX1_becomeOpen (ln : sw_A) (w : Nat) (σ : sw_S) (h : (gX1_becomeOpen ln w σ).1) : ∃ fuel, wX1_becomeOpen ln (sw_end (gX1_becomeOpen ln w σ)) fuel 0 (sw_ent 1 [.inr (some (1, w))]) [] σ :=
  ⟨20, ⟨rfl, rfl⟩⟩
set_option maxRecDepth 100000 in
theorem mX1_becomeOpen {l : Launch} {ad : sw_A} {V : Nat → Nat → Prop} {ln : sw_A} {ca : Nat → ClassId} {D : va_G} (hG : sw_wf ad V sw_rf ln) : sw_met l ad V sw_rf ln ca D yX1_becomeOpen cX1_becomeOpen 1 none { frames := 0, cells := 0, slots := 0, locals := 0 } 1 (fX1_becomeOpen ln) := by
  refine sw_meth hG (by decide) (by refine ⟨?_, ?_, ?_, ?_⟩ <;> intro h <;> first | rfl | exact ⟨_, rfl⟩ | exact absurd h (by decide)) (by decide) kX1_becomeOpen flX1_in cnX1_in ?_ (sw_fo_h (W := fun Q L σ => ∃ fuel, wX1_becomeOpen ln Q fuel 0 L [] σ) (fun a0 σ h => hX1_becomeOpen ln a0 σ h))
  intro p e s m args below meth c S hT hnw
  exact fun q h => absurd h List.not_mem_nil
def gX1_begin (ln : sw_A) (w : Nat) (σ : sw_S) : sw_X := (True, some (.inl (if σ 1 w 3 = 0 then 1 else 0)), if σ 1 w 3 = 0 then sw_up (fl_bo w σ) 1 w 7 1 else σ)
def fX1_begin (ln : sw_A) : sw_F := sw_fo 1 (gX1_begin ln)
def ctX1_begin (ln : sw_A) : sw_C := [(33, 1, 2, fX1_becomeOpen ln)]
abbrev wX1_begin (ln : sw_A) (Q : Option sw_V → sw_S → Prop) : Nat → Nat → sw_L → List sw_V → sw_S → Prop := sw_wp sw_rf ln (ctX1_begin ln) sX1_begin 2 19 tX1_begin Q
theorem hX1_begin (ln : sw_A) (w : Nat) (σ : sw_S) (h : (gX1_begin ln w σ).1) : ∃ fuel, wX1_begin ln (sw_end (gX1_begin ln w σ)) fuel 0 (sw_ent 1 [.inr (some (1, w))]) [] σ :=
  ⟨20, And.intro (fun (h1 : σ 1 w 3 = 0) => And.intro trivial (And.intro (Or.inr rfl) ⟨Or.inr rfl, sw_ri (if_pos h1).symm, (if_pos h1).symm⟩)) (fun (h1 : ¬ σ 1 w 3 = 0) => ⟨Or.inl rfl, sw_ri (if_neg h1).symm, (if_neg h1).symm⟩)⟩
set_option maxRecDepth 100000 in
theorem mX1_begin {l : Launch} {ad : sw_A} {V : Nat → Nat → Prop} {ln : sw_A} {ca : Nat → ClassId} {D : va_G} (hG : sw_wf ad V sw_rf ln) : sw_met l ad V sw_rf ln ca D yX1_begin cX1_begin 1 (some .boolean) { frames := 1, cells := 0, slots := 0, locals := 20 } 1 (fX1_begin ln) := by
  refine sw_meth hG (by decide) (by refine ⟨?_, ?_, ?_, ?_⟩ <;> intro h <;> first | rfl | exact ⟨_, rfl⟩ | exact absurd h (by decide)) (by decide) kX1_begin flX1_in cnX1_in ?_ (sw_fo_h (W := fun Q L σ => ∃ fuel, wX1_begin ln Q fuel 0 L [] σ) (fun a0 σ h => hX1_begin ln a0 σ h))
  intro p e s m args below meth c S hT hnw
  refine List.forall_mem_cons.mpr ⟨sw_cokV S hT hnw (mX1_becomeOpen hG) 33 1 (by decide) ⟨by decide +kernel, by decide +kernel, by decide +kernel, by decide +kernel, by decide +kernel⟩ ⟨rfl, by decide, by decide, by decide +kernel⟩ ⟨rfl, rfl⟩ ⟨by decide, by decide⟩, ?_⟩
  exact fun q h => absurd h List.not_mem_nil
def gX1_finish (ln : sw_A) (w : Nat) (σ : sw_S) : sw_X := (True, some (.inl (if σ 1 w 3 = 1 then 1 else 0)), if σ 1 w 3 = 1 then sw_up (sw_up σ 1 w 3 2) 1 w 8 1 else σ)
def fX1_finish (ln : sw_A) : sw_F := sw_fo 1 (gX1_finish ln)
def ctX1_finish (ln : sw_A) : sw_C := []
abbrev wX1_finish (ln : sw_A) (Q : Option sw_V → sw_S → Prop) : Nat → Nat → sw_L → List sw_V → sw_S → Prop := sw_wp sw_rf ln (ctX1_finish ln) sX1_finish 2 21 tX1_finish Q
theorem hX1_finish (ln : sw_A) (w : Nat) (σ : sw_S) (h : (gX1_finish ln w σ).1) : ∃ fuel, wX1_finish ln (sw_end (gX1_finish ln w σ)) fuel 0 (sw_ent 1 [.inr (some (1, w))]) [] σ :=
  ⟨20, And.intro (fun (h1 : σ 1 w 3 = 1) => And.intro (Or.inr rfl) ⟨Or.inr rfl, sw_ri (if_pos h1).symm, (if_pos h1).symm⟩) (fun (h1 : ¬ σ 1 w 3 = 1) => ⟨Or.inl rfl, sw_ri (if_neg h1).symm, (if_neg h1).symm⟩)⟩
set_option maxRecDepth 100000 in
theorem mX1_finish {l : Launch} {ad : sw_A} {V : Nat → Nat → Prop} {ln : sw_A} {ca : Nat → ClassId} {D : va_G} (hG : sw_wf ad V sw_rf ln) : sw_met l ad V sw_rf ln ca D yX1_finish cX1_finish 1 (some .boolean) { frames := 0, cells := 0, slots := 0, locals := 0 } 1 (fX1_finish ln) := by
  refine sw_meth hG (by decide) (by refine ⟨?_, ?_, ?_, ?_⟩ <;> intro h <;> first | rfl | exact ⟨_, rfl⟩ | exact absurd h (by decide)) (by decide) kX1_finish flX1_in cnX1_in ?_ (sw_fo_h (W := fun Q L σ => ∃ fuel, wX1_finish ln Q fuel 0 L [] σ) (fun a0 σ h => hX1_finish ln a0 σ h))
  intro p e s m args below meth c S hT hnw
  exact fun q h => absurd h List.not_mem_nil
def fl_hs (w : Nat) (σ : sw_S) : Int32 := if σ 1 w 7 = 0 then (if σ 5 (2 * w) 3 ≤ 0 then σ 1 w 8 else if σ 1 w 5 ≤ 0 then 0 else 1) else 1
def gX1_hasToSend (ln : sw_A) (w : Nat) (σ : sw_S) : sw_X := (sw_bo (σ 1 w 8), some (.inl (fl_hs w σ)), σ)
def fX1_hasToSend (ln : sw_A) : sw_F := sw_fo 1 (gX1_hasToSend ln)
def ctX1_hasToSend (ln : sw_A) : sw_C := [(46, 1, 6, fX5_size ln)]
abbrev wX1_hasToSend (ln : sw_A) (Q : Option sw_V → sw_S → Prop) : Nat → Nat → sw_L → List sw_V → sw_S → Prop := sw_wp sw_rf ln (ctX1_hasToSend ln) sX1_hasToSend 2 38 tX1_hasToSend Q
theorem hX1_hasToSend (ln : sw_A) (w : Nat) (σ : sw_S) (h : (gX1_hasToSend ln w σ).1) : ∃ fuel, wX1_hasToSend ln (sw_end (gX1_hasToSend ln w σ)) fuel 0 (sw_ent 1 [.inr (some (1, w))]) [] σ :=
  ⟨20, And.intro (fun (h1 : σ 1 w 7 = 0) => And.intro trivial (And.intro (fun (h2 : σ 5 (2 * w) 3 ≤ 0) => ⟨h, sw_ri ((if_pos h1).trans (if_pos h2)).symm, rfl⟩) (fun (h2 : ¬ σ 5 (2 * w) 3 ≤ 0) => And.intro (fun (h3 : σ 1 w 5 ≤ 0) => ⟨Or.inl rfl, sw_ri ((if_pos h1).trans ((if_neg h2).trans (if_pos h3))).symm, rfl⟩) (fun (h3 : ¬ σ 1 w 5 ≤ 0) => ⟨Or.inr rfl, sw_ri ((if_pos h1).trans ((if_neg h2).trans (if_neg h3))).symm, rfl⟩)))) (fun (h1 : ¬ σ 1 w 7 = 0) => ⟨Or.inr rfl, sw_ri (if_neg h1).symm, rfl⟩)⟩
set_option maxRecDepth 100000 in
theorem mX1_hasToSend {l : Launch} {ad : sw_A} {V : Nat → Nat → Prop} {ln : sw_A} {ca : Nat → ClassId} {D : va_G} (hG : sw_wf ad V sw_rf ln) : sw_met l ad V sw_rf ln ca D yX1_hasToSend cX1_hasToSend 1 (some .boolean) { frames := 1, cells := 0, slots := 0, locals := 20 } 1 (fX1_hasToSend ln) := by
  refine sw_meth hG (by decide) (by refine ⟨?_, ?_, ?_, ?_⟩ <;> intro h <;> first | rfl | exact ⟨_, rfl⟩ | exact absurd h (by decide)) (by decide) kX1_hasToSend flX1_in cnX1_in ?_ (sw_fo_h (W := fun Q L σ => ∃ fuel, wX1_hasToSend ln Q fuel 0 L [] σ) (fun a0 σ h => hX1_hasToSend ln a0 σ h))
  intro p e s m args below meth c S hT hnw
  refine List.forall_mem_cons.mpr ⟨sw_cokV S hT hnw (mX5_size hG) 46 5 (by decide) ⟨by decide +kernel, by decide +kernel, by decide +kernel, by decide +kernel, by decide +kernel⟩ ⟨rfl, by decide, by decide, by decide +kernel⟩ ⟨rfl, rfl⟩ ⟨by decide, by decide⟩, ?_⟩
  exact fun q h => absurd h List.not_mem_nil
def gX1_isShut (ln : sw_A) (w : Nat) (σ : sw_S) : sw_X := (sw_bo (σ 1 w 9), some (.inl (σ 1 w 9)), σ)
def fX1_isShut (ln : sw_A) : sw_F := sw_fo 1 (gX1_isShut ln)
def ctX1_isShut (ln : sw_A) : sw_C := []
abbrev wX1_isShut (ln : sw_A) (Q : Option sw_V → sw_S → Prop) : Nat → Nat → sw_L → List sw_V → sw_S → Prop := sw_wp sw_rf ln (ctX1_isShut ln) sX1_isShut 2 4 tX1_isShut Q
theorem hX1_isShut (ln : sw_A) (w : Nat) (σ : sw_S) (h : (gX1_isShut ln w σ).1) : ∃ fuel, wX1_isShut ln (sw_end (gX1_isShut ln w σ)) fuel 0 (sw_ent 1 [.inr (some (1, w))]) [] σ :=
  ⟨20, ⟨h, rfl, rfl⟩⟩
set_option maxRecDepth 100000 in
theorem mX1_isShut {l : Launch} {ad : sw_A} {V : Nat → Nat → Prop} {ln : sw_A} {ca : Nat → ClassId} {D : va_G} (hG : sw_wf ad V sw_rf ln) : sw_met l ad V sw_rf ln ca D yX1_isShut cX1_isShut 1 (some .boolean) { frames := 0, cells := 0, slots := 0, locals := 0 } 1 (fX1_isShut ln) := by
  refine sw_meth hG (by decide) (by refine ⟨?_, ?_, ?_, ?_⟩ <;> intro h <;> first | rfl | exact ⟨_, rfl⟩ | exact absurd h (by decide)) (by decide) kX1_isShut flX1_in cnX1_in ?_ (sw_fo_h (W := fun Q L σ => ∃ fuel, wX1_isShut ln Q fuel 0 L [] σ) (fun a0 σ h => hX1_isShut ln a0 σ h))
  intro p e s m args below meth c S hT hnw
  exact fun q h => absurd h List.not_mem_nil
def fl_d1 (ln : sw_A) (w : Nat) (σ : sw_S) : sw_S := if qu_om ln (2 * w + 1) σ = 0 then sw_up σ 1 w 11 (σ 1 w 11 + 1) else sw_up σ 1 w 12 (σ 1 w 12 + 1)
def fl_d2 (ln : sw_A) (w : Nat) (σ : sw_S) : sw_S := sw_up (qu_do ln (2 * w + 1) σ) 1 w 6 (qu_do ln (2 * w + 1) σ 1 w 6 + 1)
def gX1_dropTaken (ln : sw_A) (w : Nat) (σ : sw_S) : sw_X := (ce_ok ln ((2 * w + 1) / 16), none, fl_d2 ln w (fl_d1 ln w σ))
def fX1_dropTaken (ln : sw_A) : sw_F := sw_fo 1 (gX1_dropTaken ln)
def ctX1_dropTaken (ln : sw_A) : sw_C := [(53, 1, 6, fX5_oldestIsMark ln), (63, 1, 6, fX5_dropOldest ln)]
abbrev wX1_dropTaken (ln : sw_A) (Q : Option sw_V → sw_S → Prop) : Nat → Nat → sw_L → List sw_V → sw_S → Prop := sw_wp sw_rf ln (ctX1_dropTaken ln) sX1_dropTaken 0 50 tX1_dropTaken Q
theorem hX1_dropTaken (ln : sw_A) (w : Nat) (σ : sw_S) (h : (gX1_dropTaken ln w σ).1) : ∃ fuel, wX1_dropTaken ln (sw_end (gX1_dropTaken ln w σ)) fuel 0 (sw_ent 1 [.inr (some (1, w))]) [] σ := by
  refine ⟨40, And.intro h (And.intro (fun (h1 : qu_om ln (2 * w + 1) σ = 0) => And.intro h ⟨rfl, ?_⟩) (fun (h1 : ¬ qu_om ln (2 * w + 1) σ = 0) => And.intro h ⟨rfl, ?_⟩))⟩
  · show _ = fl_d2 ln w (fl_d1 ln w σ)
    unfold fl_d1
    rw [if_pos h1]
    rfl
  · show _ = fl_d2 ln w (fl_d1 ln w σ)
    unfold fl_d1
    rw [if_neg h1]
    rfl
set_option maxRecDepth 100000 in
theorem mX1_dropTaken {l : Launch} {ad : sw_A} {V : Nat → Nat → Prop} {ln : sw_A} {ca : Nat → ClassId} {D : va_G} (hG : sw_wf ad V sw_rf ln) : sw_met l ad V sw_rf ln ca D yX1_dropTaken cX1_dropTaken 1 none { frames := 3, cells := 0, slots := 0, locals := 63 } 1 (fX1_dropTaken ln) := by
  refine sw_meth hG (by decide) (by refine ⟨?_, ?_, ?_, ?_⟩ <;> intro h <;> first | rfl | exact ⟨_, rfl⟩ | exact absurd h (by decide)) (by decide) kX1_dropTaken flX1_in cnX1_in ?_ (sw_fo_h (W := fun Q L σ => ∃ fuel, wX1_dropTaken ln Q fuel 0 L [] σ) (fun a0 σ h => hX1_dropTaken ln a0 σ h))
  intro p e s m args below meth c S hT hnw
  refine List.forall_mem_cons.mpr ⟨sw_cokV S hT hnw (mX5_oldestIsMark hG) 53 5 (by decide) ⟨by decide +kernel, by decide +kernel, by decide +kernel, by decide +kernel, by decide +kernel⟩ ⟨rfl, by decide, by decide, by decide +kernel⟩ ⟨rfl, rfl⟩ ⟨by decide, by decide⟩, ?_⟩
  refine List.forall_mem_cons.mpr ⟨sw_cokV S hT hnw (mX5_dropOldest hG) 63 5 (by decide) ⟨by decide +kernel, by decide +kernel, by decide +kernel, by decide +kernel, by decide +kernel⟩ ⟨rfl, by decide, by decide, by decide +kernel⟩ ⟨rfl, rfl⟩ ⟨by decide, by decide⟩, ?_⟩
  exact fun q h => absurd h List.not_mem_nil
def fl_cb (w : Nat) (σ : sw_S) : Int32 := if σ 1 w 3 = 0 then 0 else if σ 1 w 9 = 0 then 1 else 0
theorem fl_cb_bo (w : Nat) (σ : sw_S) : sw_bo (fl_cb w σ) := by
  unfold fl_cb
  split
  · exact Or.inl rfl
  · split
    · exact Or.inr rfl
    · exact Or.inl rfl
def gX1_canBeFilled (ln : sw_A) (w : Nat) (σ : sw_S) : sw_X := (True, some (.inl (fl_cb w σ)), σ)
def fX1_canBeFilled (ln : sw_A) : sw_F := sw_fo 1 (gX1_canBeFilled ln)
def ctX1_canBeFilled (ln : sw_A) : sw_C := []
abbrev wX1_canBeFilled (ln : sw_A) (Q : Option sw_V → sw_S → Prop) : Nat → Nat → sw_L → List sw_V → sw_S → Prop := sw_wp sw_rf ln (ctX1_canBeFilled ln) sX1_canBeFilled 2 19 tX1_canBeFilled Q
theorem hX1_canBeFilled (ln : sw_A) (w : Nat) (σ : sw_S) (h : (gX1_canBeFilled ln w σ).1) : ∃ fuel, wX1_canBeFilled ln (sw_end (gX1_canBeFilled ln w σ)) fuel 0 (sw_ent 1 [.inr (some (1, w))]) [] σ :=
  ⟨20, And.intro (fun (h1 : σ 1 w 3 = 0) => ⟨Or.inl rfl, sw_ri (if_pos h1).symm, rfl⟩) (fun (h1 : ¬ σ 1 w 3 = 0) => And.intro (fun (h2 : ¬ σ 1 w 9 = 0) => ⟨Or.inl rfl, sw_ri ((if_neg h1).trans (if_neg h2)).symm, rfl⟩) (fun (h2 : σ 1 w 9 = 0) => ⟨Or.inr rfl, sw_ri ((if_neg h1).trans (if_pos h2)).symm, rfl⟩))⟩
set_option maxRecDepth 100000 in
theorem mX1_canBeFilled {l : Launch} {ad : sw_A} {V : Nat → Nat → Prop} {ln : sw_A} {ca : Nat → ClassId} {D : va_G} (hG : sw_wf ad V sw_rf ln) : sw_met l ad V sw_rf ln ca D yX1_canBeFilled cX1_canBeFilled 1 (some .boolean) { frames := 0, cells := 0, slots := 0, locals := 0 } 1 (fX1_canBeFilled ln) := by
  refine sw_meth hG (by decide) (by refine ⟨?_, ?_, ?_, ?_⟩ <;> intro h <;> first | rfl | exact ⟨_, rfl⟩ | exact absurd h (by decide)) (by decide) kX1_canBeFilled flX1_in cnX1_in ?_ (sw_fo_h (W := fun Q L σ => ∃ fuel, wX1_canBeFilled ln Q fuel 0 L [] σ) (fun a0 σ h => hX1_canBeFilled ln a0 σ h))
  intro p e s m args below meth c S hT hnw
  exact fun q h => absurd h List.not_mem_nil
def fl_ct (w f : Nat) (σ : sw_S) : Int32 :=
  if fr_kd σ f = 1 then (if fl_cb w σ = 0 then 0 else if σ 1 w 2 - σ 5 (2 * w + 1) 3 - σ 1 w 6 < fr_ct σ f then 0 else 1)
  else if fr_kd σ f = 2 then (if σ 1 w 3 = 0 then 0 else if σ 1 w 2 - σ 1 w 5 < fr_at σ f 1 then 0 else 1)
  else if fr_kd σ f = 3 then (if σ 1 w 10 = 0 then 1 else 0)
  else if fr_kd σ f = 4 then fl_cb w σ
  else 0
def gX1_canTake (ln : sw_A) (w f : Nat) (σ : sw_S) : sw_X := (fr_ok ln f σ, some (.inl (fl_ct w f σ)), σ)
def fX1_canTake (ln : sw_A) : sw_F := sw_foo 1 2 (gX1_canTake ln)
def ctX1_canTake (ln : sw_A) : sw_C := [(69, 1, 3, fX2_kind ln), (74, 1, 2, fX1_canBeFilled ln), (77, 1, 3, fX2_count ln), (46, 1, 6, fX5_size ln), (80, 1, 3, fX2_granted ln)]
abbrev wX1_canTake (ln : sw_A) (Q : Option sw_V → sw_S → Prop) : Nat → Nat → sw_L → List sw_V → sw_S → Prop := sw_wp sw_rf ln (ctX1_canTake ln) sX1_canTake 2 121 tX1_canTake Q
theorem hX1_canTake (ln : sw_A) (w f : Nat) (σ : sw_S) (h : (gX1_canTake ln w f σ).1) : ∃ fuel, wX1_canTake ln (sw_end (gX1_canTake ln w f σ)) fuel 0 (sw_ent 2 [.inr (some (1, w)), .inr (some (2, f))]) [] σ := by
  refine ⟨40, And.intro h (And.intro (fun (h1 : fr_kd σ f = 1) => ?_) (fun (n1 : ¬ fr_kd σ f = 1) => And.intro (fun (h2 : fr_kd σ f = 2) => ?_) (fun (n2 : ¬ fr_kd σ f = 2) => And.intro (fun (h3 : fr_kd σ f = 3) => ?_) (fun (n3 : ¬ fr_kd σ f = 3) => And.intro (fun (h4 : fr_kd σ f = 4) => ?_) (fun (n4 : ¬ fr_kd σ f = 4) => ?_)))))⟩
  · refine And.intro trivial (And.intro (fun (a1 : fl_cb w σ = 0) => ⟨Or.inl rfl, sw_ri ?_, rfl⟩) (fun (a1 : ¬ fl_cb w σ = 0) => And.intro h (And.intro trivial (And.intro (fun (a2 : σ 1 w 2 - σ 5 (2 * w + 1) 3 - σ 1 w 6 < fr_ct σ f) => ⟨Or.inl rfl, sw_ri ?_, rfl⟩) (fun (a2 : ¬ σ 1 w 2 - σ 5 (2 * w + 1) 3 - σ 1 w 6 < fr_ct σ f) => ⟨Or.inr rfl, sw_ri ?_, rfl⟩)))))
    · unfold fl_ct; rw [if_pos h1, if_pos a1]
    · unfold fl_ct; rw [if_pos h1, if_neg a1, if_pos a2]
    · unfold fl_ct; rw [if_pos h1, if_neg a1, if_neg a2]
  · refine And.intro (fun (a1 : σ 1 w 3 = 0) => ⟨Or.inl rfl, sw_ri ?_, rfl⟩) (fun (a1 : ¬ σ 1 w 3 = 0) => And.intro h (And.intro (fun (a2 : σ 1 w 2 - σ 1 w 5 < fr_at σ f 1) => ⟨Or.inl rfl, sw_ri ?_, rfl⟩) (fun (a2 : ¬ σ 1 w 2 - σ 1 w 5 < fr_at σ f 1) => ⟨Or.inr rfl, sw_ri ?_, rfl⟩)))
    · unfold fl_ct; rw [if_neg n1, if_pos h2, if_pos a1]
    · unfold fl_ct; rw [if_neg n1, if_pos h2, if_neg a1, if_pos a2]
    · unfold fl_ct; rw [if_neg n1, if_pos h2, if_neg a1, if_neg a2]
  · refine And.intro (fun (a1 : ¬ σ 1 w 10 = 0) => ⟨Or.inl rfl, sw_ri ?_, rfl⟩) (fun (a1 : σ 1 w 10 = 0) => ⟨Or.inr rfl, sw_ri ?_, rfl⟩)
    · unfold fl_ct; rw [if_neg n1, if_neg n2, if_pos h3, if_neg a1]
    · unfold fl_ct; rw [if_neg n1, if_neg n2, if_pos h3, if_pos a1]
  · refine And.intro trivial ⟨fl_cb_bo w σ, sw_ri ?_, rfl⟩
    unfold fl_ct; rw [if_neg n1, if_neg n2, if_neg n3, if_pos h4]; rfl
  · refine ⟨Or.inl rfl, sw_ri ?_, rfl⟩
    unfold fl_ct; rw [if_neg n1, if_neg n2, if_neg n3, if_neg n4]
set_option maxRecDepth 100000 in
theorem mX1_canTake {l : Launch} {ad : sw_A} {V : Nat → Nat → Prop} {ln : sw_A} {ca : Nat → ClassId} {D : va_G} (hG : sw_wf ad V sw_rf ln) : sw_met l ad V sw_rf ln ca D yX1_canTake cX1_canTake 2 (some .boolean) { frames := 2, cells := 0, slots := 0, locals := 41 } 2 (fX1_canTake ln) := by
  refine sw_meth hG (by decide) (by refine ⟨?_, ?_, ?_, ?_⟩ <;> intro h <;> first | rfl | exact ⟨_, rfl⟩ | exact absurd h (by decide)) (by decide) kX1_canTake flX1_in cnX1_in ?_ (sw_foo_h (W := fun Q L σ => ∃ fuel, wX1_canTake ln Q fuel 0 L [] σ) (fun a0 a1 σ h => hX1_canTake ln a0 a1 σ h))
  intro p e s m args below meth c S hT hnw
  refine List.forall_mem_cons.mpr ⟨sw_cokV S hT hnw (mX2_kind hG) 69 2 (by decide) ⟨by decide +kernel, by decide +kernel, by decide +kernel, by decide +kernel, by decide +kernel⟩ ⟨rfl, by decide, by decide, by decide +kernel⟩ ⟨rfl, rfl⟩ ⟨by decide, by decide⟩, ?_⟩
  refine List.forall_mem_cons.mpr ⟨sw_cokV S hT hnw (mX1_canBeFilled hG) 74 1 (by decide) ⟨by decide +kernel, by decide +kernel, by decide +kernel, by decide +kernel, by decide +kernel⟩ ⟨rfl, by decide, by decide, by decide +kernel⟩ ⟨rfl, rfl⟩ ⟨by decide, by decide⟩, ?_⟩
  refine List.forall_mem_cons.mpr ⟨sw_cokV S hT hnw (mX2_count hG) 77 2 (by decide) ⟨by decide +kernel, by decide +kernel, by decide +kernel, by decide +kernel, by decide +kernel⟩ ⟨rfl, by decide, by decide, by decide +kernel⟩ ⟨rfl, rfl⟩ ⟨by decide, by decide⟩, ?_⟩
  refine List.forall_mem_cons.mpr ⟨sw_cokV S hT hnw (mX5_size hG) 46 5 (by decide) ⟨by decide +kernel, by decide +kernel, by decide +kernel, by decide +kernel, by decide +kernel⟩ ⟨rfl, by decide, by decide, by decide +kernel⟩ ⟨rfl, rfl⟩ ⟨by decide, by decide⟩, ?_⟩
  refine List.forall_mem_cons.mpr ⟨sw_cokV S hT hnw (mX2_granted hG) 80 2 (by decide) ⟨by decide +kernel, by decide +kernel, by decide +kernel, by decide +kernel, by decide +kernel⟩ ⟨rfl, by decide, by decide, by decide +kernel⟩ ⟨rfl, rfl⟩ ⟨by decide, by decide⟩, ?_⟩
  exact fun q h => absurd h List.not_mem_nil
theorem gX0_fill_k (ln : sw_A) (k : Nat) (w b : Int32) (σ : sw_S) {c : Nat} (h0 : ¬ c = 0) (h9 : ¬ c = 9) (h10 : ¬ c = 10) (h11 : ¬ c = 11) (k' j' : Nat) : (gX0_fill ln k w b σ).2.2 c k' j' = σ c k' j' := by
  show (if ce_ho ln k (σ 0 k 3) = 0 then σ else ce_fi k (σ 0 k 3) w b σ) c k' j' = σ c k' j'
  split
  · rfl
  · unfold ce_fi
    rw [sw_upk _ h11, sw_upk _ h10, sw_upk _ h9, sw_upk _ h0]
theorem qu_pu_k (ln : sw_A) (q : Nat) (w b : Int32) (σ : sw_S) {c : Nat} (h0 : ¬ c = 0) (h5 : ¬ c = 5) (h9 : ¬ c = 9) (h10 : ¬ c = 10) (h11 : ¬ c = 11) (k' j' : Nat) : qu_pu ln q w b σ c k' j' = σ c k' j' := by
  unfold qu_pu
  split
  · exact gX0_fill_k ln _ w b σ h0 h9 h10 h11 k' j'
  · unfold qu_pc
    rw [sw_upk _ h5, sw_upk _ h5]
    unfold qu_pb
    split
    · rw [sw_upk _ h5]
      exact gX0_fill_k ln _ w b σ h0 h9 h10 h11 k' j'
    · show (if ce_ho ln (q / 16) _ = 0 then _ else sw_up _ 11 _ _ _) c k' j' = _
      split
      · exact gX0_fill_k ln _ w b σ h0 h9 h10 h11 k' j'
      · rw [sw_upk _ h11]
        exact gX0_fill_k ln _ w b σ h0 h9 h10 h11 k' j'
theorem fr_at_eq {s σ : sw_S} {f : Nat} (h2 : ∀ j, s 2 f j = σ 2 f j) (h12 : ∀ j, s 12 f j = σ 12 f j) : fr_at s f = fr_at σ f := by
  funext i
  unfold fr_at
  rw [h2, h12]
theorem fr_mk_bo (σ : sw_S) (k : Nat) (i : Int32) : sw_bo (fr_mk σ k i) := by
  unfold fr_mk
  split
  · exact Or.inr rfl
  · exact Or.inl rfl
def fl_ld (ln : sw_A) (w f : Nat) : Nat → sw_S → sw_S
  | 0, σ => σ
  | n + 1, σ => qu_pu ln (2 * w + 1) (fr_at (fl_ld ln w f n σ) f (2 + nI n)) (fr_mk (fl_ld ln w f n σ) f (nI n)) (fl_ld ln w f n σ)
theorem fl_ld_k (ln : sw_A) (w f : Nat) {c : Nat} (h0 : ¬ c = 0) (h5 : ¬ c = 5) (h9 : ¬ c = 9) (h10 : ¬ c = 10) (h11 : ¬ c = 11) (k' j' : Nat) : ∀ (n : Nat) (σ : sw_S), fl_ld ln w f n σ c k' j' = σ c k' j'
  | 0, _ => rfl
  | n + 1, σ => (qu_pu_k ln _ _ _ _ h0 h5 h9 h10 h11 k' j').trans (fl_ld_k ln w f h0 h5 h9 h10 h11 k' j' n σ)
theorem fl_ld_fr (ln : sw_A) (w f n : Nat) (σ : sw_S) (f' : Nat) : fr_at (fl_ld ln w f n σ) f' = fr_at σ f' :=
  fr_at_eq (fun j => fl_ld_k ln w f (by decide) (by decide) (by decide) (by decide) (by decide) f' j n σ) (fun j => fl_ld_k ln w f (by decide) (by decide) (by decide) (by decide) (by decide) f' j n σ)
def gX1_layDown (ln : sw_A) (w f : Nat) (σ : sw_S) : sw_X := (fr_ok ln f σ ∧ ce_ok ln ((2 * w + 1) / 16), none, fl_ld ln w f (fr_ct σ f).toNatClampNeg σ)
def fX1_layDown (ln : sw_A) : sw_F := sw_foo 1 2 (gX1_layDown ln)
def ctX1_layDown (ln : sw_A) : sw_C := [(77, 1, 3, fX2_count ln), (90, 2, 3, fX2_itemWord ln), (94, 2, 3, fX2_isMark ln), (98, 3, 6, fX5_put ln)]
abbrev wX1_layDown (ln : sw_A) (Q : Option sw_V → sw_S → Prop) : Nat → Nat → sw_L → List sw_V → sw_S → Prop := sw_wp sw_rf ln (ctX1_layDown ln) sX1_layDown 0 33 tX1_layDown Q
theorem hX1_layDown_l (ln : sw_A) (w f n : Nat) (σ : sw_S) (X : sw_X) (hn : n < 2 ^ 31) (hc : fr_ct σ f = nI n) (hf0 : fr_ok ln f σ) (hce : ce_ok ln ((2 * w + 1) / 16)) (hX : X.2 = (none, fl_ld ln w f n σ)) : ∀ (d j : Nat), j + d = n → ∃ fuel, wX1_layDown ln (sw_end X) fuel 2 [some (.inr (some (1, w))), some (.inr (some (2, f))), some (.inl (nI j))] [] (fl_ld ln w f j σ) := by
  intro d
  induction d with
  | zero =>
    intro j hj
    have hj : j = n := by omega
    subst hj
    have hk : fr_ok ln f (fl_ld ln w f j σ) := by
      unfold fr_ok
      rw [fl_ld_k ln w f (by decide) (by decide) (by decide) (by decide) (by decide)]
      exact hf0
    have hcs : fr_ct (fl_ld ln w f j σ) f = nI j := by
      show sw_ushr (fr_at (fl_ld ln w f j σ) f 0) 24 = _
      rw [fl_ld_fr]
      exact hc
    refine ⟨20, And.intro hk (And.intro (fun _ => ?_) (fun (h : ¬ fr_ct (fl_ld ln w f j σ) f ≤ nI j) => absurd (by rw [hcs]; exact Int32.le_refl _) h))⟩
    show none = X.2.1 ∧ fl_ld ln w f j σ = X.2.2
    rw [hX]
    exact ⟨rfl, rfl⟩
  | succ d ih =>
    intro j hj
    have hk : fr_ok ln f (fl_ld ln w f j σ) := by
      unfold fr_ok
      rw [fl_ld_k ln w f (by decide) (by decide) (by decide) (by decide) (by decide)]
      exact hf0
    have hcs : fr_ct (fl_ld ln w f j σ) f = nI n := by
      show sw_ushr (fr_at (fl_ld ln w f j σ) f 0) 24 = _
      rw [fl_ld_fr]
      exact hc
    obtain ⟨g, hg⟩ := ih (j + 1) (by omega)
    rw [← nI_1] at hg
    refine ⟨g + 30, sw_ws_wp [2] g 30 _ _ _ _ ?_⟩
    refine And.intro hk (And.intro (fun (h : fr_ct (fl_ld ln w f j σ) f ≤ nI j) => absurd (by rw [← hcs]; exact h) (nI_ge (a := j) (b := n) (by omega) hn)) (fun _ => And.intro hk (And.intro hk (And.intro ⟨hce, fr_mk_bo _ _ _⟩ ?_))))
    exact hg
theorem hX1_layDown (ln : sw_A) (w f : Nat) (σ : sw_S) (h : (gX1_layDown ln w f σ).1) : ∃ fuel, wX1_layDown ln (sw_end (gX1_layDown ln w f σ)) fuel 0 (sw_ent 3 [.inr (some (1, w)), .inr (some (2, f))]) [] σ := by
  obtain ⟨n, hn, hc⟩ := sw_ushr24 (fr_at σ f 0)
  have hn2 : n < 2 ^ 31 := by omega
  obtain ⟨g, hg⟩ := hX1_layDown_l ln w f n σ (gX1_layDown ln w f σ) hn2 hc h.1 h.2 (by
    show (none, fl_ld ln w f (sw_ushr (fr_at σ f 0) 24).toNatClampNeg σ) = _
    rw [hc, nI_clamp hn2]) n 0 (by omega)
  exact ⟨g + 10, sw_ws_wp [2] g 10 _ _ _ _ hg⟩
set_option maxRecDepth 100000 in
theorem mX1_layDown {l : Launch} {ad : sw_A} {V : Nat → Nat → Prop} {ln : sw_A} {ca : Nat → ClassId} {D : va_G} (hG : sw_wf ad V sw_rf ln) : sw_met l ad V sw_rf ln ca D yX1_layDown cX1_layDown 3 none { frames := 3, cells := 0, slots := 0, locals := 67 } 2 (fX1_layDown ln) := by
  refine sw_meth hG (by decide) (by refine ⟨?_, ?_, ?_, ?_⟩ <;> intro h <;> first | rfl | exact ⟨_, rfl⟩ | exact absurd h (by decide)) (by decide) kX1_layDown flX1_in cnX1_in ?_ (sw_foo_h (W := fun Q L σ => ∃ fuel, wX1_layDown ln Q fuel 0 L [] σ) (fun a0 a1 σ h => hX1_layDown ln a0 a1 σ h))
  intro p e s m args below meth c S hT hnw
  refine List.forall_mem_cons.mpr ⟨sw_cokV S hT hnw (mX2_count hG) 77 2 (by decide) ⟨by decide +kernel, by decide +kernel, by decide +kernel, by decide +kernel, by decide +kernel⟩ ⟨rfl, by decide, by decide, by decide +kernel⟩ ⟨rfl, rfl⟩ ⟨by decide, by decide⟩, ?_⟩
  refine List.forall_mem_cons.mpr ⟨sw_cokV S hT hnw (mX2_itemWord hG) 90 2 (by decide) ⟨by decide +kernel, by decide +kernel, by decide +kernel, by decide +kernel, by decide +kernel⟩ ⟨rfl, by decide, by decide, by decide +kernel⟩ ⟨rfl, rfl⟩ ⟨by decide, by decide⟩, ?_⟩
  refine List.forall_mem_cons.mpr ⟨sw_cokV S hT hnw (mX2_isMark hG) 94 2 (by decide) ⟨by decide +kernel, by decide +kernel, by decide +kernel, by decide +kernel, by decide +kernel⟩ ⟨rfl, by decide, by decide, by decide +kernel⟩ ⟨rfl, rfl⟩ ⟨by decide, by decide⟩, ?_⟩
  refine List.forall_mem_cons.mpr ⟨sw_cokV S hT hnw (mX5_put hG) 98 5 (by decide) ⟨by decide +kernel, by decide +kernel, by decide +kernel, by decide +kernel, by decide +kernel⟩ ⟨rfl, by decide, by decide, by decide +kernel⟩ ⟨rfl, rfl⟩ ⟨by decide, by decide⟩, ?_⟩
  exact fun q h => absurd h List.not_mem_nil
def fl_tk (ln : sw_A) (w f : Nat) (σ : sw_S) : sw_S :=
  if fr_kd σ f = 1 then fl_ld ln w f (fr_ct σ f).toNatClampNeg σ
  else if fr_kd σ f = 2 then sw_up σ 1 w 5 (σ 1 w 5 + fr_at σ f 1)
  else if fr_kd σ f = 3 then (if sw_up σ 1 w 10 1 1 w 3 = 0 then fl_bo w (sw_up σ 1 w 10 1) else sw_up σ 1 w 10 1)
  else if fr_kd σ f = 4 then sw_up σ 1 w 9 1
  else σ
def gX1_take (ln : sw_A) (w f : Nat) (σ : sw_S) : sw_X := (fr_ok ln f σ ∧ ce_ok ln ((2 * w + 1) / 16), none, fl_tk ln w f σ)
def fX1_take (ln : sw_A) : sw_F := sw_foo 1 2 (gX1_take ln)
def ctX1_take (ln : sw_A) : sw_C := [(69, 1, 3, fX2_kind ln), (86, 2, 2, fX1_layDown ln), (80, 1, 3, fX2_granted ln), (33, 1, 2, fX1_becomeOpen ln)]
abbrev wX1_take (ln : sw_A) (Q : Option sw_V → sw_S → Prop) : Nat → Nat → sw_L → List sw_V → sw_S → Prop := sw_wp sw_rf ln (ctX1_take ln) sX1_take 0 87 tX1_take Q
theorem hX1_take (ln : sw_A) (w f : Nat) (σ : sw_S) (h : (gX1_take ln w f σ).1) : ∃ fuel, wX1_take ln (sw_end (gX1_take ln w f σ)) fuel 0 (sw_ent 2 [.inr (some (1, w)), .inr (some (2, f))]) [] σ := by
  refine ⟨40, And.intro h.1 (And.intro (fun (h1 : fr_kd σ f = 1) => And.intro h ⟨rfl, ?_⟩) (fun (n1 : ¬ fr_kd σ f = 1) => And.intro (fun (h2 : fr_kd σ f = 2) => And.intro h.1 ⟨rfl, ?_⟩) (fun (n2 : ¬ fr_kd σ f = 2) => And.intro (fun (h3 : fr_kd σ f = 3) => And.intro (Or.inr rfl) (And.intro (fun (a1 : ¬ sw_up σ 1 w 10 1 1 w 3 = 0) => ⟨rfl, ?_⟩) (fun (a1 : sw_up σ 1 w 10 1 1 w 3 = 0) => And.intro trivial ⟨rfl, ?_⟩))) (fun (n3 : ¬ fr_kd σ f = 3) => And.intro (fun (h4 : fr_kd σ f = 4) => And.intro (Or.inr rfl) ⟨rfl, ?_⟩) (fun (n4 : ¬ fr_kd σ f = 4) => ⟨rfl, ?_⟩)))))⟩
  · show _ = fl_tk ln w f σ
    unfold fl_tk; rw [if_pos h1]; rfl
  · show _ = fl_tk ln w f σ
    unfold fl_tk; rw [if_neg n1, if_pos h2]; rfl
  · show _ = fl_tk ln w f σ
    unfold fl_tk; rw [if_neg n1, if_neg n2, if_pos h3, if_neg a1]; rfl
  · show _ = fl_tk ln w f σ
    unfold fl_tk; rw [if_neg n1, if_neg n2, if_pos h3, if_pos a1]; rfl
  · show _ = fl_tk ln w f σ
    unfold fl_tk; rw [if_neg n1, if_neg n2, if_neg n3, if_pos h4]; rfl
  · show _ = fl_tk ln w f σ
    unfold fl_tk; rw [if_neg n1, if_neg n2, if_neg n3, if_neg n4]; rfl
set_option maxRecDepth 100000 in
theorem mX1_take {l : Launch} {ad : sw_A} {V : Nat → Nat → Prop} {ln : sw_A} {ca : Nat → ClassId} {D : va_G} (hG : sw_wf ad V sw_rf ln) : sw_met l ad V sw_rf ln ca D yX1_take cX1_take 2 none { frames := 4, cells := 0, slots := 0, locals := 89 } 2 (fX1_take ln) := by
  refine sw_meth hG (by decide) (by refine ⟨?_, ?_, ?_, ?_⟩ <;> intro h <;> first | rfl | exact ⟨_, rfl⟩ | exact absurd h (by decide)) (by decide) kX1_take flX1_in cnX1_in ?_ (sw_foo_h (W := fun Q L σ => ∃ fuel, wX1_take ln Q fuel 0 L [] σ) (fun a0 a1 σ h => hX1_take ln a0 a1 σ h))
  intro p e s m args below meth c S hT hnw
  refine List.forall_mem_cons.mpr ⟨sw_cokV S hT hnw (mX2_kind hG) 69 2 (by decide) ⟨by decide +kernel, by decide +kernel, by decide +kernel, by decide +kernel, by decide +kernel⟩ ⟨rfl, by decide, by decide, by decide +kernel⟩ ⟨rfl, rfl⟩ ⟨by decide, by decide⟩, ?_⟩
  refine List.forall_mem_cons.mpr ⟨sw_cokV S hT hnw (mX1_layDown hG) 86 1 (by decide) ⟨by decide +kernel, by decide +kernel, by decide +kernel, by decide +kernel, by decide +kernel⟩ ⟨rfl, by decide, by decide, by decide +kernel⟩ ⟨rfl, rfl⟩ ⟨by decide, by decide⟩, ?_⟩
  refine List.forall_mem_cons.mpr ⟨sw_cokV S hT hnw (mX2_granted hG) 80 2 (by decide) ⟨by decide +kernel, by decide +kernel, by decide +kernel, by decide +kernel, by decide +kernel⟩ ⟨rfl, by decide, by decide, by decide +kernel⟩ ⟨rfl, rfl⟩ ⟨by decide, by decide⟩, ?_⟩
  refine List.forall_mem_cons.mpr ⟨sw_cokV S hT hnw (mX1_becomeOpen hG) 33 1 (by decide) ⟨by decide +kernel, by decide +kernel, by decide +kernel, by decide +kernel, by decide +kernel⟩ ⟨rfl, by decide, by decide, by decide +kernel⟩ ⟨rfl, rfl⟩ ⟨by decide, by decide⟩, ?_⟩
  exact fun q h => absurd h List.not_mem_nil
end
section
/-! Flow.tell -/
def fl_te (w : Nat) (x : Int32) (σ : sw_S) : Int32 := if x = 0 then σ 1 w 3 else if x = 1 then bi (σ 1 w 9) else if x = 2 then σ 1 w 5 else if x = 3 then σ 1 w 6 else if x = 4 then σ 5 (2 * w) 3 else if x = 5 then σ 5 (2 * w + 1) 3 else if x = 6 then bi (σ 1 w 7) else if x = 7 then bi (σ 1 w 8) else if x = 8 then σ 1 w 11 else if x = 9 then σ 1 w 12 else -1
def gX1_tell (ln : sw_A) (w : Nat) (x : Int32) (σ : sw_S) : sw_X := (True, some (.inl (fl_te w x σ)), σ)
def fX1_tell (ln : sw_A) : sw_F := sw_foi 1 (gX1_tell ln)
def ctX1_tell (ln : sw_A) : sw_C := [(102, 1, 0, fX7_bit ln), (46, 1, 6, fX5_size ln)]
abbrev wX1_tell (ln : sw_A) (Q : Option sw_V → sw_S → Prop) : Nat → Nat → sw_L → List sw_V → sw_S → Prop := sw_wp sw_rf ln (ctX1_tell ln) sX1_tell 1 122 tX1_tell Q
theorem hX1_tell (ln : sw_A) (w : Nat) (x : Int32) (σ : sw_S) (h : (gX1_tell ln w x σ).1) : ∃ fuel, wX1_tell ln (sw_end (gX1_tell ln w x σ)) fuel 0 (sw_ent 2 [.inr (some (1, w)), .inl x]) [] σ := by
  refine ⟨20, And.intro (fun (h0 : x = 0) => ⟨sw_ri ?_, rfl⟩) (fun (n0 : ¬ x = 0) => And.intro (fun (h1 : x = 1) => And.intro trivial ⟨sw_ri ?_, rfl⟩) (fun (n1 : ¬ x = 1) => And.intro (fun (h2 : x = 2) => ⟨sw_ri ?_, rfl⟩) (fun (n2 : ¬ x = 2) => And.intro (fun (h3 : x = 3) => ⟨sw_ri ?_, rfl⟩) (fun (n3 : ¬ x = 3) => And.intro (fun (h4 : x = 4) => And.intro trivial ⟨sw_ri ?_, rfl⟩) (fun (n4 : ¬ x = 4) => And.intro (fun (h5 : x = 5) => And.intro trivial ⟨sw_ri ?_, rfl⟩) (fun (n5 : ¬ x = 5) => And.intro (fun (h6 : x = 6) => And.intro trivial ⟨sw_ri ?_, rfl⟩) (fun (n6 : ¬ x = 6) => And.intro (fun (h7 : x = 7) => And.intro trivial ⟨sw_ri ?_, rfl⟩) (fun (n7 : ¬ x = 7) => And.intro (fun (h8 : x = 8) => ⟨sw_ri ?_, rfl⟩) (fun (n8 : ¬ x = 8) => And.intro (fun (h9 : x = 9) => ⟨sw_ri ?_, rfl⟩) (fun (n9 : ¬ x = 9) => ⟨sw_ri ?_, rfl⟩))))))))))⟩
  · unfold fl_te; rw [if_pos h0]; try rfl
  · unfold fl_te; rw [if_neg n0, if_pos h1]; try rfl
  · unfold fl_te; rw [if_neg n0, if_neg n1, if_pos h2]; try rfl
  · unfold fl_te; rw [if_neg n0, if_neg n1, if_neg n2, if_pos h3]; try rfl
  · unfold fl_te; rw [if_neg n0, if_neg n1, if_neg n2, if_neg n3, if_pos h4]; try rfl
  · unfold fl_te; rw [if_neg n0, if_neg n1, if_neg n2, if_neg n3, if_neg n4, if_pos h5]; try rfl
  · unfold fl_te; rw [if_neg n0, if_neg n1, if_neg n2, if_neg n3, if_neg n4, if_neg n5, if_pos h6]; try rfl
  · unfold fl_te; rw [if_neg n0, if_neg n1, if_neg n2, if_neg n3, if_neg n4, if_neg n5, if_neg n6, if_pos h7]; try rfl
  · unfold fl_te; rw [if_neg n0, if_neg n1, if_neg n2, if_neg n3, if_neg n4, if_neg n5, if_neg n6, if_neg n7, if_pos h8]; try rfl
  · unfold fl_te; rw [if_neg n0, if_neg n1, if_neg n2, if_neg n3, if_neg n4, if_neg n5, if_neg n6, if_neg n7, if_neg n8, if_pos h9]; try rfl
  · unfold fl_te; rw [if_neg n0, if_neg n1, if_neg n2, if_neg n3, if_neg n4, if_neg n5, if_neg n6, if_neg n7, if_neg n8, if_neg n9]; try rfl
set_option maxRecDepth 100000 in
theorem mX1_tell {l : Launch} {ad : sw_A} {V : Nat → Nat → Prop} {ln : sw_A} {ca : Nat → ClassId} {D : va_G} (hG : sw_wf ad V sw_rf ln) : sw_met l ad V sw_rf ln ca D yX1_tell cX1_tell 2 (some .int) { frames := 1, cells := 0, slots := 0, locals := 20 } 2 (fX1_tell ln) := by
  refine sw_meth hG (by decide) (by refine ⟨?_, ?_, ?_, ?_⟩ <;> intro h <;> first | rfl | exact ⟨_, rfl⟩ | exact absurd h (by decide)) (by decide) kX1_tell flX1_in cnX1_in ?_ (sw_foi_h (W := fun Q L σ => ∃ fuel, wX1_tell ln Q fuel 0 L [] σ) (fun a0 a1 σ h => hX1_tell ln a0 a1 σ h))
  intro p e s m args below meth c S hT hnw
  refine List.forall_mem_cons.mpr ⟨sw_cokN S hT hnw (mX7_bit hG) 102 hnw.1 ⟨by decide +kernel, by decide +kernel, by decide +kernel⟩ ⟨by decide, by decide, by decide +kernel⟩ ⟨rfl, rfl⟩ ⟨by decide, by decide⟩, ?_⟩
  refine List.forall_mem_cons.mpr ⟨sw_cokV S hT hnw (mX5_size hG) 46 5 (by decide) ⟨by decide +kernel, by decide +kernel, by decide +kernel, by decide +kernel, by decide +kernel⟩ ⟨rfl, by decide, by decide, by decide +kernel⟩ ⟨rfl, rfl⟩ ⟨by decide, by decide⟩, ?_⟩
  exact fun q h => absurd h List.not_mem_nil
end
section
/-! Side: what holds all along; the small methods -/
def lo (ln : sw_A) : Prop := (∀ c k, ln c k < 2 ^ 31) ∧ ∀ k, ln 9 k = ln 11 k ∧ ln 10 k = ln 11 k
def fg (ln : sw_A) (σ : sw_S) : Prop := ∀ k, 0 ≤ σ 2 k 1 ∧ σ 2 k 1 ≤ nI (ln 12 k)
theorem lo.ce {ln : sw_A} (h : lo ln) (k : Nat) : ce_ok ln k := ⟨(h.2 k).1, (h.2 k).2, h.1 11 k⟩
theorem fg.ok {ln : sw_A} {σ : sw_S} (h : fg ln σ) (hl : lo ln) (k : Nat) : fr_ok ln k σ := ⟨(h k).2, hl.1 12 k⟩
theorem fg_eq {ln : sw_A} {σ s : sw_S} (h : fg ln σ) (he : ∀ k, s 2 k 1 = σ 2 k 1) : fg ln s := fun k => by rw [he]; exact h k
theorem sw_upe (σ : sw_S) (c k j : Nat) (v : Int32) : sw_up σ c k j v c k j = v := if_pos ⟨rfl, rfl, rfl⟩
theorem sw_upj (σ : sw_S) {c k j c' k' j' : Nat} {v : Int32} (h : ¬ j' = j) : sw_up σ c k j v c' k' j' = σ c' k' j' := if_neg (fun z => h z.2.2)
theorem sw_upi (σ : sw_S) {c k j c' k' j' : Nat} {v : Int32} (h : ¬ k' = k) : sw_up σ c k j v c' k' j' = σ c' k' j' := if_neg (fun z => h z.2.1)
/-- a length is written -/
theorem fg_up {ln : sw_A} {σ : sw_S} (h : fg ln σ) {k : Nat} {v : Int32} (h0 : 0 ≤ v) (h1 : v ≤ nI (ln 12 k)) : fg ln (sw_up σ 2 k 1 v) := fun i => by
  by_cases hi : i = k
  · subst hi
    rw [sw_upe]
    exact ⟨h0, h1⟩
  · rw [sw_upi _ hi]
    exact h i
theorem fg_upk {ln : sw_A} {σ : sw_S} (h : fg ln σ) {c k j : Nat} {v : Int32} (hc : ¬ 2 = c) : fg ln (sw_up σ c k j v) := fg_eq h (fun _ => sw_upk _ hc)
theorem i32_succ_le {x : Int32} {n : Nat} (hn : n < 2 ^ 31) (h0 : 0 ≤ x) (h : x < nI n) : 0 ≤ x + 1 ∧ x + 1 ≤ nI n := by
  obtain ⟨j, hj, rfl⟩ := nI_of (Int32.not_lt.mpr h0)
  rw [nI_ltI hj hn] at h
  rw [nI_1]
  exact ⟨nI_pos' (by omega), nI_le (by omega) hn⟩
theorem put_go {ln : sw_A} {σ : sw_S} (hl : lo ln) (h : fg ln σ) (k : Nat) (x : Int32) : fg ln (gX2_put ln k x σ).2.2 := by
  show fg ln (if σ 2 k 1 < nI (ln 12 k) then sw_up (sw_up σ 12 k (σ 2 k 1).toNatClampNeg x) 2 k 1 (σ 2 k 1 + 1) else σ)
  split
  · rename_i hlt
    have := i32_succ_le (hl.1 12 k) (h k).1 hlt
    exact fg_up (fg_upk h (by decide)) this.1 this.2
  · exact h
theorem flip_go {ln : sw_A} {σ : sw_S} (h : fg ln σ) (k : Nat) (i x : Int32) : fg ln (gX2_flip ln k i x σ).2.2 := by
  show fg ln (if 0 ≤ i ∧ i < σ 2 k 1 then sw_up σ 12 k i.toNatClampNeg _ else σ)
  split
  · exact fg_upk h (by decide)
  · exact h
theorem begin_go {ln : sw_A} {σ : sw_S} (hl : lo ln) (h : fg ln σ) (k : Nat) (x : Int32) : (gX2_begin ln k x σ).1 ∧ fg ln (gX2_begin ln k x σ).2.2 := by
  have h2 : fg ln (sw_up σ 2 k 1 0) := fg_up h (Int32.le_refl _) (nI_pos' (hl.1 12 k))
  exact ⟨⟨(h2 k).1, hl.1 12 k⟩, put_go hl h2 k x⟩
theorem seal_go {ln : sw_A} {σ : sw_S} (hl : lo ln) (h : fg ln σ) (k : Nat) : (gX2_seal ln k σ).1 ∧ fg ln (gX2_seal ln k σ).2.2 := ⟨⟨h.ok hl k, (h k).1⟩, put_go hl h k _⟩
theorem fr_cl_go {ln : sw_A} {σ : sw_S} (hl : lo ln) (h : fg ln σ) (k o : Nat) : 0 ≤ fr_cl ln k o σ ∧ fr_cl ln k o σ ≤ nI (ln 12 k) := by
  unfold fr_cl
  split
  · rename_i z
    exact ⟨(h o).1, Int32.le_of_lt z⟩
  · exact ⟨nI_pos' (hl.1 12 k), Int32.le_refl _⟩
theorem copy_go {ln : sw_A} {σ : sw_S} (hl : lo ln) (h : fg ln σ) (k o : Nat) : (gX2_copyFrom ln k o σ).1 ∧ fg ln (gX2_copyFrom ln k o σ).2.2 := by
  refine ⟨⟨(h o).1, h.ok hl o, hl.1 12 k⟩, ?_⟩
  refine fg_eq (fg_up h (fr_cl_go hl h k o).1 (fr_cl_go hl h k o).2) (fun i => ?_)
  exact fr_cp_k k o (by decide) i 1 _ _
theorem renew_go {ln : sw_A} {σ : sw_S} (hl : lo ln) (h : fg ln σ) (k : Nat) (x : Int32) : (gX2_renew ln k x σ).1 ∧ fg ln (gX2_renew ln k x σ).2.2 := by
  have h1 : fg ln (fr_rf ln k x σ) := flip_go h k _ _
  have h2 : fg ln (fr_re ln k x σ) := by
    unfold fr_re
    by_cases hp : 0 < fr_rl (fr_rf ln k x σ) k
    · rw [if_pos hp]
      refine fg_up h1 (Int32.le_of_lt hp) ?_
      obtain ⟨j, hj, hj2⟩ := nI_of (Int32.not_lt.mpr (h1 k).1)
      have h3 := (h1 k).2
      unfold fr_rl at hp ⊢
      rw [hj2] at hp h3 ⊢
      rw [nI_leI hj (hl.1 12 k)] at h3
      cases j with
      | zero => exact absurd hp (by decide)
      | succ j =>
        rw [nI_pred]
        exact nI_le (by omega) (hl.1 12 k)
    · rw [if_neg hp]
      exact fg_up h1 (Int32.le_refl _) (nI_pos' (hl.1 12 k))
  have h3 := seal_go hl h2 k
  exact ⟨⟨h.ok hl k, h3.1⟩, h3.2⟩
theorem rg_at_2 {ln : sw_A} {r : Nat} {i : Int32} {σ : sw_S} {q : Nat × Nat} (h : rg_at ln r i σ = some q) : q.1 = 2 := by
  unfold rg_at at h
  split at h
  · cases h
  · split at h
    · cases h
    · cases h; rfl
theorem rg_fa_2 {ln : sw_A} {r : Nat} {i : Int32} {σ : sw_S} {q : Nat × Nat} (h : rg_fa ln r i σ = some q) : q.1 = 2 := by
  unfold rg_fa at h
  split at h
  · cases h
  · split at h
    · cases h
    · exact rg_at_2 h
theorem rg_as_2 {ln : sw_A} {r : Nat} {σ : sw_S} {q : Nat × Nat} (h : rg_as ln r σ = some q) : q.1 = 2 := by
  unfold rg_as at h
  split at h
  · cases h
  · exact rg_at_2 h
theorem add_go {ln : sw_A} {σ : sw_S} (hl : lo ln) (h : fg ln σ) (r f : Nat) : (gX3_add ln r f σ).1 ∧ fg ln (gX3_add ln r f σ).2.2 := by
  refine ⟨⟨hl.1 13 r, fun q hq => ⟨rg_as_2 hq, (copy_go hl h q.2 f).1⟩⟩, ?_⟩
  show fg ln (rg_ad ln r f σ (rg_as ln r σ))
  cases rg_as ln r σ with
  | none => exact h
  | some q => exact fg_upk (copy_go hl h q.2 f).2 (by decide)
def sd_fa (ln : sw_A) (s : Nat) (i : Int32) : Option (Nat × Nat) := if i < 0 then none else if nI (ln 14 s) ≤ i then none else some (1, 8 * s + i.toNatClampNeg)
theorem sd_fa_in {ln : sw_A} {s : Nat} {i : Int32} (hl : lo ln) (h : vp_in i (ln 14 s)) : sd_fa ln s i = some (1, 8 * s + i.toNatClampNeg) := by
  obtain ⟨j, hj, rfl⟩ := vp_in_of h (hl.1 14 s)
  have hs := hl.1 14 s
  unfold sd_fa
  rw [if_neg (nI_pos (by omega)), if_neg (nI_ge hj hs)]
def gX6_flowAt (ln : sw_A) (s : Nat) (i : Int32) (σ : sw_S) : sw_X := (ln 14 s < 2 ^ 31, some (.inr (sd_fa ln s i)), σ)
def fX6_flowAt (ln : sw_A) : sw_F := sw_foi 6 (gX6_flowAt ln)
def ctX6_flowAt (ln : sw_A) : sw_C := []
abbrev wX6_flowAt (ln : sw_A) (Q : Option sw_V → sw_S → Prop) : Nat → Nat → sw_L → List sw_V → sw_S → Prop := sw_wp sw_rf ln (ctX6_flowAt ln) sX6_flowAt 3 23 tX6_flowAt Q
theorem hX6_flowAt (ln : sw_A) (s : Nat) (i : Int32) (σ : sw_S) (h : (gX6_flowAt ln s i σ).1) : ∃ fuel, wX6_flowAt ln (sw_end (gX6_flowAt ln s i σ)) fuel 0 (sw_ent 2 [.inr (some (6, s)), .inl i]) [] σ :=
  ⟨20, And.intro (fun (h1 : i < 0) => ⟨sw_rr (if_pos h1).symm, rfl⟩) (fun (h1 : ¬ i < 0) => And.intro (fun (h2 : nI (ln 14 s) ≤ i) => ⟨sw_rr ((if_neg h1).trans (if_pos h2)).symm, rfl⟩) (fun (h2 : ¬ nI (ln 14 s) ≤ i) => And.intro (show vp_in i (ln 14 s) from vp_in_lt h1 (Int32.not_le.mp h2) (Int32.le_refl _) h) ⟨sw_rr ((if_neg h1).trans (if_neg h2)).symm, rfl⟩))⟩
set_option maxRecDepth 100000 in
theorem mX6_flowAt {l : Launch} {ad : sw_A} {V : Nat → Nat → Prop} {ln : sw_A} {ca : Nat → ClassId} {D : va_G} (hG : sw_wf ad V sw_rf ln) : sw_met l ad V sw_rf ln ca D yX6_flowAt cX6_flowAt 2 (some (.object "StreamWires$Flow")) { frames := 0, cells := 0, slots := 0, locals := 0 } 2 (fX6_flowAt ln) := by
  refine sw_meth hG (by decide) (by refine ⟨?_, ?_, ?_, ?_⟩ <;> intro h <;> first | rfl | exact ⟨_, rfl⟩ | exact absurd h (by decide)) (by decide) kX6_flowAt flX6_in cnX6_in ?_ (sw_foi_h (W := fun Q L σ => ∃ fuel, wX6_flowAt ln Q fuel 0 L [] σ) (fun a0 a1 σ h => hX6_flowAt ln a0 a1 σ h))
  intro p e s m args below meth c S hT hnw
  exact fun q h => absurd h List.not_mem_nil
def sd_sa (ln : sw_A) (s : Nat) (i : Int32) : Int32 := if nI (ln 14 s) ≤ i + 1 then 0 else i + 1
def gX6_streamAfter (ln : sw_A) (s : Nat) (i : Int32) (σ : sw_S) : sw_X := (True, some (.inl (sd_sa ln s i)), σ)
def fX6_streamAfter (ln : sw_A) : sw_F := sw_foi 6 (gX6_streamAfter ln)
def ctX6_streamAfter (ln : sw_A) : sw_C := []
abbrev wX6_streamAfter (ln : sw_A) (Q : Option sw_V → sw_S → Prop) : Nat → Nat → sw_L → List sw_V → sw_S → Prop := sw_wp sw_rf ln (ctX6_streamAfter ln) sX6_streamAfter 1 18 tX6_streamAfter Q
theorem hX6_streamAfter (ln : sw_A) (s : Nat) (i : Int32) (σ : sw_S) (h : (gX6_streamAfter ln s i σ).1) : ∃ fuel, wX6_streamAfter ln (sw_end (gX6_streamAfter ln s i σ)) fuel 0 (sw_ent 2 [.inr (some (6, s)), .inl i]) [] σ :=
  ⟨20, And.intro (fun (h1 : nI (ln 14 s) ≤ i + 1) => ⟨sw_ri (if_pos h1).symm, rfl⟩) (fun (h1 : ¬ nI (ln 14 s) ≤ i + 1) => ⟨sw_ri (if_neg h1).symm, rfl⟩)⟩
set_option maxRecDepth 100000 in
theorem mX6_streamAfter {l : Launch} {ad : sw_A} {V : Nat → Nat → Prop} {ln : sw_A} {ca : Nat → ClassId} {D : va_G} (hG : sw_wf ad V sw_rf ln) : sw_met l ad V sw_rf ln ca D yX6_streamAfter cX6_streamAfter 2 (some .int) { frames := 0, cells := 0, slots := 0, locals := 0 } 2 (fX6_streamAfter ln) := by
  refine sw_meth hG (by decide) (by refine ⟨?_, ?_, ?_, ?_⟩ <;> intro h <;> first | rfl | exact ⟨_, rfl⟩ | exact absurd h (by decide)) (by decide) kX6_streamAfter flX6_in cnX6_in ?_ (sw_foi_h (W := fun Q L σ => ∃ fuel, wX6_streamAfter ln Q fuel 0 L [] σ) (fun a0 a1 σ h => hX6_streamAfter ln a0 a1 σ h))
  intro p e s m args below meth c S hT hnw
  exact fun q h => absurd h List.not_mem_nil
theorem sd_sa_in {ln : sw_A} {s : Nat} {i : Int32} (hl : lo ln) (h : vp_in i (ln 14 s)) : vp_in (sd_sa ln s i) (ln 14 s) := by
  obtain ⟨j, hj, rfl⟩ := vp_in_of h (hl.1 14 s)
  have hs := hl.1 14 s
  unfold sd_sa
  rw [nI_1]
  split
  · rw [← nI_0]
    exact vp_in_nI (by omega) hs
  · rename_i z
    rw [nI_leI hs (by omega)] at z
    exact vp_in_nI (by omega) hs
def sd_bt (s : Nat) (i : Int32) (σ : sw_S) : sw_S := sw_up (sw_up σ 6 s 7 i) 6 s 8 (sw_up σ 6 s 7 i 1 (8 * s + i.toNatClampNeg) 4)
def gX6_beginTurn (ln : sw_A) (s : Nat) (i : Int32) (σ : sw_S) : sw_X := (lo ln ∧ vp_in i (ln 14 s), none, sd_bt s i σ)
def fX6_beginTurn (ln : sw_A) : sw_F := sw_foi 6 (gX6_beginTurn ln)
def ctX6_beginTurn (ln : sw_A) : sw_C := [(156, 2, 7, fX6_flowAt ln)]
abbrev wX6_beginTurn (ln : sw_A) (Q : Option sw_V → sw_S → Prop) : Nat → Nat → sw_L → List sw_V → sw_S → Prop := sw_wp sw_rf ln (ctX6_beginTurn ln) sX6_beginTurn 0 23 tX6_beginTurn Q
theorem hX6_beginTurn (ln : sw_A) (s : Nat) (i : Int32) (σ : sw_S) (h : (gX6_beginTurn ln s i σ).1) : ∃ fuel, wX6_beginTurn ln (sw_end (gX6_beginTurn ln s i σ)) fuel 0 (sw_ent 3 [.inr (some (6, s)), .inl i]) [] σ := by
  have key : ∃ M, ∀ r, r = some (1, 8 * s + i.toNatClampNeg) → wX6_beginTurn ln (sw_end (gX6_beginTurn ln s i σ)) M 5 [some (.inr (some (6, s))), some (.inl i), none] [.inr r] σ := by
    refine ⟨20, fun r hr => ?_⟩
    subst hr
    exact ⟨rfl, rfl⟩
  obtain ⟨M, key⟩ := key
  refine ⟨M + 10, sw_ws_wp [5] M 10 _ _ _ _ ?_⟩
  exact And.intro (h.1.1 14 s) (key _ (sd_fa_in h.1 h.2))
set_option maxRecDepth 100000 in
theorem mX6_beginTurn {l : Launch} {ad : sw_A} {V : Nat → Nat → Prop} {ln : sw_A} {ca : Nat → ClassId} {D : va_G} (hG : sw_wf ad V sw_rf ln) : sw_met l ad V sw_rf ln ca D yX6_beginTurn cX6_beginTurn 3 none { frames := 1, cells := 0, slots := 0, locals := 21 } 2 (fX6_beginTurn ln) := by
  refine sw_meth hG (by decide) (by refine ⟨?_, ?_, ?_, ?_⟩ <;> intro h <;> first | rfl | exact ⟨_, rfl⟩ | exact absurd h (by decide)) (by decide) kX6_beginTurn flX6_in cnX6_in ?_ (sw_foi_h (W := fun Q L σ => ∃ fuel, wX6_beginTurn ln Q fuel 0 L [] σ) (fun a0 a1 σ h => hX6_beginTurn ln a0 a1 σ h))
  intro p e s m args below meth c S hT hnw
  refine List.forall_mem_cons.mpr ⟨sw_cokV S hT hnw (mX6_flowAt hG) 156 6 (by decide) ⟨by decide +kernel, by decide +kernel, by decide +kernel, by decide +kernel, by decide +kernel⟩ ⟨rfl, by decide, by decide, by decide +kernel⟩ ⟨rfl, rfl⟩ ⟨by decide, by decide⟩, ?_⟩
  exact fun q h => absurd h List.not_mem_nil
def sd_c1 (s : Nat) (σ : sw_S) : sw_S := sw_up σ 6 s 8 (σ 6 s 8 - 1)
def sd_ct (ln : sw_A) (s : Nat) (σ : sw_S) : sw_S := if 0 < sd_c1 s σ 6 s 8 then sd_c1 s σ else sd_bt s (sd_sa ln s (sd_c1 s σ 6 s 7)) (sd_c1 s σ)
def gX6_countTurn (ln : sw_A) (s : Nat) (σ : sw_S) : sw_X := (lo ln ∧ vp_in (σ 6 s 7) (ln 14 s), none, sd_ct ln s σ)
def fX6_countTurn (ln : sw_A) : sw_F := sw_fo 6 (gX6_countTurn ln)
def ctX6_countTurn (ln : sw_A) : sw_C := [(163, 2, 7, fX6_streamAfter ln), (176, 2, 7, fX6_beginTurn ln)]
abbrev wX6_countTurn (ln : sw_A) (Q : Option sw_V → sw_S → Prop) : Nat → Nat → sw_L → List sw_V → sw_S → Prop := sw_wp sw_rf ln (ctX6_countTurn ln) sX6_countTurn 0 29 tX6_countTurn Q
theorem hX6_countTurn (ln : sw_A) (s : Nat) (σ : sw_S) (h : (gX6_countTurn ln s σ).1) : ∃ fuel, wX6_countTurn ln (sw_end (gX6_countTurn ln s σ)) fuel 0 (sw_ent 1 [.inr (some (6, s))]) [] σ := by
  have ht : vp_in (sd_c1 s σ 6 s 7) (ln 14 s) := by
    unfold sd_c1
    rw [sw_upj _ (by decide)]
    exact h.2
  refine ⟨30, And.intro (fun (h1 : 0 < sd_c1 s σ 6 s 8) => ⟨rfl, (if_pos h1).symm⟩) (fun (h1 : ¬ 0 < sd_c1 s σ 6 s 8) => And.intro trivial (And.intro ⟨h.1, sd_sa_in h.1 ht⟩ ⟨rfl, (if_neg h1).symm⟩))⟩
set_option maxRecDepth 100000 in
theorem mX6_countTurn {l : Launch} {ad : sw_A} {V : Nat → Nat → Prop} {ln : sw_A} {ca : Nat → ClassId} {D : va_G} (hG : sw_wf ad V sw_rf ln) : sw_met l ad V sw_rf ln ca D yX6_countTurn cX6_countTurn 1 none { frames := 2, cells := 0, slots := 0, locals := 43 } 1 (fX6_countTurn ln) := by
  refine sw_meth hG (by decide) (by refine ⟨?_, ?_, ?_, ?_⟩ <;> intro h <;> first | rfl | exact ⟨_, rfl⟩ | exact absurd h (by decide)) (by decide) kX6_countTurn flX6_in cnX6_in ?_ (sw_fo_h (W := fun Q L σ => ∃ fuel, wX6_countTurn ln Q fuel 0 L [] σ) (fun a0 σ h => hX6_countTurn ln a0 σ h))
  intro p e s m args below meth c S hT hnw
  refine List.forall_mem_cons.mpr ⟨sw_cokV S hT hnw (mX6_streamAfter hG) 163 6 (by decide) ⟨by decide +kernel, by decide +kernel, by decide +kernel, by decide +kernel, by decide +kernel⟩ ⟨rfl, by decide, by decide, by decide +kernel⟩ ⟨rfl, rfl⟩ ⟨by decide, by decide⟩, ?_⟩
  refine List.forall_mem_cons.mpr ⟨sw_cokV S hT hnw (mX6_beginTurn hG) 176 6 (by decide) ⟨by decide +kernel, by decide +kernel, by decide +kernel, by decide +kernel, by decide +kernel⟩ ⟨rfl, by decide, by decide, by decide +kernel⟩ ⟨rfl, rfl⟩ ⟨by decide, by decide⟩, ?_⟩
  exact fun q h => absurd h List.not_mem_nil
def gX6_refuse (ln : sw_A) (s : Nat) (σ : sw_S) : sw_X := (True, some (.inl 2), sw_up σ 6 s 13 (σ 6 s 13 + 1))
def fX6_refuse (ln : sw_A) : sw_F := sw_fo 6 (gX6_refuse ln)
def ctX6_refuse (ln : sw_A) : sw_C := []
abbrev wX6_refuse (ln : sw_A) (Q : Option sw_V → sw_S → Prop) : Nat → Nat → sw_L → List sw_V → sw_S → Prop := sw_wp sw_rf ln (ctX6_refuse ln) sX6_refuse 1 11 tX6_refuse Q
theorem hX6_refuse (ln : sw_A) (s : Nat) (σ : sw_S) (h : (gX6_refuse ln s σ).1) : ∃ fuel, wX6_refuse ln (sw_end (gX6_refuse ln s σ)) fuel 0 (sw_ent 1 [.inr (some (6, s))]) [] σ :=
  ⟨20, ⟨rfl, rfl⟩⟩
set_option maxRecDepth 100000 in
theorem mX6_refuse {l : Launch} {ad : sw_A} {V : Nat → Nat → Prop} {ln : sw_A} {ca : Nat → ClassId} {D : va_G} (hG : sw_wf ad V sw_rf ln) : sw_met l ad V sw_rf ln ca D yX6_refuse cX6_refuse 1 (some .int) { frames := 0, cells := 0, slots := 0, locals := 0 } 1 (fX6_refuse ln) := by
  refine sw_meth hG (by decide) (by refine ⟨?_, ?_, ?_, ?_⟩ <;> intro h <;> first | rfl | exact ⟨_, rfl⟩ | exact absurd h (by decide)) (by decide) kX6_refuse flX6_in cnX6_in ?_ (sw_fo_h (W := fun Q L σ => ∃ fuel, wX6_refuse ln Q fuel 0 L [] σ) (fun a0 σ h => hX6_refuse ln a0 σ h))
  intro p e s m args below meth c S hT hnw
  exact fun q h => absurd h List.not_mem_nil
def sd_hd (s : Nat) (kd st ct : Int32) (σ : sw_S) : Int32 := kd ||| st <<< (3 &&& 31) ||| li_nb 0 (σ 6 s 5) (σ 3 (2 * s) 2) σ <<< (8 &&& 31) ||| σ 6 s 6 <<< (16 &&& 31) ||| ct <<< (24 &&& 31)
def gX6_beginNumbered (ln : sw_A) (s : Nat) (kd st ct : Int32) (σ : sw_S) : sw_X := (lo ln ∧ fg ln σ, none, (gX2_begin ln (128 + s) (sd_hd s kd st ct σ) σ).2.2)
def fX6_beginNumbered (ln : sw_A) : sw_F := sw_foiii 6 (gX6_beginNumbered ln)
def ctX6_beginNumbered (ln : sw_A) : sw_C := [(120, 1, 4, fX3_size ln), (214, 3, 5, fX4_numberBehind ln), (220, 2, 3, fX2_begin ln)]
abbrev wX6_beginNumbered (ln : sw_A) (Q : Option sw_V → sw_S → Prop) : Nat → Nat → sw_L → List sw_V → sw_S → Prop := sw_wp sw_rf ln (ctX6_beginNumbered ln) sX6_beginNumbered 0 51 tX6_beginNumbered Q
theorem hX6_beginNumbered (ln : sw_A) (s : Nat) (kd st ct : Int32) (σ : sw_S) (h : (gX6_beginNumbered ln s kd st ct σ).1) : ∃ fuel, wX6_beginNumbered ln (sw_end (gX6_beginNumbered ln s kd st ct σ)) fuel 0 (sw_ent 5 [.inr (some (6, s)), .inl kd, .inl st, .inl ct]) [] σ :=
  ⟨40, And.intro trivial (And.intro trivial (And.intro (begin_go h.1 h.2 _ _).1 ⟨rfl, rfl⟩))⟩
set_option maxRecDepth 100000 in
theorem mX6_beginNumbered {l : Launch} {ad : sw_A} {V : Nat → Nat → Prop} {ln : sw_A} {ca : Nat → ClassId} {D : va_G} (hG : sw_wf ad V sw_rf ln) : sw_met l ad V sw_rf ln ca D yX6_beginNumbered cX6_beginNumbered 5 none { frames := 2, cells := 0, slots := 0, locals := 42 } 4 (fX6_beginNumbered ln) := by
  refine sw_meth hG (by decide) (by refine ⟨?_, ?_, ?_, ?_⟩ <;> intro h <;> first | rfl | exact ⟨_, rfl⟩ | exact absurd h (by decide)) (by decide) kX6_beginNumbered flX6_in cnX6_in ?_ (sw_foiii_h (W := fun Q L σ => ∃ fuel, wX6_beginNumbered ln Q fuel 0 L [] σ) (fun a0 a1 a2 a3 σ h => hX6_beginNumbered ln a0 a1 a2 a3 σ h))
  intro p e s m args below meth c S hT hnw
  refine List.forall_mem_cons.mpr ⟨sw_cokV S hT hnw (mX3_size hG) 120 3 (by decide) ⟨by decide +kernel, by decide +kernel, by decide +kernel, by decide +kernel, by decide +kernel⟩ ⟨rfl, by decide, by decide, by decide +kernel⟩ ⟨rfl, rfl⟩ ⟨by decide, by decide⟩, ?_⟩
  refine List.forall_mem_cons.mpr ⟨sw_cokV S hT hnw (mX4_numberBehind hG) 214 4 (by decide) ⟨by decide +kernel, by decide +kernel, by decide +kernel, by decide +kernel, by decide +kernel⟩ ⟨rfl, by decide, by decide, by decide +kernel⟩ ⟨rfl, rfl⟩ ⟨by decide, by decide⟩, ?_⟩
  refine List.forall_mem_cons.mpr ⟨sw_cokV S hT hnw (mX2_begin hG) 220 2 (by decide) ⟨by decide +kernel, by decide +kernel, by decide +kernel, by decide +kernel, by decide +kernel⟩ ⟨rfl, by decide, by decide, by decide +kernel⟩ ⟨rfl, rfl⟩ ⟨by decide, by decide⟩, ?_⟩
  exact fun q h => absurd h List.not_mem_nil
def sd_d0 (ln : sw_A) (s : Nat) (σ : sw_S) : sw_S := sw_up (gX3_add ln (2 * s + 1) (128 + s) σ).2.2 6 s 9 0
def sd_sd (ln : sw_A) (s : Nat) (σ : sw_S) : sw_S := sw_up (sd_d0 ln s σ) 6 s 11 (sd_d0 ln s σ 6 s 11 + 1)
def gX6_sendDraft (ln : sw_A) (s : Nat) (σ : sw_S) : sw_X := (lo ln ∧ fg ln σ, none, sd_sd ln s σ)
def fX6_sendDraft (ln : sw_A) : sw_F := sw_fo 6 (gX6_sendDraft ln)
def ctX6_sendDraft (ln : sw_A) : sw_C := [(226, 2, 4, fX3_add ln)]
abbrev wX6_sendDraft (ln : sw_A) (Q : Option sw_V → sw_S → Prop) : Nat → Nat → sw_L → List sw_V → sw_S → Prop := sw_wp sw_rf ln (ctX6_sendDraft ln) sX6_sendDraft 0 26 tX6_sendDraft Q
theorem hX6_sendDraft (ln : sw_A) (s : Nat) (σ : sw_S) (h : (gX6_sendDraft ln s σ).1) : ∃ fuel, wX6_sendDraft ln (sw_end (gX6_sendDraft ln s σ)) fuel 0 (sw_ent 1 [.inr (some (6, s))]) [] σ :=
  ⟨30, And.intro (add_go h.1 h.2 _ _).1 (And.intro (Or.inl rfl) ⟨rfl, rfl⟩)⟩
set_option maxRecDepth 100000 in
theorem mX6_sendDraft {l : Launch} {ad : sw_A} {V : Nat → Nat → Prop} {ln : sw_A} {ca : Nat → ClassId} {D : va_G} (hG : sw_wf ad V sw_rf ln) : sw_met l ad V sw_rf ln ca D yX6_sendDraft cX6_sendDraft 1 none { frames := 3, cells := 0, slots := 0, locals := 65 } 1 (fX6_sendDraft ln) := by
  refine sw_meth hG (by decide) (by refine ⟨?_, ?_, ?_, ?_⟩ <;> intro h <;> first | rfl | exact ⟨_, rfl⟩ | exact absurd h (by decide)) (by decide) kX6_sendDraft flX6_in cnX6_in ?_ (sw_fo_h (W := fun Q L σ => ∃ fuel, wX6_sendDraft ln Q fuel 0 L [] σ) (fun a0 σ h => hX6_sendDraft ln a0 σ h))
  intro p e s m args below meth c S hT hnw
  refine List.forall_mem_cons.mpr ⟨sw_cokV S hT hnw (mX3_add hG) 226 3 (by decide) ⟨by decide +kernel, by decide +kernel, by decide +kernel, by decide +kernel, by decide +kernel⟩ ⟨rfl, by decide, by decide, by decide +kernel⟩ ⟨rfl, rfl⟩ ⟨by decide, by decide⟩, ?_⟩
  exact fun q h => absurd h List.not_mem_nil
theorem sd_sd_go {ln : sw_A} {σ : sw_S} (hl : lo ln) (h : fg ln σ) (s : Nat) : fg ln (sd_sd ln s σ) := fg_upk (fg_upk (add_go hl h _ _).2 (by decide)) (by decide)
def sd_sn (ln : sw_A) (s : Nat) (σ : sw_S) : sw_S := sd_sd ln s (gX3_add ln (2 * s) (128 + s) (gX2_seal ln (128 + s) σ).2.2).2.2
def gX6_sendNumbered (ln : sw_A) (s : Nat) (σ : sw_S) : sw_X := (lo ln ∧ fg ln σ, none, sd_sn ln s σ)
def fX6_sendNumbered (ln : sw_A) : sw_F := sw_fo 6 (gX6_sendNumbered ln)
def ctX6_sendNumbered (ln : sw_A) : sw_C := [(223, 1, 3, fX2_seal ln), (226, 2, 4, fX3_add ln), (230, 1, 7, fX6_sendDraft ln)]
abbrev wX6_sendNumbered (ln : sw_A) (Q : Option sw_V → sw_S → Prop) : Nat → Nat → sw_L → List sw_V → sw_S → Prop := sw_wp sw_rf ln (ctX6_sendNumbered ln) sX6_sendNumbered 0 22 tX6_sendNumbered Q
theorem hX6_sendNumbered (ln : sw_A) (s : Nat) (σ : sw_S) (h : (gX6_sendNumbered ln s σ).1) : ∃ fuel, wX6_sendNumbered ln (sw_end (gX6_sendNumbered ln s σ)) fuel 0 (sw_ent 1 [.inr (some (6, s))]) [] σ := by
  have h1 := seal_go h.1 h.2 (128 + s)
  have h2 := add_go h.1 h1.2 (2 * s) (128 + s)
  exact ⟨30, And.intro h1.1 (And.intro h2.1 (And.intro ⟨h.1, h2.2⟩ ⟨rfl, rfl⟩))⟩
set_option maxRecDepth 100000 in
theorem mX6_sendNumbered {l : Launch} {ad : sw_A} {V : Nat → Nat → Prop} {ln : sw_A} {ca : Nat → ClassId} {D : va_G} (hG : sw_wf ad V sw_rf ln) : sw_met l ad V sw_rf ln ca D yX6_sendNumbered cX6_sendNumbered 1 none { frames := 4, cells := 0, slots := 0, locals := 85 } 1 (fX6_sendNumbered ln) := by
  refine sw_meth hG (by decide) (by refine ⟨?_, ?_, ?_, ?_⟩ <;> intro h <;> first | rfl | exact ⟨_, rfl⟩ | exact absurd h (by decide)) (by decide) kX6_sendNumbered flX6_in cnX6_in ?_ (sw_fo_h (W := fun Q L σ => ∃ fuel, wX6_sendNumbered ln Q fuel 0 L [] σ) (fun a0 σ h => hX6_sendNumbered ln a0 σ h))
  intro p e s m args below meth c S hT hnw
  refine List.forall_mem_cons.mpr ⟨sw_cokV S hT hnw (mX2_seal hG) 223 2 (by decide) ⟨by decide +kernel, by decide +kernel, by decide +kernel, by decide +kernel, by decide +kernel⟩ ⟨rfl, by decide, by decide, by decide +kernel⟩ ⟨rfl, rfl⟩ ⟨by decide, by decide⟩, ?_⟩
  refine List.forall_mem_cons.mpr ⟨sw_cokV S hT hnw (mX3_add hG) 226 3 (by decide) ⟨by decide +kernel, by decide +kernel, by decide +kernel, by decide +kernel, by decide +kernel⟩ ⟨rfl, by decide, by decide, by decide +kernel⟩ ⟨rfl, rfl⟩ ⟨by decide, by decide⟩, ?_⟩
  refine List.forall_mem_cons.mpr ⟨sw_cokV S hT hnw (mX6_sendDraft hG) 230 6 (by decide) ⟨by decide +kernel, by decide +kernel, by decide +kernel, by decide +kernel, by decide +kernel⟩ ⟨rfl, by decide, by decide, by decide +kernel⟩ ⟨rfl, rfl⟩ ⟨by decide, by decide⟩, ?_⟩
  exact fun q h => absurd h List.not_mem_nil
theorem sd_sn_go {ln : sw_A} {σ : sw_S} (hl : lo ln) (h : fg ln σ) (s : Nat) : fg ln (sd_sn ln s σ) := sd_sd_go hl (add_go hl (seal_go hl h _).2 _ _).2 s
def sd_ak (ln : sw_A) (s : Nat) (σ : sw_S) : sw_S := sd_sd ln s (gX2_seal ln (128 + s) (gX2_begin ln (128 + s) ((0 : Int32) ||| σ 6 s 6 <<< (16 &&& 31)) σ).2.2).2.2
def gX6_sendAck (ln : sw_A) (s : Nat) (σ : sw_S) : sw_X := (lo ln ∧ fg ln σ, none, sd_ak ln s σ)
def fX6_sendAck (ln : sw_A) : sw_F := sw_fo 6 (gX6_sendAck ln)
def ctX6_sendAck (ln : sw_A) : sw_C := [(220, 2, 3, fX2_begin ln), (223, 1, 3, fX2_seal ln), (230, 1, 7, fX6_sendDraft ln)]
abbrev wX6_sendAck (ln : sw_A) (Q : Option sw_V → sw_S → Prop) : Nat → Nat → sw_L → List sw_V → sw_S → Prop := sw_wp sw_rf ln (ctX6_sendAck ln) sX6_sendAck 0 27 tX6_sendAck Q
theorem hX6_sendAck (ln : sw_A) (s : Nat) (σ : sw_S) (h : (gX6_sendAck ln s σ).1) : ∃ fuel, wX6_sendAck ln (sw_end (gX6_sendAck ln s σ)) fuel 0 (sw_ent 1 [.inr (some (6, s))]) [] σ := by
  have h1 := begin_go h.1 h.2 (128 + s) ((0 : Int32) ||| σ 6 s 6 <<< (16 &&& 31))
  have h2 := seal_go h.1 h1.2 (128 + s)
  exact ⟨30, And.intro h1.1 (And.intro h2.1 (And.intro ⟨h.1, h2.2⟩ ⟨rfl, rfl⟩))⟩
set_option maxRecDepth 100000 in
theorem mX6_sendAck {l : Launch} {ad : sw_A} {V : Nat → Nat → Prop} {ln : sw_A} {ca : Nat → ClassId} {D : va_G} (hG : sw_wf ad V sw_rf ln) : sw_met l ad V sw_rf ln ca D yX6_sendAck cX6_sendAck 1 none { frames := 4, cells := 0, slots := 0, locals := 85 } 1 (fX6_sendAck ln) := by
  refine sw_meth hG (by decide) (by refine ⟨?_, ?_, ?_, ?_⟩ <;> intro h <;> first | rfl | exact ⟨_, rfl⟩ | exact absurd h (by decide)) (by decide) kX6_sendAck flX6_in cnX6_in ?_ (sw_fo_h (W := fun Q L σ => ∃ fuel, wX6_sendAck ln Q fuel 0 L [] σ) (fun a0 σ h => hX6_sendAck ln a0 σ h))
  intro p e s m args below meth c S hT hnw
  refine List.forall_mem_cons.mpr ⟨sw_cokV S hT hnw (mX2_begin hG) 220 2 (by decide) ⟨by decide +kernel, by decide +kernel, by decide +kernel, by decide +kernel, by decide +kernel⟩ ⟨rfl, by decide, by decide, by decide +kernel⟩ ⟨rfl, rfl⟩ ⟨by decide, by decide⟩, ?_⟩
  refine List.forall_mem_cons.mpr ⟨sw_cokV S hT hnw (mX2_seal hG) 223 2 (by decide) ⟨by decide +kernel, by decide +kernel, by decide +kernel, by decide +kernel, by decide +kernel⟩ ⟨rfl, by decide, by decide, by decide +kernel⟩ ⟨rfl, rfl⟩ ⟨by decide, by decide⟩, ?_⟩
  refine List.forall_mem_cons.mpr ⟨sw_cokV S hT hnw (mX6_sendDraft hG) 230 6 (by decide) ⟨by decide +kernel, by decide +kernel, by decide +kernel, by decide +kernel, by decide +kernel⟩ ⟨rfl, by decide, by decide, by decide +kernel⟩ ⟨rfl, rfl⟩ ⟨by decide, by decide⟩, ?_⟩
  exact fun q h => absurd h List.not_mem_nil
end
section
/-! Side: cells, taking and queueing -/
def sd_cx (σ : sw_S) : Option (Nat × Nat) → Int32
  | none => 0
  | some q => fr_ct σ q.2
def sd_io (ln : sw_A) (s : Nat) (σ : sw_S) : Nat → Int32
  | 0 => 0
  | n + 1 => sd_io ln s σ n + sd_cx σ (rg_fa ln (2 * s) (nI n) σ)
def gX6_itemsOut (ln : sw_A) (s : Nat) (σ : sw_S) : sw_X := (lo ln ∧ fg ln σ ∧ 0 ≤ σ 3 (2 * s) 2, some (.inl (sd_io ln s σ (σ 3 (2 * s) 2).toNatClampNeg)), σ)
def fX6_itemsOut (ln : sw_A) : sw_F := sw_fo 6 (gX6_itemsOut ln)
def ctX6_itemsOut (ln : sw_A) : sw_C := [(120, 1, 4, fX3_size ln), (121, 2, 4, fX3_frameAt ln), (125, 1, 3, fX2_count ln)]
abbrev wX6_itemsOut (ln : sw_A) (Q : Option sw_V → sw_S → Prop) : Nat → Nat → sw_L → List sw_V → sw_S → Prop := sw_wp sw_rf ln (ctX6_itemsOut ln) sX6_itemsOut 1 46 tX6_itemsOut Q
theorem hX6_itemsOut_l (ln : sw_A) (s n : Nat) (σ : sw_S) (X : sw_X) (hn : n < 2 ^ 31) (hl : lo ln) (hg : fg ln σ) (hz : σ 3 (2 * s) 2 = nI n) (hX : X.2 = (some (.inl (sd_io ln s σ n)), σ)) : ∀ (d j : Nat) (x3 : Option sw_V), j + d = n → ∃ fuel, wX6_itemsOut ln (sw_end X) fuel 4 [some (.inr (some (6, s))), some (.inl (sd_io ln s σ j)), some (.inl (nI j)), x3] [] σ := by
  intro d
  induction d with
  | zero =>
    intro j x3 hj
    have hj : j = n := by omega
    subst hj
    refine ⟨20, And.intro trivial (And.intro (fun _ => ?_) (fun (h : ¬ σ 3 (2 * s) 2 ≤ nI j) => absurd (by rw [hz]; exact Int32.le_refl _) h))⟩
    show some _ = X.2.1 ∧ σ = X.2.2
    rw [hX]
    exact ⟨rfl, rfl⟩
  | succ d ih =>
    intro j x3 hj
    obtain ⟨f, hf⟩ := ih (j + 1) (some (.inr (rg_fa ln (2 * s) (nI j) σ))) (by omega)
    rw [← nI_1] at hf
    have key : ∃ M, ∀ r, r = rg_fa ln (2 * s) (nI j) σ → wX6_itemsOut ln (sw_end X) M 23 [some (.inr (some (6, s))), some (.inl (sd_io ln s σ j)), some (.inl (nI j)), x3] [.inr r] σ := by
      refine ⟨f + 30, fun r hr => sw_ws_wp [4] f 30 _ _ _ _ ?_⟩
      have hs : sd_io ln s σ (j + 1) = sd_io ln s σ j + sd_cx σ r := by rw [hr]; rfl
      rw [← hr, hs] at hf
      cases r with
      | none => exact hf
      | some q =>
        obtain ⟨q1, q2⟩ := q
        have e1 : q1 = 2 := rg_fa_2 hr.symm
        subst e1
        exact And.intro (hg.ok hl q2) hf
    obtain ⟨M, key⟩ := key
    refine ⟨M + 30, sw_ws_wp [23] M 30 _ _ _ _ ?_⟩
    refine And.intro trivial (And.intro (fun (h : σ 3 (2 * s) 2 ≤ nI j) => absurd (by rw [← hz]; exact h) (nI_ge (a := j) (b := n) (by omega) hn)) (fun _ => And.intro (hl.1 13 (2 * s)) (key _ rfl)))
theorem hX6_itemsOut (ln : sw_A) (s : Nat) (σ : sw_S) (h : (gX6_itemsOut ln s σ).1) : ∃ fuel, wX6_itemsOut ln (sw_end (gX6_itemsOut ln s σ)) fuel 0 (sw_ent 4 [.inr (some (6, s))]) [] σ := by
  obtain ⟨n, hn, hz⟩ := nI_of (Int32.not_lt.mpr h.2.2)
  obtain ⟨f, hf⟩ := hX6_itemsOut_l ln s n σ (gX6_itemsOut ln s σ) hn h.1 h.2.1 hz (by
    show (some (Sum.inl (sd_io ln s σ (σ 3 (2 * s) 2).toNatClampNeg)), σ) = _
    rw [hz, nI_clamp hn]) n 0 none (by omega)
  exact ⟨f + 10, sw_ws_wp [4] f 10 _ _ _ _ hf⟩
set_option maxRecDepth 100000 in
theorem mX6_itemsOut {l : Launch} {ad : sw_A} {V : Nat → Nat → Prop} {ln : sw_A} {ca : Nat → ClassId} {D : va_G} (hG : sw_wf ad V sw_rf ln) : sw_met l ad V sw_rf ln ca D yX6_itemsOut cX6_itemsOut 4 (some .int) { frames := 2, cells := 0, slots := 0, locals := 43 } 1 (fX6_itemsOut ln) := by
  refine sw_meth hG (by decide) (by refine ⟨?_, ?_, ?_, ?_⟩ <;> intro h <;> first | rfl | exact ⟨_, rfl⟩ | exact absurd h (by decide)) (by decide) kX6_itemsOut flX6_in cnX6_in ?_ (sw_fo_h (W := fun Q L σ => ∃ fuel, wX6_itemsOut ln Q fuel 0 L [] σ) (fun a0 σ h => hX6_itemsOut ln a0 σ h))
  intro p e s m args below meth c S hT hnw
  refine List.forall_mem_cons.mpr ⟨sw_cokV S hT hnw (mX3_size hG) 120 3 (by decide) ⟨by decide +kernel, by decide +kernel, by decide +kernel, by decide +kernel, by decide +kernel⟩ ⟨rfl, by decide, by decide, by decide +kernel⟩ ⟨rfl, rfl⟩ ⟨by decide, by decide⟩, ?_⟩
  refine List.forall_mem_cons.mpr ⟨sw_cokV S hT hnw (mX3_frameAt hG) 121 3 (by decide) ⟨by decide +kernel, by decide +kernel, by decide +kernel, by decide +kernel, by decide +kernel⟩ ⟨rfl, by decide, by decide, by decide +kernel⟩ ⟨rfl, rfl⟩ ⟨by decide, by decide⟩, ?_⟩
  refine List.forall_mem_cons.mpr ⟨sw_cokV S hT hnw (mX2_count hG) 125 2 (by decide) ⟨by decide +kernel, by decide +kernel, by decide +kernel, by decide +kernel, by decide +kernel⟩ ⟨rfl, by decide, by decide, by decide +kernel⟩ ⟨rfl, rfl⟩ ⟨by decide, by decide⟩, ?_⟩
  exact fun q h => absurd h List.not_mem_nil
def sd_fc (s : Nat) (σ : sw_S) (a : Int32) : Nat → Int32
  | 0 => a
  | n + 1 => if σ 1 (8 * s + (nI n).toNatClampNeg) 3 = 0 then sd_fc s σ a n - σ 5 (2 * (8 * s + (nI n).toNatClampNeg)) 3 else sd_fc s σ a n - σ 5 (2 * (8 * s + (nI n).toNatClampNeg)) 3 - σ 4 0 5
def sd_fr (ln : sw_A) (s : Nat) (σ : sw_S) : Int32 := if 0 < sd_fc s σ (σ 4 0 3 - sd_io ln s σ (σ 3 (2 * s) 2).toNatClampNeg) (ln 14 s) then sd_fc s σ (σ 4 0 3 - sd_io ln s σ (σ 3 (2 * s) 2).toNatClampNeg) (ln 14 s) else 0
def gX6_freeCells (ln : sw_A) (s : Nat) (σ : sw_S) : sw_X := (lo ln ∧ fg ln σ ∧ 0 ≤ σ 3 (2 * s) 2, some (.inl (sd_fr ln s σ)), σ)
def fX6_freeCells (ln : sw_A) : sw_F := sw_fo 6 (gX6_freeCells ln)
def ctX6_freeCells (ln : sw_A) : sw_C := [(111, 1, 7, fX6_itemsOut ln), (92, 1, 6, fX5_size ln), (114, 2, 0, sw_max)]
abbrev wX6_freeCells (ln : sw_A) (Q : Option sw_V → sw_S → Prop) : Nat → Nat → sw_L → List sw_V → sw_S → Prop := sw_wp sw_rf ln (ctX6_freeCells ln) sX6_freeCells 1 76 tX6_freeCells Q
theorem hX6_freeCells_l (ln : sw_A) (s n : Nat) (σ : sw_S) (a : Int32) (X : sw_X) (hn : n < 2 ^ 31) (hz : ln 14 s = n) (hX : X.2 = (some (.inl (if 0 < sd_fc s σ a n then sd_fc s σ a n else 0)), σ)) : ∀ (d j : Nat) (x5 : Option sw_V), j + d = n → ∃ fuel, wX6_freeCells ln (sw_end X) fuel 24 [some (.inr (some (6, s))), some (.inl (sd_fc s σ a j)), some (.inr (some (14, s))), some (.inl (nI n)), some (.inl (nI j)), x5] [] σ := by
  intro d
  induction d with
  | zero =>
    intro j x5 hj
    have hj : j = n := by omega
    subst hj
    refine ⟨20, And.intro (fun _ => And.intro trivial ?_) (fun (h : ¬ nI j ≤ nI j) => absurd (Int32.le_refl _) h)⟩
    show some _ = X.2.1 ∧ σ = X.2.2
    rw [hX]
    exact ⟨rfl, rfl⟩
  | succ d ih =>
    intro j x5 hj
    have v1 : vp_in (nI j) (ln 14 s) := by rw [hz]; exact vp_in_nI (by omega) hn
    obtain ⟨f, hf⟩ := ih (j + 1) (some (.inr (some (1, 8 * s + (nI j).toNatClampNeg)))) (by omega)
    rw [← nI_1] at hf
    refine ⟨f + 40, sw_ws_wp [24] f 40 _ _ _ _ ?_⟩
    refine And.intro (fun (h : nI n ≤ nI j) => absurd h (nI_ge (a := j) (b := n) (by omega) hn)) (fun _ => And.intro v1 (And.intro trivial (And.intro (fun (h1 : σ 1 (8 * s + (nI j).toNatClampNeg) 3 = 0) => ?_) (fun (h1 : ¬ σ 1 (8 * s + (nI j).toNatClampNeg) 3 = 0) => ?_))))
    · rw [show sd_fc s σ a (j + 1) = _ from if_pos h1] at hf
      exact hf
    · rw [show sd_fc s σ a (j + 1) = _ from if_neg h1] at hf
      exact hf
theorem hX6_freeCells (ln : sw_A) (s : Nat) (σ : sw_S) (h : (gX6_freeCells ln s σ).1) : ∃ fuel, wX6_freeCells ln (sw_end (gX6_freeCells ln s σ)) fuel 0 (sw_ent 6 [.inr (some (6, s))]) [] σ := by
  obtain ⟨f, hf⟩ := hX6_freeCells_l ln s (ln 14 s) σ (σ 4 0 3 - sd_io ln s σ (σ 3 (2 * s) 2).toNatClampNeg) (gX6_freeCells ln s σ) (h.1.1 14 s) rfl rfl (ln 14 s) 0 none (by omega)
  exact ⟨f + 20, sw_ws_wp [24] f 20 _ _ _ _ (And.intro h hf)⟩
set_option maxRecDepth 100000 in
theorem mX6_freeCells {l : Launch} {ad : sw_A} {V : Nat → Nat → Prop} {ln : sw_A} {ca : Nat → ClassId} {D : va_G} (hG : sw_wf ad V sw_rf ln) : sw_met l ad V sw_rf ln ca D yX6_freeCells cX6_freeCells 6 (some .int) { frames := 3, cells := 0, slots := 0, locals := 66 } 1 (fX6_freeCells ln) := by
  refine sw_meth hG (by decide) (by refine ⟨?_, ?_, ?_, ?_⟩ <;> intro h <;> first | rfl | exact ⟨_, rfl⟩ | exact absurd h (by decide)) (by decide) kX6_freeCells flX6_in cnX6_in ?_ (sw_fo_h (W := fun Q L σ => ∃ fuel, wX6_freeCells ln Q fuel 0 L [] σ) (fun a0 σ h => hX6_freeCells ln a0 σ h))
  intro p e s m args below meth c S hT hnw
  refine List.forall_mem_cons.mpr ⟨sw_cokV S hT hnw (mX6_itemsOut hG) 111 6 (by decide) ⟨by decide +kernel, by decide +kernel, by decide +kernel, by decide +kernel, by decide +kernel⟩ ⟨rfl, by decide, by decide, by decide +kernel⟩ ⟨rfl, rfl⟩ ⟨by decide, by decide⟩, ?_⟩
  refine List.forall_mem_cons.mpr ⟨sw_cokV S hT hnw (mX5_size hG) 92 5 (by decide) ⟨by decide +kernel, by decide +kernel, by decide +kernel, by decide +kernel, by decide +kernel⟩ ⟨rfl, by decide, by decide, by decide +kernel⟩ ⟨rfl, rfl⟩ ⟨by decide, by decide⟩, ?_⟩
  refine List.forall_mem_cons.mpr ⟨sw_cokX S 114 (by decide +kernel) ⟨by decide, by decide⟩, ?_⟩
  exact fun q h => absurd h List.not_mem_nil
def sd_qi (ln : sw_A) (s w : Nat) (σ : sw_S) : Int32 := if σ 1 w 3 = 1 then (if sd_fr ln s σ = 0 then 2 else 1) else 0
def gX6_queueItem (ln : sw_A) (s w : Nat) (x b : Int32) (σ : sw_S) : sw_X := ((lo ln ∧ fg ln σ ∧ 0 ≤ σ 3 (2 * s) 2) ∧ sw_bo b, some (.inl (sd_qi ln s w σ)), if σ 1 w 3 = 1 then (if sd_fr ln s σ = 0 then σ else qu_pu ln (2 * w) x b σ) else σ)
def fX6_queueItem (ln : sw_A) : sw_F := sw_fooii 6 1 (gX6_queueItem ln)
def ctX6_queueItem (ln : sw_A) : sw_C := [(76, 1, 7, fX6_freeCells ln), (83, 3, 6, fX5_put ln)]
abbrev wX6_queueItem (ln : sw_A) (Q : Option sw_V → sw_S → Prop) : Nat → Nat → sw_L → List sw_V → sw_S → Prop := sw_wp sw_rf ln (ctX6_queueItem ln) sX6_queueItem 1 29 tX6_queueItem Q
theorem hX6_queueItem (ln : sw_A) (s w : Nat) (x b : Int32) (σ : sw_S) (h : (gX6_queueItem ln s w x b σ).1) : ∃ fuel, wX6_queueItem ln (sw_end (gX6_queueItem ln s w x b σ)) fuel 0 (sw_ent 4 [.inr (some (6, s)), .inr (some (1, w)), .inl x, .inl b]) [] σ :=
  ⟨30, And.intro (fun (h1 : σ 1 w 3 = 1) => And.intro h.1 (And.intro (fun (h2 : ¬ sd_fr ln s σ = 0) => And.intro ⟨h.1.1.ce _, h.2⟩ ⟨sw_ri ((if_pos h1).trans (if_neg h2)).symm, ((if_pos h1).trans (if_neg h2)).symm⟩) (fun (h2 : sd_fr ln s σ = 0) => ⟨sw_ri ((if_pos h1).trans (if_pos h2)).symm, ((if_pos h1).trans (if_pos h2)).symm⟩))) (fun (h1 : ¬ σ 1 w 3 = 1) => ⟨sw_ri (if_neg h1).symm, (if_neg h1).symm⟩)⟩
set_option maxRecDepth 100000 in
theorem mX6_queueItem {l : Launch} {ad : sw_A} {V : Nat → Nat → Prop} {ln : sw_A} {ca : Nat → ClassId} {D : va_G} (hG : sw_wf ad V sw_rf ln) : sw_met l ad V sw_rf ln ca D yX6_queueItem cX6_queueItem 4 (some .int) { frames := 4, cells := 0, slots := 0, locals := 91 } 4 (fX6_queueItem ln) := by
  refine sw_meth hG (by decide) (by refine ⟨?_, ?_, ?_, ?_⟩ <;> intro h <;> first | rfl | exact ⟨_, rfl⟩ | exact absurd h (by decide)) (by decide) kX6_queueItem flX6_in cnX6_in ?_ (sw_fooii_h (W := fun Q L σ => ∃ fuel, wX6_queueItem ln Q fuel 0 L [] σ) (fun a0 a1 a2 a3 σ h => hX6_queueItem ln a0 a1 a2 a3 σ h))
  intro p e s m args below meth c S hT hnw
  refine List.forall_mem_cons.mpr ⟨sw_cokV S hT hnw (mX6_freeCells hG) 76 6 (by decide) ⟨by decide +kernel, by decide +kernel, by decide +kernel, by decide +kernel, by decide +kernel⟩ ⟨rfl, by decide, by decide, by decide +kernel⟩ ⟨rfl, rfl⟩ ⟨by decide, by decide⟩, ?_⟩
  refine List.forall_mem_cons.mpr ⟨sw_cokV S hT hnw (mX5_put hG) 83 5 (by decide) ⟨by decide +kernel, by decide +kernel, by decide +kernel, by decide +kernel, by decide +kernel⟩ ⟨rfl, by decide, by decide, by decide +kernel⟩ ⟨rfl, rfl⟩ ⟨by decide, by decide⟩, ?_⟩
  exact fun q h => absurd h List.not_mem_nil
def sd_t1 (ln : sw_A) (s w : Nat) (σ : sw_S) : sw_S := if qu_om ln (2 * w + 1) σ = 0 then sw_up σ 6 s 10 (qu_ow ln (2 * w + 1) σ) else σ
def sd_ti (ln : sw_A) (w : Nat) (σ : sw_S) : Int32 := if σ 1 w 3 = 0 then 0 else if σ 5 (2 * w + 1) 3 = 0 then (if σ 1 w 9 = 0 then 3 else 4) else if qu_om ln (2 * w + 1) σ = 0 then 1 else 2
def sd_tt (ln : sw_A) (s w : Nat) (σ : sw_S) : sw_S := if σ 1 w 3 = 0 then σ else if σ 5 (2 * w + 1) 3 = 0 then σ else (gX1_dropTaken ln w (sd_t1 ln s w σ)).2.2
def gX6_takeItem (ln : sw_A) (s w : Nat) (σ : sw_S) : sw_X := (lo ln ∧ sw_bo (σ 1 w 9), some (.inl (sd_ti ln w σ)), sd_tt ln s w σ)
def fX6_takeItem (ln : sw_A) : sw_F := sw_foo 6 1 (gX6_takeItem ln)
def ctX6_takeItem (ln : sw_A) : sw_C := [(92, 1, 6, fX5_size ln), (95, 1, 2, fX1_isShut ln), (99, 1, 6, fX5_oldestIsMark ln), (102, 1, 6, fX5_oldestWord ln), (108, 1, 2, fX1_dropTaken ln)]
abbrev wX6_takeItem (ln : sw_A) (Q : Option sw_V → sw_S → Prop) : Nat → Nat → sw_L → List sw_V → sw_S → Prop := sw_wp sw_rf ln (ctX6_takeItem ln) sX6_takeItem 1 68 tX6_takeItem Q
theorem hX6_takeItem (ln : sw_A) (s w : Nat) (σ : sw_S) (h : (gX6_takeItem ln s w σ).1) : ∃ fuel, wX6_takeItem ln (sw_end (gX6_takeItem ln s w σ)) fuel 0 (sw_ent 3 [.inr (some (6, s)), .inr (some (1, w))]) [] σ := by
  have hce := h.1.ce ((2 * w + 1) / 16)
  refine ⟨50, And.intro (fun (h1 : ¬ σ 1 w 3 = 0) => And.intro trivial (And.intro (fun (h2 : ¬ σ 5 (2 * w + 1) 3 = 0) => And.intro hce (And.intro (fun (h3 : ¬ qu_om ln (2 * w + 1) σ = 0) => And.intro hce (And.intro (fun (h4 : qu_om ln (2 * w + 1) σ = 0) => absurd h4 h3) (fun _ => ⟨sw_ri ?_, ?_⟩))) (fun (h3 : qu_om ln (2 * w + 1) σ = 0) => And.intro hce (And.intro hce (And.intro (fun _ => ⟨sw_ri ?_, ?_⟩) (fun (h4 : ¬ qu_om ln (2 * w + 1) σ = 0) => absurd h3 h4)))))) (fun (h2 : σ 5 (2 * w + 1) 3 = 0) => And.intro h.2 (And.intro (fun (h3 : σ 1 w 9 = 0) => ⟨sw_ri ?_, ?_⟩) (fun (h3 : ¬ σ 1 w 9 = 0) => ⟨sw_ri ?_, ?_⟩))))) (fun (h1 : σ 1 w 3 = 0) => ⟨sw_ri (if_pos h1).symm, (if_pos h1).symm⟩)⟩
  · unfold sd_ti; rw [if_neg h1, if_neg h2, if_neg h3]
  · show _ = sd_tt ln s w σ
    unfold sd_tt sd_t1; rw [if_neg h1, if_neg h2, if_neg h3]; rfl
  · unfold sd_ti; rw [if_neg h1, if_neg h2, if_pos h3]
  · show _ = sd_tt ln s w σ
    unfold sd_tt sd_t1; rw [if_neg h1, if_neg h2, if_pos h3]; rfl
  · unfold sd_ti; rw [if_neg h1, if_pos h2, if_pos h3]
  · show _ = sd_tt ln s w σ
    unfold sd_tt; rw [if_neg h1, if_pos h2]; rfl
  · unfold sd_ti; rw [if_neg h1, if_pos h2, if_neg h3]
  · show _ = sd_tt ln s w σ
    unfold sd_tt; rw [if_neg h1, if_pos h2]; rfl
set_option maxRecDepth 100000 in
theorem mX6_takeItem {l : Launch} {ad : sw_A} {V : Nat → Nat → Prop} {ln : sw_A} {ca : Nat → ClassId} {D : va_G} (hG : sw_wf ad V sw_rf ln) : sw_met l ad V sw_rf ln ca D yX6_takeItem cX6_takeItem 3 (some .int) { frames := 4, cells := 0, slots := 0, locals := 83 } 2 (fX6_takeItem ln) := by
  refine sw_meth hG (by decide) (by refine ⟨?_, ?_, ?_, ?_⟩ <;> intro h <;> first | rfl | exact ⟨_, rfl⟩ | exact absurd h (by decide)) (by decide) kX6_takeItem flX6_in cnX6_in ?_ (sw_foo_h (W := fun Q L σ => ∃ fuel, wX6_takeItem ln Q fuel 0 L [] σ) (fun a0 a1 σ h => hX6_takeItem ln a0 a1 σ h))
  intro p e s m args below meth c S hT hnw
  refine List.forall_mem_cons.mpr ⟨sw_cokV S hT hnw (mX5_size hG) 92 5 (by decide) ⟨by decide +kernel, by decide +kernel, by decide +kernel, by decide +kernel, by decide +kernel⟩ ⟨rfl, by decide, by decide, by decide +kernel⟩ ⟨rfl, rfl⟩ ⟨by decide, by decide⟩, ?_⟩
  refine List.forall_mem_cons.mpr ⟨sw_cokV S hT hnw (mX1_isShut hG) 95 1 (by decide) ⟨by decide +kernel, by decide +kernel, by decide +kernel, by decide +kernel, by decide +kernel⟩ ⟨rfl, by decide, by decide, by decide +kernel⟩ ⟨rfl, rfl⟩ ⟨by decide, by decide⟩, ?_⟩
  refine List.forall_mem_cons.mpr ⟨sw_cokV S hT hnw (mX5_oldestIsMark hG) 99 5 (by decide) ⟨by decide +kernel, by decide +kernel, by decide +kernel, by decide +kernel, by decide +kernel⟩ ⟨rfl, by decide, by decide, by decide +kernel⟩ ⟨rfl, rfl⟩ ⟨by decide, by decide⟩, ?_⟩
  refine List.forall_mem_cons.mpr ⟨sw_cokV S hT hnw (mX5_oldestWord hG) 102 5 (by decide) ⟨by decide +kernel, by decide +kernel, by decide +kernel, by decide +kernel, by decide +kernel⟩ ⟨rfl, by decide, by decide, by decide +kernel⟩ ⟨rfl, rfl⟩ ⟨by decide, by decide⟩, ?_⟩
  refine List.forall_mem_cons.mpr ⟨sw_cokV S hT hnw (mX1_dropTaken hG) 108 1 (by decide) ⟨by decide +kernel, by decide +kernel, by decide +kernel, by decide +kernel, by decide +kernel⟩ ⟨rfl, by decide, by decide, by decide +kernel⟩ ⟨rfl, rfl⟩ ⟨by decide, by decide⟩, ?_⟩
  exact fun q h => absurd h List.not_mem_nil
end
section
/-! Side: what is sent next -/
theorem put_k (ln : sw_A) (k : Nat) (x : Int32) (σ : sw_S) {c : Nat} (h2 : ¬ c = 2) (h12 : ¬ c = 12) (k' j' : Nat) : (gX2_put ln k x σ).2.2 c k' j' = σ c k' j' := by
  show (if σ 2 k 1 < nI (ln 12 k) then sw_up (sw_up σ 12 k (σ 2 k 1).toNatClampNeg x) 2 k 1 (σ 2 k 1 + 1) else σ) c k' j' = _
  split
  · rw [sw_upk _ h2, sw_upk _ h12]
  · rfl
theorem flip_k (ln : sw_A) (k : Nat) (i x : Int32) (σ : sw_S) {c : Nat} (h12 : ¬ c = 12) (k' j' : Nat) : (gX2_flip ln k i x σ).2.2 c k' j' = σ c k' j' := by
  show (if 0 ≤ i ∧ i < σ 2 k 1 then sw_up σ 12 k i.toNatClampNeg _ else σ) c k' j' = _
  split
  · rw [sw_upk _ h12]
  · rfl
theorem begin_k (ln : sw_A) (k : Nat) (x : Int32) (σ : sw_S) {c : Nat} (h2 : ¬ c = 2) (h12 : ¬ c = 12) (k' j' : Nat) : (gX2_begin ln k x σ).2.2 c k' j' = σ c k' j' := (put_k ln k x _ h2 h12 k' j').trans (sw_upk _ h2)
theorem seal_k (ln : sw_A) (k : Nat) (σ : sw_S) {c : Nat} (h2 : ¬ c = 2) (h12 : ¬ c = 12) (k' j' : Nat) : (gX2_seal ln k σ).2.2 c k' j' = σ c k' j' := put_k ln k _ _ h2 h12 k' j'
theorem copy_k (ln : sw_A) (k o : Nat) (σ : sw_S) {c : Nat} (h2 : ¬ c = 2) (h12 : ¬ c = 12) (k' j' : Nat) : (gX2_copyFrom ln k o σ).2.2 c k' j' = σ c k' j' := (fr_cp_k k o h12 k' j' _ _).trans (sw_upk _ h2)
theorem add_k (ln : sw_A) (r f : Nat) (σ : sw_S) {c : Nat} (h2 : ¬ c = 2) (h3 : ¬ c = 3) (h12 : ¬ c = 12) (k' j' : Nat) : (gX3_add ln r f σ).2.2 c k' j' = σ c k' j' := by
  show rg_ad ln r f σ (rg_as ln r σ) c k' j' = _
  cases rg_as ln r σ with
  | none => rfl
  | some q => exact (sw_upk _ h3).trans (copy_k ln q.2 f σ h2 h12 k' j')
theorem sd_sd_k (ln : sw_A) (s : Nat) (σ : sw_S) {c : Nat} (h2 : ¬ c = 2) (h3 : ¬ c = 3) (h6 : ¬ c = 6) (h12 : ¬ c = 12) (k' j' : Nat) : sd_sd ln s σ c k' j' = σ c k' j' := (sw_upk _ h6).trans ((sw_upk _ h6).trans (add_k ln _ _ σ h2 h3 h12 k' j'))
theorem sd_sd_6 (ln : sw_A) (s : Nat) (σ : sw_S) (k' : Nat) {j' : Nat} (h9 : ¬ j' = 9) (h11 : ¬ j' = 11) : sd_sd ln s σ 6 k' j' = σ 6 k' j' := (sw_upj _ h11).trans ((sw_upj _ h9).trans (add_k ln _ _ σ (by decide) (by decide) (by decide) k' j'))
theorem sd_sn_k (ln : sw_A) (s : Nat) (σ : sw_S) {c : Nat} (h2 : ¬ c = 2) (h3 : ¬ c = 3) (h6 : ¬ c = 6) (h12 : ¬ c = 12) (k' j' : Nat) : sd_sn ln s σ c k' j' = σ c k' j' := (sd_sd_k ln s _ h2 h3 h6 h12 k' j').trans ((add_k ln _ _ _ h2 h3 h12 k' j').trans (seal_k ln _ σ h2 h12 k' j'))
theorem sd_sn_6 (ln : sw_A) (s : Nat) (σ : sw_S) (k' : Nat) {j' : Nat} (h9 : ¬ j' = 9) (h11 : ¬ j' = 11) : sd_sn ln s σ 6 k' j' = σ 6 k' j' := (sd_sd_6 ln s _ k' h9 h11).trans ((add_k ln _ _ _ (by decide) (by decide) (by decide) k' j').trans (seal_k ln _ σ (by decide) (by decide) k' j'))
theorem qu_do_k (ln : sw_A) (q : Nat) (σ : sw_S) {c : Nat} (h0 : ¬ c = 0) (h5 : ¬ c = 5) (h11 : ¬ c = 11) (k' j' : Nat) : qu_do ln q σ c k' j' = σ c k' j' := by
  unfold qu_do
  split
  · rfl
  · rw [sw_upk _ h5]
    unfold qu_da
    rw [sw_upk _ h5]
    show (if ce_ho ln (q / 16) (σ 5 q 1) = 0 then σ else sw_up (sw_up σ 11 _ _ _) 0 _ _ _) c k' j' = _
    split
    · rfl
    · rw [sw_upk _ h0, sw_upk _ h11]
def sd_sg (s : Nat) (σ : sw_S) : Nat → Nat → Int32
  | 0, _ => -2
  | d + 1, j => if σ 1 (8 * s + (nI j).toNatClampNeg) 6 ≤ 0 then sd_sg s σ d (j + 1) else nI j
def gX6_streamToGrant (ln : sw_A) (s : Nat) (σ : sw_S) : sw_X := (lo ln, some (.inl (sd_sg s σ (ln 14 s) 0)), σ)
def fX6_streamToGrant (ln : sw_A) : sw_F := sw_fo 6 (gX6_streamToGrant ln)
def ctX6_streamToGrant (ln : sw_A) : sw_C := []
abbrev wX6_streamToGrant (ln : sw_A) (Q : Option sw_V → sw_S → Prop) : Nat → Nat → sw_L → List sw_V → sw_S → Prop := sw_wp sw_rf ln (ctX6_streamToGrant ln) sX6_streamToGrant 1 33 tX6_streamToGrant Q
theorem hX6_streamToGrant_l (ln : sw_A) (s n : Nat) (σ : sw_S) (X : sw_X) (hn : n < 2 ^ 31) (hz : ln 14 s = n) : ∀ (d j : Nat), j + d = n → X.2 = (some (.inl (sd_sg s σ d j)), σ) → ∃ fuel, wX6_streamToGrant ln (sw_end X) fuel 2 [some (.inr (some (6, s))), some (.inl (nI j))] [] σ := by
  intro d
  induction d with
  | zero =>
    intro j hj hX
    have hj : j = n := by omega
    subst hj
    refine ⟨20, And.intro (fun _ => ?_) (fun (h : ¬ nI (ln 14 s) ≤ nI j) => absurd (by rw [hz]; exact Int32.le_refl _) h)⟩
    show some _ = X.2.1 ∧ σ = X.2.2
    rw [hX]
    exact ⟨rfl, rfl⟩
  | succ d ih =>
    intro j hj hX
    have v1 : vp_in (nI j) (ln 14 s) := by rw [hz]; exact vp_in_nI (by omega) hn
    by_cases h1 : σ 1 (8 * s + (nI j).toNatClampNeg) 6 ≤ 0
    · obtain ⟨f, hf⟩ := ih (j + 1) (by omega) (by rw [hX]; exact congrArg (fun z => (some (Sum.inl z), σ)) (if_pos h1))
      rw [← nI_1] at hf
      refine ⟨f + 30, sw_ws_wp [2] f 30 _ _ _ _ ?_⟩
      exact And.intro (fun (h : nI (ln 14 s) ≤ nI j) => absurd (by rw [← hz]; exact h) (nI_ge (a := j) (b := n) (by omega) hn)) (fun _ => And.intro v1 (And.intro (fun _ => hf) (fun z => absurd h1 z)))
    · refine ⟨30, And.intro (fun (h : nI (ln 14 s) ≤ nI j) => absurd (by rw [← hz]; exact h) (nI_ge (a := j) (b := n) (by omega) hn)) (fun _ => And.intro v1 (And.intro (fun z => absurd z h1) (fun _ => ?_)))⟩
      show some _ = X.2.1 ∧ σ = X.2.2
      rw [hX]
      exact ⟨sw_ri (if_neg h1).symm, rfl⟩
theorem hX6_streamToGrant (ln : sw_A) (s : Nat) (σ : sw_S) (h : (gX6_streamToGrant ln s σ).1) : ∃ fuel, wX6_streamToGrant ln (sw_end (gX6_streamToGrant ln s σ)) fuel 0 (sw_ent 2 [.inr (some (6, s))]) [] σ := by
  obtain ⟨f, hf⟩ := hX6_streamToGrant_l ln s (ln 14 s) σ (gX6_streamToGrant ln s σ) (h.1 14 s) rfl (ln 14 s) 0 (by omega) rfl
  exact ⟨f + 10, sw_ws_wp [2] f 10 _ _ _ _ hf⟩
set_option maxRecDepth 100000 in
theorem mX6_streamToGrant {l : Launch} {ad : sw_A} {V : Nat → Nat → Prop} {ln : sw_A} {ca : Nat → ClassId} {D : va_G} (hG : sw_wf ad V sw_rf ln) : sw_met l ad V sw_rf ln ca D yX6_streamToGrant cX6_streamToGrant 2 (some .int) { frames := 0, cells := 0, slots := 0, locals := 0 } 1 (fX6_streamToGrant ln) := by
  refine sw_meth hG (by decide) (by refine ⟨?_, ?_, ?_, ?_⟩ <;> intro h <;> first | rfl | exact ⟨_, rfl⟩ | exact absurd h (by decide)) (by decide) kX6_streamToGrant flX6_in cnX6_in ?_ (sw_fo_h (W := fun Q L σ => ∃ fuel, wX6_streamToGrant ln Q fuel 0 L [] σ) (fun a0 σ h => hX6_streamToGrant ln a0 σ h))
  intro p e s m args below meth c S hT hnw
  exact fun q h => absurd h List.not_mem_nil
theorem sd_sg_in {ln : sw_A} {s : Nat} {σ : sw_S} (hl : lo ln) : ∀ (d j : Nat), j + d = ln 14 s → ¬ sd_sg s σ d j = -2 → vp_in (sd_sg s σ d j) (ln 14 s)
  | 0, _, _, h => absurd rfl h
  | d + 1, j, hj, h => by
    unfold sd_sg at h ⊢
    split
    · rename_i z
      rw [if_pos z] at h
      exact sd_sg_in hl d (j + 1) (by omega) h
    · exact vp_in_nI (by omega) (hl.1 14 s)
def sd_ts (ln : sw_A) (s : Nat) (σ : sw_S) : Nat → Int32 → Int32
  | 0, _ => -2
  | d + 1, t => if fl_hs (8 * s + t.toNatClampNeg) σ = 0 then sd_ts ln s σ d (sd_sa ln s t) else t
def bb (σ : sw_S) : Prop := ∀ w, sw_bo (σ 1 w 8) ∧ sw_bo (σ 1 w 9)
def gX6_streamToSend (ln : sw_A) (s : Nat) (σ : sw_S) : sw_X := (lo ln ∧ vp_in (σ 6 s 7) (ln 14 s) ∧ bb σ, some (.inl (sd_ts ln s σ (ln 14 s) (σ 6 s 7))), σ)
def fX6_streamToSend (ln : sw_A) : sw_F := sw_fo 6 (gX6_streamToSend ln)
def ctX6_streamToSend (ln : sw_A) : sw_C := [(156, 2, 7, fX6_flowAt ln), (160, 1, 2, fX1_hasToSend ln), (163, 2, 7, fX6_streamAfter ln)]
abbrev wX6_streamToSend (ln : sw_A) (Q : Option sw_V → sw_S → Prop) : Nat → Nat → sw_L → List sw_V → sw_S → Prop := sw_wp sw_rf ln (ctX6_streamToSend ln) sX6_streamToSend 1 49 tX6_streamToSend Q
theorem hX6_streamToSend_l (ln : sw_A) (s n : Nat) (σ : sw_S) (X : sw_X) (hn : n < 2 ^ 31) (hl : lo ln) (hb : bb σ) (hz : ln 14 s = n) : ∀ (d j : Nat) (t : Int32) (x3 : Option sw_V), j + d = n → vp_in t (ln 14 s) → X.2 = (some (.inl (sd_ts ln s σ d t)), σ) → ∃ fuel, wX6_streamToSend ln (sw_end X) fuel 7 [some (.inr (some (6, s))), some (.inl t), some (.inl (nI j)), x3] [] σ := by
  intro d
  induction d with
  | zero =>
    intro j t x3 hj ht hX
    have hj : j = n := by omega
    subst hj
    refine ⟨20, And.intro (fun _ => ?_) (fun (h : ¬ nI (ln 14 s) ≤ nI j) => absurd (by rw [hz]; exact Int32.le_refl _) h)⟩
    show some _ = X.2.1 ∧ σ = X.2.2
    rw [hX]
    exact ⟨rfl, rfl⟩
  | succ d ih =>
    intro j t x3 hj ht hX
    have key : ∃ M, ∀ r, r = some (1, 8 * s + t.toNatClampNeg) → wX6_streamToSend ln (sw_end X) M 21 [some (.inr (some (6, s))), some (.inl t), some (.inl (nI j)), x3] [.inr r] σ := by
      by_cases h1 : fl_hs (8 * s + t.toNatClampNeg) σ = 0
      · obtain ⟨f, hf⟩ := ih (j + 1) (sd_sa ln s t) (some (.inr (some (1, 8 * s + t.toNatClampNeg)))) (by omega) (sd_sa_in hl ht) (by rw [hX]; exact congrArg (fun z => (some (Sum.inl z), σ)) (if_pos h1))
        rw [← nI_1] at hf
        refine ⟨f + 30, fun r hr => sw_ws_wp [7] f 30 _ _ _ _ ?_⟩
        subst hr
        exact And.intro (hb _).1 (And.intro (fun _ => And.intro trivial hf) (fun z => absurd h1 z))
      · refine ⟨30, fun r hr => ?_⟩
        subst hr
        refine And.intro (hb _).1 (And.intro (fun z => absurd z h1) (fun _ => ?_))
        show some _ = X.2.1 ∧ σ = X.2.2
        rw [hX]
        exact ⟨sw_ri (if_neg h1).symm, rfl⟩
    obtain ⟨M, key⟩ := key
    refine ⟨M + 20, sw_ws_wp [21] M 20 _ _ _ _ ?_⟩
    exact And.intro (fun (h : nI (ln 14 s) ≤ nI j) => absurd (by rw [← hz]; exact h) (nI_ge (a := j) (b := n) (by omega) hn)) (fun _ => And.intro (hl.1 14 s) (key _ (sd_fa_in hl ht)))
theorem hX6_streamToSend (ln : sw_A) (s : Nat) (σ : sw_S) (h : (gX6_streamToSend ln s σ).1) : ∃ fuel, wX6_streamToSend ln (sw_end (gX6_streamToSend ln s σ)) fuel 0 (sw_ent 4 [.inr (some (6, s))]) [] σ := by
  obtain ⟨f, hf⟩ := hX6_streamToSend_l ln s (ln 14 s) σ (gX6_streamToSend ln s σ) (h.1.1 14 s) h.1 h.2.2 rfl (ln 14 s) 0 (σ 6 s 7) none (by omega) h.2.1 rfl
  exact ⟨f + 10, sw_ws_wp [7] f 10 _ _ _ _ hf⟩
set_option maxRecDepth 100000 in
theorem mX6_streamToSend {l : Launch} {ad : sw_A} {V : Nat → Nat → Prop} {ln : sw_A} {ca : Nat → ClassId} {D : va_G} (hG : sw_wf ad V sw_rf ln) : sw_met l ad V sw_rf ln ca D yX6_streamToSend cX6_streamToSend 4 (some .int) { frames := 2, cells := 0, slots := 0, locals := 40 } 1 (fX6_streamToSend ln) := by
  refine sw_meth hG (by decide) (by refine ⟨?_, ?_, ?_, ?_⟩ <;> intro h <;> first | rfl | exact ⟨_, rfl⟩ | exact absurd h (by decide)) (by decide) kX6_streamToSend flX6_in cnX6_in ?_ (sw_fo_h (W := fun Q L σ => ∃ fuel, wX6_streamToSend ln Q fuel 0 L [] σ) (fun a0 σ h => hX6_streamToSend ln a0 σ h))
  intro p e s m args below meth c S hT hnw
  refine List.forall_mem_cons.mpr ⟨sw_cokV S hT hnw (mX6_flowAt hG) 156 6 (by decide) ⟨by decide +kernel, by decide +kernel, by decide +kernel, by decide +kernel, by decide +kernel⟩ ⟨rfl, by decide, by decide, by decide +kernel⟩ ⟨rfl, rfl⟩ ⟨by decide, by decide⟩, ?_⟩
  refine List.forall_mem_cons.mpr ⟨sw_cokV S hT hnw (mX1_hasToSend hG) 160 1 (by decide) ⟨by decide +kernel, by decide +kernel, by decide +kernel, by decide +kernel, by decide +kernel⟩ ⟨rfl, by decide, by decide, by decide +kernel⟩ ⟨rfl, rfl⟩ ⟨by decide, by decide⟩, ?_⟩
  refine List.forall_mem_cons.mpr ⟨sw_cokV S hT hnw (mX6_streamAfter hG) 163 6 (by decide) ⟨by decide +kernel, by decide +kernel, by decide +kernel, by decide +kernel, by decide +kernel⟩ ⟨rfl, by decide, by decide, by decide +kernel⟩ ⟨rfl, rfl⟩ ⟨by decide, by decide⟩, ?_⟩
  exact fun q h => absurd h List.not_mem_nil
theorem sd_ts_in {ln : sw_A} {s : Nat} {σ : sw_S} (hl : lo ln) : ∀ (d : Nat) (t : Int32), vp_in t (ln 14 s) → ¬ sd_ts ln s σ d t = -2 → vp_in (sd_ts ln s σ d t) (ln 14 s)
  | 0, _, _, h => absurd rfl h
  | d + 1, t, ht, h => by
    unfold sd_ts at h ⊢
    split
    · rename_i z
      rw [if_pos z] at h
      exact sd_ts_in hl d _ (sd_sa_in hl ht) h
    · exact ht
def sd_g1 (ln : sw_A) (s : Nat) (i : Int32) (σ : sw_S) : sw_S := (gX6_beginNumbered ln s 2 i 0 σ).2.2
def sd_g2 (ln : sw_A) (s : Nat) (i : Int32) (σ : sw_S) : sw_S := sw_up (gX2_put ln (128 + s) (sd_g1 ln s i σ 1 (8 * s + i.toNatClampNeg) 6) (sd_g1 ln s i σ)).2.2 1 (8 * s + i.toNatClampNeg) 6 0
def gX6_sendGrant (ln : sw_A) (s : Nat) (i : Int32) (σ : sw_S) : sw_X := (lo ln ∧ fg ln σ ∧ vp_in i (ln 14 s), none, sd_sn ln s (sd_g2 ln s i σ))
def fX6_sendGrant (ln : sw_A) : sw_F := sw_foi 6 (gX6_sendGrant ln)
def ctX6_sendGrant (ln : sw_A) : sw_C := [(156, 2, 7, fX6_flowAt ln), (167, 4, 7, fX6_beginNumbered ln), (171, 2, 3, fX2_put ln), (173, 1, 7, fX6_sendNumbered ln)]
abbrev wX6_sendGrant (ln : sw_A) (Q : Option sw_V → sw_S → Prop) : Nat → Nat → sw_L → List sw_V → sw_S → Prop := sw_wp sw_rf ln (ctX6_sendGrant ln) sX6_sendGrant 0 38 tX6_sendGrant Q
theorem sd_g1_go {ln : sw_A} {σ : sw_S} (hl : lo ln) (h : fg ln σ) (s : Nat) (i : Int32) : fg ln (sd_g1 ln s i σ) := (begin_go hl h _ _).2
theorem sd_g2_go {ln : sw_A} {σ : sw_S} (hl : lo ln) (h : fg ln σ) (s : Nat) (i : Int32) : fg ln (sd_g2 ln s i σ) := fg_upk (put_go hl (sd_g1_go hl h s i) _ _) (by decide)
theorem hX6_sendGrant (ln : sw_A) (s : Nat) (i : Int32) (σ : sw_S) (h : (gX6_sendGrant ln s i σ).1) : ∃ fuel, wX6_sendGrant ln (sw_end (gX6_sendGrant ln s i σ)) fuel 0 (sw_ent 3 [.inr (some (6, s)), .inl i]) [] σ := by
  obtain ⟨hl, hg, hi⟩ := h
  have key : ∃ M, ∀ r, r = some (1, 8 * s + i.toNatClampNeg) → wX6_sendGrant ln (sw_end (gX6_sendGrant ln s i σ)) M 5 [some (.inr (some (6, s))), some (.inl i), none] [.inr r] σ := by
    refine ⟨40, fun r hr => ?_⟩
    subst hr
    exact And.intro ⟨hl, hg⟩ (And.intro ⟨(sd_g1_go hl hg s i _).1, hl.1 12 _⟩ (And.intro ⟨hl, sd_g2_go hl hg s i⟩ ⟨rfl, rfl⟩))
  obtain ⟨M, key⟩ := key
  refine ⟨M + 10, sw_ws_wp [5] M 10 _ _ _ _ ?_⟩
  exact And.intro (hl.1 14 s) (key _ (sd_fa_in hl hi))
set_option maxRecDepth 100000 in
theorem mX6_sendGrant {l : Launch} {ad : sw_A} {V : Nat → Nat → Prop} {ln : sw_A} {ca : Nat → ClassId} {D : va_G} (hG : sw_wf ad V sw_rf ln) : sw_met l ad V sw_rf ln ca D yX6_sendGrant cX6_sendGrant 3 none { frames := 5, cells := 0, slots := 0, locals := 105 } 2 (fX6_sendGrant ln) := by
  refine sw_meth hG (by decide) (by refine ⟨?_, ?_, ?_, ?_⟩ <;> intro h <;> first | rfl | exact ⟨_, rfl⟩ | exact absurd h (by decide)) (by decide) kX6_sendGrant flX6_in cnX6_in ?_ (sw_foi_h (W := fun Q L σ => ∃ fuel, wX6_sendGrant ln Q fuel 0 L [] σ) (fun a0 a1 σ h => hX6_sendGrant ln a0 a1 σ h))
  intro p e s m args below meth c S hT hnw
  refine List.forall_mem_cons.mpr ⟨sw_cokV S hT hnw (mX6_flowAt hG) 156 6 (by decide) ⟨by decide +kernel, by decide +kernel, by decide +kernel, by decide +kernel, by decide +kernel⟩ ⟨rfl, by decide, by decide, by decide +kernel⟩ ⟨rfl, rfl⟩ ⟨by decide, by decide⟩, ?_⟩
  refine List.forall_mem_cons.mpr ⟨sw_cokV S hT hnw (mX6_beginNumbered hG) 167 6 (by decide) ⟨by decide +kernel, by decide +kernel, by decide +kernel, by decide +kernel, by decide +kernel⟩ ⟨rfl, by decide, by decide, by decide +kernel⟩ ⟨rfl, rfl⟩ ⟨by decide, by decide⟩, ?_⟩
  refine List.forall_mem_cons.mpr ⟨sw_cokV S hT hnw (mX2_put hG) 171 2 (by decide) ⟨by decide +kernel, by decide +kernel, by decide +kernel, by decide +kernel, by decide +kernel⟩ ⟨rfl, by decide, by decide, by decide +kernel⟩ ⟨rfl, rfl⟩ ⟨by decide, by decide⟩, ?_⟩
  refine List.forall_mem_cons.mpr ⟨sw_cokV S hT hnw (mX6_sendNumbered hG) 173 6 (by decide) ⟨by decide +kernel, by decide +kernel, by decide +kernel, by decide +kernel, by decide +kernel⟩ ⟨rfl, by decide, by decide, by decide +kernel⟩ ⟨rfl, rfl⟩ ⟨by decide, by decide⟩, ?_⟩
  exact fun q h => absurd h List.not_mem_nil
end
section
/-! Side: data, turns, the next frame -/
def sd_m (w : Nat) (σ : sw_S) : Int32 := if σ 1 w 5 < σ 5 (2 * w) 3 then σ 1 w 5 else σ 5 (2 * w) 3
def sd_cn (w : Nat) (σ : sw_S) : Int32 := if sd_m w σ < σ 4 0 1 then sd_m w σ else σ 4 0 1
def sd_e0 (ln : sw_A) (s w : Nat) (i : Int32) (σ : sw_S) : sw_S := (gX2_put ln (128 + s) 0 (gX6_beginNumbered ln s 1 i (sd_cn w σ) σ).2.2).2.2
def sd_e1 (ln : sw_A) (s w j : Nat) (a : sw_S) : sw_S := if qu_om ln (2 * w) a = 0 then a else (gX2_flip ln (128 + s) 1 ((1 : Int32) <<< (nI j &&& 31)) a).2.2
def sd_e2 (ln : sw_A) (s w : Nat) (a : sw_S) : sw_S := qu_do ln (2 * w) (gX2_put ln (128 + s) (qu_ow ln (2 * w) a) a).2.2
def sd_dl (ln : sw_A) (s w : Nat) : Nat → sw_S → sw_S
  | 0, σ => σ
  | n + 1, σ => sd_e2 ln s w (sd_e1 ln s w n (sd_dl ln s w n σ))
def sd_dz (w : Nat) (c : Int32) (a : sw_S) : sw_S := sw_up a 1 w 5 (a 1 w 5 - c)
def sd_dd (ln : sw_A) (s w : Nat) (i : Int32) (σ : sw_S) : sw_S := sd_dz w (sd_cn w σ) (sd_dl ln s w (sd_cn w σ).toNatClampNeg (sd_e0 ln s w i σ))
def gX6_draftData (ln : sw_A) (s w : Nat) (i : Int32) (σ : sw_S) : sw_X := (lo ln ∧ fg ln σ ∧ 0 ≤ sd_cn w σ, none, sd_dd ln s w i σ)
def fX6_draftData (ln : sw_A) : sw_F := sw_fooi 6 1 (gX6_draftData ln)
def ctX6_draftData (ln : sw_A) : sw_C := [(92, 1, 6, fX5_size ln), (201, 2, 0, sw_min), (167, 4, 7, fX6_beginNumbered ln), (171, 2, 3, fX2_put ln), (99, 1, 6, fX5_oldestIsMark ln), (204, 3, 3, fX2_flip ln), (102, 1, 6, fX5_oldestWord ln), (208, 1, 6, fX5_dropOldest ln)]
abbrev wX6_draftData (ln : sw_A) (Q : Option sw_V → sw_S → Prop) : Nat → Nat → sw_L → List sw_V → sw_S → Prop := sw_wp sw_rf ln (ctX6_draftData ln) sX6_draftData 0 109 tX6_draftData Q
theorem qu_do_go {ln : sw_A} {σ : sw_S} (h : fg ln σ) (q : Nat) : fg ln (qu_do ln q σ) := fg_eq h (fun k => qu_do_k ln q σ (by decide) (by decide) (by decide) k 1)
theorem sd_e1_go {ln : sw_A} {a : sw_S} (h : fg ln a) (s w j : Nat) : fg ln (sd_e1 ln s w j a) := by
  unfold sd_e1
  split
  · exact h
  · exact flip_go h _ _ _
theorem sd_e2_go {ln : sw_A} {a : sw_S} (hl : lo ln) (h : fg ln a) (s w : Nat) : fg ln (sd_e2 ln s w a) := qu_do_go (put_go hl h _ _) _
theorem sd_dl_go {ln : sw_A} (hl : lo ln) (s w : Nat) : ∀ (n : Nat) (a : sw_S), fg ln a → fg ln (sd_dl ln s w n a)
  | 0, _, h => h
  | n + 1, a, h => sd_e2_go hl (sd_e1_go (sd_dl_go hl s w n a h) s w n) s w
theorem sd_e0_go {ln : sw_A} {σ : sw_S} (hl : lo ln) (h : fg ln σ) (s w : Nat) (i : Int32) : fg ln (gX6_beginNumbered ln s 1 i (sd_cn w σ) σ).2.2 ∧ fg ln (sd_e0 ln s w i σ) := ⟨(begin_go hl h _ _).2, put_go hl (begin_go hl h _ _).2 _ _⟩
theorem hX6_draftData_l (ln : sw_A) (s w n : Nat) (i : Int32) (σ : sw_S) (X : sw_X) (hn : n < 2 ^ 31) (hl : lo ln) (hg : fg ln σ) (hX : X.2 = (none, sd_dz w (nI n) (sd_dl ln s w n σ))) : ∀ (d j : Nat), j + d = n → ∃ fuel, wX6_draftData ln (sw_end X) fuel 43 [some (.inr (some (6, s))), some (.inr (some (1, w))), some (.inl i), some (.inl (nI n)), some (.inl (nI j))] [] (sd_dl ln s w j σ) := by
  intro d
  induction d with
  | zero =>
    intro j hj
    have hj : j = n := by omega
    subst hj
    refine ⟨20, And.intro (fun _ => ?_) (fun (h : ¬ nI j ≤ nI j) => absurd (Int32.le_refl _) h)⟩
    show none = X.2.1 ∧ sd_dz w (nI j) (sd_dl ln s w j σ) = X.2.2
    rw [hX]
    exact ⟨rfl, rfl⟩
  | succ d ih =>
    intro j hj
    have hgj := sd_dl_go hl s w j σ hg
    have hg1 := sd_e1_go hgj s w j
    have hce := hl.ce ((2 * w) / 16)
    obtain ⟨f, hf⟩ := ih (j + 1) (by omega)
    rw [← nI_1] at hf
    have key : ∃ M, ∀ a, a = sd_e1 ln s w j (sd_dl ln s w j σ) → wX6_draftData ln (sw_end X) M 72 [some (.inr (some (6, s))), some (.inr (some (1, w))), some (.inl i), some (.inl (nI n)), some (.inl (nI j))] [] a := by
      refine ⟨f + 30, fun a ha => sw_ws_wp [43] f 30 _ _ _ _ ?_⟩
      subst ha
      exact And.intro hce (And.intro ⟨(hg1 _).1, hl.1 12 _⟩ (And.intro hce hf))
    obtain ⟨M, key⟩ := key
    refine ⟨M + 30, sw_ws_wp [72] M 30 _ _ _ _ ?_⟩
    refine And.intro (fun (h : nI n ≤ nI j) => absurd h (nI_ge (a := j) (b := n) (by omega) hn)) (fun _ => And.intro hce (And.intro (fun (h1 : qu_om ln (2 * w) (sd_dl ln s w j σ) = 0) => ?_) (fun (h1 : ¬ qu_om ln (2 * w) (sd_dl ln s w j σ) = 0) => And.intro (hgj.ok hl _) ?_)))
    · exact key _ (if_pos h1).symm
    · exact key _ (if_neg h1).symm
theorem hX6_draftData (ln : sw_A) (s w : Nat) (i : Int32) (σ : sw_S) (h : (gX6_draftData ln s w i σ).1) : ∃ fuel, wX6_draftData ln (sw_end (gX6_draftData ln s w i σ)) fuel 0 (sw_ent 5 [.inr (some (6, s)), .inr (some (1, w)), .inl i]) [] σ := by
  obtain ⟨hl, hg, hc⟩ := h
  obtain ⟨n, hn, hcn⟩ := nI_of (Int32.not_lt.mpr hc)
  have he := sd_e0_go hl hg s w i
  obtain ⟨f, hf⟩ := hX6_draftData_l ln s w n i (sd_e0 ln s w i σ) (gX6_draftData ln s w i σ) hn hl he.2 (by
    show (none, sd_dz w (sd_cn w σ) (sd_dl ln s w (sd_cn w σ).toNatClampNeg (sd_e0 ln s w i σ))) = _
    rw [hcn, nI_clamp hn]) n 0 (by omega)
  rw [← hcn] at hf
  refine ⟨f + 40, sw_ws_wp [43] f 40 _ _ _ _ ?_⟩
  exact And.intro trivial (And.intro trivial (And.intro trivial (And.intro ⟨hl, hg⟩ (And.intro ⟨(he.1 _).1, hl.1 12 _⟩ hf))))
set_option maxRecDepth 100000 in
theorem mX6_draftData {l : Launch} {ad : sw_A} {V : Nat → Nat → Prop} {ln : sw_A} {ca : Nat → ClassId} {D : va_G} (hG : sw_wf ad V sw_rf ln) : sw_met l ad V sw_rf ln ca D yX6_draftData cX6_draftData 5 none { frames := 3, cells := 0, slots := 0, locals := 66 } 3 (fX6_draftData ln) := by
  refine sw_meth hG (by decide) (by refine ⟨?_, ?_, ?_, ?_⟩ <;> intro h <;> first | rfl | exact ⟨_, rfl⟩ | exact absurd h (by decide)) (by decide) kX6_draftData flX6_in cnX6_in ?_ (sw_fooi_h (W := fun Q L σ => ∃ fuel, wX6_draftData ln Q fuel 0 L [] σ) (fun a0 a1 a2 σ h => hX6_draftData ln a0 a1 a2 σ h))
  intro p e s m args below meth c S hT hnw
  refine List.forall_mem_cons.mpr ⟨sw_cokV S hT hnw (mX5_size hG) 92 5 (by decide) ⟨by decide +kernel, by decide +kernel, by decide +kernel, by decide +kernel, by decide +kernel⟩ ⟨rfl, by decide, by decide, by decide +kernel⟩ ⟨rfl, rfl⟩ ⟨by decide, by decide⟩, ?_⟩
  refine List.forall_mem_cons.mpr ⟨sw_cokM S 201 (by decide +kernel) ⟨by decide, by decide⟩, ?_⟩
  refine List.forall_mem_cons.mpr ⟨sw_cokV S hT hnw (mX6_beginNumbered hG) 167 6 (by decide) ⟨by decide +kernel, by decide +kernel, by decide +kernel, by decide +kernel, by decide +kernel⟩ ⟨rfl, by decide, by decide, by decide +kernel⟩ ⟨rfl, rfl⟩ ⟨by decide, by decide⟩, ?_⟩
  refine List.forall_mem_cons.mpr ⟨sw_cokV S hT hnw (mX2_put hG) 171 2 (by decide) ⟨by decide +kernel, by decide +kernel, by decide +kernel, by decide +kernel, by decide +kernel⟩ ⟨rfl, by decide, by decide, by decide +kernel⟩ ⟨rfl, rfl⟩ ⟨by decide, by decide⟩, ?_⟩
  refine List.forall_mem_cons.mpr ⟨sw_cokV S hT hnw (mX5_oldestIsMark hG) 99 5 (by decide) ⟨by decide +kernel, by decide +kernel, by decide +kernel, by decide +kernel, by decide +kernel⟩ ⟨rfl, by decide, by decide, by decide +kernel⟩ ⟨rfl, rfl⟩ ⟨by decide, by decide⟩, ?_⟩
  refine List.forall_mem_cons.mpr ⟨sw_cokV S hT hnw (mX2_flip hG) 204 2 (by decide) ⟨by decide +kernel, by decide +kernel, by decide +kernel, by decide +kernel, by decide +kernel⟩ ⟨rfl, by decide, by decide, by decide +kernel⟩ ⟨rfl, rfl⟩ ⟨by decide, by decide⟩, ?_⟩
  refine List.forall_mem_cons.mpr ⟨sw_cokV S hT hnw (mX5_oldestWord hG) 102 5 (by decide) ⟨by decide +kernel, by decide +kernel, by decide +kernel, by decide +kernel, by decide +kernel⟩ ⟨rfl, by decide, by decide, by decide +kernel⟩ ⟨rfl, rfl⟩ ⟨by decide, by decide⟩, ?_⟩
  refine List.forall_mem_cons.mpr ⟨sw_cokV S hT hnw (mX5_dropOldest hG) 208 5 (by decide) ⟨by decide +kernel, by decide +kernel, by decide +kernel, by decide +kernel, by decide +kernel⟩ ⟨rfl, by decide, by decide, by decide +kernel⟩ ⟨rfl, rfl⟩ ⟨by decide, by decide⟩, ?_⟩
  exact fun q h => absurd h List.not_mem_nil
theorem sd_dl_6 (ln : sw_A) (s w : Nat) (k' j' : Nat) : ∀ (n : Nat) (a : sw_S), sd_dl ln s w n a 6 k' j' = a 6 k' j'
  | 0, _ => rfl
  | n + 1, a => by
    show sd_e2 ln s w (sd_e1 ln s w n (sd_dl ln s w n a)) 6 k' j' = _
    unfold sd_e2
    rw [qu_do_k ln _ _ (by decide) (by decide) (by decide), put_k ln _ _ _ (by decide) (by decide)]
    unfold sd_e1
    split
    · exact sd_dl_6 ln s w k' j' n a
    · rw [flip_k ln _ _ _ _ (by decide)]
      exact sd_dl_6 ln s w k' j' n a
theorem sd_dd_6 (ln : sw_A) (s w : Nat) (i : Int32) (σ : sw_S) (k' j' : Nat) : sd_dd ln s w i σ 6 k' j' = σ 6 k' j' := by
  unfold sd_dd sd_dz
  rw [sw_upk _ (by decide), sd_dl_6]
  exact (put_k ln _ _ _ (by decide) (by decide) k' j').trans (begin_k ln _ _ σ (by decide) (by decide) k' j')
theorem sd_dd_go {ln : sw_A} {σ : sw_S} (hl : lo ln) (h : fg ln σ) (s w : Nat) (i : Int32) : fg ln (sd_dd ln s w i σ) := fg_upk (sd_dl_go hl s w _ _ (sd_e0_go hl h s w i).2) (by decide)
def sd_b0 (s : Nat) (i : Int32) (σ : sw_S) : sw_S := if i = σ 6 s 7 then σ else sd_bt s i σ
def sd_b1 (ln : sw_A) (s w : Nat) (i : Int32) (a : sw_S) : sw_S := if a 1 w 7 = 0 then (if a 5 (2 * w) 3 ≤ 0 then sw_up (gX6_beginNumbered ln s 4 i 0 a).2.2 1 w 8 0 else sd_dd ln s w i a) else sw_up (gX6_beginNumbered ln s 3 i 0 a).2.2 1 w 7 0
def sd_it (ln : sw_A) (s : Nat) (i : Int32) (σ : sw_S) : sw_S := sd_ct ln s (sd_sn ln s (sd_b1 ln s (8 * s + i.toNatClampNeg) i (sd_b0 s i σ)))
def gX6_sendInTurn (ln : sw_A) (s : Nat) (i : Int32) (σ : sw_S) : sw_X := (lo ln ∧ fg ln σ ∧ vp_in i (ln 14 s) ∧ vp_in (σ 6 s 7) (ln 14 s) ∧ 0 ≤ sd_cn (8 * s + i.toNatClampNeg) σ, none, sd_it ln s i σ)
def fX6_sendInTurn (ln : sw_A) : sw_F := sw_foi 6 (gX6_sendInTurn ln)
def ctX6_sendInTurn (ln : sw_A) : sw_C := [(156, 2, 7, fX6_flowAt ln), (176, 2, 7, fX6_beginTurn ln), (167, 4, 7, fX6_beginNumbered ln), (92, 1, 6, fX5_size ln), (182, 3, 7, fX6_draftData ln), (173, 1, 7, fX6_sendNumbered ln), (189, 1, 7, fX6_countTurn ln)]
abbrev wX6_sendInTurn (ln : sw_A) (Q : Option sw_V → sw_S → Prop) : Nat → Nat → sw_L → List sw_V → sw_S → Prop := sw_wp sw_rf ln (ctX6_sendInTurn ln) sX6_sendInTurn 0 85 tX6_sendInTurn Q
theorem hX6_sendInTurn (ln : sw_A) (s : Nat) (i : Int32) (σ : sw_S) (h : (gX6_sendInTurn ln s i σ).1) : ∃ fuel, wX6_sendInTurn ln (sw_end (gX6_sendInTurn ln s i σ)) fuel 0 (sw_ent 3 [.inr (some (6, s)), .inl i]) [] σ := by
  obtain ⟨hl, hg, hi, ht, hc⟩ := h
  obtain ⟨w, hw⟩ : ∃ w, w = 8 * s + i.toNatClampNeg := ⟨_, rfl⟩
  rw [← hw] at hc
  have k77 : ∃ M, ∀ b, fg ln b → vp_in (b 6 s 7) (ln 14 s) → b = sd_b1 ln s w i (sd_b0 s i σ) → wX6_sendInTurn ln (sw_end (gX6_sendInTurn ln s i σ)) M 77 [some (.inr (some (6, s))), some (.inl i), some (.inr (some (1, w)))] [] b := by
    refine ⟨20, fun b h1 h2 h3 => ?_⟩
    refine And.intro ⟨hl, h1⟩ (And.intro ⟨hl, ?_⟩ ⟨rfl, ?_⟩)
    · show vp_in (sd_sn ln s b 6 s 7) (ln 14 s)
      rw [sd_sn_6 ln s b s (by decide) (by decide)]
      exact h2
    · show sd_ct ln s (sd_sn ln s b) = sd_it ln s i σ
      rw [h3, hw]
      rfl
  obtain ⟨M, k77⟩ := k77
  have k24 : ∃ M, ∀ b, fg ln b → vp_in (b 6 s 7) (ln 14 s) → 0 ≤ sd_cn w b → b = sd_b0 s i σ → wX6_sendInTurn ln (sw_end (gX6_sendInTurn ln s i σ)) M 24 [some (.inr (some (6, s))), some (.inl i), some (.inr (some (1, w)))] [] b := by
    refine ⟨M + 30, fun b h1 h2 h3 h4 => sw_ws_wp [77] M 30 _ _ _ _ ?_⟩
    refine And.intro (fun (a1 : b 1 w 7 = 0) => And.intro trivial (And.intro (fun (a2 : b 5 (2 * w) 3 ≤ 0) => And.intro ⟨hl, h1⟩ (And.intro (Or.inl rfl) (k77 _ ?_ ?_ ?_))) (fun (a2 : ¬ b 5 (2 * w) 3 ≤ 0) => And.intro ⟨hl, h1, h3⟩ (k77 _ ?_ ?_ ?_)))) (fun (a1 : ¬ b 1 w 7 = 0) => And.intro ⟨hl, h1⟩ (And.intro (Or.inl rfl) (k77 _ ?_ ?_ ?_)))
    · exact fg_upk (begin_go hl h1 _ _).2 (by decide)
    · show vp_in (sw_up (gX6_beginNumbered ln s 4 i 0 b).2.2 1 w 8 0 6 s 7) (ln 14 s)
      rw [sw_upk _ (by decide), show (gX6_beginNumbered ln s 4 i 0 b).2.2 6 s 7 = b 6 s 7 from begin_k ln _ _ b (by decide) (by decide) s 7]
      exact h2
    · rw [← h4]
      unfold sd_b1
      rw [if_pos a1, if_pos a2]
      rfl
    · exact sd_dd_go hl h1 s w i
    · show vp_in (sd_dd ln s w i b 6 s 7) (ln 14 s)
      rw [sd_dd_6]
      exact h2
    · rw [← h4]
      unfold sd_b1
      rw [if_pos a1, if_neg a2]
      rfl
    · exact fg_upk (begin_go hl h1 _ _).2 (by decide)
    · show vp_in (sw_up (gX6_beginNumbered ln s 3 i 0 b).2.2 1 w 7 0 6 s 7) (ln 14 s)
      rw [sw_upk _ (by decide), show (gX6_beginNumbered ln s 3 i 0 b).2.2 6 s 7 = b 6 s 7 from begin_k ln _ _ b (by decide) (by decide) s 7]
      exact h2
    · rw [← h4]
      unfold sd_b1
      rw [if_neg a1]
      rfl
  obtain ⟨M2, k24⟩ := k24
  have k5 : ∃ M, ∀ r, r = some (1, w) → wX6_sendInTurn ln (sw_end (gX6_sendInTurn ln s i σ)) M 5 [some (.inr (some (6, s))), some (.inl i), none] [.inr r] σ := by
    refine ⟨M2 + 20, fun r hr => sw_ws_wp [24] M2 20 _ _ _ _ ?_⟩
    subst hr
    refine And.intro (fun (a1 : i = σ 6 s 7) => k24 _ hg ht hc (if_pos a1).symm) (fun (a1 : ¬ i = σ 6 s 7) => And.intro ⟨hl, hi⟩ (k24 _ ?_ ?_ ?_ ?_))
    · exact fg_upk (fg_upk hg (by decide)) (by decide)
    · show vp_in (sd_bt s i σ 6 s 7) (ln 14 s)
      unfold sd_bt
      rw [sw_upj _ (by decide), sw_upe]
      exact hi
    · show 0 ≤ sd_cn w (sd_bt s i σ)
      have e : ∀ c k j, ¬ c = 6 → sd_bt s i σ c k j = σ c k j := fun c k j z => (sw_upk _ z).trans (sw_upk _ z)
      unfold sd_cn sd_m
      rw [e 1 w 5 (by decide), e 5 (2 * w) 3 (by decide), e 4 0 1 (by decide)]
      exact hc
    · exact (if_neg a1).symm
  obtain ⟨M3, k5⟩ := k5
  refine ⟨M3 + 10, sw_ws_wp [5] M3 10 _ _ _ _ ?_⟩
  exact And.intro (hl.1 14 s) (k5 _ (by rw [hw]; exact sd_fa_in hl hi))
set_option maxRecDepth 100000 in
theorem mX6_sendInTurn {l : Launch} {ad : sw_A} {V : Nat → Nat → Prop} {ln : sw_A} {ca : Nat → ClassId} {D : va_G} (hG : sw_wf ad V sw_rf ln) : sw_met l ad V sw_rf ln ca D yX6_sendInTurn cX6_sendInTurn 3 none { frames := 5, cells := 0, slots := 0, locals := 105 } 2 (fX6_sendInTurn ln) := by
  refine sw_meth hG (by decide) (by refine ⟨?_, ?_, ?_, ?_⟩ <;> intro h <;> first | rfl | exact ⟨_, rfl⟩ | exact absurd h (by decide)) (by decide) kX6_sendInTurn flX6_in cnX6_in ?_ (sw_foi_h (W := fun Q L σ => ∃ fuel, wX6_sendInTurn ln Q fuel 0 L [] σ) (fun a0 a1 σ h => hX6_sendInTurn ln a0 a1 σ h))
  intro p e s m args below meth c S hT hnw
  refine List.forall_mem_cons.mpr ⟨sw_cokV S hT hnw (mX6_flowAt hG) 156 6 (by decide) ⟨by decide +kernel, by decide +kernel, by decide +kernel, by decide +kernel, by decide +kernel⟩ ⟨rfl, by decide, by decide, by decide +kernel⟩ ⟨rfl, rfl⟩ ⟨by decide, by decide⟩, ?_⟩
  refine List.forall_mem_cons.mpr ⟨sw_cokV S hT hnw (mX6_beginTurn hG) 176 6 (by decide) ⟨by decide +kernel, by decide +kernel, by decide +kernel, by decide +kernel, by decide +kernel⟩ ⟨rfl, by decide, by decide, by decide +kernel⟩ ⟨rfl, rfl⟩ ⟨by decide, by decide⟩, ?_⟩
  refine List.forall_mem_cons.mpr ⟨sw_cokV S hT hnw (mX6_beginNumbered hG) 167 6 (by decide) ⟨by decide +kernel, by decide +kernel, by decide +kernel, by decide +kernel, by decide +kernel⟩ ⟨rfl, by decide, by decide, by decide +kernel⟩ ⟨rfl, rfl⟩ ⟨by decide, by decide⟩, ?_⟩
  refine List.forall_mem_cons.mpr ⟨sw_cokV S hT hnw (mX5_size hG) 92 5 (by decide) ⟨by decide +kernel, by decide +kernel, by decide +kernel, by decide +kernel, by decide +kernel⟩ ⟨rfl, by decide, by decide, by decide +kernel⟩ ⟨rfl, rfl⟩ ⟨by decide, by decide⟩, ?_⟩
  refine List.forall_mem_cons.mpr ⟨sw_cokV S hT hnw (mX6_draftData hG) 182 6 (by decide) ⟨by decide +kernel, by decide +kernel, by decide +kernel, by decide +kernel, by decide +kernel⟩ ⟨rfl, by decide, by decide, by decide +kernel⟩ ⟨rfl, rfl⟩ ⟨by decide, by decide⟩, ?_⟩
  refine List.forall_mem_cons.mpr ⟨sw_cokV S hT hnw (mX6_sendNumbered hG) 173 6 (by decide) ⟨by decide +kernel, by decide +kernel, by decide +kernel, by decide +kernel, by decide +kernel⟩ ⟨rfl, by decide, by decide, by decide +kernel⟩ ⟨rfl, rfl⟩ ⟨by decide, by decide⟩, ?_⟩
  refine List.forall_mem_cons.mpr ⟨sw_cokV S hT hnw (mX6_countTurn hG) 189 6 (by decide) ⟨by decide +kernel, by decide +kernel, by decide +kernel, by decide +kernel, by decide +kernel⟩ ⟨rfl, by decide, by decide, by decide +kernel⟩ ⟨rfl, rfl⟩ ⟨by decide, by decide⟩, ?_⟩
  exact fun q h => absurd h List.not_mem_nil
def sd_na (ln : sw_A) (s : Nat) (σ : sw_S) : Int32 × sw_S := if σ 6 s 9 = 0 then (0, σ) else (50, sd_ak ln s σ)
def sd_np (ln : sw_A) (s : Nat) (σ : sw_S) : Int32 × sw_S :=
  if rg_ro ln (2 * s + 1) σ = 0 then (0, σ) else if rg_ro ln (2 * s) σ = 0 then sd_na ln s σ
  else if sd_sg s σ (ln 14 s) 0 = -2 then (if sd_ts ln s σ (ln 14 s) (σ 6 s 7) = -2 then sd_na ln s σ else (1 + sd_ts ln s σ (ln 14 s) (σ 6 s 7), sd_it ln s (sd_ts ln s σ (ln 14 s) (σ 6 s 7)) σ))
  else (1 + sd_sg s σ (ln 14 s) 0, sd_sn ln s (sd_g2 ln s (sd_sg s σ (ln 14 s) 0) σ))
def gX6_sendNext (ln : sw_A) (s : Nat) (σ : sw_S) : sw_X := (lo ln ∧ fg ln σ ∧ bb σ ∧ vp_in (σ 6 s 7) (ln 14 s) ∧ ∀ w, 0 ≤ sd_cn w σ, some (.inl (sd_np ln s σ).1), (sd_np ln s σ).2)
def fX6_sendNext (ln : sw_A) : sw_F := sw_fo 6 (gX6_sendNext ln)
def ctX6_sendNext (ln : sw_A) : sw_C := [(128, 1, 4, fX3_hasRoom ln), (131, 1, 7, fX6_streamToGrant ln), (134, 2, 7, fX6_sendGrant ln), (137, 1, 7, fX6_streamToSend ln), (140, 2, 7, fX6_sendInTurn ln), (147, 1, 7, fX6_sendAck ln)]
abbrev wX6_sendNext (ln : sw_A) (Q : Option sw_V → sw_S → Prop) : Nat → Nat → sw_L → List sw_V → sw_S → Prop := sw_wp sw_rf ln (ctX6_sendNext ln) sX6_sendNext 1 77 tX6_sendNext Q
theorem hX6_sendNext (ln : sw_A) (s : Nat) (σ : sw_S) (h : (gX6_sendNext ln s σ).1) : ∃ fuel, wX6_sendNext ln (sw_end (gX6_sendNext ln s σ)) fuel 0 (sw_ent 3 [.inr (some (6, s))]) [] σ := by
  obtain ⟨hl, hg, hb, ht, hc⟩ := h
  have k62 : ∃ M, ∀ x1 x2, sd_np ln s σ = sd_na ln s σ → wX6_sendNext ln (sw_end (gX6_sendNext ln s σ)) M 62 [some (.inr (some (6, s))), x1, x2] [] σ := by
    refine ⟨20, fun x1 x2 hp => ?_⟩
    refine And.intro (fun (a1 : ¬ σ 6 s 9 = 0) => And.intro ⟨hl, hg⟩ ?_) (fun (a1 : σ 6 s 9 = 0) => ?_)
    · show some (Sum.inl 50) = some (Sum.inl (sd_np ln s σ).1) ∧ sd_ak ln s σ = (sd_np ln s σ).2
      rw [hp]
      unfold sd_na
      rw [if_neg a1]
      exact ⟨rfl, rfl⟩
    · show some (Sum.inl 0) = some (Sum.inl (sd_np ln s σ).1) ∧ σ = (sd_np ln s σ).2
      rw [hp]
      unfold sd_na
      rw [if_pos a1]
      exact ⟨rfl, rfl⟩
  obtain ⟨M, k62⟩ := k62
  refine ⟨M + 50, sw_ws_wp [62] M 50 _ _ _ _ ?_⟩
  refine And.intro trivial (And.intro (fun (a1 : ¬ rg_ro ln (2 * s + 1) σ = 0) => And.intro trivial (And.intro (fun (a2 : rg_ro ln (2 * s) σ = 0) => k62 _ _ ?_) (fun (a2 : ¬ rg_ro ln (2 * s) σ = 0) => And.intro hl (And.intro (fun (a3 : sd_sg s σ (ln 14 s) 0 = -2) => And.intro ⟨hl, ht, hb⟩ (And.intro (fun (a4 : sd_ts ln s σ (ln 14 s) (σ 6 s 7) = -2) => k62 _ _ ?_) (fun (a4 : ¬ sd_ts ln s σ (ln 14 s) (σ 6 s 7) = -2) => And.intro ⟨hl, hg, sd_ts_in hl _ _ ht a4, ht, hc _⟩ ?_))) (fun (a3 : ¬ sd_sg s σ (ln 14 s) 0 = -2) => And.intro ⟨hl, hg, sd_sg_in hl _ _ (by omega) a3⟩ ?_))))) (fun (a1 : rg_ro ln (2 * s + 1) σ = 0) => ?_))
  · unfold sd_np
    rw [if_neg a1, if_pos a2]
  · unfold sd_np
    rw [if_neg a1, if_neg a2, if_pos a3, if_pos a4]
  · show some (Sum.inl (1 + sd_ts ln s σ (ln 14 s) (σ 6 s 7))) = some (Sum.inl (sd_np ln s σ).1) ∧ sd_it ln s (sd_ts ln s σ (ln 14 s) (σ 6 s 7)) σ = (sd_np ln s σ).2
    unfold sd_np
    rw [if_neg a1, if_neg a2, if_pos a3, if_neg a4]
    exact ⟨rfl, rfl⟩
  · show some (Sum.inl (1 + sd_sg s σ (ln 14 s) 0)) = some (Sum.inl (sd_np ln s σ).1) ∧ sd_sn ln s (sd_g2 ln s (sd_sg s σ (ln 14 s) 0) σ) = (sd_np ln s σ).2
    unfold sd_np
    rw [if_neg a1, if_neg a2, if_neg a3]
    exact ⟨rfl, rfl⟩
  · show some (Sum.inl 0) = some (Sum.inl (sd_np ln s σ).1) ∧ σ = (sd_np ln s σ).2
    unfold sd_np
    rw [if_pos a1]
    exact ⟨rfl, rfl⟩
set_option maxRecDepth 100000 in
theorem mX6_sendNext {l : Launch} {ad : sw_A} {V : Nat → Nat → Prop} {ln : sw_A} {ca : Nat → ClassId} {D : va_G} (hG : sw_wf ad V sw_rf ln) : sw_met l ad V sw_rf ln ca D yX6_sendNext cX6_sendNext 3 (some .int) { frames := 6, cells := 0, slots := 0, locals := 127 } 1 (fX6_sendNext ln) := by
  refine sw_meth hG (by decide) (by refine ⟨?_, ?_, ?_, ?_⟩ <;> intro h <;> first | rfl | exact ⟨_, rfl⟩ | exact absurd h (by decide)) (by decide) kX6_sendNext flX6_in cnX6_in ?_ (sw_fo_h (W := fun Q L σ => ∃ fuel, wX6_sendNext ln Q fuel 0 L [] σ) (fun a0 σ h => hX6_sendNext ln a0 σ h))
  intro p e s m args below meth c S hT hnw
  refine List.forall_mem_cons.mpr ⟨sw_cokV S hT hnw (mX3_hasRoom hG) 128 3 (by decide) ⟨by decide +kernel, by decide +kernel, by decide +kernel, by decide +kernel, by decide +kernel⟩ ⟨rfl, by decide, by decide, by decide +kernel⟩ ⟨rfl, rfl⟩ ⟨by decide, by decide⟩, ?_⟩
  refine List.forall_mem_cons.mpr ⟨sw_cokV S hT hnw (mX6_streamToGrant hG) 131 6 (by decide) ⟨by decide +kernel, by decide +kernel, by decide +kernel, by decide +kernel, by decide +kernel⟩ ⟨rfl, by decide, by decide, by decide +kernel⟩ ⟨rfl, rfl⟩ ⟨by decide, by decide⟩, ?_⟩
  refine List.forall_mem_cons.mpr ⟨sw_cokV S hT hnw (mX6_sendGrant hG) 134 6 (by decide) ⟨by decide +kernel, by decide +kernel, by decide +kernel, by decide +kernel, by decide +kernel⟩ ⟨rfl, by decide, by decide, by decide +kernel⟩ ⟨rfl, rfl⟩ ⟨by decide, by decide⟩, ?_⟩
  refine List.forall_mem_cons.mpr ⟨sw_cokV S hT hnw (mX6_streamToSend hG) 137 6 (by decide) ⟨by decide +kernel, by decide +kernel, by decide +kernel, by decide +kernel, by decide +kernel⟩ ⟨rfl, by decide, by decide, by decide +kernel⟩ ⟨rfl, rfl⟩ ⟨by decide, by decide⟩, ?_⟩
  refine List.forall_mem_cons.mpr ⟨sw_cokV S hT hnw (mX6_sendInTurn hG) 140 6 (by decide) ⟨by decide +kernel, by decide +kernel, by decide +kernel, by decide +kernel, by decide +kernel⟩ ⟨rfl, by decide, by decide, by decide +kernel⟩ ⟨rfl, rfl⟩ ⟨by decide, by decide⟩, ?_⟩
  refine List.forall_mem_cons.mpr ⟨sw_cokV S hT hnw (mX6_sendAck hG) 147 6 (by decide) ⟨by decide +kernel, by decide +kernel, by decide +kernel, by decide +kernel, by decide +kernel⟩ ⟨rfl, by decide, by decide, by decide +kernel⟩ ⟨rfl, rfl⟩ ⟨by decide, by decide⟩, ?_⟩
  exact fun q h => absurd h List.not_mem_nil
end
section
/-! Side: settling, meeting, sending again, telling -/
def sd_dr (ln : sw_A) (r : Nat) : Nat → sw_S → sw_S
  | 0, σ => σ
  | n + 1, σ => (gX3_dropFirst ln r (sd_dr ln r n σ)).2.2
theorem drop_k (ln : sw_A) (r : Nat) (σ : sw_S) {c : Nat} (h3 : ¬ c = 3) (k' j' : Nat) : (gX3_dropFirst ln r σ).2.2 c k' j' = σ c k' j' := by
  show (if σ 3 r 2 = 0 then σ else rg_df ln r σ) c k' j' = _
  split
  · rfl
  · unfold rg_df
    rw [sw_upk _ h3, sw_upk _ h3]
theorem sd_dr_k (ln : sw_A) (r : Nat) {c : Nat} (h3 : ¬ c = 3) (k' j' : Nat) : ∀ (n : Nat) (σ : sw_S), sd_dr ln r n σ c k' j' = σ c k' j'
  | 0, _ => rfl
  | n + 1, σ => (drop_k ln r _ h3 k' j').trans (sd_dr_k ln r h3 k' j' n σ)
def sd_se (ln : sw_A) (s : Nat) (x : Int32) (σ : sw_S) : sw_S := if li_sb 0 (σ 6 s 5) x σ ≤ σ 3 (2 * s) 2 then sw_up (sd_dr ln (2 * s) (li_sb 0 (σ 6 s 5) x σ).toNatClampNeg σ) 6 s 5 x else σ
def gX6_settleBefore (ln : sw_A) (s : Nat) (x : Int32) (σ : sw_S) : sw_X := (0 ≤ li_sb 0 (σ 6 s 5) x σ, none, sd_se ln s x σ)
def fX6_settleBefore (ln : sw_A) : sw_F := sw_foi 6 (gX6_settleBefore ln)
def ctX6_settleBefore (ln : sw_A) : sw_C := [(280, 3, 5, fX4_stepsBetween ln), (120, 1, 4, fX3_size ln), (283, 1, 4, fX3_dropFirst ln)]
abbrev wX6_settleBefore (ln : sw_A) (Q : Option sw_V → sw_S → Prop) : Nat → Nat → sw_L → List sw_V → sw_S → Prop := sw_wp sw_rf ln (ctX6_settleBefore ln) sX6_settleBefore 0 51 tX6_settleBefore Q
theorem hX6_settleBefore_l (ln : sw_A) (s n : Nat) (x : Int32) (σ : sw_S) (X : sw_X) (hn : n < 2 ^ 31) (hX : X.2 = (none, sw_up (sd_dr ln (2 * s) n σ) 6 s 5 x)) : ∀ (d j : Nat), j + d = n → ∃ fuel, wX6_settleBefore ln (sw_end X) fuel 27 [some (.inr (some (6, s))), some (.inl x), some (.inl (nI n)), some (.inl (nI j))] [] (sd_dr ln (2 * s) j σ) := by
  intro d
  induction d with
  | zero =>
    intro j hj
    have hj : j = n := by omega
    subst hj
    refine ⟨20, And.intro (fun _ => ?_) (fun (h : ¬ nI j ≤ nI j) => absurd (Int32.le_refl _) h)⟩
    show none = X.2.1 ∧ sw_up (sd_dr ln (2 * s) j σ) 6 s 5 x = X.2.2
    rw [hX]
    exact ⟨rfl, rfl⟩
  | succ d ih =>
    intro j hj
    obtain ⟨f, hf⟩ := ih (j + 1) (by omega)
    rw [← nI_1] at hf
    refine ⟨f + 30, sw_ws_wp [27] f 30 _ _ _ _ ?_⟩
    exact And.intro (fun (h : nI n ≤ nI j) => absurd h (nI_ge (a := j) (b := n) (by omega) hn)) (fun _ => And.intro trivial hf)
theorem hX6_settleBefore (ln : sw_A) (s : Nat) (x : Int32) (σ : sw_S) (h : (gX6_settleBefore ln s x σ).1) : ∃ fuel, wX6_settleBefore ln (sw_end (gX6_settleBefore ln s x σ)) fuel 0 (sw_ent 4 [.inr (some (6, s)), .inl x]) [] σ := by
  obtain ⟨n, hn, hc⟩ := nI_of (Int32.not_lt.mpr h)
  by_cases h1 : li_sb 0 (σ 6 s 5) x σ ≤ σ 3 (2 * s) 2
  · obtain ⟨f, hf⟩ := hX6_settleBefore_l ln s n x σ (gX6_settleBefore ln s x σ) hn (by
      show (none, sd_se ln s x σ) = _
      unfold sd_se
      rw [if_pos h1, hc, nI_clamp hn]) n 0 (by omega)
    rw [← hc] at hf
    refine ⟨f + 30, sw_ws_wp [27] f 30 _ _ _ _ ?_⟩
    exact And.intro trivial (And.intro trivial (And.intro (fun _ => hf) (fun z => absurd h1 z)))
  · refine ⟨30, And.intro trivial (And.intro trivial (And.intro (fun z => absurd z h1) (fun _ => ⟨rfl, ?_⟩)))⟩
    exact (if_neg h1).symm
set_option maxRecDepth 100000 in
theorem mX6_settleBefore {l : Launch} {ad : sw_A} {V : Nat → Nat → Prop} {ln : sw_A} {ca : Nat → ClassId} {D : va_G} (hG : sw_wf ad V sw_rf ln) : sw_met l ad V sw_rf ln ca D yX6_settleBefore cX6_settleBefore 4 none { frames := 1, cells := 0, slots := 0, locals := 22 } 2 (fX6_settleBefore ln) := by
  refine sw_meth hG (by decide) (by refine ⟨?_, ?_, ?_, ?_⟩ <;> intro h <;> first | rfl | exact ⟨_, rfl⟩ | exact absurd h (by decide)) (by decide) kX6_settleBefore flX6_in cnX6_in ?_ (sw_foi_h (W := fun Q L σ => ∃ fuel, wX6_settleBefore ln Q fuel 0 L [] σ) (fun a0 a1 σ h => hX6_settleBefore ln a0 a1 σ h))
  intro p e s m args below meth c S hT hnw
  refine List.forall_mem_cons.mpr ⟨sw_cokV S hT hnw (mX4_stepsBetween hG) 280 4 (by decide) ⟨by decide +kernel, by decide +kernel, by decide +kernel, by decide +kernel, by decide +kernel⟩ ⟨rfl, by decide, by decide, by decide +kernel⟩ ⟨rfl, rfl⟩ ⟨by decide, by decide⟩, ?_⟩
  refine List.forall_mem_cons.mpr ⟨sw_cokV S hT hnw (mX3_size hG) 120 3 (by decide) ⟨by decide +kernel, by decide +kernel, by decide +kernel, by decide +kernel, by decide +kernel⟩ ⟨rfl, by decide, by decide, by decide +kernel⟩ ⟨rfl, rfl⟩ ⟨by decide, by decide⟩, ?_⟩
  refine List.forall_mem_cons.mpr ⟨sw_cokV S hT hnw (mX3_dropFirst hG) 283 3 (by decide) ⟨by decide +kernel, by decide +kernel, by decide +kernel, by decide +kernel, by decide +kernel⟩ ⟨rfl, by decide, by decide, by decide +kernel⟩ ⟨rfl, rfl⟩ ⟨by decide, by decide⟩, ?_⟩
  exact fun q h => absurd h List.not_mem_nil
theorem sd_se_k (ln : sw_A) (s : Nat) (x : Int32) (σ : sw_S) {c : Nat} (h3 : ¬ c = 3) (h6 : ¬ c = 6) (k' j' : Nat) : sd_se ln s x σ c k' j' = σ c k' j' := by
  unfold sd_se
  split
  · rw [sw_upk _ h6]
    exact sd_dr_k ln _ h3 k' j' _ _
  · rfl
theorem sd_se_fr (ln : sw_A) (s : Nat) (x : Int32) (σ : sw_S) (f : Nat) : fr_at (sd_se ln s x σ) f = fr_at σ f := fr_at_eq (fun j => sd_se_k ln s x σ (by decide) (by decide) f j) (fun j => sd_se_k ln s x σ (by decide) (by decide) f j)
def sd_m4 (s : Nat) (a : sw_S) : sw_S := sw_up (sw_up a 6 s 14 (a 6 s 14 + 1)) 6 s 9 1
def sd_m1 (s : Nat) (a : sw_S) : sw_S := sw_up a 6 s 6 (li_nb 0 (a 6 s 6) 1 a)
def sd_m2 (s : Nat) (a : sw_S) : sw_S := sw_up (sw_up a 6 s 12 (a 6 s 12 + 1)) 6 s 9 1
def sd_rf (s : Nat) (a : sw_S) : Int32 × sw_S := (2, sw_up a 6 s 13 (a 6 s 13 + 1))
def sd_mw (ln : sw_A) (s f : Nat) (a : sw_S) : Option (Nat × Nat) → Int32 × sw_S
  | none => sd_rf s a
  | some q => if fl_ct q.2 f a = 0 then sd_rf s a else (1, sd_m2 s (sd_m1 s (fl_tk ln q.2 f a)))
def sd_ma (ln : sw_A) (s f : Nat) (a : sw_S) : Int32 × sw_S := if fr_kd a f = 0 then (3, a) else if fr_nu a f = a 6 s 6 then sd_mw ln s f a (sd_fa ln s (fr_sn a f)) else (4, sd_m4 s a)
def sd_mp (ln : sw_A) (s f : Nat) (σ : sw_S) : Int32 × sw_S := if fr_so σ f 0 = 0 then sd_rf s σ else sd_ma ln s f (sd_se ln s (fr_wa σ f) σ)
def gX6_meet (ln : sw_A) (s f : Nat) (σ : sw_S) : sw_X := (lo ln ∧ fg ln σ ∧ 0 ≤ fr_rl σ f ∧ (¬ fr_so σ f 0 = 0 → 0 ≤ li_sb 0 (σ 6 s 5) (fr_wa σ f) σ), some (.inl (sd_mp ln s f σ).1), (sd_mp ln s f σ).2)
def fX6_meet (ln : sw_A) : sw_F := sw_foo 6 2 (gX6_meet ln)
def ctX6_meet (ln : sw_A) : sw_C := [(242, 2, 3, fX2_isSound ln), (246, 1, 7, fX6_refuse ln), (249, 1, 3, fX2_wanted ln), (252, 2, 7, fX6_settleBefore ln), (255, 1, 3, fX2_kind ln), (258, 1, 3, fX2_number ln), (264, 1, 3, fX2_streamNumber ln), (156, 2, 7, fX6_flowAt ln), (267, 2, 2, fX1_canTake ln), (271, 2, 2, fX1_take ln), (214, 3, 5, fX4_numberBehind ln)]
abbrev wX6_meet (ln : sw_A) (Q : Option sw_V → sw_S → Prop) : Nat → Nat → sw_L → List sw_V → sw_S → Prop := sw_wp sw_rf ln (ctX6_meet ln) sX6_meet 1 124 tX6_meet Q
theorem sd_fa_1 {ln : sw_A} {s : Nat} {i : Int32} {q : Nat × Nat} (h : sd_fa ln s i = some q) : q.1 = 1 := by
  unfold sd_fa at h
  split at h
  · cases h
  · split at h
    · cases h
    · cases h; rfl
theorem hX6_meet (ln : sw_A) (s f : Nat) (σ : sw_S) (h : (gX6_meet ln s f σ).1) : ∃ fuel, wX6_meet ln (sw_end (gX6_meet ln s f σ)) fuel 0 (sw_ent 3 [.inr (some (6, s)), .inr (some (2, f))]) [] σ := by
  obtain ⟨hl, hg, hr, hc⟩ := h
  by_cases h1 : fr_so σ f 0 = 0
  · refine ⟨30, And.intro ⟨hg.ok hl f, hr⟩ (And.intro (fun z => absurd h1 z) (fun _ => And.intro trivial ?_))⟩
    show some (Sum.inl 2) = some (Sum.inl (sd_mp ln s f σ).1) ∧ (sd_rf s σ).2 = (sd_mp ln s f σ).2
    unfold sd_mp
    rw [if_pos h1]
    exact ⟨rfl, rfl⟩
  · obtain ⟨a, ha⟩ : ∃ a, a = sd_se ln s (fr_wa σ f) σ := ⟨_, rfl⟩
    have hfr : fr_at a f = fr_at σ f := by rw [ha]; exact sd_se_fr ln s _ σ f
    have hga : fg ln a := by rw [ha]; exact fg_eq hg (fun k => sd_se_k ln s _ σ (by decide) (by decide) k 1)
    have hmp : sd_mp ln s f σ = sd_ma ln s f a := by unfold sd_mp; rw [if_neg h1, ← ha]
    have hka := hga.ok hl f
    have k69 : fr_kd a f ≠ 0 → fr_nu a f = a 6 s 6 → ∃ M, ∀ r, r = sd_fa ln s (fr_sn a f) → wX6_meet ln (sw_end (gX6_meet ln s f σ)) M 69 [some (.inr (some (6, s))), some (.inr (some (2, f))), none] [.inr r] a := by
      intro e1 e2
      refine ⟨50, fun r hr2 => ?_⟩
      have hw : sd_mp ln s f σ = sd_mw ln s f a r := by rw [hmp]; unfold sd_ma; rw [if_neg e1, if_pos e2, ← hr2]
      cases r with
      | none =>
        refine And.intro trivial ?_
        show some (Sum.inl 2) = some (Sum.inl (sd_mp ln s f σ).1) ∧ (sd_rf s a).2 = (sd_mp ln s f σ).2
        rw [hw]
        exact ⟨rfl, rfl⟩
      | some q =>
        obtain ⟨q1, w⟩ := q
        have e3 : q1 = 1 := sd_fa_1 hr2.symm
        subst e3
        refine And.intro hka (And.intro (fun (a1 : ¬ fl_ct w f a = 0) => And.intro ⟨hka, hl.ce _⟩ (And.intro trivial (And.intro (Or.inr rfl) ?_))) (fun (a1 : fl_ct w f a = 0) => And.intro trivial ?_))
        · show some (Sum.inl 1) = some (Sum.inl (sd_mp ln s f σ).1) ∧ sd_m2 s (sd_m1 s (fl_tk ln w f a)) = (sd_mp ln s f σ).2
          rw [hw, show sd_mw ln s f a (some (1, w)) = _ from if_neg a1]
          exact ⟨rfl, rfl⟩
        · show some (Sum.inl 2) = some (Sum.inl (sd_mp ln s f σ).1) ∧ (sd_rf s a).2 = (sd_mp ln s f σ).2
          rw [hw, show sd_mw ln s f a (some (1, w)) = _ from if_pos a1]
          exact ⟨rfl, rfl⟩
    have k24 : ∃ M, ∀ b, b = a → wX6_meet ln (sw_end (gX6_meet ln s f σ)) M 24 [some (.inr (some (6, s))), some (.inr (some (2, f))), none] [] b := by
      by_cases e1 : fr_kd a f = 0
      · refine ⟨30, fun b hb => ?_⟩
        subst hb
        refine And.intro hka (And.intro (fun z => absurd e1 z) (fun _ => ?_))
        show some (Sum.inl 3) = some (Sum.inl (sd_mp ln s f σ).1) ∧ b = (sd_mp ln s f σ).2
        rw [hmp]
        unfold sd_ma
        rw [if_pos e1]
        exact ⟨rfl, rfl⟩
      · by_cases e2 : fr_nu a f = a 6 s 6
        · obtain ⟨M, k69⟩ := k69 e1 e2
          refine ⟨M + 30, fun b hb => sw_ws_wp [69] M 30 _ _ _ _ ?_⟩
          subst hb
          exact And.intro hka (And.intro (fun _ => And.intro hka (And.intro (fun _ => And.intro hka (And.intro (hl.1 14 s) (k69 _ rfl))) (fun z => absurd e2 z))) (fun z => absurd z e1))
        · refine ⟨40, fun b hb => ?_⟩
          subst hb
          refine And.intro hka (And.intro (fun _ => And.intro hka (And.intro (fun z => absurd z e2) (fun _ => And.intro (Or.inr rfl) ?_))) (fun z => absurd z e1))
          show some (Sum.inl 4) = some (Sum.inl (sd_mp ln s f σ).1) ∧ sd_m4 s b = (sd_mp ln s f σ).2
          rw [hmp]
          unfold sd_ma
          rw [if_neg e1, if_neg e2]
          exact ⟨rfl, rfl⟩
    obtain ⟨M, k24⟩ := k24
    refine ⟨M + 30, sw_ws_wp [24] M 30 _ _ _ _ ?_⟩
    exact And.intro ⟨hg.ok hl f, hr⟩ (And.intro (fun _ => And.intro (hg.ok hl f) (And.intro (hc h1) (k24 _ ha.symm))) (fun z => absurd z h1))
set_option maxRecDepth 100000 in
theorem mX6_meet {l : Launch} {ad : sw_A} {V : Nat → Nat → Prop} {ln : sw_A} {ca : Nat → ClassId} {D : va_G} (hG : sw_wf ad V sw_rf ln) : sw_met l ad V sw_rf ln ca D yX6_meet cX6_meet 3 (some .int) { frames := 5, cells := 0, slots := 0, locals := 110 } 2 (fX6_meet ln) := by
  refine sw_meth hG (by decide) (by refine ⟨?_, ?_, ?_, ?_⟩ <;> intro h <;> first | rfl | exact ⟨_, rfl⟩ | exact absurd h (by decide)) (by decide) kX6_meet flX6_in cnX6_in ?_ (sw_foo_h (W := fun Q L σ => ∃ fuel, wX6_meet ln Q fuel 0 L [] σ) (fun a0 a1 σ h => hX6_meet ln a0 a1 σ h))
  intro p e s m args below meth c S hT hnw
  refine List.forall_mem_cons.mpr ⟨sw_cokV S hT hnw (mX2_isSound hG) 242 2 (by decide) ⟨by decide +kernel, by decide +kernel, by decide +kernel, by decide +kernel, by decide +kernel⟩ ⟨rfl, by decide, by decide, by decide +kernel⟩ ⟨rfl, rfl⟩ ⟨by decide, by decide⟩, ?_⟩
  refine List.forall_mem_cons.mpr ⟨sw_cokV S hT hnw (mX6_refuse hG) 246 6 (by decide) ⟨by decide +kernel, by decide +kernel, by decide +kernel, by decide +kernel, by decide +kernel⟩ ⟨rfl, by decide, by decide, by decide +kernel⟩ ⟨rfl, rfl⟩ ⟨by decide, by decide⟩, ?_⟩
  refine List.forall_mem_cons.mpr ⟨sw_cokV S hT hnw (mX2_wanted hG) 249 2 (by decide) ⟨by decide +kernel, by decide +kernel, by decide +kernel, by decide +kernel, by decide +kernel⟩ ⟨rfl, by decide, by decide, by decide +kernel⟩ ⟨rfl, rfl⟩ ⟨by decide, by decide⟩, ?_⟩
  refine List.forall_mem_cons.mpr ⟨sw_cokV S hT hnw (mX6_settleBefore hG) 252 6 (by decide) ⟨by decide +kernel, by decide +kernel, by decide +kernel, by decide +kernel, by decide +kernel⟩ ⟨rfl, by decide, by decide, by decide +kernel⟩ ⟨rfl, rfl⟩ ⟨by decide, by decide⟩, ?_⟩
  refine List.forall_mem_cons.mpr ⟨sw_cokV S hT hnw (mX2_kind hG) 255 2 (by decide) ⟨by decide +kernel, by decide +kernel, by decide +kernel, by decide +kernel, by decide +kernel⟩ ⟨rfl, by decide, by decide, by decide +kernel⟩ ⟨rfl, rfl⟩ ⟨by decide, by decide⟩, ?_⟩
  refine List.forall_mem_cons.mpr ⟨sw_cokV S hT hnw (mX2_number hG) 258 2 (by decide) ⟨by decide +kernel, by decide +kernel, by decide +kernel, by decide +kernel, by decide +kernel⟩ ⟨rfl, by decide, by decide, by decide +kernel⟩ ⟨rfl, rfl⟩ ⟨by decide, by decide⟩, ?_⟩
  refine List.forall_mem_cons.mpr ⟨sw_cokV S hT hnw (mX2_streamNumber hG) 264 2 (by decide) ⟨by decide +kernel, by decide +kernel, by decide +kernel, by decide +kernel, by decide +kernel⟩ ⟨rfl, by decide, by decide, by decide +kernel⟩ ⟨rfl, rfl⟩ ⟨by decide, by decide⟩, ?_⟩
  refine List.forall_mem_cons.mpr ⟨sw_cokV S hT hnw (mX6_flowAt hG) 156 6 (by decide) ⟨by decide +kernel, by decide +kernel, by decide +kernel, by decide +kernel, by decide +kernel⟩ ⟨rfl, by decide, by decide, by decide +kernel⟩ ⟨rfl, rfl⟩ ⟨by decide, by decide⟩, ?_⟩
  refine List.forall_mem_cons.mpr ⟨sw_cokV S hT hnw (mX1_canTake hG) 267 1 (by decide) ⟨by decide +kernel, by decide +kernel, by decide +kernel, by decide +kernel, by decide +kernel⟩ ⟨rfl, by decide, by decide, by decide +kernel⟩ ⟨rfl, rfl⟩ ⟨by decide, by decide⟩, ?_⟩
  refine List.forall_mem_cons.mpr ⟨sw_cokV S hT hnw (mX1_take hG) 271 1 (by decide) ⟨by decide +kernel, by decide +kernel, by decide +kernel, by decide +kernel, by decide +kernel⟩ ⟨rfl, by decide, by decide, by decide +kernel⟩ ⟨rfl, rfl⟩ ⟨by decide, by decide⟩, ?_⟩
  refine List.forall_mem_cons.mpr ⟨sw_cokV S hT hnw (mX4_numberBehind hG) 214 4 (by decide) ⟨by decide +kernel, by decide +kernel, by decide +kernel, by decide +kernel, by decide +kernel⟩ ⟨rfl, by decide, by decide, by decide +kernel⟩ ⟨rfl, rfl⟩ ⟨by decide, by decide⟩, ?_⟩
  exact fun q h => absurd h List.not_mem_nil
def sd_te (ln : sw_A) (s : Nat) (x : Int32) (σ : sw_S) : Int32 := if x = 0 then sd_fr ln s σ else if x = 1 then σ 3 (2 * s) 2 else if x = 2 then σ 6 s 5 else if x = 3 then σ 6 s 6 else if x = 4 then σ 3 (2 * s + 1) 2 else if x = 5 then σ 6 s 7 else if x = 6 then σ 6 s 8 else if x = 7 then bi (σ 6 s 9) else if x = 8 then σ 6 s 11 else if x = 9 then σ 6 s 12 else if x = 10 then σ 6 s 13 else if x = 11 then σ 6 s 14 else -1
def gX6_tell (ln : sw_A) (s : Nat) (x : Int32) (σ : sw_S) : sw_X := (lo ln ∧ fg ln σ ∧ 0 ≤ σ 3 (2 * s) 2, some (.inl (sd_te ln s x σ)), σ)
def fX6_tell (ln : sw_A) : sw_F := sw_foi 6 (gX6_tell ln)
def ctX6_tell (ln : sw_A) : sw_C := [(76, 1, 7, fX6_freeCells ln), (120, 1, 4, fX3_size ln), (286, 1, 0, fX7_bit ln)]
abbrev wX6_tell (ln : sw_A) (Q : Option sw_V → sw_S → Prop) : Nat → Nat → sw_L → List sw_V → sw_S → Prop := sw_wp sw_rf ln (ctX6_tell ln) sX6_tell 1 134 tX6_tell Q
theorem hX6_tell (ln : sw_A) (s : Nat) (x : Int32) (σ : sw_S) (h : (gX6_tell ln s x σ).1) : ∃ fuel, wX6_tell ln (sw_end (gX6_tell ln s x σ)) fuel 0 (sw_ent 2 [.inr (some (6, s)), .inl x]) [] σ := by
  refine ⟨20, And.intro (fun (h0 : x = 0) => And.intro h ⟨sw_ri ?_, rfl⟩) (fun (n0 : ¬ x = 0) => And.intro (fun (h1 : x = 1) => And.intro trivial ⟨sw_ri ?_, rfl⟩) (fun (n1 : ¬ x = 1) => And.intro (fun (h2 : x = 2) => ⟨sw_ri ?_, rfl⟩) (fun (n2 : ¬ x = 2) => And.intro (fun (h3 : x = 3) => ⟨sw_ri ?_, rfl⟩) (fun (n3 : ¬ x = 3) => And.intro (fun (h4 : x = 4) => And.intro trivial ⟨sw_ri ?_, rfl⟩) (fun (n4 : ¬ x = 4) => And.intro (fun (h5 : x = 5) => ⟨sw_ri ?_, rfl⟩) (fun (n5 : ¬ x = 5) => And.intro (fun (h6 : x = 6) => ⟨sw_ri ?_, rfl⟩) (fun (n6 : ¬ x = 6) => And.intro (fun (h7 : x = 7) => And.intro trivial ⟨sw_ri ?_, rfl⟩) (fun (n7 : ¬ x = 7) => And.intro (fun (h8 : x = 8) => ⟨sw_ri ?_, rfl⟩) (fun (n8 : ¬ x = 8) => And.intro (fun (h9 : x = 9) => ⟨sw_ri ?_, rfl⟩) (fun (n9 : ¬ x = 9) => And.intro (fun (h10 : x = 10) => ⟨sw_ri ?_, rfl⟩) (fun (n10 : ¬ x = 10) => And.intro (fun (h11 : x = 11) => ⟨sw_ri ?_, rfl⟩) (fun (n11 : ¬ x = 11) => ⟨sw_ri ?_, rfl⟩))))))))))))⟩
  · unfold sd_te; rw [if_pos h0]; try rfl
  · unfold sd_te; rw [if_neg n0, if_pos h1]; try rfl
  · unfold sd_te; rw [if_neg n0, if_neg n1, if_pos h2]; try rfl
  · unfold sd_te; rw [if_neg n0, if_neg n1, if_neg n2, if_pos h3]; try rfl
  · unfold sd_te; rw [if_neg n0, if_neg n1, if_neg n2, if_neg n3, if_pos h4]; try rfl
  · unfold sd_te; rw [if_neg n0, if_neg n1, if_neg n2, if_neg n3, if_neg n4, if_pos h5]; try rfl
  · unfold sd_te; rw [if_neg n0, if_neg n1, if_neg n2, if_neg n3, if_neg n4, if_neg n5, if_pos h6]; try rfl
  · unfold sd_te; rw [if_neg n0, if_neg n1, if_neg n2, if_neg n3, if_neg n4, if_neg n5, if_neg n6, if_pos h7]; try rfl
  · unfold sd_te; rw [if_neg n0, if_neg n1, if_neg n2, if_neg n3, if_neg n4, if_neg n5, if_neg n6, if_neg n7, if_pos h8]; try rfl
  · unfold sd_te; rw [if_neg n0, if_neg n1, if_neg n2, if_neg n3, if_neg n4, if_neg n5, if_neg n6, if_neg n7, if_neg n8, if_pos h9]; try rfl
  · unfold sd_te; rw [if_neg n0, if_neg n1, if_neg n2, if_neg n3, if_neg n4, if_neg n5, if_neg n6, if_neg n7, if_neg n8, if_neg n9, if_pos h10]; try rfl
  · unfold sd_te; rw [if_neg n0, if_neg n1, if_neg n2, if_neg n3, if_neg n4, if_neg n5, if_neg n6, if_neg n7, if_neg n8, if_neg n9, if_neg n10, if_pos h11]; try rfl
  · unfold sd_te; rw [if_neg n0, if_neg n1, if_neg n2, if_neg n3, if_neg n4, if_neg n5, if_neg n6, if_neg n7, if_neg n8, if_neg n9, if_neg n10, if_neg n11]; try rfl
set_option maxRecDepth 100000 in
theorem mX6_tell {l : Launch} {ad : sw_A} {V : Nat → Nat → Prop} {ln : sw_A} {ca : Nat → ClassId} {D : va_G} (hG : sw_wf ad V sw_rf ln) : sw_met l ad V sw_rf ln ca D yX6_tell cX6_tell 2 (some .int) { frames := 4, cells := 0, slots := 0, locals := 91 } 2 (fX6_tell ln) := by
  refine sw_meth hG (by decide) (by refine ⟨?_, ?_, ?_, ?_⟩ <;> intro h <;> first | rfl | exact ⟨_, rfl⟩ | exact absurd h (by decide)) (by decide) kX6_tell flX6_in cnX6_in ?_ (sw_foi_h (W := fun Q L σ => ∃ fuel, wX6_tell ln Q fuel 0 L [] σ) (fun a0 a1 σ h => hX6_tell ln a0 a1 σ h))
  intro p e s m args below meth c S hT hnw
  refine List.forall_mem_cons.mpr ⟨sw_cokV S hT hnw (mX6_freeCells hG) 76 6 (by decide) ⟨by decide +kernel, by decide +kernel, by decide +kernel, by decide +kernel, by decide +kernel⟩ ⟨rfl, by decide, by decide, by decide +kernel⟩ ⟨rfl, rfl⟩ ⟨by decide, by decide⟩, ?_⟩
  refine List.forall_mem_cons.mpr ⟨sw_cokV S hT hnw (mX3_size hG) 120 3 (by decide) ⟨by decide +kernel, by decide +kernel, by decide +kernel, by decide +kernel, by decide +kernel⟩ ⟨rfl, by decide, by decide, by decide +kernel⟩ ⟨rfl, rfl⟩ ⟨by decide, by decide⟩, ?_⟩
  refine List.forall_mem_cons.mpr ⟨sw_cokN S hT hnw (mX7_bit hG) 286 hnw.2 ⟨by decide +kernel, by decide +kernel, by decide +kernel⟩ ⟨by decide, by decide, by decide +kernel⟩ ⟨rfl, rfl⟩ ⟨by decide, by decide⟩, ?_⟩
  exact fun q h => absurd h List.not_mem_nil
end
section
/-! Side: sending again -/
theorem add_3 (ln : sw_A) (r f : Nat) (σ : sw_S) {k' : Nat} (h : ¬ k' = r) (j' : Nat) : (gX3_add ln r f σ).2.2 3 k' j' = σ 3 k' j' := by
  show rg_ad ln r f σ (rg_as ln r σ) 3 k' j' = _
  cases rg_as ln r σ with
  | none => rfl
  | some q => exact (sw_upi _ h).trans (copy_k ln q.2 f σ (by decide) (by decide) k' j')
theorem sd_sd_3 (ln : sw_A) (s : Nat) (σ : sw_S) {k' : Nat} (h : ¬ k' = 2 * s + 1) (j' : Nat) : sd_sd ln s σ 3 k' j' = σ 3 k' j' := (sw_upk _ (by decide)).trans ((sw_upk _ (by decide)).trans (add_3 ln _ _ σ h j'))
theorem renew_k (ln : sw_A) (k : Nat) (x : Int32) (σ : sw_S) {c : Nat} (h2 : ¬ c = 2) (h12 : ¬ c = 12) (k' j' : Nat) : (gX2_renew ln k x σ).2.2 c k' j' = σ c k' j' := (seal_k ln k _ h2 h12 k' j').trans ((sw_upk _ h2).trans (flip_k ln k _ _ σ h12 k' j'))
def sd_a1 (ln : sw_A) (s q : Nat) (σ : sw_S) : sw_S := (gX2_copyFrom ln (128 + s) q σ).2.2
def sd_a2 (ln : sw_A) (s q : Nat) (σ : sw_S) : sw_S := (gX2_renew ln (128 + s) (sd_a1 ln s q σ 6 s 6) (sd_a1 ln s q σ)).2.2
def sd_a3 (ln : sw_A) (s q : Nat) (σ : sw_S) : sw_S := sd_sd ln s (sd_a2 ln s q σ)
theorem sd_a3_go {ln : sw_A} {σ : sw_S} (hl : lo ln) (h : fg ln σ) (s q : Nat) : fg ln (sd_a1 ln s q σ) ∧ fg ln (sd_a2 ln s q σ) ∧ fg ln (sd_a3 ln s q σ) := by
  have h1 : fg ln (sd_a1 ln s q σ) := (copy_go hl h (128 + s) q).2
  have h2 : fg ln (sd_a2 ln s q σ) := (renew_go hl h1 (128 + s) _).2
  exact ⟨h1, h2, sd_sd_go hl h2 s⟩
theorem sd_a3_3 (ln : sw_A) (s q : Nat) (σ : sw_S) (j' : Nat) : sd_a3 ln s q σ 3 (2 * s) j' = σ 3 (2 * s) j' := (sd_sd_3 ln s _ (by omega) j').trans ((renew_k ln _ _ _ (by decide) (by decide) _ j').trans (copy_k ln _ q σ (by decide) (by decide) _ j'))
def sd_om {α : Type} (a : α) (g : Nat × Nat → α) : Option (Nat × Nat) → α
  | none => a
  | some q => g q
def sd_ag (ln : sw_A) (s : Nat) : Nat → Nat → Int32 → sw_S → Int32 × sw_S
  | 0, _, x, σ => (x, σ)
  | d + 1, j, x, σ => if rg_ro ln (2 * s + 1) σ = 0 then (x, σ) else sd_om (sd_ag ln s d (j + 1) x σ) (fun q => sd_ag ln s d (j + 1) (x + 1) (sd_a3 ln s q.2 σ)) (rg_fa ln (2 * s) (nI j) σ)
def gX6_sendAgain (ln : sw_A) (s : Nat) (σ : sw_S) : sw_X := (lo ln ∧ fg ln σ ∧ 0 ≤ σ 3 (2 * s) 2, some (.inl (sd_ag ln s (σ 3 (2 * s) 2).toNatClampNeg 0 0 σ).1), (sd_ag ln s (σ 3 (2 * s) 2).toNatClampNeg 0 0 σ).2)
def fX6_sendAgain (ln : sw_A) : sw_F := sw_fo 6 (gX6_sendAgain ln)
def ctX6_sendAgain (ln : sw_A) : sw_C := [(120, 1, 4, fX3_size ln), (128, 1, 4, fX3_hasRoom ln), (121, 2, 4, fX3_frameAt ln), (236, 2, 3, fX2_copyFrom ln), (239, 2, 3, fX2_renew ln), (230, 1, 7, fX6_sendDraft ln)]
abbrev wX6_sendAgain (ln : sw_A) (Q : Option sw_V → sw_S → Prop) : Nat → Nat → sw_L → List sw_V → sw_S → Prop := sw_wp sw_rf ln (ctX6_sendAgain ln) sX6_sendAgain 1 71 tX6_sendAgain Q
theorem hX6_sendAgain_l (ln : sw_A) (s n : Nat) (X : sw_X) (hn : n < 2 ^ 31) (hl : lo ln) : ∀ (d j : Nat) (x : Int32) (σ : sw_S) (x3 : Option sw_V), j + d = n → fg ln σ → σ 3 (2 * s) 2 = nI n → X.2 = (some (.inl (sd_ag ln s d j x σ).1), (sd_ag ln s d j x σ).2) → ∃ fuel, wX6_sendAgain ln (sw_end X) fuel 4 [some (.inr (some (6, s))), some (.inl x), some (.inl (nI j)), x3] [] σ := by
  intro d
  induction d with
  | zero =>
    intro j x σ x3 hj hg hz hX
    have hj : j = n := by omega
    subst hj
    refine ⟨20, And.intro trivial (And.intro (fun _ => ?_) (fun (h : ¬ σ 3 (2 * s) 2 ≤ nI j) => absurd (by rw [hz]; exact Int32.le_refl _) h))⟩
    show some _ = X.2.1 ∧ σ = X.2.2
    rw [hX]
    exact ⟨rfl, rfl⟩
  | succ d ih =>
    intro j x σ x3 hj hg hz hX
    by_cases h1 : rg_ro ln (2 * s + 1) σ = 0
    · refine ⟨30, And.intro trivial (And.intro (fun (h : σ 3 (2 * s) 2 ≤ nI j) => absurd (by rw [← hz]; exact h) (nI_ge (a := j) (b := n) (by omega) hn)) (fun _ => And.intro trivial (And.intro (fun _ => ?_) (fun z => absurd h1 z))))⟩
      show some _ = X.2.1 ∧ σ = X.2.2
      rw [hX, show sd_ag ln s (d + 1) j x σ = _ from if_pos h1]
      exact ⟨rfl, rfl⟩
    · have key : ∃ M, ∀ r, r = rg_fa ln (2 * s) (nI j) σ → wX6_sendAgain ln (sw_end X) M 33 [some (.inr (some (6, s))), some (.inl x), some (.inl (nI j)), x3] [.inr r] σ := by
        obtain ⟨r0, hr0⟩ : ∃ r0, r0 = rg_fa ln (2 * s) (nI j) σ := ⟨_, rfl⟩
        have hag : sd_ag ln s (d + 1) j x σ = sd_om (sd_ag ln s d (j + 1) x σ) (fun q => sd_ag ln s d (j + 1) (x + 1) (sd_a3 ln s q.2 σ)) r0 := by
          rw [hr0]
          exact if_neg h1
        cases r0 with
        | none =>
          obtain ⟨f, hf⟩ := ih (j + 1) x σ (some (.inr none)) (by omega) hg hz (by rw [hX, hag]; rfl)
          rw [← nI_1] at hf
          refine ⟨f + 30, fun r hr => sw_ws_wp [4] f 30 _ _ _ _ ?_⟩
          have hr : r = none := hr.trans hr0.symm
          subst hr
          exact hf
        | some q =>
          obtain ⟨q1, q2⟩ := q
          have e1 : q1 = 2 := rg_fa_2 hr0.symm
          subst e1
          have hgo := sd_a3_go hl hg s q2
          obtain ⟨f, hf⟩ := ih (j + 1) (x + 1) (sd_a3 ln s q2 σ) (some (.inr (some (2, q2)))) (by omega) hgo.2.2 (by rw [sd_a3_3]; exact hz) (by rw [hX, hag]; rfl)
          rw [← nI_1] at hf
          refine ⟨f + 30, fun r hr => sw_ws_wp [4] f 30 _ _ _ _ ?_⟩
          have hr : r = some (2, q2) := hr.trans hr0.symm
          subst hr
          exact And.intro (copy_go hl hg (128 + s) q2).1 (And.intro (renew_go hl hgo.1 (128 + s) _).1 (And.intro ⟨hl, hgo.2.1⟩ hf))
      obtain ⟨M, key⟩ := key
      refine ⟨M + 30, sw_ws_wp [33] M 30 _ _ _ _ ?_⟩
      exact And.intro trivial (And.intro (fun (h : σ 3 (2 * s) 2 ≤ nI j) => absurd (by rw [← hz]; exact h) (nI_ge (a := j) (b := n) (by omega) hn)) (fun _ => And.intro trivial (And.intro (fun z => absurd z h1) (fun _ => And.intro (hl.1 13 (2 * s)) (key _ rfl)))))
theorem hX6_sendAgain (ln : sw_A) (s : Nat) (σ : sw_S) (h : (gX6_sendAgain ln s σ).1) : ∃ fuel, wX6_sendAgain ln (sw_end (gX6_sendAgain ln s σ)) fuel 0 (sw_ent 4 [.inr (some (6, s))]) [] σ := by
  obtain ⟨n, hn, hz⟩ := nI_of (Int32.not_lt.mpr h.2.2)
  obtain ⟨f, hf⟩ := hX6_sendAgain_l ln s n (gX6_sendAgain ln s σ) hn h.1 n 0 0 σ none (by omega) h.2.1 hz (by
    show (some (Sum.inl (sd_ag ln s (σ 3 (2 * s) 2).toNatClampNeg 0 0 σ).1), (sd_ag ln s (σ 3 (2 * s) 2).toNatClampNeg 0 0 σ).2) = _
    rw [hz, nI_clamp hn])
  exact ⟨f + 10, sw_ws_wp [4] f 10 _ _ _ _ hf⟩
set_option maxRecDepth 100000 in
theorem mX6_sendAgain {l : Launch} {ad : sw_A} {V : Nat → Nat → Prop} {ln : sw_A} {ca : Nat → ClassId} {D : va_G} (hG : sw_wf ad V sw_rf ln) : sw_met l ad V sw_rf ln ca D yX6_sendAgain cX6_sendAgain 4 (some .int) { frames := 4, cells := 0, slots := 0, locals := 87 } 1 (fX6_sendAgain ln) := by
  refine sw_meth hG (by decide) (by refine ⟨?_, ?_, ?_, ?_⟩ <;> intro h <;> first | rfl | exact ⟨_, rfl⟩ | exact absurd h (by decide)) (by decide) kX6_sendAgain flX6_in cnX6_in ?_ (sw_fo_h (W := fun Q L σ => ∃ fuel, wX6_sendAgain ln Q fuel 0 L [] σ) (fun a0 σ h => hX6_sendAgain ln a0 σ h))
  intro p e s m args below meth c S hT hnw
  refine List.forall_mem_cons.mpr ⟨sw_cokV S hT hnw (mX3_size hG) 120 3 (by decide) ⟨by decide +kernel, by decide +kernel, by decide +kernel, by decide +kernel, by decide +kernel⟩ ⟨rfl, by decide, by decide, by decide +kernel⟩ ⟨rfl, rfl⟩ ⟨by decide, by decide⟩, ?_⟩
  refine List.forall_mem_cons.mpr ⟨sw_cokV S hT hnw (mX3_hasRoom hG) 128 3 (by decide) ⟨by decide +kernel, by decide +kernel, by decide +kernel, by decide +kernel, by decide +kernel⟩ ⟨rfl, by decide, by decide, by decide +kernel⟩ ⟨rfl, rfl⟩ ⟨by decide, by decide⟩, ?_⟩
  refine List.forall_mem_cons.mpr ⟨sw_cokV S hT hnw (mX3_frameAt hG) 121 3 (by decide) ⟨by decide +kernel, by decide +kernel, by decide +kernel, by decide +kernel, by decide +kernel⟩ ⟨rfl, by decide, by decide, by decide +kernel⟩ ⟨rfl, rfl⟩ ⟨by decide, by decide⟩, ?_⟩
  refine List.forall_mem_cons.mpr ⟨sw_cokV S hT hnw (mX2_copyFrom hG) 236 2 (by decide) ⟨by decide +kernel, by decide +kernel, by decide +kernel, by decide +kernel, by decide +kernel⟩ ⟨rfl, by decide, by decide, by decide +kernel⟩ ⟨rfl, rfl⟩ ⟨by decide, by decide⟩, ?_⟩
  refine List.forall_mem_cons.mpr ⟨sw_cokV S hT hnw (mX2_renew hG) 239 2 (by decide) ⟨by decide +kernel, by decide +kernel, by decide +kernel, by decide +kernel, by decide +kernel⟩ ⟨rfl, by decide, by decide, by decide +kernel⟩ ⟨rfl, rfl⟩ ⟨by decide, by decide⟩, ?_⟩
  refine List.forall_mem_cons.mpr ⟨sw_cokV S hT hnw (mX6_sendDraft hG) 230 6 (by decide) ⟨by decide +kernel, by decide +kernel, by decide +kernel, by decide +kernel, by decide +kernel⟩ ⟨rfl, by decide, by decide, by decide +kernel⟩ ⟨rfl, rfl⟩ ⟨by decide, by decide⟩, ?_⟩
  exact fun q h => absurd h List.not_mem_nil
end
section
/-! StreamWires: its methods -/
def wi_sa (i : Int32) : Option (Nat × Nat) := if i = 0 then some (6, 0) else if i = 1 then some (6, 1) else none
theorem wi_sa_6 {i : Int32} {q : Nat × Nat} (h : wi_sa i = some q) : q.1 = 6 := by
  unfold wi_sa at h
  split at h
  · cases h; rfl
  · split at h
    · cases h; rfl
    · cases h
def gX7_sideAt (ln : sw_A) (x : Nat) (i : Int32) (σ : sw_S) : sw_X := (True, some (.inr (wi_sa i)), σ)
def fX7_sideAt (ln : sw_A) : sw_F := sw_foi 7 (gX7_sideAt ln)
def ctX7_sideAt (ln : sw_A) : sw_C := []
abbrev wX7_sideAt (ln : sw_A) (Q : Option sw_V → sw_S → Prop) : Nat → Nat → sw_L → List sw_V → sw_S → Prop := sw_wp sw_rf ln (ctX7_sideAt ln) sX7_sideAt 3 22 tX7_sideAt Q
theorem hX7_sideAt (ln : sw_A) (x : Nat) (i : Int32) (σ : sw_S) (h : (gX7_sideAt ln x i σ).1) : ∃ fuel, wX7_sideAt ln (sw_end (gX7_sideAt ln x i σ)) fuel 0 (sw_ent 2 [.inr (some (7, x)), .inl i]) [] σ :=
  ⟨20, And.intro (fun (h1 : ¬ i = 0) => And.intro (fun (h2 : ¬ i = 1) => ⟨sw_rr ((if_neg h1).trans (if_neg h2)).symm, rfl⟩) (fun (h2 : i = 1) => ⟨sw_rr ((if_neg h1).trans (if_pos h2)).symm, rfl⟩)) (fun (h1 : i = 0) => ⟨sw_rr (if_pos h1).symm, rfl⟩)⟩
set_option maxRecDepth 100000 in
theorem mX7_sideAt {l : Launch} {ad : sw_A} {V : Nat → Nat → Prop} {ln : sw_A} {ca : Nat → ClassId} {D : va_G} (hG : sw_wf ad V sw_rf ln) : sw_met l ad V sw_rf ln ca D yX7_sideAt cX7_sideAt 2 (some (.object "StreamWires$Side")) { frames := 0, cells := 0, slots := 0, locals := 0 } 2 (fX7_sideAt ln) := by
  refine sw_meth hG (by decide) (by refine ⟨?_, ?_, ?_, ?_⟩ <;> intro h <;> first | rfl | exact ⟨_, rfl⟩ | exact absurd h (by decide)) (by decide) kX7_sideAt flX7_in cnX7_in ?_ (sw_foi_h (W := fun Q L σ => ∃ fuel, wX7_sideAt ln Q fuel 0 L [] σ) (fun a0 a1 σ h => hX7_sideAt ln a0 a1 σ h))
  intro p e s m args below meth c S hT hnw
  exact fun q h => absurd h List.not_mem_nil
def wi_fl (ln : sw_A) (i t : Int32) : Option (Nat × Nat) := sd_om none (fun q => sd_fa ln q.2 t) (wi_sa i)
def gX7_flowAt (ln : sw_A) (x : Nat) (i t : Int32) (σ : sw_S) : sw_X := (lo ln, some (.inr (wi_fl ln i t)), σ)
def fX7_flowAt (ln : sw_A) : sw_F := sw_foii 7 (gX7_flowAt ln)
def ctX7_flowAt (ln : sw_A) : sw_C := [(43, 2, 8, fX7_sideAt ln), (99, 2, 7, fX6_flowAt ln)]
abbrev wX7_flowAt (ln : sw_A) (Q : Option sw_V → sw_S → Prop) : Nat → Nat → sw_L → List sw_V → sw_S → Prop := sw_wp sw_rf ln (ctX7_flowAt ln) sX7_flowAt 3 19 tX7_flowAt Q
theorem hX7_flowAt (ln : sw_A) (x : Nat) (i t : Int32) (σ : sw_S) (h : (gX7_flowAt ln x i t σ).1) : ∃ fuel, wX7_flowAt ln (sw_end (gX7_flowAt ln x i t σ)) fuel 0 (sw_ent 4 [.inr (some (7, x)), .inl i, .inl t]) [] σ := by
  have key : ∃ M, ∀ r, r = wi_sa i → wX7_flowAt ln (sw_end (gX7_flowAt ln x i t σ)) M 5 [some (.inr (some (7, x))), some (.inl i), some (.inl t), none] [.inr r] σ := by
    refine ⟨20, fun r hr => ?_⟩
    cases r with
    | none => exact ⟨sw_rr (by unfold wi_fl; rw [← hr]; rfl), rfl⟩
    | some q =>
      obtain ⟨q1, q2⟩ := q
      have e1 : q1 = 6 := wi_sa_6 hr.symm
      subst e1
      exact And.intro (h.1 14 q2) ⟨sw_rr (by unfold wi_fl; rw [← hr]; rfl), rfl⟩
  obtain ⟨M, key⟩ := key
  exact ⟨M + 10, sw_ws_wp [5] M 10 _ _ _ _ (And.intro trivial (key _ rfl))⟩
set_option maxRecDepth 100000 in
theorem mX7_flowAt {l : Launch} {ad : sw_A} {V : Nat → Nat → Prop} {ln : sw_A} {ca : Nat → ClassId} {D : va_G} (hG : sw_wf ad V sw_rf ln) : sw_met l ad V sw_rf ln ca D yX7_flowAt cX7_flowAt 4 (some (.object "StreamWires$Flow")) { frames := 1, cells := 0, slots := 0, locals := 21 } 3 (fX7_flowAt ln) := by
  refine sw_meth hG (by decide) (by refine ⟨?_, ?_, ?_, ?_⟩ <;> intro h <;> first | rfl | exact ⟨_, rfl⟩ | exact absurd h (by decide)) (by decide) kX7_flowAt flX7_in cnX7_in ?_ (sw_foii_h (W := fun Q L σ => ∃ fuel, wX7_flowAt ln Q fuel 0 L [] σ) (fun a0 a1 a2 σ h => hX7_flowAt ln a0 a1 a2 σ h))
  intro p e s m args below meth c S hT hnw
  refine List.forall_mem_cons.mpr ⟨sw_cokV S hT hnw (mX7_sideAt hG) 43 7 (by decide) ⟨by decide +kernel, by decide +kernel, by decide +kernel, by decide +kernel, by decide +kernel⟩ ⟨rfl, by decide, by decide, by decide +kernel⟩ ⟨rfl, rfl⟩ ⟨by decide, by decide⟩, ?_⟩
  refine List.forall_mem_cons.mpr ⟨sw_cokV S hT hnw (mX6_flowAt hG) 99 6 (by decide) ⟨by decide +kernel, by decide +kernel, by decide +kernel, by decide +kernel, by decide +kernel⟩ ⟨rfl, by decide, by decide, by decide +kernel⟩ ⟨rfl, rfl⟩ ⟨by decide, by decide⟩, ?_⟩
  exact fun q h => absurd h List.not_mem_nil
theorem wi_fl_1 {ln : sw_A} {i t : Int32} {q : Nat × Nat} (h : wi_fl ln i t = some q) : q.1 = 1 := by
  unfold wi_fl at h
  cases h2 : wi_sa i with
  | none => rw [h2] at h; cases h
  | some p => rw [h2] at h; exact sd_fa_1 h
def wi_fr (ln : sw_A) (i j : Int32) (σ : sw_S) : Option (Nat × Nat) := sd_om none (fun q => rg_fa ln (2 * q.2 + 1) j σ) (wi_sa i)
def gX7_frameAt (ln : sw_A) (x : Nat) (i j : Int32) (σ : sw_S) : sw_X := (lo ln, some (.inr (wi_fr ln i j σ)), σ)
def fX7_frameAt (ln : sw_A) : sw_F := sw_foii 7 (gX7_frameAt ln)
def ctX7_frameAt (ln : sw_A) : sw_C := [(43, 2, 8, fX7_sideAt ln), (66, 2, 4, fX3_frameAt ln)]
abbrev wX7_frameAt (ln : sw_A) (Q : Option sw_V → sw_S → Prop) : Nat → Nat → sw_L → List sw_V → sw_S → Prop := sw_wp sw_rf ln (ctX7_frameAt ln) sX7_frameAt 3 22 tX7_frameAt Q
theorem hX7_frameAt (ln : sw_A) (x : Nat) (i j : Int32) (σ : sw_S) (h : (gX7_frameAt ln x i j σ).1) : ∃ fuel, wX7_frameAt ln (sw_end (gX7_frameAt ln x i j σ)) fuel 0 (sw_ent 4 [.inr (some (7, x)), .inl i, .inl j]) [] σ := by
  have key : ∃ M, ∀ r, r = wi_sa i → wX7_frameAt ln (sw_end (gX7_frameAt ln x i j σ)) M 5 [some (.inr (some (7, x))), some (.inl i), some (.inl j), none] [.inr r] σ := by
    refine ⟨20, fun r hr => ?_⟩
    cases r with
    | none => exact ⟨sw_rr (by unfold wi_fr; rw [← hr]; rfl), rfl⟩
    | some q =>
      obtain ⟨q1, q2⟩ := q
      have e1 : q1 = 6 := wi_sa_6 hr.symm
      subst e1
      exact And.intro (h.1 13 (2 * q2 + 1)) ⟨sw_rr (by unfold wi_fr; rw [← hr]; rfl), rfl⟩
  obtain ⟨M, key⟩ := key
  exact ⟨M + 10, sw_ws_wp [5] M 10 _ _ _ _ (And.intro trivial (key _ rfl))⟩
set_option maxRecDepth 100000 in
theorem mX7_frameAt {l : Launch} {ad : sw_A} {V : Nat → Nat → Prop} {ln : sw_A} {ca : Nat → ClassId} {D : va_G} (hG : sw_wf ad V sw_rf ln) : sw_met l ad V sw_rf ln ca D yX7_frameAt cX7_frameAt 4 (some (.object "StreamWires$Frame")) { frames := 2, cells := 0, slots := 0, locals := 43 } 3 (fX7_frameAt ln) := by
  refine sw_meth hG (by decide) (by refine ⟨?_, ?_, ?_, ?_⟩ <;> intro h <;> first | rfl | exact ⟨_, rfl⟩ | exact absurd h (by decide)) (by decide) kX7_frameAt flX7_in cnX7_in ?_ (sw_foii_h (W := fun Q L σ => ∃ fuel, wX7_frameAt ln Q fuel 0 L [] σ) (fun a0 a1 a2 σ h => hX7_frameAt ln a0 a1 a2 σ h))
  intro p e s m args below meth c S hT hnw
  refine List.forall_mem_cons.mpr ⟨sw_cokV S hT hnw (mX7_sideAt hG) 43 7 (by decide) ⟨by decide +kernel, by decide +kernel, by decide +kernel, by decide +kernel, by decide +kernel⟩ ⟨rfl, by decide, by decide, by decide +kernel⟩ ⟨rfl, rfl⟩ ⟨by decide, by decide⟩, ?_⟩
  refine List.forall_mem_cons.mpr ⟨sw_cokV S hT hnw (mX3_frameAt hG) 66 3 (by decide) ⟨by decide +kernel, by decide +kernel, by decide +kernel, by decide +kernel, by decide +kernel⟩ ⟨rfl, by decide, by decide, by decide +kernel⟩ ⟨rfl, rfl⟩ ⟨by decide, by decide⟩, ?_⟩
  exact fun q h => absurd h List.not_mem_nil
theorem wi_fr_2 {ln : sw_A} {i j : Int32} {σ : sw_S} {q : Nat × Nat} (h : wi_fr ln i j σ = some q) : q.1 = 2 := by
  unfold wi_fr at h
  cases h2 : wi_sa i with
  | none => rw [h2] at h; cases h
  | some p => rw [h2] at h; exact rg_fa_2 h
abbrev wi_P : Type := Int32 × sw_S
def rz (σ : sw_S) : Prop := ∀ r, 0 ≤ σ 3 r 2
theorem sw_pe {x : Int32} {s : sw_S} {p : wi_P} (h : p = (x, s)) : some (Sum.inl x : sw_V) = some (Sum.inl p.1) ∧ s = p.2 := by
  rw [h]
  exact ⟨rfl, rfl⟩

def wi_open (ln : sw_A) (i t : Int32) (σ : sw_S) : wi_P := sd_om (-1, σ) (fun q => (if σ 1 q.2 3 = 0 then 1 else 0, (gX1_begin ln q.2 σ).2.2)) (wi_fl ln i t)
def gX7_open (ln : sw_A) (x : Nat) (i t : Int32) (σ : sw_S) : sw_X := (lo ln, some (.inl (wi_open ln i t σ).1), (wi_open ln i t σ).2)
def fX7_open (ln : sw_A) : sw_F := sw_foii 7 (gX7_open ln)
def ctX7_open (ln : sw_A) : sw_C := [(26, 3, 8, fX7_flowAt ln), (30, 1, 2, fX1_begin ln)]
abbrev wX7_open (ln : sw_A) (Q : Option sw_V → sw_S → Prop) : Nat → Nat → sw_L → List sw_V → sw_S → Prop := sw_wp sw_rf ln (ctX7_open ln) sX7_open 1 25 tX7_open Q
theorem hX7_open (ln : sw_A) (x : Nat) (i t : Int32) (σ : sw_S) (h : (gX7_open ln x i t σ).1) : ∃ fuel, wX7_open ln (sw_end (gX7_open ln x i t σ)) fuel 0 (sw_ent 4 [.inr (some (7, x)), .inl i, .inl t]) [] σ := by
  have key : ∃ M, ∀ r, r = wi_fl ln i t → wX7_open ln (sw_end (gX7_open ln x i t σ)) M 6 [some (.inr (some (7, x))), some (.inl i), some (.inl t), none] [.inr r] σ := by
    refine ⟨20, fun r hr => ?_⟩
    cases r with
    | none => exact sw_pe (by unfold wi_open; rw [← hr]; rfl)
    | some q =>
      obtain ⟨q1, q2⟩ := q
      have e1 : q1 = 1 := wi_fl_1 hr.symm
      subst e1
      have hp : wi_open ln i t σ = (if σ 1 q2 3 = 0 then 1 else 0, (gX1_begin ln q2 σ).2.2) := by unfold wi_open; rw [← hr]; rfl
      refine And.intro trivial (And.intro (fun (a1 : (if σ 1 q2 3 = 0 then (1 : Int32) else 0) = 0) => sw_pe (by rw [hp, a1]; rfl)) (fun (a1 : ¬ (if σ 1 q2 3 = 0 then (1 : Int32) else 0) = 0) => sw_pe ?_))
      rw [hp]
      by_cases h0 : σ 1 q2 3 = 0
      · rw [if_pos h0]; rfl
      · rw [if_neg h0] at a1
        exact absurd rfl a1
  obtain ⟨M, key⟩ := key
  exact ⟨M + 10, sw_ws_wp [6] M 10 _ _ _ _ (And.intro h (key _ rfl))⟩
set_option maxRecDepth 100000 in
theorem mX7_open {l : Launch} {ad : sw_A} {V : Nat → Nat → Prop} {ln : sw_A} {ca : Nat → ClassId} {D : va_G} (hG : sw_wf ad V sw_rf ln) : sw_met l ad V sw_rf ln ca D yX7_open cX7_open 4 (some .int) { frames := 2, cells := 0, slots := 0, locals := 44 } 3 (fX7_open ln) := by
  refine sw_meth hG (by decide) (by refine ⟨?_, ?_, ?_, ?_⟩ <;> intro h <;> first | rfl | exact ⟨_, rfl⟩ | exact absurd h (by decide)) (by decide) kX7_open flX7_in cnX7_in ?_ (sw_foii_h (W := fun Q L σ => ∃ fuel, wX7_open ln Q fuel 0 L [] σ) (fun a0 a1 a2 σ h => hX7_open ln a0 a1 a2 σ h))
  intro p e s m args below meth c S hT hnw
  refine List.forall_mem_cons.mpr ⟨sw_cokV S hT hnw (mX7_flowAt hG) 26 7 (by decide) ⟨by decide +kernel, by decide +kernel, by decide +kernel, by decide +kernel, by decide +kernel⟩ ⟨rfl, by decide, by decide, by decide +kernel⟩ ⟨rfl, rfl⟩ ⟨by decide, by decide⟩, ?_⟩
  refine List.forall_mem_cons.mpr ⟨sw_cokV S hT hnw (mX1_begin hG) 30 1 (by decide) ⟨by decide +kernel, by decide +kernel, by decide +kernel, by decide +kernel, by decide +kernel⟩ ⟨rfl, by decide, by decide, by decide +kernel⟩ ⟨rfl, rfl⟩ ⟨by decide, by decide⟩, ?_⟩
  exact fun q h => absurd h List.not_mem_nil

def wi_close (ln : sw_A) (i t : Int32) (σ : sw_S) : wi_P := sd_om (-1, σ) (fun q => (if σ 1 q.2 3 = 1 then 1 else 0, (gX1_finish ln q.2 σ).2.2)) (wi_fl ln i t)
def gX7_close (ln : sw_A) (x : Nat) (i t : Int32) (σ : sw_S) : sw_X := (lo ln, some (.inl (wi_close ln i t σ).1), (wi_close ln i t σ).2)
def fX7_close (ln : sw_A) : sw_F := sw_foii 7 (gX7_close ln)
def ctX7_close (ln : sw_A) : sw_C := [(26, 3, 8, fX7_flowAt ln), (40, 1, 2, fX1_finish ln)]
abbrev wX7_close (ln : sw_A) (Q : Option sw_V → sw_S → Prop) : Nat → Nat → sw_L → List sw_V → sw_S → Prop := sw_wp sw_rf ln (ctX7_close ln) sX7_close 1 25 tX7_close Q
theorem hX7_close (ln : sw_A) (x : Nat) (i t : Int32) (σ : sw_S) (h : (gX7_close ln x i t σ).1) : ∃ fuel, wX7_close ln (sw_end (gX7_close ln x i t σ)) fuel 0 (sw_ent 4 [.inr (some (7, x)), .inl i, .inl t]) [] σ := by
  have key : ∃ M, ∀ r, r = wi_fl ln i t → wX7_close ln (sw_end (gX7_close ln x i t σ)) M 6 [some (.inr (some (7, x))), some (.inl i), some (.inl t), none] [.inr r] σ := by
    refine ⟨20, fun r hr => ?_⟩
    cases r with
    | none => exact sw_pe (by unfold wi_close; rw [← hr]; rfl)
    | some q =>
      obtain ⟨q1, q2⟩ := q
      have e1 : q1 = 1 := wi_fl_1 hr.symm
      subst e1
      have hp : wi_close ln i t σ = (if σ 1 q2 3 = 1 then 1 else 0, (gX1_finish ln q2 σ).2.2) := by unfold wi_close; rw [← hr]; rfl
      refine And.intro trivial (And.intro (fun (a1 : (if σ 1 q2 3 = 1 then (1 : Int32) else 0) = 0) => sw_pe (by rw [hp, a1]; rfl)) (fun (a1 : ¬ (if σ 1 q2 3 = 1 then (1 : Int32) else 0) = 0) => sw_pe ?_))
      rw [hp]
      by_cases h0 : σ 1 q2 3 = 1
      · rw [if_pos h0]; rfl
      · rw [if_neg h0] at a1
        exact absurd rfl a1
  obtain ⟨M, key⟩ := key
  exact ⟨M + 10, sw_ws_wp [6] M 10 _ _ _ _ (And.intro h (key _ rfl))⟩
set_option maxRecDepth 100000 in
theorem mX7_close {l : Launch} {ad : sw_A} {V : Nat → Nat → Prop} {ln : sw_A} {ca : Nat → ClassId} {D : va_G} (hG : sw_wf ad V sw_rf ln) : sw_met l ad V sw_rf ln ca D yX7_close cX7_close 4 (some .int) { frames := 2, cells := 0, slots := 0, locals := 44 } 3 (fX7_close ln) := by
  refine sw_meth hG (by decide) (by refine ⟨?_, ?_, ?_, ?_⟩ <;> intro h <;> first | rfl | exact ⟨_, rfl⟩ | exact absurd h (by decide)) (by decide) kX7_close flX7_in cnX7_in ?_ (sw_foii_h (W := fun Q L σ => ∃ fuel, wX7_close ln Q fuel 0 L [] σ) (fun a0 a1 a2 σ h => hX7_close ln a0 a1 a2 σ h))
  intro p e s m args below meth c S hT hnw
  refine List.forall_mem_cons.mpr ⟨sw_cokV S hT hnw (mX7_flowAt hG) 26 7 (by decide) ⟨by decide +kernel, by decide +kernel, by decide +kernel, by decide +kernel, by decide +kernel⟩ ⟨rfl, by decide, by decide, by decide +kernel⟩ ⟨rfl, rfl⟩ ⟨by decide, by decide⟩, ?_⟩
  refine List.forall_mem_cons.mpr ⟨sw_cokV S hT hnw (mX1_finish hG) 40 1 (by decide) ⟨by decide +kernel, by decide +kernel, by decide +kernel, by decide +kernel, by decide +kernel⟩ ⟨rfl, by decide, by decide, by decide +kernel⟩ ⟨rfl, rfl⟩ ⟨by decide, by decide⟩, ?_⟩
  exact fun q h => absurd h List.not_mem_nil

def wi_pm (ln : sw_A) (w b : Int32) (σ : sw_S) : Option (Nat × Nat) → Option (Nat × Nat) → wi_P
  | some p, some q => (sd_qi ln p.2 q.2 σ, (gX6_queueItem ln p.2 q.2 w b σ).2.2)
  | _, _ => (-1, σ)
def wi_pi (ln : sw_A) (i t w b : Int32) (σ : sw_S) : wi_P := wi_pm ln w b σ (wi_sa i) (wi_fl ln i t)
def gX7_putItem (ln : sw_A) (x : Nat) (i t w b : Int32) (σ : sw_S) : sw_X := (lo ln ∧ fg ln σ ∧ rz σ ∧ sw_bo b, some (.inl (wi_pi ln i t w b σ).1), (wi_pi ln i t w b σ).2)
def fX7_putItem (ln : sw_A) : sw_F := sw_foiiii 7 (gX7_putItem ln)
def ctX7_putItem (ln : sw_A) : sw_C := [(43, 2, 8, fX7_sideAt ln), (26, 3, 8, fX7_flowAt ln), (102, 4, 7, fX6_queueItem ln)]
abbrev wX7_putItem (ln : sw_A) (Q : Option sw_V → sw_S → Prop) : Nat → Nat → sw_L → List sw_V → sw_S → Prop := sw_wp sw_rf ln (ctX7_putItem ln) sX7_putItem 1 37 tX7_putItem Q
theorem hX7_putItem (ln : sw_A) (x : Nat) (i t w b : Int32) (σ : sw_S) (h : (gX7_putItem ln x i t w b σ).1) : ∃ fuel, wX7_putItem ln (sw_end (gX7_putItem ln x i t w b σ)) fuel 0 (sw_ent 7 [.inr (some (7, x)), .inl i, .inl t, .inl w, .inl b]) [] σ := by
  obtain ⟨hl, hg, hz, hb⟩ := h
  have k13 : ∃ M, ∀ r1 r2, r1 = wi_sa i → r2 = wi_fl ln i t → wX7_putItem ln (sw_end (gX7_putItem ln x i t w b σ)) M 13 [some (.inr (some (7, x))), some (.inl i), some (.inl t), some (.inl w), some (.inl b), some (.inr r1), none] [.inr r2] σ := by
    refine ⟨20, fun r1 r2 h1 h2 => ?_⟩
    have hp : wi_pi ln i t w b σ = wi_pm ln w b σ r1 r2 := by unfold wi_pi; rw [← h1, ← h2]
    cases r1 with
    | none => exact sw_pe (by rw [hp]; rfl)
    | some p =>
      obtain ⟨p1, p2⟩ := p
      have e1 : p1 = 6 := wi_sa_6 h1.symm
      subst e1
      cases r2 with
      | none => exact sw_pe (by rw [hp]; rfl)
      | some q =>
        obtain ⟨q1, q2⟩ := q
        have e2 : q1 = 1 := wi_fl_1 h2.symm
        subst e2
        exact And.intro ⟨⟨hl, hg, hz _⟩, hb⟩ (sw_pe (by rw [hp]; rfl))
  obtain ⟨M, k13⟩ := k13
  exact ⟨M + 20, sw_ws_wp [13] M 20 _ _ _ _ (And.intro trivial (And.intro hl (k13 _ _ rfl rfl)))⟩
set_option maxRecDepth 100000 in
theorem mX7_putItem {l : Launch} {ad : sw_A} {V : Nat → Nat → Prop} {ln : sw_A} {ca : Nat → ClassId} {D : va_G} (hG : sw_wf ad V sw_rf ln) : sw_met l ad V sw_rf ln ca D yX7_putItem cX7_putItem 7 (some .int) { frames := 5, cells := 0, slots := 0, locals := 114 } 5 (fX7_putItem ln) := by
  refine sw_meth hG (by decide) (by refine ⟨?_, ?_, ?_, ?_⟩ <;> intro h <;> first | rfl | exact ⟨_, rfl⟩ | exact absurd h (by decide)) (by decide) kX7_putItem flX7_in cnX7_in ?_ (sw_foiiii_h (W := fun Q L σ => ∃ fuel, wX7_putItem ln Q fuel 0 L [] σ) (fun a0 a1 a2 a3 a4 σ h => hX7_putItem ln a0 a1 a2 a3 a4 σ h))
  intro p e s m args below meth c S hT hnw
  refine List.forall_mem_cons.mpr ⟨sw_cokV S hT hnw (mX7_sideAt hG) 43 7 (by decide) ⟨by decide +kernel, by decide +kernel, by decide +kernel, by decide +kernel, by decide +kernel⟩ ⟨rfl, by decide, by decide, by decide +kernel⟩ ⟨rfl, rfl⟩ ⟨by decide, by decide⟩, ?_⟩
  refine List.forall_mem_cons.mpr ⟨sw_cokV S hT hnw (mX7_flowAt hG) 26 7 (by decide) ⟨by decide +kernel, by decide +kernel, by decide +kernel, by decide +kernel, by decide +kernel⟩ ⟨rfl, by decide, by decide, by decide +kernel⟩ ⟨rfl, rfl⟩ ⟨by decide, by decide⟩, ?_⟩
  refine List.forall_mem_cons.mpr ⟨sw_cokV S hT hnw (mX6_queueItem hG) 102 6 (by decide) ⟨by decide +kernel, by decide +kernel, by decide +kernel, by decide +kernel, by decide +kernel⟩ ⟨rfl, by decide, by decide, by decide +kernel⟩ ⟨rfl, rfl⟩ ⟨by decide, by decide⟩, ?_⟩
  exact fun q h => absurd h List.not_mem_nil
def gX7_send (ln : sw_A) (x : Nat) (i t w : Int32) (σ : sw_S) : sw_X := (lo ln ∧ fg ln σ ∧ rz σ, some (.inl (wi_pi ln i t w 0 σ).1), (wi_pi ln i t w 0 σ).2)
def fX7_send (ln : sw_A) : sw_F := sw_foiii 7 (gX7_send ln)
def ctX7_send (ln : sw_A) : sw_C := [(36, 5, 8, fX7_putItem ln)]
abbrev wX7_send (ln : sw_A) (Q : Option sw_V → sw_S → Prop) : Nat → Nat → sw_L → List sw_V → sw_S → Prop := sw_wp sw_rf ln (ctX7_send ln) sX7_send 1 8 tX7_send Q
theorem hX7_send (ln : sw_A) (x : Nat) (i t w : Int32) (σ : sw_S) (h : (gX7_send ln x i t w σ).1) : ∃ fuel, wX7_send ln (sw_end (gX7_send ln x i t w σ)) fuel 0 (sw_ent 4 [.inr (some (7, x)), .inl i, .inl t, .inl w]) [] σ :=
  ⟨20, And.intro ⟨h.1, h.2.1, h.2.2, Or.inl rfl⟩ ⟨rfl, rfl⟩⟩
set_option maxRecDepth 100000 in
theorem mX7_send {l : Launch} {ad : sw_A} {V : Nat → Nat → Prop} {ln : sw_A} {ca : Nat → ClassId} {D : va_G} (hG : sw_wf ad V sw_rf ln) : sw_met l ad V sw_rf ln ca D yX7_send cX7_send 4 (some .int) { frames := 6, cells := 0, slots := 0, locals := 140 } 4 (fX7_send ln) := by
  refine sw_meth hG (by decide) (by refine ⟨?_, ?_, ?_, ?_⟩ <;> intro h <;> first | rfl | exact ⟨_, rfl⟩ | exact absurd h (by decide)) (by decide) kX7_send flX7_in cnX7_in ?_ (sw_foiii_h (W := fun Q L σ => ∃ fuel, wX7_send ln Q fuel 0 L [] σ) (fun a0 a1 a2 a3 σ h => hX7_send ln a0 a1 a2 a3 σ h))
  intro p e s m args below meth c S hT hnw
  refine List.forall_mem_cons.mpr ⟨sw_cokV S hT hnw (mX7_putItem hG) 36 7 (by decide) ⟨by decide +kernel, by decide +kernel, by decide +kernel, by decide +kernel, by decide +kernel⟩ ⟨rfl, by decide, by decide, by decide +kernel⟩ ⟨rfl, rfl⟩ ⟨by decide, by decide⟩, ?_⟩
  exact fun q h => absurd h List.not_mem_nil
def gX7_mark (ln : sw_A) (x : Nat) (i t : Int32) (σ : sw_S) : sw_X := (lo ln ∧ fg ln σ ∧ rz σ, some (.inl (wi_pi ln i t 0 1 σ).1), (wi_pi ln i t 0 1 σ).2)
def fX7_mark (ln : sw_A) : sw_F := sw_foii 7 (gX7_mark ln)
def ctX7_mark (ln : sw_A) : sw_C := [(36, 5, 8, fX7_putItem ln)]
abbrev wX7_mark (ln : sw_A) (Q : Option sw_V → sw_S → Prop) : Nat → Nat → sw_L → List sw_V → sw_S → Prop := sw_wp sw_rf ln (ctX7_mark ln) sX7_mark 1 8 tX7_mark Q
theorem hX7_mark (ln : sw_A) (x : Nat) (i t : Int32) (σ : sw_S) (h : (gX7_mark ln x i t σ).1) : ∃ fuel, wX7_mark ln (sw_end (gX7_mark ln x i t σ)) fuel 0 (sw_ent 3 [.inr (some (7, x)), .inl i, .inl t]) [] σ :=
  ⟨20, And.intro ⟨h.1, h.2.1, h.2.2, Or.inr rfl⟩ ⟨rfl, rfl⟩⟩
set_option maxRecDepth 100000 in
theorem mX7_mark {l : Launch} {ad : sw_A} {V : Nat → Nat → Prop} {ln : sw_A} {ca : Nat → ClassId} {D : va_G} (hG : sw_wf ad V sw_rf ln) : sw_met l ad V sw_rf ln ca D yX7_mark cX7_mark 3 (some .int) { frames := 6, cells := 0, slots := 0, locals := 140 } 3 (fX7_mark ln) := by
  refine sw_meth hG (by decide) (by refine ⟨?_, ?_, ?_, ?_⟩ <;> intro h <;> first | rfl | exact ⟨_, rfl⟩ | exact absurd h (by decide)) (by decide) kX7_mark flX7_in cnX7_in ?_ (sw_foii_h (W := fun Q L σ => ∃ fuel, wX7_mark ln Q fuel 0 L [] σ) (fun a0 a1 a2 σ h => hX7_mark ln a0 a1 a2 σ h))
  intro p e s m args below meth c S hT hnw
  refine List.forall_mem_cons.mpr ⟨sw_cokV S hT hnw (mX7_putItem hG) 36 7 (by decide) ⟨by decide +kernel, by decide +kernel, by decide +kernel, by decide +kernel, by decide +kernel⟩ ⟨rfl, by decide, by decide, by decide +kernel⟩ ⟨rfl, rfl⟩ ⟨by decide, by decide⟩, ?_⟩
  exact fun q h => absurd h List.not_mem_nil
def wi_rm (ln : sw_A) (σ : sw_S) : Option (Nat × Nat) → Option (Nat × Nat) → wi_P
  | some p, some q => (sd_ti ln q.2 σ, sd_tt ln p.2 q.2 σ)
  | _, _ => (-1, σ)
def wi_re (ln : sw_A) (i t : Int32) (σ : sw_S) : wi_P := wi_rm ln σ (wi_sa i) (wi_fl ln i t)
def gX7_receive (ln : sw_A) (x : Nat) (i t : Int32) (σ : sw_S) : sw_X := (lo ln ∧ bb σ, some (.inl (wi_re ln i t σ).1), (wi_re ln i t σ).2)
def fX7_receive (ln : sw_A) : sw_F := sw_foii 7 (gX7_receive ln)
def ctX7_receive (ln : sw_A) : sw_C := [(43, 2, 8, fX7_sideAt ln), (26, 3, 8, fX7_flowAt ln), (47, 2, 7, fX6_takeItem ln)]
abbrev wX7_receive (ln : sw_A) (Q : Option sw_V → sw_S → Prop) : Nat → Nat → sw_L → List sw_V → sw_S → Prop := sw_wp sw_rf ln (ctX7_receive ln) sX7_receive 1 31 tX7_receive Q
theorem hX7_receive (ln : sw_A) (x : Nat) (i t : Int32) (σ : sw_S) (h : (gX7_receive ln x i t σ).1) : ∃ fuel, wX7_receive ln (sw_end (gX7_receive ln x i t σ)) fuel 0 (sw_ent 5 [.inr (some (7, x)), .inl i, .inl t]) [] σ := by
  obtain ⟨hl, hb⟩ := h
  have k12 : ∃ M, ∀ r1 r2, r1 = wi_sa i → r2 = wi_fl ln i t → wX7_receive ln (sw_end (gX7_receive ln x i t σ)) M 12 [some (.inr (some (7, x))), some (.inl i), some (.inl t), some (.inr r1), none] [.inr r2] σ := by
    refine ⟨20, fun r1 r2 h1 h2 => ?_⟩
    have hp : wi_re ln i t σ = wi_rm ln σ r1 r2 := by unfold wi_re; rw [← h1, ← h2]
    cases r1 with
    | none => exact sw_pe (by rw [hp]; rfl)
    | some p =>
      obtain ⟨p1, p2⟩ := p
      have e1 : p1 = 6 := wi_sa_6 h1.symm
      subst e1
      cases r2 with
      | none => exact sw_pe (by rw [hp]; rfl)
      | some q =>
        obtain ⟨q1, q2⟩ := q
        have e2 : q1 = 1 := wi_fl_1 h2.symm
        subst e2
        exact And.intro ⟨hl, (hb _).2⟩ (sw_pe (by rw [hp]; rfl))
  obtain ⟨M, k12⟩ := k12
  exact ⟨M + 20, sw_ws_wp [12] M 20 _ _ _ _ (And.intro trivial (And.intro hl (k12 _ _ rfl rfl)))⟩
set_option maxRecDepth 100000 in
theorem mX7_receive {l : Launch} {ad : sw_A} {V : Nat → Nat → Prop} {ln : sw_A} {ca : Nat → ClassId} {D : va_G} (hG : sw_wf ad V sw_rf ln) : sw_met l ad V sw_rf ln ca D yX7_receive cX7_receive 5 (some .int) { frames := 5, cells := 0, slots := 0, locals := 105 } 3 (fX7_receive ln) := by
  refine sw_meth hG (by decide) (by refine ⟨?_, ?_, ?_, ?_⟩ <;> intro h <;> first | rfl | exact ⟨_, rfl⟩ | exact absurd h (by decide)) (by decide) kX7_receive flX7_in cnX7_in ?_ (sw_foii_h (W := fun Q L σ => ∃ fuel, wX7_receive ln Q fuel 0 L [] σ) (fun a0 a1 a2 σ h => hX7_receive ln a0 a1 a2 σ h))
  intro p e s m args below meth c S hT hnw
  refine List.forall_mem_cons.mpr ⟨sw_cokV S hT hnw (mX7_sideAt hG) 43 7 (by decide) ⟨by decide +kernel, by decide +kernel, by decide +kernel, by decide +kernel, by decide +kernel⟩ ⟨rfl, by decide, by decide, by decide +kernel⟩ ⟨rfl, rfl⟩ ⟨by decide, by decide⟩, ?_⟩
  refine List.forall_mem_cons.mpr ⟨sw_cokV S hT hnw (mX7_flowAt hG) 26 7 (by decide) ⟨by decide +kernel, by decide +kernel, by decide +kernel, by decide +kernel, by decide +kernel⟩ ⟨rfl, by decide, by decide, by decide +kernel⟩ ⟨rfl, rfl⟩ ⟨by decide, by decide⟩, ?_⟩
  refine List.forall_mem_cons.mpr ⟨sw_cokV S hT hnw (mX6_takeItem hG) 47 6 (by decide) ⟨by decide +kernel, by decide +kernel, by decide +kernel, by decide +kernel, by decide +kernel⟩ ⟨rfl, by decide, by decide, by decide +kernel⟩ ⟨rfl, rfl⟩ ⟨by decide, by decide⟩, ?_⟩
  exact fun q h => absurd h List.not_mem_nil
def wi_we (ln : sw_A) (i t w : Int32) (σ : sw_S) : wi_P := sd_om (-1, σ) (fun q => if w < 1 then (-1, σ) else if w ≤ 4 then (σ 1 q.2 4, sw_up σ 1 q.2 4 w) else (-1, σ)) (wi_fl ln i t)
def gX7_weight (ln : sw_A) (x : Nat) (i t w : Int32) (σ : sw_S) : sw_X := (lo ln, some (.inl (wi_we ln i t w σ).1), (wi_we ln i t w σ).2)
def fX7_weight (ln : sw_A) : sw_F := sw_foiii 7 (gX7_weight ln)
def ctX7_weight (ln : sw_A) : sw_C := [(26, 3, 8, fX7_flowAt ln)]
abbrev wX7_weight (ln : sw_A) (Q : Option sw_V → sw_S → Prop) : Nat → Nat → sw_L → List sw_V → sw_S → Prop := sw_wp sw_rf ln (ctX7_weight ln) sX7_weight 1 40 tX7_weight Q
theorem hX7_weight (ln : sw_A) (x : Nat) (i t w : Int32) (σ : sw_S) (h : (gX7_weight ln x i t w σ).1) : ∃ fuel, wX7_weight ln (sw_end (gX7_weight ln x i t w σ)) fuel 0 (sw_ent 6 [.inr (some (7, x)), .inl i, .inl t, .inl w]) [] σ := by
  have key : ∃ M, ∀ r, r = wi_fl ln i t → wX7_weight ln (sw_end (gX7_weight ln x i t w σ)) M 6 [some (.inr (some (7, x))), some (.inl i), some (.inl t), some (.inl w), none, none] [.inr r] σ := by
    refine ⟨30, fun r hr => ?_⟩
    cases r with
    | none => exact sw_pe (by unfold wi_we; rw [← hr]; rfl)
    | some q =>
      obtain ⟨q1, q2⟩ := q
      have e1 : q1 = 1 := wi_fl_1 hr.symm
      subst e1
      have hp : wi_we ln i t w σ = if w < 1 then (-1, σ) else if w ≤ 4 then (σ 1 q2 4, sw_up σ 1 q2 4 w) else (-1, σ) := by unfold wi_we; rw [← hr]; rfl
      exact And.intro (fun (a1 : w < 1) => sw_pe (by rw [hp, if_pos a1])) (fun (a1 : ¬ w < 1) => And.intro (fun (a2 : w ≤ 4) => sw_pe (by rw [hp, if_neg a1, if_pos a2])) (fun (a2 : ¬ w ≤ 4) => sw_pe (by rw [hp, if_neg a1, if_neg a2])))
  obtain ⟨M, key⟩ := key
  exact ⟨M + 10, sw_ws_wp [6] M 10 _ _ _ _ (And.intro h (key _ rfl))⟩
set_option maxRecDepth 100000 in
theorem mX7_weight {l : Launch} {ad : sw_A} {V : Nat → Nat → Prop} {ln : sw_A} {ca : Nat → ClassId} {D : va_G} (hG : sw_wf ad V sw_rf ln) : sw_met l ad V sw_rf ln ca D yX7_weight cX7_weight 6 (some .int) { frames := 2, cells := 0, slots := 0, locals := 44 } 4 (fX7_weight ln) := by
  refine sw_meth hG (by decide) (by refine ⟨?_, ?_, ?_, ?_⟩ <;> intro h <;> first | rfl | exact ⟨_, rfl⟩ | exact absurd h (by decide)) (by decide) kX7_weight flX7_in cnX7_in ?_ (sw_foiii_h (W := fun Q L σ => ∃ fuel, wX7_weight ln Q fuel 0 L [] σ) (fun a0 a1 a2 a3 σ h => hX7_weight ln a0 a1 a2 a3 σ h))
  intro p e s m args below meth c S hT hnw
  refine List.forall_mem_cons.mpr ⟨sw_cokV S hT hnw (mX7_flowAt hG) 26 7 (by decide) ⟨by decide +kernel, by decide +kernel, by decide +kernel, by decide +kernel, by decide +kernel⟩ ⟨rfl, by decide, by decide, by decide +kernel⟩ ⟨rfl, rfl⟩ ⟨by decide, by decide⟩, ?_⟩
  exact fun q h => absurd h List.not_mem_nil

def wi_word (ln : sw_A) (i : Int32) (σ : sw_S) : wi_P := sd_om (0, σ) (fun q => (σ 6 q.2 10, σ)) (wi_sa i)
def gX7_word (ln : sw_A) (x : Nat) (i : Int32) (σ : sw_S) : sw_X := (True, some (.inl (wi_word ln i σ).1), (wi_word ln i σ).2)
def fX7_word (ln : sw_A) : sw_F := sw_foi 7 (gX7_word ln)
def ctX7_word (ln : sw_A) : sw_C := [(43, 2, 8, fX7_sideAt ln)]
abbrev wX7_word (ln : sw_A) (Q : Option sw_V → sw_S → Prop) : Nat → Nat → sw_L → List sw_V → sw_S → Prop := sw_wp sw_rf ln (ctX7_word ln) sX7_word 1 18 tX7_word Q
theorem hX7_word (ln : sw_A) (x : Nat) (i : Int32) (σ : sw_S) (h : (gX7_word ln x i σ).1) : ∃ fuel, wX7_word ln (sw_end (gX7_word ln x i σ)) fuel 0 (sw_ent 3 [.inr (some (7, x)), .inl i]) [] σ := by
  have key : ∃ M, ∀ r, r = wi_sa i → wX7_word ln (sw_end (gX7_word ln x i σ)) M 5 [some (.inr (some (7, x))), some (.inl i), none] [.inr r] σ := by
    refine ⟨20, fun r hr => ?_⟩
    cases r with
    | none => exact sw_pe (by unfold wi_word; rw [← hr]; rfl)
    | some q =>
      obtain ⟨q1, q2⟩ := q
      have e1 : q1 = 6 := wi_sa_6 hr.symm
      subst e1
      have hp : wi_word ln i σ = (σ 6 q2 10, σ) := by unfold wi_word; rw [← hr]; rfl
      exact sw_pe hp
  obtain ⟨M, key⟩ := key
  exact ⟨M + 10, sw_ws_wp [5] M 10 _ _ _ _ (And.intro trivial (key _ rfl))⟩
set_option maxRecDepth 100000 in
theorem mX7_word {l : Launch} {ad : sw_A} {V : Nat → Nat → Prop} {ln : sw_A} {ca : Nat → ClassId} {D : va_G} (hG : sw_wf ad V sw_rf ln) : sw_met l ad V sw_rf ln ca D yX7_word cX7_word 3 (some .int) { frames := 1, cells := 0, slots := 0, locals := 21 } 2 (fX7_word ln) := by
  refine sw_meth hG (by decide) (by refine ⟨?_, ?_, ?_, ?_⟩ <;> intro h <;> first | rfl | exact ⟨_, rfl⟩ | exact absurd h (by decide)) (by decide) kX7_word flX7_in cnX7_in ?_ (sw_foi_h (W := fun Q L σ => ∃ fuel, wX7_word ln Q fuel 0 L [] σ) (fun a0 a1 σ h => hX7_word ln a0 a1 σ h))
  intro p e s m args below meth c S hT hnw
  refine List.forall_mem_cons.mpr ⟨sw_cokV S hT hnw (mX7_sideAt hG) 43 7 (by decide) ⟨by decide +kernel, by decide +kernel, by decide +kernel, by decide +kernel, by decide +kernel⟩ ⟨rfl, by decide, by decide, by decide +kernel⟩ ⟨rfl, rfl⟩ ⟨by decide, by decide⟩, ?_⟩
  exact fun q h => absurd h List.not_mem_nil

def wi_pump (ln : sw_A) (i : Int32) (σ : sw_S) : wi_P := sd_om (-1, σ) (fun q => sd_np ln q.2 σ) (wi_sa i)
def gX7_pump (ln : sw_A) (x : Nat) (i : Int32) (σ : sw_S) : sw_X := (∀ s, (gX6_sendNext ln s σ).1, some (.inl (wi_pump ln i σ).1), (wi_pump ln i σ).2)
def fX7_pump (ln : sw_A) : sw_F := sw_foi 7 (gX7_pump ln)
def ctX7_pump (ln : sw_A) : sw_C := [(43, 2, 8, fX7_sideAt ln), (58, 1, 7, fX6_sendNext ln)]
abbrev wX7_pump (ln : sw_A) (Q : Option sw_V → sw_S → Prop) : Nat → Nat → sw_L → List sw_V → sw_S → Prop := sw_wp sw_rf ln (ctX7_pump ln) sX7_pump 1 18 tX7_pump Q
theorem hX7_pump (ln : sw_A) (x : Nat) (i : Int32) (σ : sw_S) (h : (gX7_pump ln x i σ).1) : ∃ fuel, wX7_pump ln (sw_end (gX7_pump ln x i σ)) fuel 0 (sw_ent 3 [.inr (some (7, x)), .inl i]) [] σ := by
  have key : ∃ M, ∀ r, r = wi_sa i → wX7_pump ln (sw_end (gX7_pump ln x i σ)) M 5 [some (.inr (some (7, x))), some (.inl i), none] [.inr r] σ := by
    refine ⟨20, fun r hr => ?_⟩
    cases r with
    | none => exact sw_pe (by unfold wi_pump; rw [← hr]; rfl)
    | some q =>
      obtain ⟨q1, q2⟩ := q
      have e1 : q1 = 6 := wi_sa_6 hr.symm
      subst e1
      have hp : wi_pump ln i σ = sd_np ln q2 σ := by unfold wi_pump; rw [← hr]; rfl
      exact And.intro (h q2) (sw_pe hp)
  obtain ⟨M, key⟩ := key
  exact ⟨M + 10, sw_ws_wp [5] M 10 _ _ _ _ (And.intro trivial (key _ rfl))⟩
set_option maxRecDepth 100000 in
theorem mX7_pump {l : Launch} {ad : sw_A} {V : Nat → Nat → Prop} {ln : sw_A} {ca : Nat → ClassId} {D : va_G} (hG : sw_wf ad V sw_rf ln) : sw_met l ad V sw_rf ln ca D yX7_pump cX7_pump 3 (some .int) { frames := 7, cells := 0, slots := 0, locals := 149 } 2 (fX7_pump ln) := by
  refine sw_meth hG (by decide) (by refine ⟨?_, ?_, ?_, ?_⟩ <;> intro h <;> first | rfl | exact ⟨_, rfl⟩ | exact absurd h (by decide)) (by decide) kX7_pump flX7_in cnX7_in ?_ (sw_foi_h (W := fun Q L σ => ∃ fuel, wX7_pump ln Q fuel 0 L [] σ) (fun a0 a1 σ h => hX7_pump ln a0 a1 σ h))
  intro p e s m args below meth c S hT hnw
  refine List.forall_mem_cons.mpr ⟨sw_cokV S hT hnw (mX7_sideAt hG) 43 7 (by decide) ⟨by decide +kernel, by decide +kernel, by decide +kernel, by decide +kernel, by decide +kernel⟩ ⟨rfl, by decide, by decide, by decide +kernel⟩ ⟨rfl, rfl⟩ ⟨by decide, by decide⟩, ?_⟩
  refine List.forall_mem_cons.mpr ⟨sw_cokV S hT hnw (mX6_sendNext hG) 58 6 (by decide) ⟨by decide +kernel, by decide +kernel, by decide +kernel, by decide +kernel, by decide +kernel⟩ ⟨rfl, by decide, by decide, by decide +kernel⟩ ⟨rfl, rfl⟩ ⟨by decide, by decide⟩, ?_⟩
  exact fun q h => absurd h List.not_mem_nil

def wi_timeout (ln : sw_A) (i : Int32) (σ : sw_S) : wi_P := sd_om (-1, σ) (fun q => sd_ag ln q.2 (σ 3 (2 * q.2) 2).toNatClampNeg 0 0 σ) (wi_sa i)
def gX7_timeout (ln : sw_A) (x : Nat) (i : Int32) (σ : sw_S) : sw_X := (lo ln ∧ fg ln σ ∧ rz σ, some (.inl (wi_timeout ln i σ).1), (wi_timeout ln i σ).2)
def fX7_timeout (ln : sw_A) : sw_F := sw_foi 7 (gX7_timeout ln)
def ctX7_timeout (ln : sw_A) : sw_C := [(43, 2, 8, fX7_sideAt ln), (88, 1, 7, fX6_sendAgain ln)]
abbrev wX7_timeout (ln : sw_A) (Q : Option sw_V → sw_S → Prop) : Nat → Nat → sw_L → List sw_V → sw_S → Prop := sw_wp sw_rf ln (ctX7_timeout ln) sX7_timeout 1 18 tX7_timeout Q
theorem hX7_timeout (ln : sw_A) (x : Nat) (i : Int32) (σ : sw_S) (h : (gX7_timeout ln x i σ).1) : ∃ fuel, wX7_timeout ln (sw_end (gX7_timeout ln x i σ)) fuel 0 (sw_ent 3 [.inr (some (7, x)), .inl i]) [] σ := by
  have key : ∃ M, ∀ r, r = wi_sa i → wX7_timeout ln (sw_end (gX7_timeout ln x i σ)) M 5 [some (.inr (some (7, x))), some (.inl i), none] [.inr r] σ := by
    refine ⟨20, fun r hr => ?_⟩
    cases r with
    | none => exact sw_pe (by unfold wi_timeout; rw [← hr]; rfl)
    | some q =>
      obtain ⟨q1, q2⟩ := q
      have e1 : q1 = 6 := wi_sa_6 hr.symm
      subst e1
      have hp : wi_timeout ln i σ = sd_ag ln q2 (σ 3 (2 * q2) 2).toNatClampNeg 0 0 σ := by unfold wi_timeout; rw [← hr]; rfl
      exact And.intro ⟨h.1, h.2.1, h.2.2 _⟩ (sw_pe hp)
  obtain ⟨M, key⟩ := key
  exact ⟨M + 10, sw_ws_wp [5] M 10 _ _ _ _ (And.intro trivial (key _ rfl))⟩
set_option maxRecDepth 100000 in
theorem mX7_timeout {l : Launch} {ad : sw_A} {V : Nat → Nat → Prop} {ln : sw_A} {ca : Nat → ClassId} {D : va_G} (hG : sw_wf ad V sw_rf ln) : sw_met l ad V sw_rf ln ca D yX7_timeout cX7_timeout 3 (some .int) { frames := 5, cells := 0, slots := 0, locals := 110 } 2 (fX7_timeout ln) := by
  refine sw_meth hG (by decide) (by refine ⟨?_, ?_, ?_, ?_⟩ <;> intro h <;> first | rfl | exact ⟨_, rfl⟩ | exact absurd h (by decide)) (by decide) kX7_timeout flX7_in cnX7_in ?_ (sw_foi_h (W := fun Q L σ => ∃ fuel, wX7_timeout ln Q fuel 0 L [] σ) (fun a0 a1 σ h => hX7_timeout ln a0 a1 σ h))
  intro p e s m args below meth c S hT hnw
  refine List.forall_mem_cons.mpr ⟨sw_cokV S hT hnw (mX7_sideAt hG) 43 7 (by decide) ⟨by decide +kernel, by decide +kernel, by decide +kernel, by decide +kernel, by decide +kernel⟩ ⟨rfl, by decide, by decide, by decide +kernel⟩ ⟨rfl, rfl⟩ ⟨by decide, by decide⟩, ?_⟩
  refine List.forall_mem_cons.mpr ⟨sw_cokV S hT hnw (mX6_sendAgain hG) 88 6 (by decide) ⟨by decide +kernel, by decide +kernel, by decide +kernel, by decide +kernel, by decide +kernel⟩ ⟨rfl, by decide, by decide, by decide +kernel⟩ ⟨rfl, rfl⟩ ⟨by decide, by decide⟩, ?_⟩
  exact fun q h => absurd h List.not_mem_nil

def wi_side (ln : sw_A) (i w : Int32) (σ : sw_S) : wi_P := sd_om (-1, σ) (fun q => (sd_te ln q.2 w σ, σ)) (wi_sa i)
def gX7_side (ln : sw_A) (x : Nat) (i w : Int32) (σ : sw_S) : sw_X := (lo ln ∧ fg ln σ ∧ rz σ, some (.inl (wi_side ln i w σ).1), (wi_side ln i w σ).2)
def fX7_side (ln : sw_A) : sw_F := sw_foii 7 (gX7_side ln)
def ctX7_side (ln : sw_A) : sw_C := [(43, 2, 8, fX7_sideAt ln), (98, 2, 7, fX6_tell ln)]
abbrev wX7_side (ln : sw_A) (Q : Option sw_V → sw_S → Prop) : Nat → Nat → sw_L → List sw_V → sw_S → Prop := sw_wp sw_rf ln (ctX7_side ln) sX7_side 1 19 tX7_side Q
theorem hX7_side (ln : sw_A) (x : Nat) (i w : Int32) (σ : sw_S) (h : (gX7_side ln x i w σ).1) : ∃ fuel, wX7_side ln (sw_end (gX7_side ln x i w σ)) fuel 0 (sw_ent 4 [.inr (some (7, x)), .inl i, .inl w]) [] σ := by
  have key : ∃ M, ∀ r, r = wi_sa i → wX7_side ln (sw_end (gX7_side ln x i w σ)) M 5 [some (.inr (some (7, x))), some (.inl i), some (.inl w), none] [.inr r] σ := by
    refine ⟨20, fun r hr => ?_⟩
    cases r with
    | none => exact sw_pe (by unfold wi_side; rw [← hr]; rfl)
    | some q =>
      obtain ⟨q1, q2⟩ := q
      have e1 : q1 = 6 := wi_sa_6 hr.symm
      subst e1
      have hp : wi_side ln i w σ = (sd_te ln q2 w σ, σ) := by unfold wi_side; rw [← hr]; rfl
      exact And.intro ⟨h.1, h.2.1, h.2.2 _⟩ (sw_pe hp)
  obtain ⟨M, key⟩ := key
  exact ⟨M + 10, sw_ws_wp [5] M 10 _ _ _ _ (And.intro trivial (key _ rfl))⟩
set_option maxRecDepth 100000 in
theorem mX7_side {l : Launch} {ad : sw_A} {V : Nat → Nat → Prop} {ln : sw_A} {ca : Nat → ClassId} {D : va_G} (hG : sw_wf ad V sw_rf ln) : sw_met l ad V sw_rf ln ca D yX7_side cX7_side 4 (some .int) { frames := 5, cells := 0, slots := 0, locals := 112 } 3 (fX7_side ln) := by
  refine sw_meth hG (by decide) (by refine ⟨?_, ?_, ?_, ?_⟩ <;> intro h <;> first | rfl | exact ⟨_, rfl⟩ | exact absurd h (by decide)) (by decide) kX7_side flX7_in cnX7_in ?_ (sw_foii_h (W := fun Q L σ => ∃ fuel, wX7_side ln Q fuel 0 L [] σ) (fun a0 a1 a2 σ h => hX7_side ln a0 a1 a2 σ h))
  intro p e s m args below meth c S hT hnw
  refine List.forall_mem_cons.mpr ⟨sw_cokV S hT hnw (mX7_sideAt hG) 43 7 (by decide) ⟨by decide +kernel, by decide +kernel, by decide +kernel, by decide +kernel, by decide +kernel⟩ ⟨rfl, by decide, by decide, by decide +kernel⟩ ⟨rfl, rfl⟩ ⟨by decide, by decide⟩, ?_⟩
  refine List.forall_mem_cons.mpr ⟨sw_cokV S hT hnw (mX6_tell hG) 98 6 (by decide) ⟨by decide +kernel, by decide +kernel, by decide +kernel, by decide +kernel, by decide +kernel⟩ ⟨rfl, by decide, by decide, by decide +kernel⟩ ⟨rfl, rfl⟩ ⟨by decide, by decide⟩, ?_⟩
  exact fun q h => absurd h List.not_mem_nil

def wi_lose (ln : sw_A) (i : Int32) (σ : sw_S) : wi_P := sd_om (0, σ) (fun q => (if σ 3 (2 * q.2 + 1) 2 = 0 then 0 else 1, (gX3_dropFirst ln (2 * q.2 + 1) σ).2.2)) (wi_sa i)
def gX7_lose (ln : sw_A) (x : Nat) (i : Int32) (σ : sw_S) : sw_X := (True, some (.inl (wi_lose ln i σ).1), (wi_lose ln i σ).2)
def fX7_lose (ln : sw_A) : sw_F := sw_foi 7 (gX7_lose ln)
def ctX7_lose (ln : sw_A) : sw_C := [(43, 2, 8, fX7_sideAt ln), (76, 1, 4, fX3_dropFirst ln)]
abbrev wX7_lose (ln : sw_A) (Q : Option sw_V → sw_S → Prop) : Nat → Nat → sw_L → List sw_V → sw_S → Prop := sw_wp sw_rf ln (ctX7_lose ln) sX7_lose 2 25 tX7_lose Q
theorem hX7_lose (ln : sw_A) (x : Nat) (i : Int32) (σ : sw_S) (h : (gX7_lose ln x i σ).1) : ∃ fuel, wX7_lose ln (sw_end (gX7_lose ln x i σ)) fuel 0 (sw_ent 3 [.inr (some (7, x)), .inl i]) [] σ := by
  have key : ∃ M, ∀ r, r = wi_sa i → wX7_lose ln (sw_end (gX7_lose ln x i σ)) M 5 [some (.inr (some (7, x))), some (.inl i), none] [.inr r] σ := by
    refine ⟨20, fun r hr => ?_⟩
    cases r with
    | none => exact ⟨Or.inl rfl, sw_pe (by unfold wi_lose; rw [← hr]; rfl)⟩
    | some q =>
      obtain ⟨q1, q2⟩ := q
      have e1 : q1 = 6 := wi_sa_6 hr.symm
      subst e1
      have hp : wi_lose ln i σ = (if σ 3 (2 * q2 + 1) 2 = 0 then 0 else 1, (gX3_dropFirst ln (2 * q2 + 1) σ).2.2) := by unfold wi_lose; rw [← hr]; rfl
      refine And.intro trivial (And.intro (fun (a1 : (if σ 3 (2 * q2 + 1) 2 = 0 then (0 : Int32) else 1) = 0) => ⟨Or.inl rfl, sw_pe (by rw [hp, a1]; rfl)⟩) (fun (a1 : ¬ (if σ 3 (2 * q2 + 1) 2 = 0 then (0 : Int32) else 1) = 0) => ⟨Or.inr rfl, sw_pe ?_⟩))
      rw [hp]
      by_cases h0 : σ 3 (2 * q2 + 1) 2 = 0
      · rw [if_pos h0] at a1
        exact absurd rfl a1
      · rw [if_neg h0]; rfl
  obtain ⟨M, key⟩ := key
  exact ⟨M + 10, sw_ws_wp [5] M 10 _ _ _ _ (And.intro trivial (key _ rfl))⟩
set_option maxRecDepth 100000 in
theorem mX7_lose {l : Launch} {ad : sw_A} {V : Nat → Nat → Prop} {ln : sw_A} {ca : Nat → ClassId} {D : va_G} (hG : sw_wf ad V sw_rf ln) : sw_met l ad V sw_rf ln ca D yX7_lose cX7_lose 3 (some .boolean) { frames := 1, cells := 0, slots := 0, locals := 21 } 2 (fX7_lose ln) := by
  refine sw_meth hG (by decide) (by refine ⟨?_, ?_, ?_, ?_⟩ <;> intro h <;> first | rfl | exact ⟨_, rfl⟩ | exact absurd h (by decide)) (by decide) kX7_lose flX7_in cnX7_in ?_ (sw_foi_h (W := fun Q L σ => ∃ fuel, wX7_lose ln Q fuel 0 L [] σ) (fun a0 a1 σ h => hX7_lose ln a0 a1 σ h))
  intro p e s m args below meth c S hT hnw
  refine List.forall_mem_cons.mpr ⟨sw_cokV S hT hnw (mX7_sideAt hG) 43 7 (by decide) ⟨by decide +kernel, by decide +kernel, by decide +kernel, by decide +kernel, by decide +kernel⟩ ⟨rfl, by decide, by decide, by decide +kernel⟩ ⟨rfl, rfl⟩ ⟨by decide, by decide⟩, ?_⟩
  refine List.forall_mem_cons.mpr ⟨sw_cokV S hT hnw (mX3_dropFirst hG) 76 3 (by decide) ⟨by decide +kernel, by decide +kernel, by decide +kernel, by decide +kernel, by decide +kernel⟩ ⟨rfl, by decide, by decide, by decide +kernel⟩ ⟨rfl, rfl⟩ ⟨by decide, by decide⟩, ?_⟩
  exact fun q h => absurd h List.not_mem_nil

def wi_stream (ln : sw_A) (i t w : Int32) (σ : sw_S) : wi_P := sd_om (-1, σ) (fun q => (fl_te q.2 w σ, σ)) (wi_fl ln i t)
def gX7_stream (ln : sw_A) (x : Nat) (i t w : Int32) (σ : sw_S) : sw_X := (lo ln, some (.inl (wi_stream ln i t w σ).1), (wi_stream ln i t w σ).2)
def fX7_stream (ln : sw_A) : sw_F := sw_foiii 7 (gX7_stream ln)
def ctX7_stream (ln : sw_A) : sw_C := [(26, 3, 8, fX7_flowAt ln), (95, 2, 2, fX1_tell ln)]
abbrev wX7_stream (ln : sw_A) (Q : Option sw_V → sw_S → Prop) : Nat → Nat → sw_L → List sw_V → sw_S → Prop := sw_wp sw_rf ln (ctX7_stream ln) sX7_stream 1 23 tX7_stream Q
theorem hX7_stream (ln : sw_A) (x : Nat) (i t w : Int32) (σ : sw_S) (h : (gX7_stream ln x i t w σ).1) : ∃ fuel, wX7_stream ln (sw_end (gX7_stream ln x i t w σ)) fuel 0 (sw_ent 5 [.inr (some (7, x)), .inl i, .inl t, .inl w]) [] σ := by
  have key : ∃ M, ∀ r, r = wi_fl ln i t → wX7_stream ln (sw_end (gX7_stream ln x i t w σ)) M 6 [some (.inr (some (7, x))), some (.inl i), some (.inl t), some (.inl w), none] [.inr r] σ := by
    refine ⟨20, fun r hr => ?_⟩
    cases r with
    | none => exact sw_pe (by unfold wi_stream; rw [← hr]; rfl)
    | some q =>
      obtain ⟨q1, q2⟩ := q
      have e1 : q1 = 1 := wi_fl_1 hr.symm
      subst e1
      exact And.intro trivial (sw_pe (by unfold wi_stream; rw [← hr]; rfl))
  obtain ⟨M, key⟩ := key
  exact ⟨M + 10, sw_ws_wp [6] M 10 _ _ _ _ (And.intro h (key _ rfl))⟩
set_option maxRecDepth 100000 in
theorem mX7_stream {l : Launch} {ad : sw_A} {V : Nat → Nat → Prop} {ln : sw_A} {ca : Nat → ClassId} {D : va_G} (hG : sw_wf ad V sw_rf ln) : sw_met l ad V sw_rf ln ca D yX7_stream cX7_stream 5 (some .int) { frames := 2, cells := 0, slots := 0, locals := 44 } 4 (fX7_stream ln) := by
  refine sw_meth hG (by decide) (by refine ⟨?_, ?_, ?_, ?_⟩ <;> intro h <;> first | rfl | exact ⟨_, rfl⟩ | exact absurd h (by decide)) (by decide) kX7_stream flX7_in cnX7_in ?_ (sw_foiii_h (W := fun Q L σ => ∃ fuel, wX7_stream ln Q fuel 0 L [] σ) (fun a0 a1 a2 a3 σ h => hX7_stream ln a0 a1 a2 a3 σ h))
  intro p e s m args below meth c S hT hnw
  refine List.forall_mem_cons.mpr ⟨sw_cokV S hT hnw (mX7_flowAt hG) 26 7 (by decide) ⟨by decide +kernel, by decide +kernel, by decide +kernel, by decide +kernel, by decide +kernel⟩ ⟨rfl, by decide, by decide, by decide +kernel⟩ ⟨rfl, rfl⟩ ⟨by decide, by decide⟩, ?_⟩
  refine List.forall_mem_cons.mpr ⟨sw_cokV S hT hnw (mX1_tell hG) 95 1 (by decide) ⟨by decide +kernel, by decide +kernel, by decide +kernel, by decide +kernel, by decide +kernel⟩ ⟨rfl, by decide, by decide, by decide +kernel⟩ ⟨rfl, rfl⟩ ⟨by decide, by decide⟩, ?_⟩
  exact fun q h => absurd h List.not_mem_nil
def wi_wire (ln : sw_A) (i j k : Int32) (σ : sw_S) : wi_P := sd_om (0, σ) (fun q => (fr_at σ q.2 k, σ)) (wi_fr ln i j σ)
def gX7_wire (ln : sw_A) (x : Nat) (i j k : Int32) (σ : sw_S) : sw_X := (lo ln ∧ fg ln σ, some (.inl (wi_wire ln i j k σ).1), (wi_wire ln i j k σ).2)
def fX7_wire (ln : sw_A) : sw_F := sw_foiii 7 (gX7_wire ln)
def ctX7_wire (ln : sw_A) : sw_C := [(79, 3, 8, fX7_frameAt ln), (91, 2, 3, fX2_wordAt ln)]
abbrev wX7_wire (ln : sw_A) (Q : Option sw_V → sw_S → Prop) : Nat → Nat → sw_L → List sw_V → sw_S → Prop := sw_wp sw_rf ln (ctX7_wire ln) sX7_wire 1 23 tX7_wire Q
theorem hX7_wire (ln : sw_A) (x : Nat) (i j k : Int32) (σ : sw_S) (h : (gX7_wire ln x i j k σ).1) : ∃ fuel, wX7_wire ln (sw_end (gX7_wire ln x i j k σ)) fuel 0 (sw_ent 5 [.inr (some (7, x)), .inl i, .inl j, .inl k]) [] σ := by
  have key : ∃ M, ∀ r, r = wi_fr ln i j σ → wX7_wire ln (sw_end (gX7_wire ln x i j k σ)) M 6 [some (.inr (some (7, x))), some (.inl i), some (.inl j), some (.inl k), none] [.inr r] σ := by
    refine ⟨20, fun r hr => ?_⟩
    cases r with
    | none => exact sw_pe (by unfold wi_wire; rw [← hr]; rfl)
    | some q =>
      obtain ⟨q1, q2⟩ := q
      have e1 : q1 = 2 := wi_fr_2 hr.symm
      subst e1
      exact And.intro (h.2.ok h.1 q2) (sw_pe (by unfold wi_wire; rw [← hr]; rfl))
  obtain ⟨M, key⟩ := key
  exact ⟨M + 10, sw_ws_wp [6] M 10 _ _ _ _ (And.intro h.1 (key _ rfl))⟩
set_option maxRecDepth 100000 in
theorem mX7_wire {l : Launch} {ad : sw_A} {V : Nat → Nat → Prop} {ln : sw_A} {ca : Nat → ClassId} {D : va_G} (hG : sw_wf ad V sw_rf ln) : sw_met l ad V sw_rf ln ca D yX7_wire cX7_wire 5 (some .int) { frames := 3, cells := 0, slots := 0, locals := 66 } 4 (fX7_wire ln) := by
  refine sw_meth hG (by decide) (by refine ⟨?_, ?_, ?_, ?_⟩ <;> intro h <;> first | rfl | exact ⟨_, rfl⟩ | exact absurd h (by decide)) (by decide) kX7_wire flX7_in cnX7_in ?_ (sw_foiii_h (W := fun Q L σ => ∃ fuel, wX7_wire ln Q fuel 0 L [] σ) (fun a0 a1 a2 a3 σ h => hX7_wire ln a0 a1 a2 a3 σ h))
  intro p e s m args below meth c S hT hnw
  refine List.forall_mem_cons.mpr ⟨sw_cokV S hT hnw (mX7_frameAt hG) 79 7 (by decide) ⟨by decide +kernel, by decide +kernel, by decide +kernel, by decide +kernel, by decide +kernel⟩ ⟨rfl, by decide, by decide, by decide +kernel⟩ ⟨rfl, rfl⟩ ⟨by decide, by decide⟩, ?_⟩
  refine List.forall_mem_cons.mpr ⟨sw_cokV S hT hnw (mX2_wordAt hG) 91 2 (by decide) ⟨by decide +kernel, by decide +kernel, by decide +kernel, by decide +kernel, by decide +kernel⟩ ⟨rfl, by decide, by decide, by decide +kernel⟩ ⟨rfl, rfl⟩ ⟨by decide, by decide⟩, ?_⟩
  exact fun q h => absurd h List.not_mem_nil
def wi_corrupt (ln : sw_A) (i k m : Int32) (σ : sw_S) : wi_P := sd_om (0, σ) (fun q => if m = 0 then (0, σ) else (if 0 ≤ k ∧ k < σ 2 q.2 1 then 1 else 0, (gX2_flip ln q.2 k m σ).2.2)) (wi_fr ln i 0 σ)
def gX7_corrupt (ln : sw_A) (x : Nat) (i k m : Int32) (σ : sw_S) : sw_X := (lo ln ∧ fg ln σ, some (.inl (wi_corrupt ln i k m σ).1), (wi_corrupt ln i k m σ).2)
def fX7_corrupt (ln : sw_A) : sw_F := sw_foiii 7 (gX7_corrupt ln)
def ctX7_corrupt (ln : sw_A) : sw_C := [(79, 3, 8, fX7_frameAt ln), (82, 3, 3, fX2_flip ln)]
abbrev wX7_corrupt (ln : sw_A) (Q : Option sw_V → sw_S → Prop) : Nat → Nat → sw_L → List sw_V → sw_S → Prop := sw_wp sw_rf ln (ctX7_corrupt ln) sX7_corrupt 2 32 tX7_corrupt Q
theorem hX7_corrupt (ln : sw_A) (x : Nat) (i k m : Int32) (σ : sw_S) (h : (gX7_corrupt ln x i k m σ).1) : ∃ fuel, wX7_corrupt ln (sw_end (gX7_corrupt ln x i k m σ)) fuel 0 (sw_ent 5 [.inr (some (7, x)), .inl i, .inl k, .inl m]) [] σ := by
  have key : ∃ M, ∀ r, r = wi_fr ln i 0 σ → wX7_corrupt ln (sw_end (gX7_corrupt ln x i k m σ)) M 6 [some (.inr (some (7, x))), some (.inl i), some (.inl k), some (.inl m), none] [.inr r] σ := by
    refine ⟨30, fun r hr => ?_⟩
    cases r with
    | none => exact ⟨Or.inl rfl, sw_pe (by unfold wi_corrupt; rw [← hr]; rfl)⟩
    | some q =>
      obtain ⟨q1, q2⟩ := q
      have e1 : q1 = 2 := wi_fr_2 hr.symm
      subst e1
      have hp : wi_corrupt ln i k m σ = if m = 0 then (0, σ) else (if 0 ≤ k ∧ k < σ 2 q2 1 then 1 else 0, (gX2_flip ln q2 k m σ).2.2) := by unfold wi_corrupt; rw [← hr]; rfl
      refine And.intro (fun (a1 : m = 0) => ⟨Or.inl rfl, sw_pe (by rw [hp, if_pos a1])⟩) (fun (a1 : ¬ m = 0) => And.intro (h.2.ok h.1 q2) (And.intro (fun (a2 : (if 0 ≤ k ∧ k < σ 2 q2 1 then (1 : Int32) else 0) = 0) => ⟨Or.inl rfl, sw_pe (by rw [hp, if_neg a1, a2]; rfl)⟩) (fun (a2 : ¬ (if 0 ≤ k ∧ k < σ 2 q2 1 then (1 : Int32) else 0) = 0) => ⟨Or.inr rfl, sw_pe ?_⟩)))
      rw [hp, if_neg a1]
      by_cases h0 : 0 ≤ k ∧ k < σ 2 q2 1
      · rw [if_pos h0]; rfl
      · rw [if_neg h0] at a2
        exact absurd rfl a2
  obtain ⟨M, key⟩ := key
  exact ⟨M + 10, sw_ws_wp [6] M 10 _ _ _ _ (And.intro h.1 (key _ rfl))⟩
set_option maxRecDepth 100000 in
theorem mX7_corrupt {l : Launch} {ad : sw_A} {V : Nat → Nat → Prop} {ln : sw_A} {ca : Nat → ClassId} {D : va_G} (hG : sw_wf ad V sw_rf ln) : sw_met l ad V sw_rf ln ca D yX7_corrupt cX7_corrupt 5 (some .boolean) { frames := 3, cells := 0, slots := 0, locals := 66 } 4 (fX7_corrupt ln) := by
  refine sw_meth hG (by decide) (by refine ⟨?_, ?_, ?_, ?_⟩ <;> intro h <;> first | rfl | exact ⟨_, rfl⟩ | exact absurd h (by decide)) (by decide) kX7_corrupt flX7_in cnX7_in ?_ (sw_foiii_h (W := fun Q L σ => ∃ fuel, wX7_corrupt ln Q fuel 0 L [] σ) (fun a0 a1 a2 a3 σ h => hX7_corrupt ln a0 a1 a2 a3 σ h))
  intro p e s m args below meth c S hT hnw
  refine List.forall_mem_cons.mpr ⟨sw_cokV S hT hnw (mX7_frameAt hG) 79 7 (by decide) ⟨by decide +kernel, by decide +kernel, by decide +kernel, by decide +kernel, by decide +kernel⟩ ⟨rfl, by decide, by decide, by decide +kernel⟩ ⟨rfl, rfl⟩ ⟨by decide, by decide⟩, ?_⟩
  refine List.forall_mem_cons.mpr ⟨sw_cokV S hT hnw (mX2_flip hG) 82 2 (by decide) ⟨by decide +kernel, by decide +kernel, by decide +kernel, by decide +kernel, by decide +kernel⟩ ⟨rfl, by decide, by decide, by decide +kernel⟩ ⟨rfl, rfl⟩ ⟨by decide, by decide⟩, ?_⟩
  exact fun q h => absurd h List.not_mem_nil
end
section
/-! StreamWires: drain and deliver -/
def wi_dl (ln : sw_A) (s : Nat) : Nat → Int32 → sw_S → wi_P
  | 0, x, σ => (x, σ)
  | d + 1, x, σ => if (sd_np ln s σ).1 = 0 then (x, (sd_np ln s σ).2) else wi_dl ln s d (x + 1) (sd_np ln s σ).2
def wi_dp (ln : sw_A) (s : Nat) : Nat → sw_S → Prop
  | 0, _ => True
  | d + 1, σ => (gX6_sendNext ln s σ).1 ∧ (¬ (sd_np ln s σ).1 = 0 → wi_dp ln s d (sd_np ln s σ).2)
def wi_dn (ln : sw_A) (i n : Int32) (σ : sw_S) : wi_P := sd_om (-1, σ) (fun q => if n < 0 then (-1, σ) else if n ≤ 1000 then wi_dl ln q.2 n.toNatClampNeg 0 σ else (-1, σ)) (wi_sa i)
def gX7_drain (ln : sw_A) (x : Nat) (i n : Int32) (σ : sw_S) : sw_X := (∀ s, wi_dp ln s n.toNatClampNeg σ, some (.inl (wi_dn ln i n σ).1), (wi_dn ln i n σ).2)
def fX7_drain (ln : sw_A) : sw_F := sw_foii 7 (gX7_drain ln)
def ctX7_drain (ln : sw_A) : sw_C := [(43, 2, 8, fX7_sideAt ln), (58, 1, 7, fX6_sendNext ln)]
abbrev wX7_drain (ln : sw_A) (Q : Option sw_V → sw_S → Prop) : Nat → Nat → sw_L → List sw_V → sw_S → Prop := sw_wp sw_rf ln (ctX7_drain ln) sX7_drain 1 47 tX7_drain Q
theorem hX7_drain_l (ln : sw_A) (x s n : Nat) (i : Int32) (X : sw_X) (hn : n < 2 ^ 31) : ∀ (d j : Nat) (σ : sw_S), j + d = n → wi_dp ln s d σ → X.2 = (some (.inl (wi_dl ln s d (nI j) σ).1), (wi_dl ln s d (nI j) σ).2) → ∃ fuel, wX7_drain ln (sw_end X) fuel 26 [some (.inr (some (7, x))), some (.inl i), some (.inl (nI n)), some (.inr (some (6, s))), some (.inl (nI j))] [] σ := by
  intro d
  induction d with
  | zero =>
    intro j σ hj hd hX
    have hj : j = n := by omega
    subst hj
    refine ⟨20, And.intro (fun _ => ?_) (fun (h : ¬ nI j ≤ nI j) => absurd (Int32.le_refl _) h)⟩
    show some _ = X.2.1 ∧ σ = X.2.2
    rw [hX]
    exact ⟨rfl, rfl⟩
  | succ d ih =>
    intro j σ hj hd hX
    by_cases h1 : (sd_np ln s σ).1 = 0
    · refine ⟨20, And.intro (fun (h : nI n ≤ nI j) => absurd h (nI_ge (a := j) (b := n) (by omega) hn)) (fun _ => And.intro hd.1 (And.intro (fun _ => ?_) (fun z => absurd h1 z)))⟩
      show some _ = X.2.1 ∧ (sd_np ln s σ).2 = X.2.2
      rw [hX, show wi_dl ln s (d + 1) (nI j) σ = _ from if_pos h1]
      exact ⟨rfl, rfl⟩
    · obtain ⟨f, hf⟩ := ih (j + 1) (sd_np ln s σ).2 (by omega) (hd.2 h1) (by rw [hX, show wi_dl ln s (d + 1) (nI j) σ = _ from if_neg h1, nI_1])
      rw [← nI_1] at hf
      refine ⟨f + 20, sw_ws_wp [26] f 20 _ _ _ _ ?_⟩
      exact And.intro (fun (h : nI n ≤ nI j) => absurd h (nI_ge (a := j) (b := n) (by omega) hn)) (fun _ => And.intro hd.1 (And.intro (fun z => absurd z h1) (fun _ => hf)))
theorem hX7_drain (ln : sw_A) (x : Nat) (i n : Int32) (σ : sw_S) (h : (gX7_drain ln x i n σ).1) : ∃ fuel, wX7_drain ln (sw_end (gX7_drain ln x i n σ)) fuel 0 (sw_ent 5 [.inr (some (7, x)), .inl i, .inl n]) [] σ := by
  have key : ∃ M, ∀ r, r = wi_sa i → wX7_drain ln (sw_end (gX7_drain ln x i n σ)) M 5 [some (.inr (some (7, x))), some (.inl i), some (.inl n), none, none] [.inr r] σ := by
    obtain ⟨r0, hr0⟩ : ∃ r0, r0 = wi_sa i := ⟨_, rfl⟩
    have hp : wi_dn ln i n σ = sd_om (-1, σ) (fun q => if n < 0 then (-1, σ) else if n ≤ 1000 then wi_dl ln q.2 n.toNatClampNeg 0 σ else (-1, σ)) r0 := by unfold wi_dn; rw [hr0]
    cases r0 with
    | none =>
      refine ⟨20, fun r hr => ?_⟩
      have hr : r = none := hr.trans hr0.symm
      subst hr
      exact sw_pe (by rw [hp]; rfl)
    | some q =>
      obtain ⟨q1, q2⟩ := q
      have e1 : q1 = 6 := wi_sa_6 hr0.symm
      subst e1
      replace hp : wi_dn ln i n σ = if n < 0 then (-1, σ) else if n ≤ 1000 then wi_dl ln q2 n.toNatClampNeg 0 σ else (-1, σ) := hp
      by_cases a1 : n < 0
      · refine ⟨20, fun r hr => ?_⟩
        have hr : r = some (6, q2) := hr.trans hr0.symm
        subst hr
        exact And.intro (fun _ => sw_pe (by rw [hp, if_pos a1])) (fun z => absurd a1 z)
      · by_cases a2 : n ≤ 1000
        · obtain ⟨m, hm, rfl⟩ := nI_of a1
          rw [if_neg a1, if_pos a2, nI_clamp hm] at hp
          have h0 := h q2
          rw [nI_clamp hm] at h0
          obtain ⟨f, hf⟩ := hX7_drain_l ln x q2 m i (gX7_drain ln x i (nI m) σ) hm m 0 σ (by omega) h0 (by
            show (some (Sum.inl (wi_dn ln i (nI m) σ).1), (wi_dn ln i (nI m) σ).2) = _
            rw [hp, nI_0])
          refine ⟨f + 20, fun r hr => sw_ws_wp [26] f 20 _ _ _ _ ?_⟩
          have hr : r = some (6, q2) := hr.trans hr0.symm
          subst hr
          exact And.intro (fun z => absurd z a1) (fun _ => And.intro (fun _ => hf) (fun z => absurd a2 z))
        · refine ⟨20, fun r hr => ?_⟩
          have hr : r = some (6, q2) := hr.trans hr0.symm
          subst hr
          exact And.intro (fun z => absurd z a1) (fun _ => And.intro (fun z => absurd z a2) (fun _ => sw_pe (by rw [hp, if_neg a1, if_neg a2])))
  obtain ⟨M, key⟩ := key
  exact ⟨M + 10, sw_ws_wp [5] M 10 _ _ _ _ (And.intro trivial (key _ rfl))⟩
set_option maxRecDepth 100000 in
theorem mX7_drain {l : Launch} {ad : sw_A} {V : Nat → Nat → Prop} {ln : sw_A} {ca : Nat → ClassId} {D : va_G} (hG : sw_wf ad V sw_rf ln) : sw_met l ad V sw_rf ln ca D yX7_drain cX7_drain 5 (some .int) { frames := 7, cells := 0, slots := 0, locals := 149 } 3 (fX7_drain ln) := by
  refine sw_meth hG (by decide) (by refine ⟨?_, ?_, ?_, ?_⟩ <;> intro h <;> first | rfl | exact ⟨_, rfl⟩ | exact absurd h (by decide)) (by decide) kX7_drain flX7_in cnX7_in ?_ (sw_foii_h (W := fun Q L σ => ∃ fuel, wX7_drain ln Q fuel 0 L [] σ) (fun a0 a1 a2 σ h => hX7_drain ln a0 a1 a2 σ h))
  intro p e s m args below meth c S hT hnw
  refine List.forall_mem_cons.mpr ⟨sw_cokV S hT hnw (mX7_sideAt hG) 43 7 (by decide) ⟨by decide +kernel, by decide +kernel, by decide +kernel, by decide +kernel, by decide +kernel⟩ ⟨rfl, by decide, by decide, by decide +kernel⟩ ⟨rfl, rfl⟩ ⟨by decide, by decide⟩, ?_⟩
  refine List.forall_mem_cons.mpr ⟨sw_cokV S hT hnw (mX6_sendNext hG) 58 6 (by decide) ⟨by decide +kernel, by decide +kernel, by decide +kernel, by decide +kernel, by decide +kernel⟩ ⟨rfl, by decide, by decide, by decide +kernel⟩ ⟨rfl, rfl⟩ ⟨by decide, by decide⟩, ?_⟩
  exact fun q h => absurd h List.not_mem_nil
def wi_ef (ln : sw_A) (s u f : Nat) (σ : sw_S) : wi_P := ((sd_mp ln u f σ).1, (gX3_dropFirst ln (2 * s + 1) (sd_mp ln u f σ).2).2.2)
def wi_em (ln : sw_A) (σ : sw_S) : Option (Nat × Nat) → Option (Nat × Nat) → wi_P
  | some p, some q => sd_om (0, σ) (fun f => wi_ef ln p.2 q.2 f.2 σ) (rg_fa ln (2 * p.2 + 1) 0 σ)
  | _, _ => (-1, σ)
def wi_de (ln : sw_A) (i : Int32) (σ : sw_S) : wi_P := wi_em ln σ (wi_sa i) (wi_sa (1 - i))
def gX7_deliver (ln : sw_A) (x : Nat) (i : Int32) (σ : sw_S) : sw_X := (lo ln ∧ ∀ s u f, wi_sa i = some (6, s) → wi_sa (1 - i) = some (6, u) → rg_fa ln (2 * s + 1) 0 σ = some (2, f) → (gX6_meet ln u f σ).1, some (.inl (wi_de ln i σ).1), (wi_de ln i σ).2)
def fX7_deliver (ln : sw_A) : sw_F := sw_foi 7 (gX7_deliver ln)
def ctX7_deliver (ln : sw_A) : sw_C := [(43, 2, 8, fX7_sideAt ln), (66, 2, 4, fX3_frameAt ln), (72, 2, 7, fX6_meet ln), (76, 1, 4, fX3_dropFirst ln)]
abbrev wX7_deliver (ln : sw_A) (Q : Option sw_V → sw_S → Prop) : Nat → Nat → sw_L → List sw_V → sw_S → Prop := sw_wp sw_rf ln (ctX7_deliver ln) sX7_deliver 1 59 tX7_deliver Q
theorem hX7_deliver (ln : sw_A) (x : Nat) (i : Int32) (σ : sw_S) (h : (gX7_deliver ln x i σ).1) : ∃ fuel, wX7_deliver ln (sw_end (gX7_deliver ln x i σ)) fuel 0 (sw_ent 6 [.inr (some (7, x)), .inl i]) [] σ := by
  obtain ⟨hl, hm⟩ := h
  have k13 : ∃ M, ∀ r1 r2, r1 = wi_sa i → r2 = wi_sa (1 - i) → wX7_deliver ln (sw_end (gX7_deliver ln x i σ)) M 13 [some (.inr (some (7, x))), some (.inl i), some (.inr r1), none, none, none] [.inr r2] σ := by
    obtain ⟨s1, hs1⟩ : ∃ s1, s1 = wi_sa i := ⟨_, rfl⟩
    obtain ⟨s2, hs2⟩ : ∃ s2, s2 = wi_sa (1 - i) := ⟨_, rfl⟩
    have hp : wi_de ln i σ = wi_em ln σ s1 s2 := by unfold wi_de; rw [hs1, hs2]
    cases s1 with
    | none =>
      refine ⟨20, fun r1 r2 h1 h2 => ?_⟩
      have h1 : r1 = none := h1.trans hs1.symm
      subst h1
      exact sw_pe (by rw [hp]; rfl)
    | some p =>
      obtain ⟨p1, p2⟩ := p
      have e1 : p1 = 6 := wi_sa_6 hs1.symm
      subst e1
      cases s2 with
      | none =>
        refine ⟨20, fun r1 r2 h1 h2 => ?_⟩
        have h1 : r1 = some (6, p2) := h1.trans hs1.symm
        have h2 : r2 = none := h2.trans hs2.symm
        subst h1
        subst h2
        exact sw_pe (by rw [hp]; rfl)
      | some q =>
        obtain ⟨q1, q2⟩ := q
        have e2 : q1 = 6 := wi_sa_6 hs2.symm
        subst e2
        have k32 : ∃ M, ∀ r, r = rg_fa ln (2 * p2 + 1) 0 σ → wX7_deliver ln (sw_end (gX7_deliver ln x i σ)) M 32 [some (.inr (some (7, x))), some (.inl i), some (.inr (some (6, p2))), some (.inr (some (6, q2))), none, none] [.inr r] σ := by
          refine ⟨30, fun r hr => ?_⟩
          have hp2 : wi_de ln i σ = sd_om (0, σ) (fun f => wi_ef ln p2 q2 f.2 σ) r := by rw [hp, hr]; rfl
          cases r with
          | none => exact sw_pe (by rw [hp2]; rfl)
          | some f =>
            obtain ⟨f1, f2⟩ := f
            have e3 : f1 = 2 := rg_fa_2 hr.symm
            subst e3
            exact And.intro (hm p2 q2 f2 hs1.symm hs2.symm hr.symm) (And.intro trivial (sw_pe (by rw [hp2]; rfl)))
        obtain ⟨M, k32⟩ := k32
        refine ⟨M + 20, fun r1 r2 h1 h2 => sw_ws_wp [32] M 20 _ _ _ _ ?_⟩
        have h1 : r1 = some (6, p2) := h1.trans hs1.symm
        have h2 : r2 = some (6, q2) := h2.trans hs2.symm
        subst h1
        subst h2
        exact And.intro (hl.1 13 _) (k32 _ rfl)
  obtain ⟨M, k13⟩ := k13
  exact ⟨M + 20, sw_ws_wp [13] M 20 _ _ _ _ (And.intro trivial (And.intro trivial (k13 _ _ rfl rfl)))⟩
set_option maxRecDepth 100000 in
theorem mX7_deliver {l : Launch} {ad : sw_A} {V : Nat → Nat → Prop} {ln : sw_A} {ca : Nat → ClassId} {D : va_G} (hG : sw_wf ad V sw_rf ln) : sw_met l ad V sw_rf ln ca D yX7_deliver cX7_deliver 6 (some .int) { frames := 6, cells := 0, slots := 0, locals := 132 } 2 (fX7_deliver ln) := by
  refine sw_meth hG (by decide) (by refine ⟨?_, ?_, ?_, ?_⟩ <;> intro h <;> first | rfl | exact ⟨_, rfl⟩ | exact absurd h (by decide)) (by decide) kX7_deliver flX7_in cnX7_in ?_ (sw_foi_h (W := fun Q L σ => ∃ fuel, wX7_deliver ln Q fuel 0 L [] σ) (fun a0 a1 σ h => hX7_deliver ln a0 a1 σ h))
  intro p e s m args below meth c S hT hnw
  refine List.forall_mem_cons.mpr ⟨sw_cokV S hT hnw (mX7_sideAt hG) 43 7 (by decide) ⟨by decide +kernel, by decide +kernel, by decide +kernel, by decide +kernel, by decide +kernel⟩ ⟨rfl, by decide, by decide, by decide +kernel⟩ ⟨rfl, rfl⟩ ⟨by decide, by decide⟩, ?_⟩
  refine List.forall_mem_cons.mpr ⟨sw_cokV S hT hnw (mX3_frameAt hG) 66 3 (by decide) ⟨by decide +kernel, by decide +kernel, by decide +kernel, by decide +kernel, by decide +kernel⟩ ⟨rfl, by decide, by decide, by decide +kernel⟩ ⟨rfl, rfl⟩ ⟨by decide, by decide⟩, ?_⟩
  refine List.forall_mem_cons.mpr ⟨sw_cokV S hT hnw (mX6_meet hG) 72 6 (by decide) ⟨by decide +kernel, by decide +kernel, by decide +kernel, by decide +kernel, by decide +kernel⟩ ⟨rfl, by decide, by decide, by decide +kernel⟩ ⟨rfl, rfl⟩ ⟨by decide, by decide⟩, ?_⟩
  refine List.forall_mem_cons.mpr ⟨sw_cokV S hT hnw (mX3_dropFirst hG) 76 3 (by decide) ⟨by decide +kernel, by decide +kernel, by decide +kernel, by decide +kernel, by decide +kernel⟩ ⟨rfl, by decide, by decide, by decide +kernel⟩ ⟨rfl, rfl⟩ ⟨by decide, by decide⟩, ?_⟩
  exact fun q h => absurd h List.not_mem_nil
end
section
/-! The reference: reading, opening, closing, queueing -/
def ml : Nat → Nat
  | 6 => 16 | 8 => 16 | 9 => 16 | 10 => 16 | 14 => 16 | 15 => 16 | 16 => 16 | 17 => 6400 | 19 => 16 | 20 => 6400 | 22 => 2 | 23 => 30 | 24 => 570 | 25 => 2 | 26 => 40 | 27 => 760 | 28 => 2 | 29 => 2 | 30 => 2 | 31 => 2 | 33 => 2 | 34 => 2 | 35 => 2 | 36 => 2 | 37 => 2 | 38 => 19 | _ => 0
def mz : Nat → Nat
  | 7 => 16 | 11 => 16 | 12 => 16 | 13 => 16 | 18 => 6400 | 21 => 6400 | 32 => 2 | _ => 0
def mo (ln : sw_A) : Prop := (∀ j, ln 15 j = ml j) ∧ ∀ j, ln 16 j = mz j
theorem mo.i {ln : sw_A} (h : mo ln) {x : Int32} {j n : Nat} (hj : ml j = n) (hx : vp_in x n) : vp_in x (ln 15 j) := by rw [h.1, hj]; exact hx
theorem mo.z {ln : sw_A} (h : mo ln) {x : Int32} {j n : Nat} (hj : mz j = n) (hx : vp_in x n) : vp_in x (ln 16 j) := by rw [h.2, hj]; exact hx
abbrev mi (σ : sw_S) (j : Nat) (x : Int32) : Int32 := σ 15 j x.toNatClampNeg
abbrev mb (σ : sw_S) (j : Nat) (x : Int32) : Int32 := σ 16 j x.toNatClampNeg
abbrev mis (σ : sw_S) (j : Nat) (x v : Int32) : sw_S := sw_up σ 15 j x.toNatClampNeg v
abbrev mbs (σ : sw_S) (j : Nat) (x v : Int32) : sw_S := sw_up σ 16 j x.toNatClampNeg v
def mo_is (i : Int32) : Int32 := if i = 0 then 1 else if i = 1 then 1 else 0
def gX8_isSide (ln : sw_A) (i : Int32) (σ : sw_S) : sw_X := (True, some (.inl (mo_is i)), σ)
def fX8_isSide (ln : sw_A) : sw_F := sw_fi (gX8_isSide ln)
def ctX8_isSide (ln : sw_A) : sw_C := []
abbrev wX8_isSide (ln : sw_A) (Q : Option sw_V → sw_S → Prop) : Nat → Nat → sw_L → List sw_V → sw_S → Prop := sw_wp sw_rf ln (ctX8_isSide ln) sX8_isSide 2 14 tX8_isSide Q
theorem hX8_isSide (ln : sw_A) (i : Int32) (σ : sw_S) (h : (gX8_isSide ln i σ).1) : ∃ fuel, wX8_isSide ln (sw_end (gX8_isSide ln i σ)) fuel 0 (sw_ent 1 [.inl i]) [] σ :=
  ⟨10, And.intro (fun (h1 : i = 0) => ⟨Or.inr rfl, sw_ri (if_pos h1).symm, rfl⟩) (fun (h1 : ¬ i = 0) => And.intro (fun (h2 : ¬ i = 1) => ⟨Or.inl rfl, sw_ri ((if_neg h1).trans (if_neg h2)).symm, rfl⟩) (fun (h2 : i = 1) => ⟨Or.inr rfl, sw_ri ((if_neg h1).trans (if_pos h2)).symm, rfl⟩))⟩
set_option maxRecDepth 100000 in
theorem mX8_isSide {l : Launch} {ad : sw_A} {V : Nat → Nat → Prop} {ln : sw_A} {ca : Nat → ClassId} {D : va_G} (hG : sw_wf ad V sw_rf ln) : sw_met l ad V sw_rf ln ca D yX8_isSide cX8_isSide 1 (some .boolean) { frames := 0, cells := 0, slots := 0, locals := 0 } 1 (fX8_isSide ln) := by
  refine sw_meth hG (by decide) (by refine ⟨?_, ?_, ?_, ?_⟩ <;> intro h <;> first | rfl | exact ⟨_, rfl⟩ | exact absurd h (by decide)) (by decide) kX8_isSide flX8_in cnX8_in ?_ (sw_fi_h (W := fun Q L σ => ∃ fuel, wX8_isSide ln Q fuel 0 L [] σ) (fun a0 σ h => hX8_isSide ln a0 σ h))
  intro p e s m args below meth c S hT hnw
  exact fun q h => absurd h List.not_mem_nil
def mo_st (k : Nat) (i t : Int32) (σ : sw_S) : Int32 := if mo_is i = 0 then 0 else if t < 0 then 0 else if σ 8 k 0 ≤ t then 0 else 1
def gX8_isStream (ln : sw_A) (k : Nat) (i t : Int32) (σ : sw_S) : sw_X := (True, some (.inl (mo_st k i t σ)), σ)
def fX8_isStream (ln : sw_A) : sw_F := sw_foii 8 (gX8_isStream ln)
def ctX8_isStream (ln : sw_A) : sw_C := [(133, 1, 0, fX8_isSide ln)]
abbrev wX8_isStream (ln : sw_A) (Q : Option sw_V → sw_S → Prop) : Nat → Nat → sw_L → List sw_V → sw_S → Prop := sw_wp sw_rf ln (ctX8_isStream ln) sX8_isStream 2 24 tX8_isStream Q
theorem hX8_isStream (ln : sw_A) (k : Nat) (i t : Int32) (σ : sw_S) (h : (gX8_isStream ln k i t σ).1) : ∃ fuel, wX8_isStream ln (sw_end (gX8_isStream ln k i t σ)) fuel 0 (sw_ent 3 [.inr (some (8, k)), .inl i, .inl t]) [] σ :=
  ⟨20, And.intro trivial (And.intro (fun (h1 : mo_is i = 0) => ⟨Or.inl rfl, sw_ri (if_pos h1).symm, rfl⟩) (fun (h1 : ¬ mo_is i = 0) => And.intro (fun (h2 : t < 0) => ⟨Or.inl rfl, sw_ri ((if_neg h1).trans (if_pos h2)).symm, rfl⟩) (fun (h2 : ¬ t < 0) => And.intro (fun (h3 : σ 8 k 0 ≤ t) => ⟨Or.inl rfl, sw_ri ((if_neg h1).trans ((if_neg h2).trans (if_pos h3))).symm, rfl⟩) (fun (h3 : ¬ σ 8 k 0 ≤ t) => ⟨Or.inr rfl, sw_ri ((if_neg h1).trans ((if_neg h2).trans (if_neg h3))).symm, rfl⟩))))⟩
set_option maxRecDepth 100000 in
theorem mX8_isStream {l : Launch} {ad : sw_A} {V : Nat → Nat → Prop} {ln : sw_A} {ca : Nat → ClassId} {D : va_G} (hG : sw_wf ad V sw_rf ln) : sw_met l ad V sw_rf ln ca D yX8_isStream cX8_isStream 3 (some .boolean) { frames := 1, cells := 0, slots := 0, locals := 20 } 3 (fX8_isStream ln) := by
  refine sw_meth hG (by decide) (by refine ⟨?_, ?_, ?_, ?_⟩ <;> intro h <;> first | rfl | exact ⟨_, rfl⟩ | exact absurd h (by decide)) (by decide) kX8_isStream flX8_in cnX8_in ?_ (sw_foii_h (W := fun Q L σ => ∃ fuel, wX8_isStream ln Q fuel 0 L [] σ) (fun a0 a1 a2 σ h => hX8_isStream ln a0 a1 a2 σ h))
  intro p e s m args below meth c S hT hnw
  refine List.forall_mem_cons.mpr ⟨sw_cokS S hT hnw (mX8_isSide hG) 133 ⟨by decide +kernel, by decide +kernel, by decide +kernel, by decide +kernel⟩ ⟨rfl, by decide, by decide, by decide +kernel⟩ ⟨rfl, rfl⟩ ⟨by decide, by decide⟩, ?_⟩
  exact fun q h => absurd h List.not_mem_nil
def mo_ix (i t : Int32) : Int32 := 8 * i + t
/-- the sides and streams that are: an index of the rows of 16 -/
def mo_pt (k : Nat) (i t : Int32) (σ : sw_S) : Prop := ¬ mo_st k i t σ = 0 → vp_in (mo_ix i t) 16 ∧ vp_in i 2
def mo_be (k : Nat) (x : Int32) (σ : sw_S) : sw_S := mis (mis σ 6 x 1) 8 x (mis σ 6 x 1 8 k 5)
def gX8_begin (ln : sw_A) (k : Nat) (x : Int32) (σ : sw_S) : sw_X := (mo ln ∧ vp_in x 16, none, mo_be k x σ)
def fX8_begin (ln : sw_A) : sw_F := sw_foi 8 (gX8_begin ln)
def ctX8_begin (ln : sw_A) : sw_C := []
abbrev wX8_begin (ln : sw_A) (Q : Option sw_V → sw_S → Prop) : Nat → Nat → sw_L → List sw_V → sw_S → Prop := sw_wp sw_rf ln (ctX8_begin ln) sX8_begin 0 17 tX8_begin Q
theorem hX8_begin (ln : sw_A) (k : Nat) (x : Int32) (σ : sw_S) (h : (gX8_begin ln k x σ).1) : ∃ fuel, wX8_begin ln (sw_end (gX8_begin ln k x σ)) fuel 0 (sw_ent 2 [.inr (some (8, k)), .inl x]) [] σ :=
  ⟨20, And.intro (h.1.i (j := 6) rfl h.2) (And.intro (h.1.i (j := 8) rfl h.2) ⟨rfl, rfl⟩)⟩
set_option maxRecDepth 100000 in
theorem mX8_begin {l : Launch} {ad : sw_A} {V : Nat → Nat → Prop} {ln : sw_A} {ca : Nat → ClassId} {D : va_G} (hG : sw_wf ad V sw_rf ln) : sw_met l ad V sw_rf ln ca D yX8_begin cX8_begin 2 none { frames := 0, cells := 0, slots := 0, locals := 0 } 2 (fX8_begin ln) := by
  refine sw_meth hG (by decide) (by refine ⟨?_, ?_, ?_, ?_⟩ <;> intro h <;> first | rfl | exact ⟨_, rfl⟩ | exact absurd h (by decide)) (by decide) kX8_begin flX8_in cnX8_in ?_ (sw_foi_h (W := fun Q L σ => ∃ fuel, wX8_begin ln Q fuel 0 L [] σ) (fun a0 a1 σ h => hX8_begin ln a0 a1 σ h))
  intro p e s m args below meth c S hT hnw
  exact fun q h => absurd h List.not_mem_nil
def mo_op (k : Nat) (i t : Int32) (σ : sw_S) : wi_P := if mo_st k i t σ = 0 then (-1, σ) else if mi σ 6 (mo_ix i t) = 0 then (1, mbs (mo_be k (mo_ix i t) σ) 11 (mo_ix i t) 1) else (0, σ)
def gX8_open (ln : sw_A) (k : Nat) (i t : Int32) (σ : sw_S) : sw_X := (mo ln ∧ mo_pt k i t σ, some (.inl (mo_op k i t σ).1), (mo_op k i t σ).2)
def fX8_open (ln : sw_A) : sw_F := sw_foii 8 (gX8_open ln)
def ctX8_open (ln : sw_A) : sw_C := [(137, 3, 9, fX8_isStream ln), (141, 2, 9, fX8_begin ln)]
abbrev wX8_open (ln : sw_A) (Q : Option sw_V → sw_S → Prop) : Nat → Nat → sw_L → List sw_V → sw_S → Prop := sw_wp sw_rf ln (ctX8_open ln) sX8_open 1 42 tX8_open Q
theorem hX8_open (ln : sw_A) (k : Nat) (i t : Int32) (σ : sw_S) (h : (gX8_open ln k i t σ).1) : ∃ fuel, wX8_open ln (sw_end (gX8_open ln k i t σ)) fuel 0 (sw_ent 4 [.inr (some (8, k)), .inl i, .inl t]) [] σ := by
  obtain ⟨hm, hp⟩ := h
  refine ⟨40, And.intro trivial (And.intro (fun (h1 : ¬ mo_st k i t σ = 0) => ?_) (fun (h1 : mo_st k i t σ = 0) => sw_pe (if_pos h1)))⟩
  have hx := (hp h1).1
  exact And.intro (hm.i (j := 6) rfl hx) (And.intro (fun (h2 : mi σ 6 (mo_ix i t) = 0) => And.intro ⟨hm, hx⟩ (And.intro (hm.z (j := 11) rfl hx) (And.intro (Or.inr rfl) (sw_pe ((if_neg h1).trans (if_pos h2)))))) (fun (h2 : ¬ mi σ 6 (mo_ix i t) = 0) => sw_pe ((if_neg h1).trans (if_neg h2))))
set_option maxRecDepth 100000 in
theorem mX8_open {l : Launch} {ad : sw_A} {V : Nat → Nat → Prop} {ln : sw_A} {ca : Nat → ClassId} {D : va_G} (hG : sw_wf ad V sw_rf ln) : sw_met l ad V sw_rf ln ca D yX8_open cX8_open 4 (some .int) { frames := 2, cells := 0, slots := 0, locals := 42 } 3 (fX8_open ln) := by
  refine sw_meth hG (by decide) (by refine ⟨?_, ?_, ?_, ?_⟩ <;> intro h <;> first | rfl | exact ⟨_, rfl⟩ | exact absurd h (by decide)) (by decide) kX8_open flX8_in cnX8_in ?_ (sw_foii_h (W := fun Q L σ => ∃ fuel, wX8_open ln Q fuel 0 L [] σ) (fun a0 a1 a2 σ h => hX8_open ln a0 a1 a2 σ h))
  intro p e s m args below meth c S hT hnw
  refine List.forall_mem_cons.mpr ⟨sw_cokV S hT hnw (mX8_isStream hG) 137 8 (by decide) ⟨by decide +kernel, by decide +kernel, by decide +kernel, by decide +kernel, by decide +kernel⟩ ⟨rfl, by decide, by decide, by decide +kernel⟩ ⟨rfl, rfl⟩ ⟨by decide, by decide⟩, ?_⟩
  refine List.forall_mem_cons.mpr ⟨sw_cokV S hT hnw (mX8_begin hG) 141 8 (by decide) ⟨by decide +kernel, by decide +kernel, by decide +kernel, by decide +kernel, by decide +kernel⟩ ⟨rfl, by decide, by decide, by decide +kernel⟩ ⟨rfl, rfl⟩ ⟨by decide, by decide⟩, ?_⟩
  exact fun q h => absurd h List.not_mem_nil
def mo_cl (k : Nat) (i t : Int32) (σ : sw_S) : wi_P := if mo_st k i t σ = 0 then (-1, σ) else if mi σ 6 (mo_ix i t) = 1 then (1, mbs (mis σ 6 (mo_ix i t) 2) 12 (mo_ix i t) 1) else (0, σ)
def gX8_close (ln : sw_A) (k : Nat) (i t : Int32) (σ : sw_S) : sw_X := (mo ln ∧ mo_pt k i t σ, some (.inl (mo_cl k i t σ).1), (mo_cl k i t σ).2)
def fX8_close (ln : sw_A) : sw_F := sw_foii 8 (gX8_close ln)
def ctX8_close (ln : sw_A) : sw_C := [(137, 3, 9, fX8_isStream ln)]
abbrev wX8_close (ln : sw_A) (Q : Option sw_V → sw_S → Prop) : Nat → Nat → sw_L → List sw_V → sw_S → Prop := sw_wp sw_rf ln (ctX8_close ln) sX8_close 1 45 tX8_close Q
theorem hX8_close (ln : sw_A) (k : Nat) (i t : Int32) (σ : sw_S) (h : (gX8_close ln k i t σ).1) : ∃ fuel, wX8_close ln (sw_end (gX8_close ln k i t σ)) fuel 0 (sw_ent 4 [.inr (some (8, k)), .inl i, .inl t]) [] σ := by
  obtain ⟨hm, hp⟩ := h
  refine ⟨40, And.intro trivial (And.intro (fun (h1 : ¬ mo_st k i t σ = 0) => ?_) (fun (h1 : mo_st k i t σ = 0) => sw_pe (if_pos h1)))⟩
  have hx := (hp h1).1
  exact And.intro (hm.i (j := 6) rfl hx) (And.intro (fun (h2 : mi σ 6 (mo_ix i t) = 1) => And.intro (hm.i (j := 6) rfl hx) (And.intro (hm.z (j := 12) rfl hx) (And.intro (Or.inr rfl) (sw_pe ((if_neg h1).trans (if_pos h2)))))) (fun (h2 : ¬ mi σ 6 (mo_ix i t) = 1) => sw_pe ((if_neg h1).trans (if_neg h2))))
set_option maxRecDepth 100000 in
theorem mX8_close {l : Launch} {ad : sw_A} {V : Nat → Nat → Prop} {ln : sw_A} {ca : Nat → ClassId} {D : va_G} (hG : sw_wf ad V sw_rf ln) : sw_met l ad V sw_rf ln ca D yX8_close cX8_close 4 (some .int) { frames := 2, cells := 0, slots := 0, locals := 42 } 3 (fX8_close ln) := by
  refine sw_meth hG (by decide) (by refine ⟨?_, ?_, ?_, ?_⟩ <;> intro h <;> first | rfl | exact ⟨_, rfl⟩ | exact absurd h (by decide)) (by decide) kX8_close flX8_in cnX8_in ?_ (sw_foii_h (W := fun Q L σ => ∃ fuel, wX8_close ln Q fuel 0 L [] σ) (fun a0 a1 a2 σ h => hX8_close ln a0 a1 a2 σ h))
  intro p e s m args below meth c S hT hnw
  refine List.forall_mem_cons.mpr ⟨sw_cokV S hT hnw (mX8_isStream hG) 137 8 (by decide) ⟨by decide +kernel, by decide +kernel, by decide +kernel, by decide +kernel, by decide +kernel⟩ ⟨rfl, by decide, by decide, by decide +kernel⟩ ⟨rfl, rfl⟩ ⟨by decide, by decide⟩, ?_⟩
  exact fun q h => absurd h List.not_mem_nil
def mo_wo (i : Int32) (σ : sw_S) : Int32 := if mo_is i = 0 then 0 else mi σ 37 i
def gX8_word (ln : sw_A) (k : Nat) (i : Int32) (σ : sw_S) : sw_X := (mo ln ∧ (¬ mo_is i = 0 → vp_in i 2), some (.inl (mo_wo i σ)), σ)
def fX8_word (ln : sw_A) : sw_F := sw_foi 8 (gX8_word ln)
def ctX8_word (ln : sw_A) : sw_C := [(133, 1, 0, fX8_isSide ln)]
abbrev wX8_word (ln : sw_A) (Q : Option sw_V → sw_S → Prop) : Nat → Nat → sw_L → List sw_V → sw_S → Prop := sw_wp sw_rf ln (ctX8_word ln) sX8_word 1 17 tX8_word Q
theorem hX8_word (ln : sw_A) (k : Nat) (i : Int32) (σ : sw_S) (h : (gX8_word ln k i σ).1) : ∃ fuel, wX8_word ln (sw_end (gX8_word ln k i σ)) fuel 0 (sw_ent 2 [.inr (some (8, k)), .inl i]) [] σ :=
  ⟨20, And.intro trivial (And.intro (fun (h1 : mo_is i = 0) => ⟨sw_ri (if_pos h1).symm, rfl⟩) (fun (h1 : ¬ mo_is i = 0) => And.intro (h.1.i (j := 37) rfl (h.2 h1)) ⟨sw_ri (if_neg h1).symm, rfl⟩))⟩
set_option maxRecDepth 100000 in
theorem mX8_word {l : Launch} {ad : sw_A} {V : Nat → Nat → Prop} {ln : sw_A} {ca : Nat → ClassId} {D : va_G} (hG : sw_wf ad V sw_rf ln) : sw_met l ad V sw_rf ln ca D yX8_word cX8_word 2 (some .int) { frames := 1, cells := 0, slots := 0, locals := 20 } 2 (fX8_word ln) := by
  refine sw_meth hG (by decide) (by refine ⟨?_, ?_, ?_, ?_⟩ <;> intro h <;> first | rfl | exact ⟨_, rfl⟩ | exact absurd h (by decide)) (by decide) kX8_word flX8_in cnX8_in ?_ (sw_foi_h (W := fun Q L σ => ∃ fuel, wX8_word ln Q fuel 0 L [] σ) (fun a0 a1 σ h => hX8_word ln a0 a1 σ h))
  intro p e s m args below meth c S hT hnw
  refine List.forall_mem_cons.mpr ⟨sw_cokS S hT hnw (mX8_isSide hG) 133 ⟨by decide +kernel, by decide +kernel, by decide +kernel, by decide +kernel⟩ ⟨rfl, by decide, by decide, by decide +kernel⟩ ⟨rfl, rfl⟩ ⟨by decide, by decide⟩, ?_⟩
  exact fun q h => absurd h List.not_mem_nil
def mo_we (k : Nat) (i t w : Int32) (σ : sw_S) : wi_P := if mo_st k i t σ = 0 then (-1, σ) else if w < 1 then (-1, σ) else if w ≤ 4 then (mi σ 10 (mo_ix i t), mis σ 10 (mo_ix i t) w) else (-1, σ)
def gX8_weight (ln : sw_A) (k : Nat) (i t w : Int32) (σ : sw_S) : sw_X := (mo ln ∧ mo_pt k i t σ, some (.inl (mo_we k i t w σ).1), (mo_we k i t w σ).2)
def fX8_weight (ln : sw_A) : sw_F := sw_foiii 8 (gX8_weight ln)
def ctX8_weight (ln : sw_A) : sw_C := [(137, 3, 9, fX8_isStream ln)]
abbrev wX8_weight (ln : sw_A) (Q : Option sw_V → sw_S → Prop) : Nat → Nat → sw_L → List sw_V → sw_S → Prop := sw_wp sw_rf ln (ctX8_weight ln) sX8_weight 1 48 tX8_weight Q
theorem hX8_weight (ln : sw_A) (k : Nat) (i t w : Int32) (σ : sw_S) (h : (gX8_weight ln k i t w σ).1) : ∃ fuel, wX8_weight ln (sw_end (gX8_weight ln k i t w σ)) fuel 0 (sw_ent 5 [.inr (some (8, k)), .inl i, .inl t, .inl w]) [] σ := by
  obtain ⟨hm, hp⟩ := h
  refine ⟨40, And.intro trivial (And.intro (fun (h1 : mo_st k i t σ = 0) => sw_pe (if_pos h1)) (fun (h1 : ¬ mo_st k i t σ = 0) => ?_))⟩
  have hx := (hp h1).1
  exact And.intro (fun (a1 : w < 1) => sw_pe ((if_neg h1).trans (if_pos a1))) (fun (a1 : ¬ w < 1) => And.intro (fun (a2 : w ≤ 4) => And.intro (hm.i (j := 10) rfl hx) (And.intro (hm.i (j := 10) rfl hx) (sw_pe ((if_neg h1).trans ((if_neg a1).trans (if_pos a2)))))) (fun (a2 : ¬ w ≤ 4) => sw_pe ((if_neg h1).trans ((if_neg a1).trans (if_neg a2)))))
set_option maxRecDepth 100000 in
theorem mX8_weight {l : Launch} {ad : sw_A} {V : Nat → Nat → Prop} {ln : sw_A} {ca : Nat → ClassId} {D : va_G} (hG : sw_wf ad V sw_rf ln) : sw_met l ad V sw_rf ln ca D yX8_weight cX8_weight 5 (some .int) { frames := 2, cells := 0, slots := 0, locals := 42 } 4 (fX8_weight ln) := by
  refine sw_meth hG (by decide) (by refine ⟨?_, ?_, ?_, ?_⟩ <;> intro h <;> first | rfl | exact ⟨_, rfl⟩ | exact absurd h (by decide)) (by decide) kX8_weight flX8_in cnX8_in ?_ (sw_foiii_h (W := fun Q L σ => ∃ fuel, wX8_weight ln Q fuel 0 L [] σ) (fun a0 a1 a2 a3 σ h => hX8_weight ln a0 a1 a2 a3 σ h))
  intro p e s m args below meth c S hT hnw
  refine List.forall_mem_cons.mpr ⟨sw_cokV S hT hnw (mX8_isStream hG) 137 8 (by decide) ⟨by decide +kernel, by decide +kernel, by decide +kernel, by decide +kernel, by decide +kernel⟩ ⟨rfl, by decide, by decide, by decide +kernel⟩ ⟨rfl, rfl⟩ ⟨by decide, by decide⟩, ?_⟩
  exact fun q h => absurd h List.not_mem_nil
def mo_f1 (k : Nat) (i : Int32) (σ : sw_S) : Nat → Int32
  | 0 => σ 8 k 3
  | n + 1 => if mi σ 6 (mo_ix i (nI n)) = 0 then mo_f1 k i σ n - (0 + mi σ 16 (mo_ix i (nI n))) else mo_f1 k i σ n - (σ 8 k 5 + mi σ 16 (mo_ix i (nI n)))
def mo_ow (i : Int32) (n : Nat) : Int32 := 19 * (15 * i + nI n)
def mo_f2 (i : Int32) (σ : sw_S) (a : Int32) : Nat → Int32
  | 0 => a
  | n + 1 => if mi σ 24 (mo_ow i n) &&& 7 = 1 then mo_f2 i σ a n - sw_ushr (mi σ 24 (mo_ow i n)) 24 else mo_f2 i σ a n - 0
def mo_fx (k : Nat) (i : Int32) (σ : sw_S) : Int32 := mo_f2 i σ (mo_f1 k i σ (σ 8 k 0).toNatClampNeg) (mi σ 22 i).toNatClampNeg
def mo_fr (k : Nat) (i : Int32) (σ : sw_S) : Int32 := if mo_fx k i σ ≤ 0 then 0 else mo_fx k i σ
def mo_fp (k : Nat) (i : Int32) (σ : sw_S) : Prop := vp_in i 2 ∧ 0 ≤ σ 8 k 0 ∧ 0 ≤ mi σ 22 i ∧ (∀ n, n < (σ 8 k 0).toNatClampNeg → vp_in (mo_ix i (nI n)) 16) ∧ ∀ n, n < (mi σ 22 i).toNatClampNeg → vp_in (mo_ow i n) 570
def gX8_free (ln : sw_A) (k : Nat) (i : Int32) (σ : sw_S) : sw_X := (mo ln ∧ mo_fp k i σ, some (.inl (mo_fr k i σ)), σ)
def fX8_free (ln : sw_A) : sw_F := sw_foi 8 (gX8_free ln)
def ctX8_free (ln : sw_A) : sw_C := []
abbrev wX8_free (ln : sw_A) (Q : Option sw_V → sw_S → Prop) : Nat → Nat → sw_L → List sw_V → sw_S → Prop := sw_wp sw_rf ln (ctX8_free ln) sX8_free 1 122 tX8_free Q
theorem hX8_free_2 (ln : sw_A) (k n : Nat) (i a : Int32) (σ : sw_S) (X : sw_X) (hm : mo ln) (hi : vp_in i 2) (hn : n < 2 ^ 31) (hz : mi σ 22 i = nI n) (hb : ∀ j, j < n → vp_in (mo_ow i j) 570) (hX : X.2 = (some (.inl (if mo_f2 i σ a n ≤ 0 then 0 else mo_f2 i σ a n)), σ)) : ∀ (d j : Nat) (x4 : Option sw_V), j + d = n → ∃ fuel, wX8_free ln (sw_end X) fuel 60 [some (.inr (some (8, k))), some (.inl i), some (.inl (mo_f2 i σ a j)), some (.inl (nI j)), x4] [] σ := by
  intro d
  have h22 := hm.i (j := 22) rfl hi
  induction d with
  | zero =>
    intro j x4 hj
    have hj : j = n := by omega
    subst hj
    refine ⟨20, And.intro h22 (And.intro (fun _ => And.intro (fun (h1 : mo_f2 i σ a j ≤ 0) => ?_) (fun (h1 : ¬ mo_f2 i σ a j ≤ 0) => ?_)) (fun (h : ¬ mi σ 22 i ≤ nI j) => absurd (by rw [hz]; exact Int32.le_refl _) h))⟩
    · show some _ = X.2.1 ∧ σ = X.2.2
      rw [hX, if_pos h1]
      exact ⟨rfl, rfl⟩
    · show some _ = X.2.1 ∧ σ = X.2.2
      rw [hX, if_neg h1]
      exact ⟨rfl, rfl⟩
  | succ d ih =>
    intro j x4 hj
    obtain ⟨f, hf⟩ := ih (j + 1) (some (.inl (mi σ 24 (mo_ow i j)))) (by omega)
    rw [← nI_1] at hf
    refine ⟨f + 60, sw_ws_wp [60] f 60 _ _ _ _ ?_⟩
    refine And.intro h22 (And.intro (fun (h : mi σ 22 i ≤ nI j) => absurd (by rw [← hz]; exact h) (nI_ge (a := j) (b := n) (by omega) hn)) (fun _ => And.intro (hm.i (j := 24) rfl (hb j (by omega))) (And.intro (fun (h1 : ¬ mi σ 24 (mo_ow i j) &&& 7 = 1) => ?_) (fun (h1 : mi σ 24 (mo_ow i j) &&& 7 = 1) => ?_))))
    · rw [show mo_f2 i σ a (j + 1) = _ from if_neg h1] at hf
      exact hf
    · rw [show mo_f2 i σ a (j + 1) = _ from if_pos h1] at hf
      exact hf
theorem hX8_free_1 (ln : sw_A) (k n : Nat) (i : Int32) (σ : sw_S) (X : sw_X) (hm : mo ln) (hn : n < 2 ^ 31) (hz : σ 8 k 0 = nI n) (hb : ∀ j, j < n → vp_in (mo_ix i (nI j)) 16) (M : Nat) (hM : wX8_free ln (sw_end X) M 58 [some (.inr (some (8, k))), some (.inl i), some (.inl (mo_f1 k i σ n)), some (.inl (nI n)), none] [] σ) : ∀ (d j : Nat), j + d = n → ∃ fuel, wX8_free ln (sw_end X) fuel 7 [some (.inr (some (8, k))), some (.inl i), some (.inl (mo_f1 k i σ j)), some (.inl (nI j)), none] [] σ := by
  intro d
  induction d with
  | zero =>
    intro j hj
    have hj : j = n := by omega
    subst hj
    refine ⟨M + 20, sw_ws_wp [58] M 20 _ _ _ _ ?_⟩
    exact And.intro (fun _ => hM) (fun (h : ¬ σ 8 k 0 ≤ nI j) => absurd (by rw [hz]; exact Int32.le_refl _) h)
  | succ d ih =>
    intro j hj
    have v1 := hm.i (j := 6) rfl (hb j (by omega))
    have v2 := hm.i (j := 16) rfl (hb j (by omega))
    obtain ⟨f, hf⟩ := ih (j + 1) (by omega)
    rw [← nI_1] at hf
    refine ⟨f + 60, sw_ws_wp [7] f 60 _ _ _ _ ?_⟩
    refine And.intro (fun (h : σ 8 k 0 ≤ nI j) => absurd (by rw [← hz]; exact h) (nI_ge (a := j) (b := n) (by omega) hn)) (fun _ => And.intro v1 (And.intro (fun (h1 : ¬ mi σ 6 (mo_ix i (nI j)) = 0) => And.intro v2 ?_) (fun (h1 : mi σ 6 (mo_ix i (nI j)) = 0) => And.intro v2 ?_)))
    · rw [show mo_f1 k i σ (j + 1) = _ from if_neg h1] at hf
      exact hf
    · rw [show mo_f1 k i σ (j + 1) = _ from if_pos h1] at hf
      exact hf
theorem hX8_free (ln : sw_A) (k : Nat) (i : Int32) (σ : sw_S) (h : (gX8_free ln k i σ).1) : ∃ fuel, wX8_free ln (sw_end (gX8_free ln k i σ)) fuel 0 (sw_ent 5 [.inr (some (8, k)), .inl i]) [] σ := by
  obtain ⟨hm, hi, h0, h1, h2, h3⟩ := h
  obtain ⟨n, hn, hz⟩ := nI_of (Int32.not_lt.mpr h0)
  obtain ⟨q, hq, hy⟩ := nI_of (Int32.not_lt.mpr h1)
  rw [hz, nI_clamp hn] at h2
  rw [hy, nI_clamp hq] at h3
  obtain ⟨M, hM⟩ := hX8_free_2 ln k q i (mo_f1 k i σ n) σ (gX8_free ln k i σ) hm hi hq hy h3 (by
    show (some (Sum.inl (mo_fr k i σ)), σ) = _
    unfold mo_fr mo_fx
    rw [hz, nI_clamp hn, hy, nI_clamp hq]) q 0 none (by omega)
  obtain ⟨f, hf⟩ := hX8_free_1 ln k n i σ (gX8_free ln k i σ) hm hn hz h2 (M + 10) (sw_ws_wp [60] M 10 _ _ _ _ hM) n 0 (by omega)
  exact ⟨f + 10, sw_ws_wp [7] f 10 _ _ _ _ hf⟩
set_option maxRecDepth 100000 in
theorem mX8_free {l : Launch} {ad : sw_A} {V : Nat → Nat → Prop} {ln : sw_A} {ca : Nat → ClassId} {D : va_G} (hG : sw_wf ad V sw_rf ln) : sw_met l ad V sw_rf ln ca D yX8_free cX8_free 5 (some .int) { frames := 0, cells := 0, slots := 0, locals := 0 } 2 (fX8_free ln) := by
  refine sw_meth hG (by decide) (by refine ⟨?_, ?_, ?_, ?_⟩ <;> intro h <;> first | rfl | exact ⟨_, rfl⟩ | exact absurd h (by decide)) (by decide) kX8_free flX8_in cnX8_in ?_ (sw_foi_h (W := fun Q L σ => ∃ fuel, wX8_free ln Q fuel 0 L [] σ) (fun a0 a1 σ h => hX8_free ln a0 a1 σ h))
  intro p e s m args below meth c S hT hnw
  exact fun q h => absurd h List.not_mem_nil
end
section
/-! The reference: queueing, frames -/
def mo_p1 (x : Int32) (σ : sw_S) : Int32 := 400 * x + mi σ 16 x
def mo_pa (x w b : Int32) (σ : sw_S) : sw_S := mbs (mis σ 17 (mo_p1 x σ) w) 18 (mo_p1 x (mis σ 17 (mo_p1 x σ) w)) b
def mo_pb (x w b : Int32) (σ : sw_S) : sw_S := mis (mo_pa x w b σ) 16 x (mi (mo_pa x w b σ) 16 x + 1)
def mo_pu (k : Nat) (i t w b : Int32) (σ : sw_S) : wi_P := if mo_st k i t σ = 0 then (-1, σ) else if mi σ 6 (mo_ix i t) = 1 then (if mo_fr k i σ = 0 then (2, σ) else (1, mo_pb (mo_ix i t) w b σ)) else (0, σ)
def mo_pq (k : Nat) (i t : Int32) (σ : sw_S) : Prop := ¬ mo_st k i t σ = 0 → mo_fp k i σ ∧ vp_in (mo_ix i t) 16 ∧ (mi σ 6 (mo_ix i t) = 1 → ¬ mo_fr k i σ = 0 → vp_in (mo_p1 (mo_ix i t) σ) 6400)
def gX8_put (ln : sw_A) (k : Nat) (i t w b : Int32) (σ : sw_S) : sw_X := (mo ln ∧ mo_pq k i t σ ∧ sw_bo b, some (.inl (mo_pu k i t w b σ).1), (mo_pu k i t w b σ).2)
def fX8_put (ln : sw_A) : sw_F := sw_foiiii 8 (gX8_put ln)
def ctX8_put (ln : sw_A) : sw_C := [(137, 3, 9, fX8_isStream ln), (145, 2, 9, fX8_free ln)]
abbrev wX8_put (ln : sw_A) (Q : Option sw_V → sw_S → Prop) : Nat → Nat → sw_L → List sw_V → sw_S → Prop := sw_wp sw_rf ln (ctX8_put ln) sX8_put 1 95 tX8_put Q
theorem hX8_put (ln : sw_A) (k : Nat) (i t w b : Int32) (σ : sw_S) (h : (gX8_put ln k i t w b σ).1) : ∃ fuel, wX8_put ln (sw_end (gX8_put ln k i t w b σ)) fuel 0 (sw_ent 6 [.inr (some (8, k)), .inl i, .inl t, .inl w, .inl b]) [] σ := by
  obtain ⟨hm, hp, hb⟩ := h
  refine ⟨80, And.intro trivial (And.intro (fun (h1 : ¬ mo_st k i t σ = 0) => ?_) (fun (h1 : mo_st k i t σ = 0) => sw_pe (if_pos h1)))⟩
  obtain ⟨hf, hx, hv⟩ := hp h1
  refine And.intro (hm.i (j := 6) rfl hx) (And.intro (fun (h2 : mi σ 6 (mo_ix i t) = 1) => And.intro ⟨hm, hf⟩ (And.intro (fun (h3 : ¬ mo_fr k i σ = 0) => ?_) (fun (h3 : mo_fr k i σ = 0) => sw_pe ((if_neg h1).trans ((if_pos h2).trans (if_pos h3)))))) (fun (h2 : ¬ mi σ 6 (mo_ix i t) = 1) => sw_pe ((if_neg h1).trans (if_neg h2))))
  have v1 := hv h2 h3
  have v2 : vp_in (mo_p1 (mo_ix i t) (mis σ 17 (mo_p1 (mo_ix i t) σ) w)) 6400 := by
    have e : mo_p1 (mo_ix i t) (mis σ 17 (mo_p1 (mo_ix i t) σ) w) = mo_p1 (mo_ix i t) σ := by
      unfold mo_p1
      rw [show mi (mis σ 17 (400 * mo_ix i t + mi σ 16 (mo_ix i t)) w) 16 (mo_ix i t) = mi σ 16 (mo_ix i t) from sw_upi _ (by decide)]
    rw [e]
    exact v1
  exact And.intro (hm.i (j := 16) rfl hx) (And.intro (hm.i (j := 17) rfl v1) (And.intro (hm.i (j := 16) rfl hx) (And.intro (hm.z (j := 18) rfl v2) (And.intro hb (And.intro (hm.i (j := 16) rfl hx) (And.intro (hm.i (j := 16) rfl hx) (sw_pe ((if_neg h1).trans ((if_pos h2).trans (if_neg h3))))))))))
set_option maxRecDepth 100000 in
theorem mX8_put {l : Launch} {ad : sw_A} {V : Nat → Nat → Prop} {ln : sw_A} {ca : Nat → ClassId} {D : va_G} (hG : sw_wf ad V sw_rf ln) : sw_met l ad V sw_rf ln ca D yX8_put cX8_put 6 (some .int) { frames := 2, cells := 0, slots := 0, locals := 42 } 5 (fX8_put ln) := by
  refine sw_meth hG (by decide) (by refine ⟨?_, ?_, ?_, ?_⟩ <;> intro h <;> first | rfl | exact ⟨_, rfl⟩ | exact absurd h (by decide)) (by decide) kX8_put flX8_in cnX8_in ?_ (sw_foiiii_h (W := fun Q L σ => ∃ fuel, wX8_put ln Q fuel 0 L [] σ) (fun a0 a1 a2 a3 a4 σ h => hX8_put ln a0 a1 a2 a3 a4 σ h))
  intro p e s m args below meth c S hT hnw
  refine List.forall_mem_cons.mpr ⟨sw_cokV S hT hnw (mX8_isStream hG) 137 8 (by decide) ⟨by decide +kernel, by decide +kernel, by decide +kernel, by decide +kernel, by decide +kernel⟩ ⟨rfl, by decide, by decide, by decide +kernel⟩ ⟨rfl, rfl⟩ ⟨by decide, by decide⟩, ?_⟩
  refine List.forall_mem_cons.mpr ⟨sw_cokV S hT hnw (mX8_free hG) 145 8 (by decide) ⟨by decide +kernel, by decide +kernel, by decide +kernel, by decide +kernel, by decide +kernel⟩ ⟨rfl, by decide, by decide, by decide +kernel⟩ ⟨rfl, rfl⟩ ⟨by decide, by decide⟩, ?_⟩
  exact fun q h => absurd h List.not_mem_nil
def gX8_send (ln : sw_A) (k : Nat) (i t w : Int32) (σ : sw_S) : sw_X := (mo ln ∧ mo_pq k i t σ, some (.inl (mo_pu k i t w 0 σ).1), (mo_pu k i t w 0 σ).2)
def fX8_send (ln : sw_A) : sw_F := sw_foiii 8 (gX8_send ln)
def ctX8_send (ln : sw_A) : sw_C := [(149, 5, 9, fX8_put ln)]
abbrev wX8_send (ln : sw_A) (Q : Option sw_V → sw_S → Prop) : Nat → Nat → sw_L → List sw_V → sw_S → Prop := sw_wp sw_rf ln (ctX8_send ln) sX8_send 1 8 tX8_send Q
theorem hX8_send (ln : sw_A) (k : Nat) (i t w : Int32) (σ : sw_S) (h : (gX8_send ln k i t w σ).1) : ∃ fuel, wX8_send ln (sw_end (gX8_send ln k i t w σ)) fuel 0 (sw_ent 4 [.inr (some (8, k)), .inl i, .inl t, .inl w]) [] σ :=
  ⟨20, And.intro ⟨h.1, h.2, Or.inl rfl⟩ ⟨rfl, rfl⟩⟩
set_option maxRecDepth 100000 in
theorem mX8_send {l : Launch} {ad : sw_A} {V : Nat → Nat → Prop} {ln : sw_A} {ca : Nat → ClassId} {D : va_G} (hG : sw_wf ad V sw_rf ln) : sw_met l ad V sw_rf ln ca D yX8_send cX8_send 4 (some .int) { frames := 3, cells := 0, slots := 0, locals := 67 } 4 (fX8_send ln) := by
  refine sw_meth hG (by decide) (by refine ⟨?_, ?_, ?_, ?_⟩ <;> intro h <;> first | rfl | exact ⟨_, rfl⟩ | exact absurd h (by decide)) (by decide) kX8_send flX8_in cnX8_in ?_ (sw_foiii_h (W := fun Q L σ => ∃ fuel, wX8_send ln Q fuel 0 L [] σ) (fun a0 a1 a2 a3 σ h => hX8_send ln a0 a1 a2 a3 σ h))
  intro p e s m args below meth c S hT hnw
  refine List.forall_mem_cons.mpr ⟨sw_cokV S hT hnw (mX8_put hG) 149 8 (by decide) ⟨by decide +kernel, by decide +kernel, by decide +kernel, by decide +kernel, by decide +kernel⟩ ⟨rfl, by decide, by decide, by decide +kernel⟩ ⟨rfl, rfl⟩ ⟨by decide, by decide⟩, ?_⟩
  exact fun q h => absurd h List.not_mem_nil
def gX8_mark (ln : sw_A) (k : Nat) (i t : Int32) (σ : sw_S) : sw_X := (mo ln ∧ mo_pq k i t σ, some (.inl (mo_pu k i t 0 1 σ).1), (mo_pu k i t 0 1 σ).2)
def fX8_mark (ln : sw_A) : sw_F := sw_foii 8 (gX8_mark ln)
def ctX8_mark (ln : sw_A) : sw_C := [(149, 5, 9, fX8_put ln)]
abbrev wX8_mark (ln : sw_A) (Q : Option sw_V → sw_S → Prop) : Nat → Nat → sw_L → List sw_V → sw_S → Prop := sw_wp sw_rf ln (ctX8_mark ln) sX8_mark 1 8 tX8_mark Q
theorem hX8_mark (ln : sw_A) (k : Nat) (i t : Int32) (σ : sw_S) (h : (gX8_mark ln k i t σ).1) : ∃ fuel, wX8_mark ln (sw_end (gX8_mark ln k i t σ)) fuel 0 (sw_ent 3 [.inr (some (8, k)), .inl i, .inl t]) [] σ :=
  ⟨20, And.intro ⟨h.1, h.2, Or.inr rfl⟩ ⟨rfl, rfl⟩⟩
set_option maxRecDepth 100000 in
theorem mX8_mark {l : Launch} {ad : sw_A} {V : Nat → Nat → Prop} {ln : sw_A} {ca : Nat → ClassId} {D : va_G} (hG : sw_wf ad V sw_rf ln) : sw_met l ad V sw_rf ln ca D yX8_mark cX8_mark 3 (some .int) { frames := 3, cells := 0, slots := 0, locals := 67 } 3 (fX8_mark ln) := by
  refine sw_meth hG (by decide) (by refine ⟨?_, ?_, ?_, ?_⟩ <;> intro h <;> first | rfl | exact ⟨_, rfl⟩ | exact absurd h (by decide)) (by decide) kX8_mark flX8_in cnX8_in ?_ (sw_foii_h (W := fun Q L σ => ∃ fuel, wX8_mark ln Q fuel 0 L [] σ) (fun a0 a1 a2 σ h => hX8_mark ln a0 a1 a2 σ h))
  intro p e s m args below meth c S hT hnw
  refine List.forall_mem_cons.mpr ⟨sw_cokV S hT hnw (mX8_put hG) 149 8 (by decide) ⟨by decide +kernel, by decide +kernel, by decide +kernel, by decide +kernel, by decide +kernel⟩ ⟨rfl, by decide, by decide, by decide +kernel⟩ ⟨rfl, rfl⟩ ⟨by decide, by decide⟩, ?_⟩
  exact fun q h => absurd h List.not_mem_nil
def gX8_sumOf (ln : sw_A) (k : Nat) (e : Int32) (σ : sw_S) : sw_X := (mo ln ∧ 0 ≤ e ∧ e ≤ 19, some (.inl (sm (mi σ 38) e.toNatClampNeg)), σ)
def fX8_sumOf (ln : sw_A) : sw_F := sw_foi 8 (gX8_sumOf ln)
def ctX8_sumOf (ln : sw_A) : sw_C := []
abbrev wX8_sumOf (ln : sw_A) (Q : Option sw_V → sw_S → Prop) : Nat → Nat → sw_L → List sw_V → sw_S → Prop := sw_wp sw_rf ln (ctX8_sumOf ln) sX8_sumOf 1 71 tX8_sumOf Q
theorem hX8_sumOf_l (ln : sw_A) (k n : Nat) (σ : sw_S) (X : sw_X) (hm : mo ln) (hn : n ≤ 19) (hX : X.2 = (some (.inl (sm (mi σ 38) n)), σ)) : ∀ (d j : Nat), j + d = n → ∃ fuel, wX8_sumOf ln (sw_end X) fuel 7 [some (.inr (some (8, k))), some (.inl (nI n)), some (.inl (sm_ab (mi σ 38) j).1), some (.inl (sm_ab (mi σ 38) j).2), some (.inl (nI j))] [] σ := by
  intro d
  induction d with
  | zero =>
    intro j hj
    have hj : j = n := by omega
    subst hj
    refine ⟨20, And.intro (fun _ => ?_) (fun h => absurd (Int32.le_refl _) h)⟩
    show some _ = X.2.1 ∧ σ = X.2.2
    rw [hX]
    exact ⟨rfl, rfl⟩
  | succ d ih =>
    intro j hj
    have v := hm.i (j := 38) (n := 19) rfl (vp_in_nI (n := j) (by omega) (by omega))
    obtain ⟨f, hf⟩ := ih (j + 1) (by omega)
    rw [← nI_1] at hf
    refine ⟨f + 60, sw_ws_wp [7] f 60 _ _ _ _ ?_⟩
    refine And.intro (fun h => absurd h (nI_ge (by omega) (by omega))) (fun _ => And.intro v (And.intro (by decide) (And.intro (by decide) (And.intro v (And.intro (by decide) (And.intro (by decide) ?_))))))
    exact hf
theorem hX8_sumOf (ln : sw_A) (k : Nat) (e : Int32) (σ : sw_S) (h : (gX8_sumOf ln k e σ).1) : ∃ fuel, wX8_sumOf ln (sw_end (gX8_sumOf ln k e σ)) fuel 0 (sw_ent 5 [.inr (some (8, k)), .inl e]) [] σ := by
  obtain ⟨hm, h0, h1⟩ := h
  obtain ⟨n, hn, rfl⟩ := nI_of (Int32.not_lt.mpr h0)
  have hn2 : n ≤ 19 := (nI_leI hn (b := 19) (by decide)).mp h1
  obtain ⟨f, hf⟩ := hX8_sumOf_l ln k n σ (gX8_sumOf ln k (nI n) σ) hm hn2 (by
    show (some (Sum.inl (sm (mi σ 38) (nI n).toNatClampNeg)), σ) = _
    rw [nI_clamp hn]) n 0 (by omega)
  exact ⟨f + 10, sw_ws_wp [7] f 10 _ _ _ _ hf⟩
set_option maxRecDepth 100000 in
theorem mX8_sumOf {l : Launch} {ad : sw_A} {V : Nat → Nat → Prop} {ln : sw_A} {ca : Nat → ClassId} {D : va_G} (hG : sw_wf ad V sw_rf ln) : sw_met l ad V sw_rf ln ca D yX8_sumOf cX8_sumOf 5 (some .int) { frames := 0, cells := 0, slots := 0, locals := 0 } 2 (fX8_sumOf ln) := by
  refine sw_meth hG (by decide) (by refine ⟨?_, ?_, ?_, ?_⟩ <;> intro h <;> first | rfl | exact ⟨_, rfl⟩ | exact absurd h (by decide)) (by decide) kX8_sumOf flX8_in cnX8_in ?_ (sw_foi_h (W := fun Q L σ => ∃ fuel, wX8_sumOf ln Q fuel 0 L [] σ) (fun a0 a1 σ h => hX8_sumOf ln a0 a1 σ h))
  intro p e s m args below meth c S hT hnw
  exact fun q h => absurd h List.not_mem_nil
def mo_nu (i kd : Int32) (σ : sw_S) : Int32 := if kd = 0 then 0 else mi σ 28 i
def mo_hd (i kd t ct : Int32) (σ : sw_S) : Int32 := kd ||| t <<< (3 &&& 31) ||| mo_nu i kd σ <<< (8 &&& 31) ||| mi σ 29 i <<< (16 &&& 31) ||| ct <<< (24 &&& 31)
def mo_bf (k : Nat) (i kd t ct : Int32) (σ : sw_S) : sw_S := sw_up (mis σ 38 0 (mo_hd i kd t ct σ)) 8 k 39 1
def gX8_beginFrame (ln : sw_A) (k : Nat) (i kd t ct : Int32) (σ : sw_S) : sw_X := (mo ln ∧ vp_in i 2, none, mo_bf k i kd t ct σ)
def fX8_beginFrame (ln : sw_A) : sw_F := sw_foiiii 8 (gX8_beginFrame ln)
def ctX8_beginFrame (ln : sw_A) : sw_C := []
abbrev wX8_beginFrame (ln : sw_A) (Q : Option sw_V → sw_S → Prop) : Nat → Nat → sw_L → List sw_V → sw_S → Prop := sw_wp sw_rf ln (ctX8_beginFrame ln) sX8_beginFrame 0 54 tX8_beginFrame Q
theorem vp_0_19 : vp_in 0 19 := by
  rw [← nI_0]
  exact vp_in_nI (by decide) (by decide)
theorem hX8_beginFrame (ln : sw_A) (k : Nat) (i kd t ct : Int32) (σ : sw_S) (h : (gX8_beginFrame ln k i kd t ct σ).1) : ∃ fuel, wX8_beginFrame ln (sw_end (gX8_beginFrame ln k i kd t ct σ)) fuel 0 (sw_ent 6 [.inr (some (8, k)), .inl i, .inl kd, .inl t, .inl ct]) [] σ := by
  obtain ⟨hm, hi⟩ := h
  refine ⟨50, And.intro (fun (h1 : ¬ kd = 0) => And.intro (hm.i (j := 28) rfl hi) (And.intro (hm.i (j := 29) rfl hi) (And.intro (hm.i (j := 38) rfl vp_0_19) ⟨rfl, ?_⟩))) (fun (h1 : kd = 0) => And.intro (hm.i (j := 29) rfl hi) (And.intro (hm.i (j := 38) rfl vp_0_19) ⟨rfl, ?_⟩))⟩
  · show _ = mo_bf k i kd t ct σ
    unfold mo_bf mo_hd mo_nu
    rw [if_neg h1]
    rfl
  · show _ = mo_bf k i kd t ct σ
    unfold mo_bf mo_hd mo_nu
    rw [if_pos h1]
    rfl
set_option maxRecDepth 100000 in
theorem mX8_beginFrame {l : Launch} {ad : sw_A} {V : Nat → Nat → Prop} {ln : sw_A} {ca : Nat → ClassId} {D : va_G} (hG : sw_wf ad V sw_rf ln) : sw_met l ad V sw_rf ln ca D yX8_beginFrame cX8_beginFrame 6 none { frames := 0, cells := 0, slots := 0, locals := 0 } 5 (fX8_beginFrame ln) := by
  refine sw_meth hG (by decide) (by refine ⟨?_, ?_, ?_, ?_⟩ <;> intro h <;> first | rfl | exact ⟨_, rfl⟩ | exact absurd h (by decide)) (by decide) kX8_beginFrame flX8_in cnX8_in ?_ (sw_foiiii_h (W := fun Q L σ => ∃ fuel, wX8_beginFrame ln Q fuel 0 L [] σ) (fun a0 a1 a2 a3 a4 σ h => hX8_beginFrame ln a0 a1 a2 a3 a4 σ h))
  intro p e s m args below meth c S hT hnw
  exact fun q h => absurd h List.not_mem_nil
def mo_ad (k : Nat) (w : Int32) (σ : sw_S) : sw_S := sw_up (mis σ 38 (σ 8 k 39) w) 8 k 39 (mis σ 38 (σ 8 k 39) w 8 k 39 + 1)
def gX8_add (ln : sw_A) (k : Nat) (w : Int32) (σ : sw_S) : sw_X := (mo ln ∧ vp_in (σ 8 k 39) 19, none, mo_ad k w σ)
def fX8_add (ln : sw_A) : sw_F := sw_foi 8 (gX8_add ln)
def ctX8_add (ln : sw_A) : sw_C := []
abbrev wX8_add (ln : sw_A) (Q : Option sw_V → sw_S → Prop) : Nat → Nat → sw_L → List sw_V → sw_S → Prop := sw_wp sw_rf ln (ctX8_add ln) sX8_add 0 20 tX8_add Q
theorem hX8_add (ln : sw_A) (k : Nat) (w : Int32) (σ : sw_S) (h : (gX8_add ln k w σ).1) : ∃ fuel, wX8_add ln (sw_end (gX8_add ln k w σ)) fuel 0 (sw_ent 2 [.inr (some (8, k)), .inl w]) [] σ :=
  ⟨20, And.intro (h.1.i (j := 38) rfl h.2) ⟨rfl, rfl⟩⟩
set_option maxRecDepth 100000 in
theorem mX8_add {l : Launch} {ad : sw_A} {V : Nat → Nat → Prop} {ln : sw_A} {ca : Nat → ClassId} {D : va_G} (hG : sw_wf ad V sw_rf ln) : sw_met l ad V sw_rf ln ca D yX8_add cX8_add 2 none { frames := 0, cells := 0, slots := 0, locals := 0 } 2 (fX8_add ln) := by
  refine sw_meth hG (by decide) (by refine ⟨?_, ?_, ?_, ?_⟩ <;> intro h <;> first | rfl | exact ⟨_, rfl⟩ | exact absurd h (by decide)) (by decide) kX8_add flX8_in cnX8_in ?_ (sw_foi_h (W := fun Q L σ => ∃ fuel, wX8_add ln Q fuel 0 L [] σ) (fun a0 a1 σ h => hX8_add ln a0 a1 σ h))
  intro p e s m args below meth c S hT hnw
  exact fun q h => absurd h List.not_mem_nil
/-- the frame's words go to place q of the row a -/
def mo_cp (a : Nat) (q : Int32) : Nat → sw_S → sw_S
  | 0, σ => σ
  | n + 1, σ => mis (mo_cp a q n σ) a (19 * q + nI n) (mi (mo_cp a q n σ) 38 (nI n))
theorem mo_cp_k (a : Nat) (q : Int32) {c k' : Nat} (h : ¬ (c = 15 ∧ k' = a)) (j' : Nat) : ∀ (n : Nat) (σ : sw_S), mo_cp a q n σ c k' j' = σ c k' j'
  | 0, _ => rfl
  | n + 1, σ => (if_neg (fun z => h ⟨z.1, z.2.1⟩)).trans (mo_cp_k a q h j' n σ)
def mo_wk (i : Int32) (σ : sw_S) : Int32 := 20 * i + mi σ 25 i
def mo_w1 (k : Nat) (i : Int32) (σ : sw_S) : sw_S := mis σ 26 (mo_wk i σ) (σ 8 k 39)
def mo_w2 (i : Int32) (a : sw_S) : sw_S := mis a 25 i (mi a 25 i + 1)
def mo_w3 (i : Int32) (a : sw_S) : sw_S := mis a 33 i (mi a 33 i + 1)
def mo_wi (k : Nat) (i : Int32) (σ : sw_S) : sw_S := mbs (mo_w3 i (mo_w2 i (mo_cp 27 (mo_wk i σ) (σ 8 k 39).toNatClampNeg (mo_w1 k i σ)))) 32 i 0
def mo_wp (k : Nat) (i : Int32) (σ : sw_S) : Prop := vp_in i 2 ∧ vp_in (mo_wk i σ) 40 ∧ 0 ≤ σ 8 k 39 ∧ σ 8 k 39 ≤ 19 ∧ ∀ n, n < 19 → vp_in (19 * mo_wk i σ + nI n) 760
def gX8_ontoWire (ln : sw_A) (k : Nat) (i : Int32) (σ : sw_S) : sw_X := (mo ln ∧ mo_wp k i σ, none, mo_wi k i σ)
def fX8_ontoWire (ln : sw_A) : sw_F := sw_foi 8 (gX8_ontoWire ln)
def ctX8_ontoWire (ln : sw_A) : sw_C := []
abbrev wX8_ontoWire (ln : sw_A) (Q : Option sw_V → sw_S → Prop) : Nat → Nat → sw_L → List sw_V → sw_S → Prop := sw_wp sw_rf ln (ctX8_ontoWire ln) sX8_ontoWire 0 82 tX8_ontoWire Q
theorem hX8_ontoWire_l (ln : sw_A) (k n : Nat) (i q : Int32) (σ : sw_S) (X : sw_X) (hm : mo ln) (hi : vp_in i 2) (hn : n ≤ 19) (hz : σ 8 k 39 = nI n) (hb : ∀ n, n < 19 → vp_in (19 * q + nI n) 760) (hX : X.2 = (none, mbs (mo_w3 i (mo_w2 i (mo_cp 27 q n σ))) 32 i 0)) : ∀ (d j : Nat), j + d = n → ∃ fuel, wX8_ontoWire ln (sw_end X) fuel 24 [some (.inr (some (8, k))), some (.inl i), some (.inl q), some (.inl (nI j))] [] (mo_cp 27 q j σ) := by
  intro d
  induction d with
  | zero =>
    intro j hj
    have hj : j = n := by omega
    subst hj
    have hl : mo_cp 27 q j σ 8 k 39 = nI j := (mo_cp_k 27 q (fun z => absurd z.1 (by decide)) 39 j σ).trans hz
    refine ⟨40, And.intro (fun _ => And.intro (hm.i (j := 25) rfl hi) (And.intro (hm.i (j := 25) rfl hi) (And.intro (hm.i (j := 33) rfl hi) (And.intro (hm.i (j := 33) rfl hi) (And.intro (hm.z (j := 32) rfl hi) (And.intro (Or.inl rfl) ?_)))))) (fun (h : ¬ mo_cp 27 q j σ 8 k 39 ≤ nI j) => absurd (by rw [hl]; exact Int32.le_refl _) h)⟩
    show none = X.2.1 ∧ mbs (mo_w3 i (mo_w2 i (mo_cp 27 q j σ))) 32 i 0 = X.2.2
    rw [hX]
    exact ⟨rfl, rfl⟩
  | succ d ih =>
    intro j hj
    have hl : mo_cp 27 q j σ 8 k 39 = nI n := (mo_cp_k 27 q (fun z => absurd z.1 (by decide)) 39 j σ).trans hz
    have v1 := hm.i (j := 38) (n := 19) rfl (vp_in_nI (n := j) (by omega) (by omega))
    have v2 := hm.i (j := 27) rfl (hb j (by omega))
    obtain ⟨f, hf⟩ := ih (j + 1) (by omega)
    rw [← nI_1] at hf
    refine ⟨f + 40, sw_ws_wp [24] f 40 _ _ _ _ ?_⟩
    refine And.intro (fun (h : mo_cp 27 q j σ 8 k 39 ≤ nI j) => absurd (by rw [← hl]; exact h) (nI_ge (a := j) (b := n) (by omega) (by omega))) (fun _ => And.intro v1 (And.intro v2 ?_))
    exact hf
theorem hX8_ontoWire (ln : sw_A) (k : Nat) (i : Int32) (σ : sw_S) (h : (gX8_ontoWire ln k i σ).1) : ∃ fuel, wX8_ontoWire ln (sw_end (gX8_ontoWire ln k i σ)) fuel 0 (sw_ent 4 [.inr (some (8, k)), .inl i]) [] σ := by
  obtain ⟨hm, hi, hk, h0, h1, hb⟩ := h
  obtain ⟨n, hn, hz⟩ := nI_of (Int32.not_lt.mpr h0)
  rw [hz] at h1
  have hn2 : n ≤ 19 := (nI_leI hn (b := 19) (by decide)).mp h1
  obtain ⟨f, hf⟩ := hX8_ontoWire_l ln k n i (mo_wk i σ) (mo_w1 k i σ) (gX8_ontoWire ln k i σ) hm hi hn2 ((sw_upk _ (by decide)).trans hz) hb (by
    show (none, mo_wi k i σ) = _
    unfold mo_wi
    rw [hz, nI_clamp hn]) n 0 (by omega)
  refine ⟨f + 30, sw_ws_wp [24] f 30 _ _ _ _ ?_⟩
  exact And.intro (hm.i (j := 25) rfl hi) (And.intro (hm.i (j := 26) rfl hk) hf)
set_option maxRecDepth 100000 in
theorem mX8_ontoWire {l : Launch} {ad : sw_A} {V : Nat → Nat → Prop} {ln : sw_A} {ca : Nat → ClassId} {D : va_G} (hG : sw_wf ad V sw_rf ln) : sw_met l ad V sw_rf ln ca D yX8_ontoWire cX8_ontoWire 4 none { frames := 0, cells := 0, slots := 0, locals := 0 } 2 (fX8_ontoWire ln) := by
  refine sw_meth hG (by decide) (by refine ⟨?_, ?_, ?_, ?_⟩ <;> intro h <;> first | rfl | exact ⟨_, rfl⟩ | exact absurd h (by decide)) (by decide) kX8_ontoWire flX8_in cnX8_in ?_ (sw_foi_h (W := fun Q L σ => ∃ fuel, wX8_ontoWire ln Q fuel 0 L [] σ) (fun a0 a1 σ h => hX8_ontoWire ln a0 a1 σ h))
  intro p e s m args below meth c S hT hnw
  exact fun q h => absurd h List.not_mem_nil
end
section
/-! The reference: receive, finish, hasSome -/
def mo_rx (x : Int32) (n : Nat) : Int32 := 400 * x + nI n
def mo_ra (x : Int32) (n : Nat) (a : sw_S) : sw_S := mis a 20 (mo_rx x n) (mi a 20 (mo_rx x n + 1))
def mo_rl (x : Int32) : Nat → sw_S → sw_S
  | 0, σ => σ
  | n + 1, σ => mbs (mo_ra x n (mo_rl x n σ)) 21 (mo_rx x n) (mb (mo_ra x n (mo_rl x n σ)) 21 (mo_rx x n + 1))
theorem mo_rl_k (x : Int32) {c k' : Nat} (h : ¬ (c = 15 ∧ k' = 20)) (h2 : ¬ (c = 16 ∧ k' = 21)) (j' : Nat) : ∀ (n : Nat) (σ : sw_S), mo_rl x n σ c k' j' = σ c k' j'
  | 0, _ => rfl
  | n + 1, σ => (if_neg (fun z => h2 ⟨z.1, z.2.1⟩)).trans ((if_neg (fun z => h ⟨z.1, z.2.1⟩)).trans (mo_rl_k x h h2 j' n σ))
theorem mo_rl_b (x : Int32) : ∀ (n : Nat) (σ : sw_S), (∀ y, sw_bo (σ 16 21 y)) → ∀ y, sw_bo (mo_rl x n σ 16 21 y)
  | 0, _, h, y => h y
  | n + 1, σ, h, y => by
    have ih := mo_rl_b x n σ h
    have hr : ∀ z, mo_ra x n (mo_rl x n σ) 16 21 z = mo_rl x n σ 16 21 z := fun z => sw_upk _ (by decide)
    show sw_bo (sw_up (mo_ra x n (mo_rl x n σ)) 16 21 _ _ 16 21 y)
    unfold sw_up
    split
    · show sw_bo (mo_ra x n (mo_rl x n σ) 16 21 _)
      rw [hr]
      exact ih _
    · show sw_bo (mo_ra x n (mo_rl x n σ) 16 21 _)
      rw [hr]
      exact ih y
def mo_r1 (x : Int32) (σ : sw_S) : sw_S := mis σ 19 x (mi σ 19 x - 1)
def mo_r3 (x : Int32) (a : sw_S) : sw_S := mis a 9 x (mi a 9 x + 1)
def mo_r4 (x m : Int32) (a : sw_S) : sw_S := mis a 14 x (mi a 14 x + (if m = 0 then 1 else 0))
def mo_r5 (x m : Int32) (a : sw_S) : sw_S := mis a 15 x (mi a 15 x + (if m = 0 then 0 else 1))
def mo_r6 (i m w : Int32) (a : sw_S) : sw_S := mis a 37 i (if m = 0 then w else mi a 37 i)
def mo_rz (i x m w : Int32) (a : sw_S) : sw_S := mo_r6 i m w (mo_r5 x m (mo_r4 x m (mo_r3 x a)))
def mo_rs (i x : Int32) (σ : sw_S) : sw_S := mo_rz i x (mb σ 21 (400 * x)) (mi σ 20 (400 * x)) (mo_rl x (mi σ 19 x - 1).toNatClampNeg (mo_r1 x σ))
def mo_re (k : Nat) (i t : Int32) (σ : sw_S) : wi_P := if mo_st k i t σ = 0 then (-1, σ) else if mi σ 6 (mo_ix i t) = 0 then (0, σ) else if mi σ 19 (mo_ix i t) = 0 then (if mb σ 7 (mo_ix i t) = 0 then (3, σ) else (4, σ)) else (if mb σ 21 (400 * mo_ix i t) = 0 then 1 else 2, mo_rs i (mo_ix i t) σ)
def mo_rp (x : Int32) (σ : sw_S) : Prop := vp_in (400 * x) 6400 ∧ 0 ≤ mi σ 19 x - 1 ∧ ∀ n, n < (mi σ 19 x - 1).toNatClampNeg → vp_in (mo_rx x n) 6400 ∧ vp_in (mo_rx x n + 1) 6400
def gX8_receive (ln : sw_A) (k : Nat) (i t : Int32) (σ : sw_S) : sw_X := (mo ln ∧ (∀ y, sw_bo (σ 16 21 y)) ∧ mo_pt k i t σ ∧ (¬ mo_st k i t σ = 0 → ¬ mi σ 19 (mo_ix i t) = 0 → mo_rp (mo_ix i t) σ), some (.inl (mo_re k i t σ).1), (mo_re k i t σ).2)
def fX8_receive (ln : sw_A) : sw_F := sw_foii 8 (gX8_receive ln)
def ctX8_receive (ln : sw_A) : sw_C := [(137, 3, 9, fX8_isStream ln)]
abbrev wX8_receive (ln : sw_A) (Q : Option sw_V → sw_S → Prop) : Nat → Nat → sw_L → List sw_V → sw_S → Prop := sw_wp sw_rf ln (ctX8_receive ln) sX8_receive 1 243 tX8_receive Q
theorem hX8_receive_l (ln : sw_A) (k n : Nat) (i t x m w : Int32) (σ : sw_S) (X : sw_X) (hm : mo ln) (hi : vp_in i 2) (hx : vp_in x 16) (hn : n < 2 ^ 31) (hz : mi σ 19 x = nI n) (hbo : ∀ y, sw_bo (σ 16 21 y)) (hb : ∀ j, j < n → vp_in (mo_rx x j) 6400 ∧ vp_in (mo_rx x j + 1) 6400) (hX : X.2 = (some (.inl (if m = 0 then 1 else 2)), mo_rz i x m w (mo_rl x n σ))) : ∀ (d j : Nat), j + d = n → ∃ fuel, wX8_receive ln (sw_end X) fuel 90 [some (.inr (some (8, k))), some (.inl i), some (.inl t), some (.inl x), some (.inl m), some (.inl w), some (.inl (nI j))] [] (mo_rl x j σ) := by
  intro d
  induction d with
  | zero =>
    intro j hj
    have hj : j = n := by omega
    subst hj
    have hl : mi (mo_rl x j σ) 19 x = nI j := (mo_rl_k x (by decide) (by decide) _ j σ).trans hz
    have v19 := hm.i (j := 19) rfl hx
    have v9 := hm.i (j := 9) rfl hx
    have v14 := hm.i (j := 14) rfl hx
    have v15 := hm.i (j := 15) rfl hx
    have v37 := hm.i (j := 37) rfl hi
    refine ⟨80, And.intro v19 (And.intro (fun _ => And.intro v9 (And.intro v9 (And.intro v14 ?_))) (fun (h : ¬ mi (mo_rl x j σ) 19 x ≤ nI j) => absurd (by rw [hl]; exact Int32.le_refl _) h))⟩
    by_cases h0 : m = 0
    · refine And.intro (fun _ => And.intro v14 (And.intro v15 (And.intro (fun _ => And.intro v15 (And.intro (fun _ => And.intro v37 (And.intro (fun _ => ?_) (fun z => absurd h0 z))) (fun z => absurd h0 z))) (fun z => absurd h0 z)))) (fun z => absurd h0 z)
      show some (Sum.inl 1) = X.2.1 ∧ _ = X.2.2
      rw [hX, if_pos h0]
      refine ⟨rfl, ?_⟩
      unfold mo_rz mo_r6 mo_r5 mo_r4
      rw [if_pos h0, if_pos h0, if_pos h0]
      rfl
    · refine And.intro (fun z => absurd z h0) (fun _ => And.intro v14 (And.intro v15 (And.intro (fun z => absurd z h0) (fun _ => And.intro v15 (And.intro (fun z => absurd z h0) (fun _ => And.intro v37 (And.intro v37 (And.intro (fun z => absurd z h0) (fun _ => ?_)))))))))
      show some (Sum.inl 2) = X.2.1 ∧ _ = X.2.2
      rw [hX, if_neg h0]
      refine ⟨rfl, ?_⟩
      unfold mo_rz mo_r6 mo_r5 mo_r4
      rw [if_neg h0, if_neg h0, if_neg h0]
      rfl
  | succ d ih =>
    intro j hj
    have hl : mi (mo_rl x j σ) 19 x = nI n := (mo_rl_k x (by decide) (by decide) _ j σ).trans hz
    have hbj := hb j (by omega)
    have v19 := hm.i (j := 19) rfl hx
    have v1 := hm.i (j := 20) rfl hbj.1
    have v2 := hm.i (j := 20) rfl hbj.2
    have v3 := hm.z (j := 21) rfl hbj.1
    have v4 := hm.z (j := 21) rfl hbj.2
    have hbb : sw_bo (mb (mo_ra x j (mo_rl x j σ)) 21 (mo_rx x j + 1)) := by
      rw [show mb (mo_ra x j (mo_rl x j σ)) 21 (mo_rx x j + 1) = mb (mo_rl x j σ) 21 (mo_rx x j + 1) from sw_upk _ (by decide)]
      exact mo_rl_b x j σ hbo _
    obtain ⟨f, hf⟩ := ih (j + 1) (by omega)
    rw [← nI_1] at hf
    refine ⟨f + 80, sw_ws_wp [90] f 80 _ _ _ _ ?_⟩
    refine And.intro v19 (And.intro (fun (h : mi (mo_rl x j σ) 19 x ≤ nI j) => absurd (by rw [← hl]; exact h) (nI_ge (a := j) (b := n) (by omega) hn)) (fun _ => And.intro v2 (And.intro v1 (And.intro v4 (And.intro v3 (And.intro hbb ?_))))))
    exact hf
theorem hX8_receive (ln : sw_A) (k : Nat) (i t : Int32) (σ : sw_S) (h : (gX8_receive ln k i t σ).1) : ∃ fuel, wX8_receive ln (sw_end (gX8_receive ln k i t σ)) fuel 0 (sw_ent 7 [.inr (some (8, k)), .inl i, .inl t]) [] σ := by
  obtain ⟨hm, hbo, hp, hr⟩ := h
  by_cases h1 : mo_st k i t σ = 0
  · exact ⟨20, And.intro trivial (And.intro (fun z => absurd h1 z) (fun _ => sw_pe (if_pos h1)))⟩
  · obtain ⟨hx, hi⟩ := hp h1
    have v6 := hm.i (j := 6) rfl hx
    have v19 := hm.i (j := 19) rfl hx
    by_cases h2 : mi σ 6 (mo_ix i t) = 0
    · exact ⟨30, And.intro trivial (And.intro (fun _ => And.intro v6 (And.intro (fun z => absurd h2 z) (fun _ => sw_pe ((if_neg h1).trans (if_pos h2))))) (fun z => absurd z h1))⟩
    · by_cases h3 : mi σ 19 (mo_ix i t) = 0
      · exact ⟨40, And.intro trivial (And.intro (fun _ => And.intro v6 (And.intro (fun _ => And.intro v19 (And.intro (fun z => absurd h3 z) (fun _ => And.intro (hm.z (j := 7) rfl hx) (And.intro (fun (h4 : mb σ 7 (mo_ix i t) = 0) => sw_pe ((if_neg h1).trans ((if_neg h2).trans ((if_pos h3).trans (if_pos h4))))) (fun (h4 : ¬ mb σ 7 (mo_ix i t) = 0) => sw_pe ((if_neg h1).trans ((if_neg h2).trans ((if_pos h3).trans (if_neg h4))))))))) (fun z => absurd z h2))) (fun z => absurd z h1))⟩
      · obtain ⟨r1, r2, r3⟩ := hr h1 h3
        obtain ⟨n, hn, hz⟩ := nI_of (Int32.not_lt.mpr r2)
        rw [hz, nI_clamp hn] at r3
        obtain ⟨f, hf⟩ := hX8_receive_l ln k n i t (mo_ix i t) (mb σ 21 (400 * mo_ix i t)) (mi σ 20 (400 * mo_ix i t)) (mo_r1 (mo_ix i t) σ) (gX8_receive ln k i t σ) hm hi hx hn ((sw_upe _ _ _ _ _).trans hz) (fun y => by
          rw [show mo_r1 (mo_ix i t) σ 16 21 y = σ 16 21 y from sw_upk _ (by decide)]
          exact hbo y) r3 (by
          show (some (Sum.inl (mo_re k i t σ).1), (mo_re k i t σ).2) = _
          unfold mo_re
          rw [if_neg h1, if_neg h2, if_neg h3]
          unfold mo_rs
          rw [hz, nI_clamp hn]) n 0 (by omega)
        refine ⟨f + 60, sw_ws_wp [90] f 60 _ _ _ _ ?_⟩
        exact And.intro trivial (And.intro (fun _ => And.intro v6 (And.intro (fun _ => And.intro v19 (And.intro (fun _ => And.intro (hm.z (j := 21) rfl r1) (And.intro (hm.i (j := 20) rfl r1) (And.intro v19 (And.intro v19 hf)))) (fun z => absurd z h3))) (fun z => absurd z h2))) (fun z => absurd z h1))
set_option maxRecDepth 100000 in
theorem mX8_receive {l : Launch} {ad : sw_A} {V : Nat → Nat → Prop} {ln : sw_A} {ca : Nat → ClassId} {D : va_G} (hG : sw_wf ad V sw_rf ln) : sw_met l ad V sw_rf ln ca D yX8_receive cX8_receive 7 (some .int) { frames := 2, cells := 0, slots := 0, locals := 42 } 3 (fX8_receive ln) := by
  refine sw_meth hG (by decide) (by refine ⟨?_, ?_, ?_, ?_⟩ <;> intro h <;> first | rfl | exact ⟨_, rfl⟩ | exact absurd h (by decide)) (by decide) kX8_receive flX8_in cnX8_in ?_ (sw_foii_h (W := fun Q L σ => ∃ fuel, wX8_receive ln Q fuel 0 L [] σ) (fun a0 a1 a2 σ h => hX8_receive ln a0 a1 a2 σ h))
  intro p e s m args below meth c S hT hnw
  refine List.forall_mem_cons.mpr ⟨sw_cokV S hT hnw (mX8_isStream hG) 137 8 (by decide) ⟨by decide +kernel, by decide +kernel, by decide +kernel, by decide +kernel, by decide +kernel⟩ ⟨rfl, by decide, by decide, by decide +kernel⟩ ⟨rfl, rfl⟩ ⟨by decide, by decide⟩, ?_⟩
  exact fun q h => absurd h List.not_mem_nil
def mo_h2 (x : Int32) (σ : sw_S) : Int32 := if mi σ 16 x = 0 then (if mb σ 12 x = 0 then 0 else 1) else 0
def mo_hs (x : Int32) (σ : sw_S) : Int32 := if mb σ 11 x = 0 then (if mi σ 16 x ≤ 0 then mo_h2 x σ else if 0 < mi σ 8 x then 1 else mo_h2 x σ) else 1
def gX8_hasSome (ln : sw_A) (k : Nat) (i t : Int32) (σ : sw_S) : sw_X := (mo ln ∧ vp_in (mo_ix i t) 16, some (.inl (mo_hs (mo_ix i t) σ)), σ)
def fX8_hasSome (ln : sw_A) : sw_F := sw_foii 8 (gX8_hasSome ln)
def ctX8_hasSome (ln : sw_A) : sw_C := []
abbrev wX8_hasSome (ln : sw_A) (Q : Option sw_V → sw_S → Prop) : Nat → Nat → sw_L → List sw_V → sw_S → Prop := sw_wp sw_rf ln (ctX8_hasSome ln) sX8_hasSome 2 57 tX8_hasSome Q
theorem hX8_hasSome (ln : sw_A) (k : Nat) (i t : Int32) (σ : sw_S) (h : (gX8_hasSome ln k i t σ).1) : ∃ fuel, wX8_hasSome ln (sw_end (gX8_hasSome ln k i t σ)) fuel 0 (sw_ent 4 [.inr (some (8, k)), .inl i, .inl t]) [] σ := by
  obtain ⟨hm, hx⟩ := h
  have v11 := hm.z (j := 11) rfl hx
  have v12 := hm.z (j := 12) rfl hx
  have v16 := hm.i (j := 16) rfl hx
  have v8 := hm.i (j := 8) rfl hx
  have key : ∃ M, mo_hs (mo_ix i t) σ = mo_h2 (mo_ix i t) σ → wX8_hasSome ln (sw_end (gX8_hasSome ln k i t σ)) M 34 [some (.inr (some (8, k))), some (.inl i), some (.inl t), some (.inl (mo_ix i t))] [] σ := by
    refine ⟨30, fun hh => ?_⟩
    refine And.intro v16 (And.intro (fun (a1 : ¬ mi σ 16 (mo_ix i t) = 0) => ⟨Or.inl rfl, sw_ri ?_, rfl⟩) (fun (a1 : mi σ 16 (mo_ix i t) = 0) => And.intro v12 (And.intro (fun (a2 : mb σ 12 (mo_ix i t) = 0) => ⟨Or.inl rfl, sw_ri ?_, rfl⟩) (fun (a2 : ¬ mb σ 12 (mo_ix i t) = 0) => ⟨Or.inr rfl, sw_ri ?_, rfl⟩))))
    · rw [hh]; exact (if_neg a1).symm
    · rw [hh]; exact ((if_pos a1).trans (if_pos a2)).symm
    · rw [hh]; exact ((if_pos a1).trans (if_neg a2)).symm
  obtain ⟨M, key⟩ := key
  refine ⟨M + 30, sw_ws_wp [34] M 30 _ _ _ _ ?_⟩
  exact And.intro v11 (And.intro (fun (a1 : ¬ mb σ 11 (mo_ix i t) = 0) => ⟨Or.inr rfl, sw_ri (if_neg a1).symm, rfl⟩) (fun (a1 : mb σ 11 (mo_ix i t) = 0) => And.intro v16 (And.intro (fun (a2 : mi σ 16 (mo_ix i t) ≤ 0) => key ((if_pos a1).trans (if_pos a2))) (fun (a2 : ¬ mi σ 16 (mo_ix i t) ≤ 0) => And.intro v8 (And.intro (fun (a3 : 0 < mi σ 8 (mo_ix i t)) => ⟨Or.inr rfl, sw_ri ((if_pos a1).trans ((if_neg a2).trans (if_pos a3))).symm, rfl⟩) (fun (a3 : ¬ 0 < mi σ 8 (mo_ix i t)) => key ((if_pos a1).trans ((if_neg a2).trans (if_neg a3)))))))))
set_option maxRecDepth 100000 in
theorem mX8_hasSome {l : Launch} {ad : sw_A} {V : Nat → Nat → Prop} {ln : sw_A} {ca : Nat → ClassId} {D : va_G} (hG : sw_wf ad V sw_rf ln) : sw_met l ad V sw_rf ln ca D yX8_hasSome cX8_hasSome 4 (some .boolean) { frames := 0, cells := 0, slots := 0, locals := 0 } 3 (fX8_hasSome ln) := by
  refine sw_meth hG (by decide) (by refine ⟨?_, ?_, ?_, ?_⟩ <;> intro h <;> first | rfl | exact ⟨_, rfl⟩ | exact absurd h (by decide)) (by decide) kX8_hasSome flX8_in cnX8_in ?_ (sw_foii_h (W := fun Q L σ => ∃ fuel, wX8_hasSome ln Q fuel 0 L [] σ) (fun a0 a1 a2 σ h => hX8_hasSome ln a0 a1 a2 σ h))
  intro p e s m args below meth c S hT hnw
  exact fun q h => absurd h List.not_mem_nil
end
section
/-! The reference: finish, sendOf -/
def mo_fq (i : Int32) (a : sw_S) : Int32 := 15 * i + mi a 22 i
def mo_f3 (k : Nat) (i : Int32) (a : sw_S) : sw_S := mo_cp 24 (mo_fq i a) (a 8 k 39).toNatClampNeg (mis a 23 (mo_fq i a) (a 8 k 39))
def mo_f4 (i : Int32) (b : sw_S) : sw_S := mis b 22 i (mi b 22 i + 1)
def mo_f5 (k : Nat) (i : Int32) (c : sw_S) : sw_S := mis c 28 i (sw_rem (mi c 28 i + 1) (c 8 k 2 + 1))
def mo_fa (k : Nat) (i : Int32) (a : sw_S) : sw_S := if mi a 38 0 &&& 7 = 0 then a else mo_f5 k i (mo_f4 i (mo_f3 k i a))
def mo_fs (k : Nat) (σ : sw_S) : sw_S := mo_ad k (sm (mi σ 38) (σ 8 k 39).toNatClampNeg) σ
def mo_fi (k : Nat) (i : Int32) (σ : sw_S) : sw_S := mo_wi k i (mo_fa k i (mo_fs k σ))
def mo_fc (k : Nat) (i : Int32) (a : sw_S) : Prop := (¬ mi a 38 0 &&& 7 = 0 → vp_in (mo_fq i a) 30 ∧ (∀ n, n < 19 → vp_in (19 * mo_fq i a + nI n) 570) ∧ ¬ a 8 k 2 + 1 = 0 ∧ 0 ≤ a 8 k 39 ∧ a 8 k 39 ≤ 19) ∧ mo_wp k i (mo_fa k i a)
def gX8_finish (ln : sw_A) (k : Nat) (i : Int32) (σ : sw_S) : sw_X := (mo ln ∧ vp_in i 2 ∧ 0 ≤ σ 8 k 39 ∧ σ 8 k 39 ≤ 18 ∧ mo_fc k i (mo_fs k σ), none, mo_fi k i σ)
def fX8_finish (ln : sw_A) : sw_F := sw_foi 8 (gX8_finish ln)
def ctX8_finish (ln : sw_A) : sw_C := [(157, 2, 9, fX8_sumOf ln), (160, 2, 9, fX8_add ln), (163, 2, 9, fX8_ontoWire ln)]
abbrev wX8_finish (ln : sw_A) (Q : Option sw_V → sw_S → Prop) : Nat → Nat → sw_L → List sw_V → sw_S → Prop := sw_wp sw_rf ln (ctX8_finish ln) sX8_finish 0 115 tX8_finish Q
theorem hX8_finish_l (ln : sw_A) (k n : Nat) (i q : Int32) (σ : sw_S) (X : sw_X) (hm : mo ln) (hn : n ≤ 19) (hz : σ 8 k 39 = nI n) (hb : ∀ n, n < 19 → vp_in (19 * q + nI n) 570) (M : Nat) (hM : wX8_finish ln (sw_end X) M 79 [some (.inr (some (8, k))), some (.inl i), some (.inl q), some (.inl (nI n))] [] (mo_cp 24 q n σ)) : ∀ (d j : Nat), j + d = n → ∃ fuel, wX8_finish ln (sw_end X) fuel 48 [some (.inr (some (8, k))), some (.inl i), some (.inl q), some (.inl (nI j))] [] (mo_cp 24 q j σ) := by
  intro d
  induction d with
  | zero =>
    intro j hj
    have hj : j = n := by omega
    subst hj
    have hl : mo_cp 24 q j σ 8 k 39 = nI j := (mo_cp_k 24 q (fun z => absurd z.1 (by decide)) 39 j σ).trans hz
    refine ⟨M + 20, sw_ws_wp [79] M 20 _ _ _ _ ?_⟩
    exact And.intro (fun _ => hM) (fun (h : ¬ mo_cp 24 q j σ 8 k 39 ≤ nI j) => absurd (by rw [hl]; exact Int32.le_refl _) h)
  | succ d ih =>
    intro j hj
    have hl : mo_cp 24 q j σ 8 k 39 = nI n := (mo_cp_k 24 q (fun z => absurd z.1 (by decide)) 39 j σ).trans hz
    have v1 := hm.i (j := 38) (n := 19) rfl (vp_in_nI (n := j) (by omega) (by omega))
    have v2 := hm.i (j := 24) rfl (hb j (by omega))
    obtain ⟨f, hf⟩ := ih (j + 1) (by omega)
    rw [← nI_1] at hf
    refine ⟨f + 40, sw_ws_wp [48] f 40 _ _ _ _ ?_⟩
    refine And.intro (fun (h : mo_cp 24 q j σ 8 k 39 ≤ nI j) => absurd (by rw [← hl]; exact h) (nI_ge (a := j) (b := n) (by omega) (by omega))) (fun _ => And.intro v1 (And.intro v2 ?_))
    exact hf
theorem vp_in_le18 {x : Int32} (h0 : 0 ≤ x) (h1 : x ≤ 18) : vp_in x 19 := by
  obtain ⟨n, hn, rfl⟩ := nI_of (Int32.not_lt.mpr h0)
  have := (nI_leI hn (b := 18) (by decide)).mp h1
  exact vp_in_nI (by omega) (by decide)
theorem hX8_finish (ln : sw_A) (k : Nat) (i : Int32) (σ : sw_S) (h : (gX8_finish ln k i σ).1) : ∃ fuel, wX8_finish ln (sw_end (gX8_finish ln k i σ)) fuel 0 (sw_ent 4 [.inr (some (8, k)), .inl i]) [] σ := by
  obtain ⟨hm, hi, h0, h1, hc, hw⟩ := h
  obtain ⟨a, ha⟩ : ∃ a, a = mo_fs k σ := ⟨_, rfl⟩
  rw [← ha] at hc hw
  have hsum : (gX8_sumOf ln k (σ 8 k 39) σ).1 := ⟨hm, h0, Int32.le_trans h1 (by decide)⟩
  have hadd : (gX8_add ln k (sm (mi σ 38) (σ 8 k 39).toNatClampNeg) σ).1 := ⟨hm, vp_in_le18 h0 h1⟩
  have k110 : ∃ M, ∀ b x2 x3, b = mo_fa k i a → wX8_finish ln (sw_end (gX8_finish ln k i σ)) M 110 [some (.inr (some (8, k))), some (.inl i), x2, x3] [] b := by
    refine ⟨10, fun b x2 x3 hb => ?_⟩
    subst hb
    refine And.intro ⟨hm, hw⟩ ⟨rfl, ?_⟩
    show mo_wi k i (mo_fa k i a) = mo_fi k i σ
    rw [ha]
    rfl
  obtain ⟨M, k110⟩ := k110
  have k12 : ∃ M, ∀ b, b = a → wX8_finish ln (sw_end (gX8_finish ln k i σ)) M 12 [some (.inr (some (8, k))), some (.inl i), none, none] [] b := by
    by_cases h2 : mi a 38 0 &&& 7 = 0
    · refine ⟨M + 20, fun b hb => sw_ws_wp [110] M 20 _ _ _ _ ?_⟩
      subst hb
      exact And.intro (hm.i (j := 38) rfl vp_0_19) (And.intro (fun _ => k110 _ _ _ (if_pos h2).symm) (fun z => absurd h2 z))
    · obtain ⟨c1, c2, c3, c4, c5⟩ := hc h2
      obtain ⟨n, hn, hz⟩ := nI_of (Int32.not_lt.mpr c4)
      rw [hz] at c5
      have hn2 : n ≤ 19 := (nI_leI hn (b := 19) (by decide)).mp c5
      have e3 : mo_f3 k i a = mo_cp 24 (mo_fq i a) n (mis a 23 (mo_fq i a) (a 8 k 39)) := by
        unfold mo_f3
        rw [hz, nI_clamp hn]
      have hwin : ¬ (mo_f4 i (mo_f3 k i a)) 8 k 2 + 1 = 0 := by
        rw [show (mo_f4 i (mo_f3 k i a)) 8 k 2 = mo_f3 k i a 8 k 2 from sw_upk _ (by decide), e3, mo_cp_k 24 _ (fun z => absurd z.1 (by decide)), show mis a 23 (mo_fq i a) (a 8 k 39) 8 k 2 = a 8 k 2 from sw_upk _ (by decide)]
        exact c3
      have k79 : ∃ M2, ∀ b, b = mo_f3 k i a → wX8_finish ln (sw_end (gX8_finish ln k i σ)) M2 79 [some (.inr (some (8, k))), some (.inl i), some (.inl (mo_fq i a)), some (.inl (nI n))] [] b := by
        refine ⟨M + 40, fun b hb => sw_ws_wp [110] M 40 _ _ _ _ ?_⟩
        subst hb
        exact And.intro (hm.i (j := 22) rfl hi) (And.intro (hm.i (j := 22) rfl hi) (And.intro (hm.i (j := 28) rfl hi) (And.intro hwin (And.intro (hm.i (j := 28) rfl hi) (k110 _ _ _ (if_neg h2).symm)))))
      obtain ⟨M2, k79⟩ := k79
      obtain ⟨f, hf⟩ := hX8_finish_l ln k n i (mo_fq i a) (mis a 23 (mo_fq i a) (a 8 k 39)) (gX8_finish ln k i σ) hm hn2 ((sw_upk _ (by decide)).trans hz) c2 M2 (k79 _ e3.symm) n 0 (by omega)
      refine ⟨f + 40, fun b hb => sw_ws_wp [48] f 40 _ _ _ _ ?_⟩
      subst hb
      exact And.intro (hm.i (j := 38) rfl vp_0_19) (And.intro (fun z => absurd z h2) (fun _ => And.intro (hm.i (j := 22) rfl hi) (And.intro (hm.i (j := 23) rfl c1) hf)))
  obtain ⟨M3, k12⟩ := k12
  refine ⟨M3 + 20, sw_ws_wp [12] M3 20 _ _ _ _ ?_⟩
  exact And.intro hsum (And.intro hadd (k12 _ ha.symm))
set_option maxRecDepth 100000 in
theorem mX8_finish {l : Launch} {ad : sw_A} {V : Nat → Nat → Prop} {ln : sw_A} {ca : Nat → ClassId} {D : va_G} (hG : sw_wf ad V sw_rf ln) : sw_met l ad V sw_rf ln ca D yX8_finish cX8_finish 4 none { frames := 1, cells := 0, slots := 0, locals := 24 } 2 (fX8_finish ln) := by
  refine sw_meth hG (by decide) (by refine ⟨?_, ?_, ?_, ?_⟩ <;> intro h <;> first | rfl | exact ⟨_, rfl⟩ | exact absurd h (by decide)) (by decide) kX8_finish flX8_in cnX8_in ?_ (sw_foi_h (W := fun Q L σ => ∃ fuel, wX8_finish ln Q fuel 0 L [] σ) (fun a0 a1 σ h => hX8_finish ln a0 a1 σ h))
  intro p e s m args below meth c S hT hnw
  refine List.forall_mem_cons.mpr ⟨sw_cokV S hT hnw (mX8_sumOf hG) 157 8 (by decide) ⟨by decide +kernel, by decide +kernel, by decide +kernel, by decide +kernel, by decide +kernel⟩ ⟨rfl, by decide, by decide, by decide +kernel⟩ ⟨rfl, rfl⟩ ⟨by decide, by decide⟩, ?_⟩
  refine List.forall_mem_cons.mpr ⟨sw_cokV S hT hnw (mX8_add hG) 160 8 (by decide) ⟨by decide +kernel, by decide +kernel, by decide +kernel, by decide +kernel, by decide +kernel⟩ ⟨rfl, by decide, by decide, by decide +kernel⟩ ⟨rfl, rfl⟩ ⟨by decide, by decide⟩, ?_⟩
  refine List.forall_mem_cons.mpr ⟨sw_cokV S hT hnw (mX8_ontoWire hG) 163 8 (by decide) ⟨by decide +kernel, by decide +kernel, by decide +kernel, by decide +kernel, by decide +kernel⟩ ⟨rfl, by decide, by decide, by decide +kernel⟩ ⟨rfl, rfl⟩ ⟨by decide, by decide⟩, ?_⟩
  exact fun q h => absurd h List.not_mem_nil
def mo_q1 (x : Int32) (σ : sw_S) : Int32 := if mi σ 8 x ≤ mi σ 16 x then mi σ 8 x else mi σ 16 x
def mo_qn (k : Nat) (x : Int32) (σ : sw_S) : Int32 := if σ 8 k 1 ≤ mo_q1 x σ then σ 8 k 1 else mo_q1 x σ
def mo_bi (x : Int32) (s : sw_S) : Nat → Int32
  | 0 => 0
  | j + 1 => if mb s 18 (mo_rx x j) = 0 then mo_bi x s j ||| 0 else mo_bi x s j ||| (1 : Int32) <<< (nI j &&& 31)
def mo_aw (k : Nat) (x : Int32) : Nat → sw_S → sw_S
  | 0, σ => σ
  | j + 1, σ => mo_ad k (mi (mo_aw k x j σ) 17 (mo_rx x j)) (mo_aw k x j σ)
def mo_s3 (x c : Int32) (a : sw_S) : sw_S := mis a 16 x (mi a 16 x - c)
def mo_sa (x c : Int32) (n : Nat) (a : sw_S) : sw_S := mis a 17 (mo_rx x n) (mi a 17 (mo_rx x n + c))
def mo_sh (x c : Int32) : Nat → sw_S → sw_S
  | 0, σ => σ
  | n + 1, σ => mbs (mo_sa x c n (mo_sh x c n σ)) 18 (mo_rx x n) (mb (mo_sa x c n (mo_sh x c n σ)) 18 (mo_rx x n + c))
def mo_s4 (x c : Int32) (a : sw_S) : sw_S := mis a 8 x (mi a 8 x - c)
theorem mo_ad_k (k : Nat) (w : Int32) (σ : sw_S) {c k' : Nat} (h : ¬ (c = 15 ∧ k' = 38)) (h8 : ¬ c = 8) (j' : Nat) : mo_ad k w σ c k' j' = σ c k' j' := (sw_upk _ h8).trans (if_neg (fun z => h ⟨z.1, z.2.1⟩))
theorem mo_ad_s (k : Nat) (w : Int32) (σ : sw_S) : mo_ad k w σ 8 k 39 = σ 8 k 39 + 1 := (sw_upe _ _ _ _ _).trans (congrArg (· + 1) (sw_upk _ (by decide)))
theorem mo_aw_k (k : Nat) (x : Int32) {c k' : Nat} (h : ¬ (c = 15 ∧ k' = 38)) (h8 : ¬ c = 8) (j' : Nat) : ∀ (n : Nat) (σ : sw_S), mo_aw k x n σ c k' j' = σ c k' j'
  | 0, _ => rfl
  | n + 1, σ => (mo_ad_k k _ _ h h8 j').trans (mo_aw_k k x h h8 j' n σ)
theorem mo_aw_s (k : Nat) (x : Int32) : ∀ (n m : Nat) (σ : sw_S), σ 8 k 39 = nI m → mo_aw k x n σ 8 k 39 = nI (m + n)
  | 0, _, _, h => h
  | n + 1, m, σ, h => by
    show mo_ad k _ (mo_aw k x n σ) 8 k 39 = _
    rw [mo_ad_s, mo_aw_s k x n m σ h, nI_1]
    rfl
theorem mo_sh_k (x c' : Int32) {c k' : Nat} (h : ¬ (c = 15 ∧ k' = 17)) (h2 : ¬ (c = 16 ∧ k' = 18)) (j' : Nat) : ∀ (n : Nat) (σ : sw_S), mo_sh x c' n σ c k' j' = σ c k' j'
  | 0, _ => rfl
  | n + 1, σ => (if_neg (fun z => h2 ⟨z.1, z.2.1⟩)).trans ((if_neg (fun z => h ⟨z.1, z.2.1⟩)).trans (mo_sh_k x c' h h2 j' n σ))
theorem mo_sh_b (x c : Int32) : ∀ (n : Nat) (σ : sw_S), (∀ y, sw_bo (σ 16 18 y)) → ∀ y, sw_bo (mo_sh x c n σ 16 18 y)
  | 0, _, h, y => h y
  | n + 1, σ, h, y => by
    have ih := mo_sh_b x c n σ h
    have hr : ∀ z, mo_sa x c n (mo_sh x c n σ) 16 18 z = mo_sh x c n σ 16 18 z := fun z => sw_upk _ (by decide)
    show sw_bo (sw_up (mo_sa x c n (mo_sh x c n σ)) 16 18 _ _ 16 18 y)
    unfold sw_up
    split
    · show sw_bo (mo_sa x c n (mo_sh x c n σ) 16 18 _)
      rw [hr]
      exact ih _
    · show sw_bo (mo_sa x c n (mo_sh x c n σ) 16 18 _)
      rw [hr]
      exact ih y
def mo_d2 (k n : Nat) (x : Int32) (s : sw_S) : sw_S := mo_aw k x n (mo_ad k (mo_bi x s n) s)
def mo_d3 (k n : Nat) (x c : Int32) (s : sw_S) : sw_S := mo_s3 x c (mo_d2 k n x s)
def mo_d4 (k n : Nat) (x c : Int32) (s : sw_S) : sw_S := mo_s4 x c (mo_sh x c (mi (mo_d3 k n x c s) 16 x).toNatClampNeg (mo_d3 k n x c s))
def mo_dd (k : Nat) (i t x : Int32) (σ : sw_S) : sw_S := mo_d4 k (mo_qn k x σ).toNatClampNeg x (mo_qn k x σ) (mo_bf k i 1 t (mo_qn k x σ) σ)
def mo_so (k : Nat) (i t x : Int32) (σ : sw_S) : sw_S := if mb σ 11 x = 0 then (if mi σ 16 x ≤ 0 then mo_bf k i 4 t 0 (mbs σ 12 x 0) else mo_dd k i t x σ) else mo_bf k i 3 t 0 (mbs σ 11 x 0)
def mo_dp (k : Nat) (x : Int32) (σ : sw_S) : Prop := ∃ n q : Nat, n ≤ 16 ∧ n ≤ q ∧ q < 2 ^ 31 ∧ mo_qn k x σ = nI n ∧ mi σ 16 x = nI q ∧ ∀ j, j < q → vp_in (mo_rx x j) 6400
def gX8_sendOf (ln : sw_A) (k : Nat) (i t : Int32) (σ : sw_S) : sw_X := (mo ln ∧ (∀ y, sw_bo (σ 16 18 y)) ∧ vp_in i 2 ∧ vp_in (mo_ix i t) 16 ∧ (¬ mi σ 16 (mo_ix i t) ≤ 0 → mo_dp k (mo_ix i t) σ) ∧ (gX8_finish ln k i (mo_so k i t (mo_ix i t) σ)).1, none, mo_fi k i (mo_so k i t (mo_ix i t) σ))
def fX8_sendOf (ln : sw_A) : sw_F := sw_foii 8 (gX8_sendOf ln)
def ctX8_sendOf (ln : sw_A) : sw_C := [(166, 5, 9, fX8_beginFrame ln), (160, 2, 9, fX8_add ln), (170, 2, 9, fX8_finish ln)]
abbrev wX8_sendOf (ln : sw_A) (Q : Option sw_V → sw_S → Prop) : Nat → Nat → sw_L → List sw_V → sw_S → Prop := sw_wp sw_rf ln (ctX8_sendOf ln) sX8_sendOf 0 314 tX8_sendOf Q
abbrev mo_LS (k : Nat) (i t x : Int32) (v4 v5 v6 : Option sw_V) : sw_L := [some (.inr (some (8, k))), some (.inl i), some (.inl t), some (.inl x), v4, v5, v6]
theorem hX8_sendOf_b (ln : sw_A) (k n : Nat) (i t x : Int32) (s : sw_S) (X : sw_X) (hm : mo ln) (hn : n ≤ 16) (hb : ∀ j, j < n → vp_in (mo_rx x j) 6400) (M : Nat) (hM : wX8_sendOf ln (sw_end X) M 152 (mo_LS k i t x (some (.inl (nI n))) (some (.inl (mo_bi x s n))) (some (.inl (nI n)))) [] s) : ∀ (d j : Nat), j + d = n → ∃ fuel, wX8_sendOf ln (sw_end X) fuel 110 (mo_LS k i t x (some (.inl (nI n))) (some (.inl (mo_bi x s j))) (some (.inl (nI j)))) [] s := by
  intro d
  induction d with
  | zero =>
    intro j hj
    have hj : j = n := by omega
    subst hj
    refine ⟨M + 20, sw_ws_wp [152] M 20 _ _ _ _ ?_⟩
    exact And.intro (fun _ => hM) (fun (h : ¬ nI j ≤ nI j) => absurd (Int32.le_refl _) h)
  | succ d ih =>
    intro j hj
    obtain ⟨f, hf⟩ := ih (j + 1) (by omega)
    rw [← nI_1] at hf
    refine ⟨f + 40, sw_ws_wp [110] f 40 _ _ _ _ ?_⟩
    refine And.intro (fun (h : nI n ≤ nI j) => absurd h (nI_ge (a := j) (b := n) (by omega) (by omega))) (fun _ => And.intro (hm.z (j := 18) rfl (hb j (by omega))) (And.intro (fun (h1 : mb s 18 (mo_rx x j) = 0) => ?_) (fun (h1 : ¬ mb s 18 (mo_rx x j) = 0) => ?_)))
    · rw [show mo_bi x s (j + 1) = _ from if_pos h1] at hf
      exact hf
    · rw [show mo_bi x s (j + 1) = _ from if_neg h1] at hf
      exact hf
theorem hX8_sendOf_w (ln : sw_A) (k n : Nat) (i t x : Int32) (v5 : Option sw_V) (s : sw_S) (X : sw_X) (hm : mo ln) (hn : n ≤ 16) (hz : s 8 k 39 = nI 2) (hb : ∀ j, j < n → vp_in (mo_rx x j) 6400) (M : Nat) (hM : wX8_sendOf ln (sw_end X) M 191 (mo_LS k i t x (some (.inl (nI n))) v5 (some (.inl (nI n)))) [] (mo_aw k x n s)) : ∀ (d j : Nat), j + d = n → ∃ fuel, wX8_sendOf ln (sw_end X) fuel 161 (mo_LS k i t x (some (.inl (nI n))) v5 (some (.inl (nI j)))) [] (mo_aw k x j s) := by
  intro d
  induction d with
  | zero =>
    intro j hj
    have hj : j = n := by omega
    subst hj
    refine ⟨M + 20, sw_ws_wp [191] M 20 _ _ _ _ ?_⟩
    exact And.intro (fun _ => hM) (fun (h : ¬ nI j ≤ nI j) => absurd (Int32.le_refl _) h)
  | succ d ih =>
    intro j hj
    have hs : vp_in (mo_aw k x j s 8 k 39) 19 := by
      rw [mo_aw_s k x j 2 s hz]
      exact vp_in_nI (by omega) (by decide)
    obtain ⟨f, hf⟩ := ih (j + 1) (by omega)
    rw [← nI_1] at hf
    refine ⟨f + 40, sw_ws_wp [161] f 40 _ _ _ _ ?_⟩
    exact And.intro (fun (h : nI n ≤ nI j) => absurd h (nI_ge (a := j) (b := n) (by omega) (by omega))) (fun _ => And.intro (hm.i (j := 17) rfl (hb j (by omega))) (And.intro ⟨hm, hs⟩ hf))
theorem mo_rx_add (x : Int32) (j n : Nat) : mo_rx x j + nI n = mo_rx x (j + n) := by
  unfold mo_rx
  rw [Int32.add_assoc, nI_add]
theorem hX8_sendOf_h (ln : sw_A) (k n r : Nat) (i t x : Int32) (v5 : Option sw_V) (s : sw_S) (X : sw_X) (hm : mo ln) (hx : vp_in x 16) (hr : r < 2 ^ 31) (hz : mi s 16 x = nI r) (hbo : ∀ y, sw_bo (s 16 18 y)) (hb : ∀ j, j < r + n → vp_in (mo_rx x j) 6400) (M : Nat) (hM : wX8_sendOf ln (sw_end X) M 280 (mo_LS k i t x (some (.inl (nI n))) v5 (some (.inl (nI r)))) [] (mo_sh x (nI n) r s)) : ∀ (d j : Nat), j + d = r → ∃ fuel, wX8_sendOf ln (sw_end X) fuel 205 (mo_LS k i t x (some (.inl (nI n))) v5 (some (.inl (nI j)))) [] (mo_sh x (nI n) j s) := by
  intro d
  have v16 := hm.i (j := 16) rfl hx
  induction d with
  | zero =>
    intro j hj
    have hj : j = r := by omega
    subst hj
    have hl : mi (mo_sh x (nI n) j s) 16 x = nI j := (mo_sh_k x (nI n) (by decide) (by decide) _ j s).trans hz
    refine ⟨M + 20, sw_ws_wp [280] M 20 _ _ _ _ ?_⟩
    exact And.intro v16 (And.intro (fun _ => hM) (fun (h : ¬ mi (mo_sh x (nI n) j s) 16 x ≤ nI j) => absurd (by rw [hl]; exact Int32.le_refl _) h))
  | succ d ih =>
    intro j hj
    have hl : mi (mo_sh x (nI n) j s) 16 x = nI r := (mo_sh_k x (nI n) (by decide) (by decide) _ j s).trans hz
    have b1 := hb j (by omega)
    have b2 : vp_in (mo_rx x j + nI n) 6400 := by rw [mo_rx_add]; exact hb (j + n) (by omega)
    have hbb : sw_bo (mb (mo_sa x (nI n) j (mo_sh x (nI n) j s)) 18 (mo_rx x j + nI n)) := by
      rw [show mb (mo_sa x (nI n) j (mo_sh x (nI n) j s)) 18 (mo_rx x j + nI n) = mb (mo_sh x (nI n) j s) 18 (mo_rx x j + nI n) from sw_upk _ (by decide)]
      exact mo_sh_b x (nI n) j s hbo _
    obtain ⟨f, hf⟩ := ih (j + 1) (by omega)
    rw [← nI_1] at hf
    refine ⟨f + 80, sw_ws_wp [205] f 80 _ _ _ _ ?_⟩
    exact And.intro v16 (And.intro (fun (h : mi (mo_sh x (nI n) j s) 16 x ≤ nI j) => absurd (by rw [← hl]; exact h) (nI_ge (a := j) (b := r) (by omega) hr)) (fun _ => And.intro (hm.i (j := 17) rfl b2) (And.intro (hm.i (j := 17) rfl b1) (And.intro (hm.z (j := 18) rfl b2) (And.intro (hm.z (j := 18) rfl b1) (And.intro hbb hf))))))
end
section
/-! The reference: sendOf as a whole -/
theorem mo_bf_s (k : Nat) (i kd t ct : Int32) (σ : sw_S) : mo_bf k i kd t ct σ 8 k 39 = 1 := sw_upe _ _ _ _ _
theorem mo_bf_k (k : Nat) (i kd t ct : Int32) (σ : sw_S) {c k' : Nat} (h : ¬ (c = 15 ∧ k' = 38)) (h8 : ¬ c = 8) (j' : Nat) : mo_bf k i kd t ct σ c k' j' = σ c k' j' := (sw_upk _ h8).trans (if_neg (fun z => h ⟨z.1, z.2.1⟩))
theorem mo_d2_k (k n : Nat) (x : Int32) (s : sw_S) {c k' : Nat} (h : ¬ (c = 15 ∧ k' = 38)) (h8 : ¬ c = 8) (j' : Nat) : mo_d2 k n x s c k' j' = s c k' j' := (mo_aw_k k x h h8 j' n _).trans (mo_ad_k k _ s h h8 j')
set_option maxHeartbeats 4000000 in
theorem hX8_sendOf (ln : sw_A) (k : Nat) (i t : Int32) (σ : sw_S) (h : (gX8_sendOf ln k i t σ).1) : ∃ fuel, wX8_sendOf ln (sw_end (gX8_sendOf ln k i t σ)) fuel 0 (sw_ent 7 [.inr (some (8, k)), .inl i, .inl t]) [] σ := by
  obtain ⟨hm, hbo, hi, hx, hd, hf⟩ := h
  obtain ⟨x, hxe⟩ : ∃ x, x = mo_ix i t := ⟨_, rfl⟩
  rw [← hxe] at hx hd hf
  have v11 := hm.z (j := 11) rfl hx
  have v12 := hm.z (j := 12) rfl hx
  have v16 := hm.i (j := 16) rfl hx
  have v8 := hm.i (j := 8) rfl hx
  have k309 : ∃ M, ∀ b v4 v5 v6, b = mo_so k i t x σ → wX8_sendOf ln (sw_end (gX8_sendOf ln k i t σ)) M 309 (mo_LS k i t x v4 v5 v6) [] b := by
    refine ⟨10, fun b v4 v5 v6 hb => ?_⟩
    subst hb
    refine And.intro hf ⟨rfl, ?_⟩
    show mo_fi k i (mo_so k i t x σ) = mo_fi k i (mo_so k i t (mo_ix i t) σ)
    rw [hxe]
  obtain ⟨M, k309⟩ := k309
  have k7 : ∃ M, wX8_sendOf ln (sw_end (gX8_sendOf ln k i t σ)) M 7 (mo_LS k i t x none none none) [] σ := by
    by_cases h1 : mb σ 11 x = 0
    · by_cases h2 : mi σ 16 x ≤ 0
      · refine ⟨M + 40, sw_ws_wp [309] M 40 _ _ _ _ ?_⟩
        exact And.intro v11 (And.intro (fun _ => And.intro v16 (And.intro (fun _ => And.intro v12 (And.intro (Or.inl rfl) (And.intro ⟨hm, hi⟩ (k309 _ _ _ _ ((if_pos h1).trans (if_pos h2)).symm)))) (fun z => absurd h2 z))) (fun z => absurd h1 z))
      · obtain ⟨n, q, hn, hnq, hq, hqn, hqe, hb⟩ := hd h2
        have hso : mo_so k i t x σ = mo_d4 k n x (nI n) (mo_bf k i 1 t (nI n) σ) := by
          unfold mo_so
          rw [if_pos h1, if_neg h2]
          unfold mo_dd
          rw [hqn, nI_clamp (by omega)]
        obtain ⟨s, hs⟩ : ∃ s, s = mo_bf k i 1 t (nI n) σ := ⟨_, rfl⟩
        rw [← hs] at hso
        have hs39 : s 8 k 39 = nI 1 := by rw [hs]; exact mo_bf_s k i 1 t (nI n) σ
        have hsk : ∀ {c k' : Nat}, ¬ (c = 15 ∧ k' = 38) → ¬ c = 8 → ∀ j', s c k' j' = σ c k' j' := fun a b j' => by rw [hs]; exact mo_bf_k k i 1 t (nI n) σ a b j'
        have hb2 : ∀ j, j < n → vp_in (mo_rx x j) 6400 := fun j hj => hb j (by omega)
        have e3 : mi (mo_d3 k n x (nI n) s) 16 x = nI (q - n) := by
          rw [show mi (mo_d3 k n x (nI n) s) 16 x = mi (mo_d2 k n x s) 16 x - nI n from sw_upe _ _ _ _ _, show mi (mo_d2 k n x s) 16 x = mi s 16 x from mo_d2_k k n x s (by decide) (by decide) _, show mi s 16 x = mi σ 16 x from hsk (by decide) (by decide) _, hqe, pk_sub hnq]
        have hbo3 : ∀ y, sw_bo (mo_d3 k n x (nI n) s 16 18 y) := fun y => by
          rw [show mo_d3 k n x (nI n) s 16 18 y = mo_d2 k n x s 16 18 y by unfold mo_d3 mo_s3; exact sw_upk _ (by decide), mo_d2_k k n x s (by decide) (by decide), hsk (by decide) (by decide)]
          exact hbo y
        have k280 : ∃ M2, ∀ b v5 v6, b = mo_sh x (nI n) (q - n) (mo_d3 k n x (nI n) s) → wX8_sendOf ln (sw_end (gX8_sendOf ln k i t σ)) M2 280 (mo_LS k i t x (some (.inl (nI n))) v5 v6) [] b := by
          refine ⟨M + 20, fun b v5 v6 hb4 => sw_ws_wp [309] M 20 _ _ _ _ ?_⟩
          refine And.intro v8 (And.intro v8 (k309 _ _ _ _ ?_))
          rw [hso, hb4]
          unfold mo_d4
          rw [e3, nI_clamp (by omega)]
          rfl
        obtain ⟨M2, k280⟩ := k280
        obtain ⟨v5, hv5⟩ : ∃ v5 : Option sw_V, v5 = some (.inl (mo_bi x s n)) := ⟨_, rfl⟩
        obtain ⟨f1, hf1⟩ := hX8_sendOf_h ln k n (q - n) i t x v5 (mo_d3 k n x (nI n) s) (gX8_sendOf ln k i t σ) hm hx (by omega) e3 hbo3 (fun j hj => hb j (by omega)) M2 (k280 _ _ _ rfl) (q - n) 0 (by omega)
        have k191 : wX8_sendOf ln (sw_end (gX8_sendOf ln k i t σ)) (f1 + 20) 191 (mo_LS k i t x (some (.inl (nI n))) v5 (some (.inl (nI n)))) [] (mo_aw k x n (mo_ad k (mo_bi x s n) s)) := by
          refine sw_ws_wp [205] f1 20 _ _ _ _ ?_
          exact And.intro v16 (And.intro v16 hf1)
        obtain ⟨M3, hM3⟩ : ∃ M3, M3 = f1 + 20 := ⟨_, rfl⟩
        rw [← hM3] at k191
        obtain ⟨f2, hf2⟩ := hX8_sendOf_w ln k n i t x v5 (mo_ad k (mo_bi x s n) s) (gX8_sendOf ln k i t σ) hm hn (by rw [mo_ad_s, hs39]; rfl) hb2 M3 k191 n 0 (by omega)
        have k152 : wX8_sendOf ln (sw_end (gX8_sendOf ln k i t σ)) (f2 + 20) 152 (mo_LS k i t x (some (.inl (nI n))) (some (.inl (mo_bi x s n))) (some (.inl (nI n)))) [] s := by
          refine sw_ws_wp [161] f2 20 _ _ _ _ ?_
          rw [hv5] at hf2
          exact And.intro ⟨hm, by rw [hs39]; exact vp_in_nI (by decide) (by decide)⟩ hf2
        obtain ⟨M4, hM4⟩ : ∃ M4, M4 = f2 + 20 := ⟨_, rfl⟩
        rw [← hM4] at k152
        obtain ⟨f3, hf3⟩ := hX8_sendOf_b ln k n i t x s (gX8_sendOf ln k i t σ) hm hn hb2 M4 k152 n 0 (by omega)
        have k93 : ∃ M5, ∀ v v4, v = nI n → wX8_sendOf ln (sw_end (gX8_sendOf ln k i t σ)) M5 93 (mo_LS k i t x v4 none none) [.inl v] σ := by
          refine ⟨f3 + 20, fun v v4 hv => sw_ws_wp [110] f3 20 _ _ _ _ ?_⟩
          subst hv
          rw [hs] at hf3
          exact And.intro ⟨hm, hi⟩ hf3
        obtain ⟨M5, k93⟩ := k93
        have k73 : ∃ M6, ∀ v, v = mo_q1 x σ → wX8_sendOf ln (sw_end (gX8_sendOf ln k i t σ)) M6 73 (mo_LS k i t x none none none) [.inl v] σ := by
          refine ⟨M5 + 20, fun v hv => sw_ws_wp [93] M5 20 _ _ _ _ ?_⟩
          refine And.intro (fun (a1 : σ 8 k 1 ≤ v) => k93 _ _ ?_) (fun (a1 : ¬ σ 8 k 1 ≤ v) => k93 _ _ ?_)
          · rw [hv] at a1
            rw [← hqn]
            exact (if_pos a1).symm
          · rw [hv] at a1
            rw [← hqn, hv]
            exact (if_neg a1).symm
        obtain ⟨M6, k73⟩ := k73
        refine ⟨M6 + 40, sw_ws_wp [73] M6 40 _ _ _ _ ?_⟩
        exact And.intro v11 (And.intro (fun _ => And.intro v16 (And.intro (fun z => absurd z h2) (fun _ => And.intro v16 (And.intro v8 (And.intro (fun (a1 : mi σ 8 x ≤ mi σ 16 x) => And.intro v8 (k73 _ (if_pos a1).symm)) (fun (a1 : ¬ mi σ 8 x ≤ mi σ 16 x) => And.intro v16 (k73 _ (if_neg a1).symm))))))) (fun z => absurd h1 z))
    · refine ⟨M + 40, sw_ws_wp [309] M 40 _ _ _ _ ?_⟩
      exact And.intro v11 (And.intro (fun z => absurd z h1) (fun _ => And.intro v11 (And.intro (Or.inl rfl) (And.intro ⟨hm, hi⟩ (k309 _ _ _ _ (if_neg h1).symm)))))
  obtain ⟨M7, k7⟩ := k7
  refine ⟨M7 + 10, sw_ws_wp [7] M7 10 _ _ _ _ ?_⟩
  rw [hxe] at k7
  exact k7
set_option maxRecDepth 100000 in
theorem mX8_sendOf {l : Launch} {ad : sw_A} {V : Nat → Nat → Prop} {ln : sw_A} {ca : Nat → ClassId} {D : va_G} (hG : sw_wf ad V sw_rf ln) : sw_met l ad V sw_rf ln ca D yX8_sendOf cX8_sendOf 7 none { frames := 2, cells := 0, slots := 0, locals := 47 } 3 (fX8_sendOf ln) := by
  refine sw_meth hG (by decide) (by refine ⟨?_, ?_, ?_, ?_⟩ <;> intro h <;> first | rfl | exact ⟨_, rfl⟩ | exact absurd h (by decide)) (by decide) kX8_sendOf flX8_in cnX8_in ?_ (sw_foii_h (W := fun Q L σ => ∃ fuel, wX8_sendOf ln Q fuel 0 L [] σ) (fun a0 a1 a2 σ h => hX8_sendOf ln a0 a1 a2 σ h))
  intro p e s m args below meth c S hT hnw
  refine List.forall_mem_cons.mpr ⟨sw_cokV S hT hnw (mX8_beginFrame hG) 166 8 (by decide) ⟨by decide +kernel, by decide +kernel, by decide +kernel, by decide +kernel, by decide +kernel⟩ ⟨rfl, by decide, by decide, by decide +kernel⟩ ⟨rfl, rfl⟩ ⟨by decide, by decide⟩, ?_⟩
  refine List.forall_mem_cons.mpr ⟨sw_cokV S hT hnw (mX8_add hG) 160 8 (by decide) ⟨by decide +kernel, by decide +kernel, by decide +kernel, by decide +kernel, by decide +kernel⟩ ⟨rfl, by decide, by decide, by decide +kernel⟩ ⟨rfl, rfl⟩ ⟨by decide, by decide⟩, ?_⟩
  refine List.forall_mem_cons.mpr ⟨sw_cokV S hT hnw (mX8_finish hG) 170 8 (by decide) ⟨by decide +kernel, by decide +kernel, by decide +kernel, by decide +kernel, by decide +kernel⟩ ⟨rfl, by decide, by decide, by decide +kernel⟩ ⟨rfl, rfl⟩ ⟨by decide, by decide⟩, ?_⟩
  exact fun q h => absurd h List.not_mem_nil
end
section
/-! The reference: pump, drain -/
def mo_gs (i : Int32) (σ : sw_S) : Nat → Nat → Int32
  | 0, _ => -2
  | d + 1, j => if mi σ 9 (mo_ix i (nI j)) ≤ 0 then mo_gs i σ d (j + 1) else nI j
def mo_g1 (k : Nat) (i t : Int32) (σ : sw_S) : sw_S := mo_bf k i 2 t 0 σ
def mo_g2 (k : Nat) (i t : Int32) (σ : sw_S) : sw_S := mis (mo_ad k (mi (mo_g1 k i t σ) 9 (mo_ix i t)) (mo_g1 k i t σ)) 9 (mo_ix i t) 0
def mo_tt (k : Nat) (i : Int32) (j : Nat) (σ : sw_S) : Int32 := sw_rem (mi σ 30 i + nI j) (σ 8 k 0)
def mo_ts (k : Nat) (i : Int32) (σ : sw_S) : Nat → Nat → Int32
  | 0, _ => -2
  | d + 1, j => if mo_hs (mo_ix i (mo_tt k i j σ)) σ = 0 then mo_ts k i σ d (j + 1) else nI j
def mo_ua (i t : Int32) (σ : sw_S) : sw_S := mis (mis σ 30 i t) 31 i (mi (mis σ 30 i t) 10 (mo_ix i t))
def mo_u0 (i j t : Int32) (σ : sw_S) : sw_S := if j ≤ 0 then σ else mo_ua i t σ
def mo_u1 (k : Nat) (i t : Int32) (a : sw_S) : sw_S := mo_fi k i (mo_so k i t (mo_ix i t) a)
def mo_u2 (i : Int32) (a : sw_S) : sw_S := mis a 31 i (mi a 31 i - 1)
def mo_ub (k : Nat) (i t : Int32) (a : sw_S) : sw_S := mis a 30 i (sw_rem (t + 1) (a 8 k 0))
def mo_uc (i : Int32) (a : sw_S) : sw_S := mis a 31 i (mi a 10 (mo_ix i (mi a 30 i)))
def mo_u3 (k : Nat) (i t : Int32) (a : sw_S) : sw_S := if mi a 31 i = 0 then mo_uc i (mo_ub k i t a) else a
def mo_un (k : Nat) (i j t : Int32) (σ : sw_S) : sw_S := mo_u3 k i t (mo_u2 i (mo_u1 k i t (mo_u0 i j t σ)))
def mo_ak (k : Nat) (i : Int32) (σ : sw_S) : wi_P := if mb σ 32 i = 0 then (0, σ) else (50, mo_fi k i (mo_bf k i 0 0 0 σ))
def mo_pm (k : Nat) (i : Int32) (S : Nat) (σ : sw_S) : wi_P :=
  if mo_is i = 0 then (-1, σ) else if mi σ 25 i = σ 8 k 4 then (0, σ) else if σ 8 k 2 ≤ mi σ 22 i then mo_ak k i σ
  else if mo_gs i σ S 0 = -2 then (if mo_ts k i σ S 0 = -2 then mo_ak k i σ else (1 + mo_tt k i (mo_ts k i σ S 0).toNatClampNeg σ, mo_un k i (mo_ts k i σ S 0) (mo_tt k i (mo_ts k i σ S 0).toNatClampNeg σ) σ))
  else (1 + mo_gs i σ S 0, mo_fi k i (mo_g2 k i (mo_gs i σ S 0) σ))
/-- what a frame in turn asks: of place j -/
def mo_up (ln : sw_A) (k : Nat) (i j t : Int32) (σ : sw_S) : Prop := (gX8_sendOf ln k i t (mo_u0 i j t σ)).1 ∧ (mi (mo_u2 i (mo_u1 k i t (mo_u0 i j t σ))) 31 i = 0 → ¬ mo_u2 i (mo_u1 k i t (mo_u0 i j t σ)) 8 k 0 = 0 ∧ vp_in (mo_ix i (mi (mo_ub k i t (mo_u2 i (mo_u1 k i t (mo_u0 i j t σ)))) 30 i)) 16)
def mo_pp (ln : sw_A) (k : Nat) (i : Int32) (S : Nat) (σ : sw_S) : Prop := σ 8 k 0 = nI S ∧ 0 < S ∧ S ≤ 8 ∧ vp_in i 2 ∧ (∀ j, j < S → vp_in (mo_ix i (nI j)) 16) ∧ (∀ j, j < S → vp_in (mo_ix i (mo_tt k i j σ)) 16)
  ∧ (∀ j, j < S → ¬ mi σ 9 (mo_ix i (nI j)) ≤ 0 → (gX8_finish ln k i (mo_g2 k i (nI j) σ)).1)
  ∧ (∀ j, j < S → ¬ mo_hs (mo_ix i (mo_tt k i j σ)) σ = 0 → mo_up ln k i (nI j) (mo_tt k i j σ) σ)
  ∧ (¬ mb σ 32 i = 0 → (gX8_finish ln k i (mo_bf k i 0 0 0 σ)).1)
def gX8_pump (ln : sw_A) (k : Nat) (i : Int32) (σ : sw_S) : sw_X := (mo ln ∧ (¬ mo_is i = 0 → mo_pp ln k i (σ 8 k 0).toNatClampNeg σ), some (.inl (mo_pm k i (σ 8 k 0).toNatClampNeg σ).1), (mo_pm k i (σ 8 k 0).toNatClampNeg σ).2)
def fX8_pump (ln : sw_A) : sw_F := sw_foi 8 (gX8_pump ln)
def ctX8_pump (ln : sw_A) : sw_C := [(133, 1, 0, fX8_isSide ln), (166, 5, 9, fX8_beginFrame ln), (160, 2, 9, fX8_add ln), (170, 2, 9, fX8_finish ln), (173, 3, 9, fX8_hasSome ln), (176, 3, 9, fX8_sendOf ln)]
abbrev wX8_pump (ln : sw_A) (Q : Option sw_V → sw_S → Prop) : Nat → Nat → sw_L → List sw_V → sw_S → Prop := sw_wp sw_rf ln (ctX8_pump ln) sX8_pump 1 261 tX8_pump Q
theorem hX8_pump_g (ln : sw_A) (k S : Nat) (i : Int32) (σ : sw_S) (X : sw_X) (hm : mo ln) (hp : mo_pp ln k i S σ) (M : Nat) (hM : mo_gs i σ S 0 = -2 → ∀ v2 v3, wX8_pump ln (sw_end X) M 103 [some (.inr (some (8, k))), some (.inl i), v2, v3] [] σ) : ∀ (d j : Nat) (v3 : Option sw_V), j + d = S → mo_gs i σ S 0 = mo_gs i σ d j → (¬ mo_gs i σ S 0 = -2 → X.2 = (some (.inl (1 + mo_gs i σ S 0)), mo_fi k i (mo_g2 k i (mo_gs i σ S 0) σ))) → ∃ fuel, wX8_pump ln (sw_end X) fuel 39 [some (.inr (some (8, k))), some (.inl i), some (.inl (nI j)), v3] [] σ := by
  obtain ⟨hz, h0, h8, hi, hb, -, hfin, -, -⟩ := hp
  intro d
  induction d with
  | zero =>
    intro j v3 hj he hX
    have hj : j = S := by omega
    subst hj
    refine ⟨M + 20, sw_ws_wp [103] M 20 _ _ _ _ ?_⟩
    exact And.intro (fun _ => hM he _ _) (fun (h : ¬ σ 8 k 0 ≤ nI j) => absurd (by rw [hz]; exact Int32.le_refl _) h)
  | succ d ih =>
    intro j v3 hj he hX
    have hx := hb j (by omega)
    have v9 := hm.i (j := 9) rfl hx
    by_cases h1 : mi σ 9 (mo_ix i (nI j)) ≤ 0
    · obtain ⟨f, hf⟩ := ih (j + 1) (some (.inl (mo_ix i (nI j)))) (by omega) (he.trans (if_pos h1)) hX
      rw [← nI_1] at hf
      refine ⟨f + 40, sw_ws_wp [39] f 40 _ _ _ _ ?_⟩
      exact And.intro (fun (h : σ 8 k 0 ≤ nI j) => absurd (by rw [← hz]; exact h) (nI_ge (a := j) (b := S) (by omega) (by omega))) (fun _ => And.intro v9 (And.intro (fun _ => hf) (fun z => absurd h1 z)))
    · have e1 : mo_gs i σ S 0 = nI j := he.trans (if_neg h1)
      have e2 : ¬ mo_gs i σ S 0 = -2 := by
        rw [e1]
        intro z
        have : (nI j).toInt = (-2 : Int32).toInt := by rw [z]
        rw [nI_toInt (by omega)] at this
        exact absurd this (by show ¬ ((j : Int) = -2); omega)
      refine ⟨60, And.intro (fun (h : σ 8 k 0 ≤ nI j) => absurd (by rw [← hz]; exact h) (nI_ge (a := j) (b := S) (by omega) (by omega))) (fun _ => And.intro v9 (And.intro (fun z => absurd z h1) (fun _ => And.intro ⟨hm, hi⟩ (And.intro v9 (And.intro ⟨hm, ?_⟩ (And.intro v9 (And.intro (hfin j (by omega) h1) ?_)))))))⟩
      · show vp_in (mo_g1 k i (nI j) σ 8 k 39) 19
        rw [show mo_g1 k i (nI j) σ 8 k 39 = nI 1 from mo_bf_s _ _ _ _ _ _]
        exact vp_in_nI (by decide) (by decide)
      · show some (Sum.inl (1 + nI j)) = X.2.1 ∧ mo_fi k i (mo_g2 k i (nI j) σ) = X.2.2
        rw [hX e2, e1]
        exact ⟨rfl, rfl⟩
theorem hX8_pump_t (ln : sw_A) (k S : Nat) (i : Int32) (σ : sw_S) (X : sw_X) (hm : mo ln) (hp : mo_pp ln k i S σ) (M : Nat) (hM : mo_ts k i σ S 0 = -2 → ∀ v2 v3, wX8_pump ln (sw_end X) M 235 [some (.inr (some (8, k))), some (.inl i), v2, v3] [] σ) : ∀ (d j : Nat), j + d = S → mo_ts k i σ S 0 = mo_ts k i σ d j → (∀ j, mo_ts k i σ S 0 = nI j → j < S → X.2 = (some (.inl (1 + mo_tt k i j σ)), mo_un k i (nI j) (mo_tt k i j σ) σ)) → ∃ fuel, ∀ v3, wX8_pump ln (sw_end X) fuel 105 [some (.inr (some (8, k))), some (.inl i), some (.inl (nI j)), v3] [] σ := by
  obtain ⟨hz, h0, h8, hi, -, hb, -, hup, -⟩ := hp
  have v30 := hm.i (j := 30) rfl hi
  have v31 := hm.i (j := 31) rfl hi
  have hS : ¬ σ 8 k 0 = 0 := by rw [hz]; exact nI_ne0 h0 (by omega)
  intro d
  induction d with
  | zero =>
    intro j hj he hX
    have hj : j = S := by omega
    subst hj
    refine ⟨M + 20, fun v3 => sw_ws_wp [235] M 20 _ _ _ _ ?_⟩
    exact And.intro (fun _ => hM he _ _) (fun (h : ¬ σ 8 k 0 ≤ nI j) => absurd (by rw [hz]; exact Int32.le_refl _) h)
  | succ d ih =>
    intro j hj he hX
    have hx := hb j (by omega)
    have hlt : ¬ σ 8 k 0 ≤ nI j := by rw [hz]; exact nI_ge (by omega) (by omega)
    by_cases h1 : mo_hs (mo_ix i (mo_tt k i j σ)) σ = 0
    · obtain ⟨f, hf⟩ := ih (j + 1) (by omega) (he.trans (if_pos h1)) hX
      have hf := hf (some (.inl (mo_tt k i j σ)))
      rw [← nI_1] at hf
      refine ⟨f + 40, fun v3 => sw_ws_wp [105] f 40 _ _ _ _ ?_⟩
      exact And.intro (fun h => absurd h hlt) (fun _ => And.intro v30 (And.intro hS (And.intro ⟨hm, hx⟩ (And.intro (fun _ => hf) (fun z => absurd h1 z)))))
    · have e1 : mo_ts k i σ S 0 = nI j := he.trans (if_neg h1)
      have hX1 := hX j e1 (by omega)
      obtain ⟨t, ht⟩ : ∃ t, t = mo_tt k i j σ := ⟨_, rfl⟩
      obtain ⟨u1, u2⟩ := hup j (by omega) h1
      rw [← ht] at hX1 u1 u2 hx
      have v10 := hm.i (j := 10) rfl hx
      have k225 : ∃ M, ∀ b, b = mo_un k i (nI j) t σ → wX8_pump ln (sw_end X) M 225 [some (.inr (some (8, k))), some (.inl i), some (.inl (nI j)), some (.inl t)] [] b := by
        refine ⟨10, fun b hb2 => ?_⟩
        show some (Sum.inl (1 + t)) = X.2.1 ∧ b = X.2.2
        rw [hX1, hb2]
        exact ⟨rfl, rfl⟩
      obtain ⟨M1, k225⟩ := k225
      have k164 : ∃ M, ∀ b, b = mo_u0 i (nI j) t σ → wX8_pump ln (sw_end X) M 164 [some (.inr (some (8, k))), some (.inl i), some (.inl (nI j)), some (.inl t)] [] b := by
        refine ⟨M1 + 60, fun b hb2 => sw_ws_wp [225] M1 60 _ _ _ _ ?_⟩
        subst hb2
        refine And.intro u1 (And.intro v31 (And.intro v31 (And.intro v31 (And.intro (fun (a1 : ¬ mi (mo_u2 i (mo_u1 k i t (mo_u0 i (nI j) t σ))) 31 i = 0) => k225 _ ?_) (fun (a1 : mi (mo_u2 i (mo_u1 k i t (mo_u0 i (nI j) t σ))) 31 i = 0) => And.intro (u2 a1).1 (And.intro v30 (And.intro v30 (And.intro (hm.i (j := 10) rfl (u2 a1).2) (And.intro v31 (k225 _ ?_)))))))))) 
        · exact (if_neg a1).symm
        · exact (if_pos a1).symm
      obtain ⟨M2, k164⟩ := k164
      rw [ht] at k164 v10
      refine ⟨M2 + 60, fun v3 => sw_ws_wp [164] M2 60 _ _ _ _ ?_⟩
      exact And.intro (fun h => absurd h hlt) (fun _ => And.intro v30 (And.intro hS (And.intro ⟨hm, hb j (by omega)⟩ (And.intro (fun z => absurd z h1) (fun _ => And.intro (fun (a1 : nI j ≤ 0) => k164 _ (if_pos a1).symm) (fun (a1 : ¬ nI j ≤ 0) => And.intro v30 (And.intro v10 (And.intro v31 (k164 _ (if_neg a1).symm)))))))))
theorem mo_ts_nI (k : Nat) (i : Int32) (σ : sw_S) : ∀ (d j : Nat), ¬ mo_ts k i σ d j = -2 → ∃ q, mo_ts k i σ d j = nI q ∧ q < j + d
  | 0, _, h => absurd rfl h
  | d + 1, j, h => by
    unfold mo_ts at h ⊢
    split
    · rename_i z
      rw [if_pos z] at h
      obtain ⟨q, h1, h2⟩ := mo_ts_nI k i σ d (j + 1) h
      exact ⟨q, h1, by omega⟩
    · exact ⟨j, rfl, by omega⟩
theorem hX8_pump (ln : sw_A) (k : Nat) (i : Int32) (σ : sw_S) (h : (gX8_pump ln k i σ).1) : ∃ fuel, wX8_pump ln (sw_end (gX8_pump ln k i σ)) fuel 0 (sw_ent 4 [.inr (some (8, k)), .inl i]) [] σ := by
  obtain ⟨hm, hp⟩ := h
  by_cases h1 : mo_is i = 0
  · exact ⟨20, And.intro trivial (And.intro (fun z => absurd h1 z) (fun _ => sw_pe (if_pos h1)))⟩
  · have hp := hp h1
    obtain ⟨S, hS⟩ : ∃ S, S = (σ 8 k 0).toNatClampNeg := ⟨_, rfl⟩
    rw [← hS] at hp
    have hpm : mo_pm k i (σ 8 k 0).toNatClampNeg σ = mo_pm k i S σ := by rw [hS]
    have hi := hp.2.2.2.1
    have v25 := hm.i (j := 25) rfl hi
    have v22 := hm.i (j := 22) rfl hi
    by_cases h2 : mi σ 25 i = σ 8 k 4
    · exact ⟨20, And.intro trivial (And.intro (fun _ => And.intro v25 (And.intro (fun z => absurd h2 z) (fun _ => sw_pe ((if_neg h1).trans (if_pos h2))))) (fun z => absurd z h1))⟩
    · have k235 : ∃ M, ∀ v2 v3, mo_pm k i S σ = mo_ak k i σ → wX8_pump ln (sw_end (gX8_pump ln k i σ)) M 235 [some (.inr (some (8, k))), some (.inl i), v2, v3] [] σ := by
        refine ⟨30, fun v2 v3 he => ?_⟩
        refine And.intro (hm.z (j := 32) rfl hi) (And.intro (fun (a1 : ¬ mb σ 32 i = 0) => And.intro ⟨hm, hi⟩ (And.intro (hp.2.2.2.2.2.2.2.2 a1) (sw_pe ?_))) (fun (a1 : mb σ 32 i = 0) => sw_pe ?_))
        · rw [hpm, he]; exact if_neg a1
        · rw [hpm, he]; exact if_pos a1
      obtain ⟨M, k235⟩ := k235
      by_cases h3 : σ 8 k 2 ≤ mi σ 22 i
      · refine ⟨M + 30, sw_ws_wp [235] M 30 _ _ _ _ ?_⟩
        exact And.intro trivial (And.intro (fun _ => And.intro v25 (And.intro (fun _ => And.intro v22 (And.intro (fun _ => k235 _ _ ((if_neg h1).trans ((if_neg h2).trans (if_pos h3)))) (fun z => absurd h3 z))) (fun z => absurd z h2))) (fun z => absurd z h1))
      · have k103 : ∃ M, mo_gs i σ S 0 = -2 → ∀ v2 v3, wX8_pump ln (sw_end (gX8_pump ln k i σ)) M 103 [some (.inr (some (8, k))), some (.inl i), v2, v3] [] σ := by
          by_cases h4 : mo_gs i σ S 0 = -2
          · obtain ⟨f, hf⟩ := hX8_pump_t ln k S i σ (gX8_pump ln k i σ) hm hp M (fun h5 v2 v3 => k235 v2 v3 ((if_neg h1).trans ((if_neg h2).trans ((if_neg h3).trans ((if_pos h4).trans (if_pos h5)))))) S 0 (by omega) rfl (fun j hj hjS => by
              have hS8 := hp.2.2.1
              have e5 : ¬ mo_ts k i σ S 0 = -2 := by
                rw [hj]
                intro z
                have : (nI j).toInt = (-2 : Int32).toInt := by rw [z]
                rw [nI_toInt (by omega)] at this
                exact absurd this (by show ¬ ((j : Int) = -2); omega)
              show (some (Sum.inl (mo_pm k i (σ 8 k 0).toNatClampNeg σ).1), (mo_pm k i (σ 8 k 0).toNatClampNeg σ).2) = _
              rw [hpm]
              unfold mo_pm
              rw [if_neg h1, if_neg h2, if_neg h3, if_pos h4, if_neg e5, hj, nI_clamp (by omega)])
            exact ⟨f + 10, fun _ v2 v3 => sw_ws_wp [105] f 10 _ _ _ _ (hf v3)⟩
          · exact ⟨0, fun z => absurd z h4⟩
        obtain ⟨M1, k103⟩ := k103
        obtain ⟨f, hf⟩ := hX8_pump_g ln k S i σ (gX8_pump ln k i σ) hm hp M1 k103 S 0 none (by omega) rfl (fun e5 => by
          show (some (Sum.inl (mo_pm k i (σ 8 k 0).toNatClampNeg σ).1), (mo_pm k i (σ 8 k 0).toNatClampNeg σ).2) = _
          rw [hpm]
          unfold mo_pm
          rw [if_neg h1, if_neg h2, if_neg h3, if_neg e5])
        refine ⟨f + 40, sw_ws_wp [39] f 40 _ _ _ _ ?_⟩
        exact And.intro trivial (And.intro (fun _ => And.intro v25 (And.intro (fun _ => And.intro v22 (And.intro (fun z => absurd z h3) (fun _ => hf))) (fun z => absurd z h2))) (fun z => absurd z h1))
set_option maxRecDepth 100000 in
theorem mX8_pump {l : Launch} {ad : sw_A} {V : Nat → Nat → Prop} {ln : sw_A} {ca : Nat → ClassId} {D : va_G} (hG : sw_wf ad V sw_rf ln) : sw_met l ad V sw_rf ln ca D yX8_pump cX8_pump 4 (some .int) { frames := 3, cells := 0, slots := 0, locals := 73 } 2 (fX8_pump ln) := by
  refine sw_meth hG (by decide) (by refine ⟨?_, ?_, ?_, ?_⟩ <;> intro h <;> first | rfl | exact ⟨_, rfl⟩ | exact absurd h (by decide)) (by decide) kX8_pump flX8_in cnX8_in ?_ (sw_foi_h (W := fun Q L σ => ∃ fuel, wX8_pump ln Q fuel 0 L [] σ) (fun a0 a1 σ h => hX8_pump ln a0 a1 σ h))
  intro p e s m args below meth c S hT hnw
  refine List.forall_mem_cons.mpr ⟨sw_cokS S hT hnw (mX8_isSide hG) 133 ⟨by decide +kernel, by decide +kernel, by decide +kernel, by decide +kernel⟩ ⟨rfl, by decide, by decide, by decide +kernel⟩ ⟨rfl, rfl⟩ ⟨by decide, by decide⟩, ?_⟩
  refine List.forall_mem_cons.mpr ⟨sw_cokV S hT hnw (mX8_beginFrame hG) 166 8 (by decide) ⟨by decide +kernel, by decide +kernel, by decide +kernel, by decide +kernel, by decide +kernel⟩ ⟨rfl, by decide, by decide, by decide +kernel⟩ ⟨rfl, rfl⟩ ⟨by decide, by decide⟩, ?_⟩
  refine List.forall_mem_cons.mpr ⟨sw_cokV S hT hnw (mX8_add hG) 160 8 (by decide) ⟨by decide +kernel, by decide +kernel, by decide +kernel, by decide +kernel, by decide +kernel⟩ ⟨rfl, by decide, by decide, by decide +kernel⟩ ⟨rfl, rfl⟩ ⟨by decide, by decide⟩, ?_⟩
  refine List.forall_mem_cons.mpr ⟨sw_cokV S hT hnw (mX8_finish hG) 170 8 (by decide) ⟨by decide +kernel, by decide +kernel, by decide +kernel, by decide +kernel, by decide +kernel⟩ ⟨rfl, by decide, by decide, by decide +kernel⟩ ⟨rfl, rfl⟩ ⟨by decide, by decide⟩, ?_⟩
  refine List.forall_mem_cons.mpr ⟨sw_cokV S hT hnw (mX8_hasSome hG) 173 8 (by decide) ⟨by decide +kernel, by decide +kernel, by decide +kernel, by decide +kernel, by decide +kernel⟩ ⟨rfl, by decide, by decide, by decide +kernel⟩ ⟨rfl, rfl⟩ ⟨by decide, by decide⟩, ?_⟩
  refine List.forall_mem_cons.mpr ⟨sw_cokV S hT hnw (mX8_sendOf hG) 176 8 (by decide) ⟨by decide +kernel, by decide +kernel, by decide +kernel, by decide +kernel, by decide +kernel⟩ ⟨rfl, by decide, by decide, by decide +kernel⟩ ⟨rfl, rfl⟩ ⟨by decide, by decide⟩, ?_⟩
  exact fun q h => absurd h List.not_mem_nil
abbrev mo_pv (k : Nat) (i : Int32) (σ : sw_S) : wi_P := mo_pm k i (σ 8 k 0).toNatClampNeg σ
def mo_dl (k : Nat) (i : Int32) : Nat → Int32 → sw_S → wi_P
  | 0, x, σ => (x, σ)
  | d + 1, x, σ => if (mo_pv k i σ).1 = 0 then (x, (mo_pv k i σ).2) else mo_dl k i d (x + 1) (mo_pv k i σ).2
def mo_dq (ln : sw_A) (k : Nat) (i : Int32) : Nat → sw_S → Prop
  | 0, _ => True
  | d + 1, σ => (gX8_pump ln k i σ).1 ∧ (¬ (mo_pv k i σ).1 = 0 → mo_dq ln k i d (mo_pv k i σ).2)
def mo_dn (k : Nat) (i n : Int32) (σ : sw_S) : wi_P := if mo_is i = 0 then (-1, σ) else if n < 0 then (-1, σ) else if n ≤ 1000 then mo_dl k i n.toNatClampNeg 0 σ else (-1, σ)
def gX8_drain (ln : sw_A) (k : Nat) (i n : Int32) (σ : sw_S) : sw_X := (¬ mo_is i = 0 → mo_dq ln k i n.toNatClampNeg σ, some (.inl (mo_dn k i n σ).1), (mo_dn k i n σ).2)
def fX8_drain (ln : sw_A) : sw_F := sw_foii 8 (gX8_drain ln)
def ctX8_drain (ln : sw_A) : sw_C := [(133, 1, 0, fX8_isSide ln), (180, 2, 9, fX8_pump ln)]
abbrev wX8_drain (ln : sw_A) (Q : Option sw_V → sw_S → Prop) : Nat → Nat → sw_L → List sw_V → sw_S → Prop := sw_wp sw_rf ln (ctX8_drain ln) sX8_drain 1 42 tX8_drain Q
theorem hX8_drain_l (ln : sw_A) (k n : Nat) (i : Int32) (X : sw_X) (hn : n < 2 ^ 31) : ∀ (d j : Nat) (σ : sw_S), j + d = n → mo_dq ln k i d σ → X.2 = (some (.inl (mo_dl k i d (nI j) σ).1), (mo_dl k i d (nI j) σ).2) → ∃ fuel, wX8_drain ln (sw_end X) fuel 22 [some (.inr (some (8, k))), some (.inl i), some (.inl (nI n)), some (.inl (nI j))] [] σ := by
  intro d
  induction d with
  | zero =>
    intro j σ hj hd hX
    have hj : j = n := by omega
    subst hj
    refine ⟨20, And.intro (fun _ => ?_) (fun (h : ¬ nI j ≤ nI j) => absurd (Int32.le_refl _) h)⟩
    show some _ = X.2.1 ∧ σ = X.2.2
    rw [hX]
    exact ⟨rfl, rfl⟩
  | succ d ih =>
    intro j σ hj hd hX
    by_cases h1 : (mo_pv k i σ).1 = 0
    · refine ⟨20, And.intro (fun (h : nI n ≤ nI j) => absurd h (nI_ge (a := j) (b := n) (by omega) hn)) (fun _ => And.intro hd.1 (And.intro (fun _ => ?_) (fun z => absurd h1 z)))⟩
      show some _ = X.2.1 ∧ (mo_pv k i σ).2 = X.2.2
      rw [hX, show mo_dl k i (d + 1) (nI j) σ = _ from if_pos h1]
      exact ⟨rfl, rfl⟩
    · obtain ⟨f, hf⟩ := ih (j + 1) (mo_pv k i σ).2 (by omega) (hd.2 h1) (by rw [hX, show mo_dl k i (d + 1) (nI j) σ = _ from if_neg h1, nI_1])
      rw [← nI_1] at hf
      refine ⟨f + 20, sw_ws_wp [22] f 20 _ _ _ _ ?_⟩
      exact And.intro (fun (h : nI n ≤ nI j) => absurd h (nI_ge (a := j) (b := n) (by omega) hn)) (fun _ => And.intro hd.1 (And.intro (fun z => absurd z h1) (fun _ => hf)))
theorem hX8_drain (ln : sw_A) (k : Nat) (i n : Int32) (σ : sw_S) (h : (gX8_drain ln k i n σ).1) : ∃ fuel, wX8_drain ln (sw_end (gX8_drain ln k i n σ)) fuel 0 (sw_ent 4 [.inr (some (8, k)), .inl i, .inl n]) [] σ := by
  by_cases h1 : mo_is i = 0
  · exact ⟨20, And.intro trivial (And.intro (fun _ => sw_pe (if_pos h1)) (fun z => absurd h1 z))⟩
  · have h := h h1
    by_cases a1 : n < 0
    · exact ⟨20, And.intro trivial (And.intro (fun z => absurd z h1) (fun _ => And.intro (fun _ => sw_pe ((if_neg h1).trans (if_pos a1))) (fun z => absurd a1 z)))⟩
    · by_cases a2 : n ≤ 1000
      · obtain ⟨m, hm, rfl⟩ := nI_of a1
        rw [nI_clamp hm] at h
        obtain ⟨f, hf⟩ := hX8_drain_l ln k m i (gX8_drain ln k i (nI m) σ) hm m 0 σ (by omega) h (by
          show (some (Sum.inl (mo_dn k i (nI m) σ).1), (mo_dn k i (nI m) σ).2) = _
          unfold mo_dn
          rw [if_neg h1, if_neg a1, if_pos a2, nI_clamp hm, nI_0])
        refine ⟨f + 20, sw_ws_wp [22] f 20 _ _ _ _ ?_⟩
        exact And.intro trivial (And.intro (fun z => absurd z h1) (fun _ => And.intro (fun z => absurd z a1) (fun _ => And.intro (fun _ => hf) (fun z => absurd a2 z))))
      · exact ⟨20, And.intro trivial (And.intro (fun z => absurd z h1) (fun _ => And.intro (fun z => absurd z a1) (fun _ => And.intro (fun z => absurd z a2) (fun _ => sw_pe ((if_neg h1).trans ((if_neg a1).trans (if_neg a2)))))))⟩
set_option maxRecDepth 100000 in
theorem mX8_drain {l : Launch} {ad : sw_A} {V : Nat → Nat → Prop} {ln : sw_A} {ca : Nat → ClassId} {D : va_G} (hG : sw_wf ad V sw_rf ln) : sw_met l ad V sw_rf ln ca D yX8_drain cX8_drain 4 (some .int) { frames := 4, cells := 0, slots := 0, locals := 96 } 3 (fX8_drain ln) := by
  refine sw_meth hG (by decide) (by refine ⟨?_, ?_, ?_, ?_⟩ <;> intro h <;> first | rfl | exact ⟨_, rfl⟩ | exact absurd h (by decide)) (by decide) kX8_drain flX8_in cnX8_in ?_ (sw_foii_h (W := fun Q L σ => ∃ fuel, wX8_drain ln Q fuel 0 L [] σ) (fun a0 a1 a2 σ h => hX8_drain ln a0 a1 a2 σ h))
  intro p e s m args below meth c S hT hnw
  refine List.forall_mem_cons.mpr ⟨sw_cokS S hT hnw (mX8_isSide hG) 133 ⟨by decide +kernel, by decide +kernel, by decide +kernel, by decide +kernel⟩ ⟨rfl, by decide, by decide, by decide +kernel⟩ ⟨rfl, rfl⟩ ⟨by decide, by decide⟩, ?_⟩
  refine List.forall_mem_cons.mpr ⟨sw_cokV S hT hnw (mX8_pump hG) 180 8 (by decide) ⟨by decide +kernel, by decide +kernel, by decide +kernel, by decide +kernel, by decide +kernel⟩ ⟨rfl, by decide, by decide, by decide +kernel⟩ ⟨rfl, rfl⟩ ⟨by decide, by decide⟩, ?_⟩
  exact fun q h => absurd h List.not_mem_nil
end
section
/-! The reference: the frame's parts, losing, spoiling, telling -/
abbrev mo_kd (σ : sw_S) : Int32 := mi σ 38 0 &&& 7
abbrev mo_sn (σ : sw_S) : Int32 := sw_ushr (mi σ 38 0) 3 &&& 31
abbrev mo_ct (σ : sw_S) : Int32 := sw_ushr (mi σ 38 0) 24
def gX8_kind (ln : sw_A) (k : Nat) (σ : sw_S) : sw_X := (mo ln, some (.inl (mo_kd σ)), σ)
def fX8_kind (ln : sw_A) : sw_F := sw_fo 8 (gX8_kind ln)
def ctX8_kind (ln : sw_A) : sw_C := []
abbrev wX8_kind (ln : sw_A) (Q : Option sw_V → sw_S → Prop) : Nat → Nat → sw_L → List sw_V → sw_S → Prop := sw_wp sw_rf ln (ctX8_kind ln) sX8_kind 1 9 tX8_kind Q
theorem hX8_kind (ln : sw_A) (k : Nat) (σ : sw_S) (h : (gX8_kind ln k σ).1) : ∃ fuel, wX8_kind ln (sw_end (gX8_kind ln k σ)) fuel 0 (sw_ent 1 [.inr (some (8, k))]) [] σ :=
  ⟨20, And.intro (mo.i h (j := 38) rfl vp_0_19) ⟨rfl, rfl⟩⟩
set_option maxRecDepth 100000 in
theorem mX8_kind {l : Launch} {ad : sw_A} {V : Nat → Nat → Prop} {ln : sw_A} {ca : Nat → ClassId} {D : va_G} (hG : sw_wf ad V sw_rf ln) : sw_met l ad V sw_rf ln ca D yX8_kind cX8_kind 1 (some .int) { frames := 0, cells := 0, slots := 0, locals := 0 } 1 (fX8_kind ln) := by
  refine sw_meth hG (by decide) (by refine ⟨?_, ?_, ?_, ?_⟩ <;> intro h <;> first | rfl | exact ⟨_, rfl⟩ | exact absurd h (by decide)) (by decide) kX8_kind flX8_in cnX8_in ?_ (sw_fo_h (W := fun Q L σ => ∃ fuel, wX8_kind ln Q fuel 0 L [] σ) (fun a0 σ h => hX8_kind ln a0 σ h))
  intro p e s m args below meth c S hT hnw
  exact fun q h => absurd h List.not_mem_nil
def gX8_streamIn (ln : sw_A) (k : Nat) (σ : sw_S) : sw_X := (mo ln, some (.inl (mo_sn σ)), σ)
def fX8_streamIn (ln : sw_A) : sw_F := sw_fo 8 (gX8_streamIn ln)
def ctX8_streamIn (ln : sw_A) : sw_C := []
abbrev wX8_streamIn (ln : sw_A) (Q : Option sw_V → sw_S → Prop) : Nat → Nat → sw_L → List sw_V → sw_S → Prop := sw_wp sw_rf ln (ctX8_streamIn ln) sX8_streamIn 1 11 tX8_streamIn Q
theorem hX8_streamIn (ln : sw_A) (k : Nat) (σ : sw_S) (h : (gX8_streamIn ln k σ).1) : ∃ fuel, wX8_streamIn ln (sw_end (gX8_streamIn ln k σ)) fuel 0 (sw_ent 1 [.inr (some (8, k))]) [] σ :=
  ⟨20, And.intro (mo.i h (j := 38) rfl vp_0_19) ⟨rfl, rfl⟩⟩
set_option maxRecDepth 100000 in
theorem mX8_streamIn {l : Launch} {ad : sw_A} {V : Nat → Nat → Prop} {ln : sw_A} {ca : Nat → ClassId} {D : va_G} (hG : sw_wf ad V sw_rf ln) : sw_met l ad V sw_rf ln ca D yX8_streamIn cX8_streamIn 1 (some .int) { frames := 0, cells := 0, slots := 0, locals := 0 } 1 (fX8_streamIn ln) := by
  refine sw_meth hG (by decide) (by refine ⟨?_, ?_, ?_, ?_⟩ <;> intro h <;> first | rfl | exact ⟨_, rfl⟩ | exact absurd h (by decide)) (by decide) kX8_streamIn flX8_in cnX8_in ?_ (sw_fo_h (W := fun Q L σ => ∃ fuel, wX8_streamIn ln Q fuel 0 L [] σ) (fun a0 σ h => hX8_streamIn ln a0 σ h))
  intro p e s m args below meth c S hT hnw
  exact fun q h => absurd h List.not_mem_nil
def gX8_countIn (ln : sw_A) (k : Nat) (σ : sw_S) : sw_X := (mo ln, some (.inl (mo_ct σ)), σ)
def fX8_countIn (ln : sw_A) : sw_F := sw_fo 8 (gX8_countIn ln)
def ctX8_countIn (ln : sw_A) : sw_C := []
abbrev wX8_countIn (ln : sw_A) (Q : Option sw_V → sw_S → Prop) : Nat → Nat → sw_L → List sw_V → sw_S → Prop := sw_wp sw_rf ln (ctX8_countIn ln) sX8_countIn 1 9 tX8_countIn Q
theorem hX8_countIn (ln : sw_A) (k : Nat) (σ : sw_S) (h : (gX8_countIn ln k σ).1) : ∃ fuel, wX8_countIn ln (sw_end (gX8_countIn ln k σ)) fuel 0 (sw_ent 1 [.inr (some (8, k))]) [] σ :=
  ⟨20, And.intro (mo.i h (j := 38) rfl vp_0_19) ⟨rfl, rfl⟩⟩
set_option maxRecDepth 100000 in
theorem mX8_countIn {l : Launch} {ad : sw_A} {V : Nat → Nat → Prop} {ln : sw_A} {ca : Nat → ClassId} {D : va_G} (hG : sw_wf ad V sw_rf ln) : sw_met l ad V sw_rf ln ca D yX8_countIn cX8_countIn 1 (some .int) { frames := 0, cells := 0, slots := 0, locals := 0 } 1 (fX8_countIn ln) := by
  refine sw_meth hG (by decide) (by refine ⟨?_, ?_, ?_, ?_⟩ <;> intro h <;> first | rfl | exact ⟨_, rfl⟩ | exact absurd h (by decide)) (by decide) kX8_countIn flX8_in cnX8_in ?_ (sw_fo_h (W := fun Q L σ => ∃ fuel, wX8_countIn ln Q fuel 0 L [] σ) (fun a0 σ h => hX8_countIn ln a0 σ h))
  intro p e s m args below meth c S hT hnw
  exact fun q h => absurd h List.not_mem_nil
theorem vp_1_19 : vp_in 1 19 := vp_in_nI (n := 1) (by decide) (by decide)
def mo_cb (x : Int32) (σ : sw_S) : Int32 := if mi σ 6 x = 0 then 0 else if mb σ 7 x = 0 then 1 else 0
def mo_ca (k : Nat) (x : Int32) (σ : sw_S) : Int32 :=
  if mo_kd σ = 1 then (if mi σ 6 x = 0 then 0 else if mb σ 7 x = 0 then (if σ 8 k 5 - mi σ 19 x - mi σ 9 x < mo_ct σ then 0 else 1) else 0)
  else if mo_kd σ = 2 then (if mi σ 6 x = 0 then 0 else if σ 8 k 5 - mi σ 8 x < mi σ 38 1 then 0 else 1)
  else if mo_kd σ = 3 then (if mb σ 13 x = 0 then 1 else 0)
  else if mo_kd σ = 4 then mo_cb x σ
  else (if mb σ 13 x = 0 then 1 else 0)
def gX8_canBe (ln : sw_A) (k : Nat) (i : Int32) (σ : sw_S) : sw_X := (mo ln ∧ vp_in (mo_ix i (mo_sn σ)) 16, some (.inl (mo_ca k (mo_ix i (mo_sn σ)) σ)), σ)
def fX8_canBe (ln : sw_A) : sw_F := sw_foi 8 (gX8_canBe ln)
def ctX8_canBe (ln : sw_A) : sw_C := [(190, 1, 9, fX8_streamIn ln), (183, 1, 9, fX8_kind ln), (187, 1, 9, fX8_countIn ln)]
abbrev wX8_canBe (ln : sw_A) (Q : Option sw_V → sw_S → Prop) : Nat → Nat → sw_L → List sw_V → sw_S → Prop := sw_wp sw_rf ln (ctX8_canBe ln) sX8_canBe 2 166 tX8_canBe Q
theorem hX8_canBe (ln : sw_A) (k : Nat) (i : Int32) (σ : sw_S) (h : (gX8_canBe ln k i σ).1) : ∃ fuel, wX8_canBe ln (sw_end (gX8_canBe ln k i σ)) fuel 0 (sw_ent 3 [.inr (some (8, k)), .inl i]) [] σ := by
  obtain ⟨hm, hx⟩ := h
  obtain ⟨x, hxe⟩ : ∃ x, x = mo_ix i (mo_sn σ) := ⟨_, rfl⟩
  rw [← hxe] at hx
  have v6 := hm.i (j := 6) rfl hx
  have v7 := hm.z (j := 7) rfl hx
  have v9 := hm.i (j := 9) rfl hx
  have v8 := hm.i (j := 8) rfl hx
  have v19 := hm.i (j := 19) rfl hx
  have v13 := hm.z (j := 13) rfl hx
  have w1 := hm.i (j := 38) rfl vp_1_19
  have key : ∃ M, wX8_canBe ln (sw_end (gX8_canBe ln k i σ)) M 10 [some (.inr (some (8, k))), some (.inl i), some (.inl x)] [] σ := by
    have he : (gX8_canBe ln k i σ).2 = (some (.inl (mo_ca k x σ)), σ) := by rw [hxe]; rfl
    refine ⟨60, And.intro hm (And.intro (fun (h1 : mo_kd σ = 1) => ?_) (fun (n1 : ¬ mo_kd σ = 1) => And.intro (fun (h2 : mo_kd σ = 2) => ?_) (fun (n2 : ¬ mo_kd σ = 2) => And.intro (fun (h3 : mo_kd σ = 3) => ?_) (fun (n3 : ¬ mo_kd σ = 3) => And.intro (fun (h4 : mo_kd σ = 4) => ?_) (fun (n4 : ¬ mo_kd σ = 4) => ?_)))))⟩
    · refine And.intro v6 (And.intro (fun (a1 : mi σ 6 x = 0) => ⟨Or.inl rfl, ?_⟩) (fun (a1 : ¬ mi σ 6 x = 0) => And.intro v7 (And.intro (fun (a2 : ¬ mb σ 7 x = 0) => ⟨Or.inl rfl, ?_⟩) (fun (a2 : mb σ 7 x = 0) => And.intro hm (And.intro v19 (And.intro v9 (And.intro (fun (a3 : σ 8 k 5 - mi σ 19 x - mi σ 9 x < mo_ct σ) => ⟨Or.inl rfl, ?_⟩) (fun (a3 : ¬ σ 8 k 5 - mi σ 19 x - mi σ 9 x < mo_ct σ) => ⟨Or.inr rfl, ?_⟩))))))))
      · show some _ = (gX8_canBe ln k i σ).2.1 ∧ σ = (gX8_canBe ln k i σ).2.2
        rw [he]; unfold mo_ca; rw [if_pos h1, if_pos a1]; exact ⟨rfl, rfl⟩
      · show some _ = (gX8_canBe ln k i σ).2.1 ∧ σ = (gX8_canBe ln k i σ).2.2
        rw [he]; unfold mo_ca; rw [if_pos h1, if_neg a1, if_neg a2]; exact ⟨rfl, rfl⟩
      · show some _ = (gX8_canBe ln k i σ).2.1 ∧ σ = (gX8_canBe ln k i σ).2.2
        rw [he]; unfold mo_ca; rw [if_pos h1, if_neg a1, if_pos a2, if_pos a3]; exact ⟨rfl, rfl⟩
      · show some _ = (gX8_canBe ln k i σ).2.1 ∧ σ = (gX8_canBe ln k i σ).2.2
        rw [he]; unfold mo_ca; rw [if_pos h1, if_neg a1, if_pos a2, if_neg a3]; exact ⟨rfl, rfl⟩
    · refine And.intro v6 (And.intro (fun (a1 : mi σ 6 x = 0) => ⟨Or.inl rfl, ?_⟩) (fun (a1 : ¬ mi σ 6 x = 0) => And.intro w1 (And.intro v8 (And.intro (fun (a3 : σ 8 k 5 - mi σ 8 x < mi σ 38 1) => ⟨Or.inl rfl, ?_⟩) (fun (a3 : ¬ σ 8 k 5 - mi σ 8 x < mi σ 38 1) => ⟨Or.inr rfl, ?_⟩)))))
      · show some _ = (gX8_canBe ln k i σ).2.1 ∧ σ = (gX8_canBe ln k i σ).2.2
        rw [he]; unfold mo_ca; rw [if_neg n1, if_pos h2, if_pos a1]; exact ⟨rfl, rfl⟩
      · show some _ = (gX8_canBe ln k i σ).2.1 ∧ σ = (gX8_canBe ln k i σ).2.2
        rw [he]; unfold mo_ca; rw [if_neg n1, if_pos h2, if_neg a1, if_pos a3]; exact ⟨rfl, rfl⟩
      · show some _ = (gX8_canBe ln k i σ).2.1 ∧ σ = (gX8_canBe ln k i σ).2.2
        rw [he]; unfold mo_ca; rw [if_neg n1, if_pos h2, if_neg a1, if_neg a3]; exact ⟨rfl, rfl⟩
    · refine And.intro v13 (And.intro (fun (a1 : ¬ mb σ 13 x = 0) => ⟨Or.inl rfl, ?_⟩) (fun (a1 : mb σ 13 x = 0) => ⟨Or.inr rfl, ?_⟩))
      · show some _ = (gX8_canBe ln k i σ).2.1 ∧ σ = (gX8_canBe ln k i σ).2.2
        rw [he]; unfold mo_ca; rw [if_neg n1, if_neg n2, if_pos h3, if_neg a1]; exact ⟨rfl, rfl⟩
      · show some _ = (gX8_canBe ln k i σ).2.1 ∧ σ = (gX8_canBe ln k i σ).2.2
        rw [he]; unfold mo_ca; rw [if_neg n1, if_neg n2, if_pos h3, if_pos a1]; exact ⟨rfl, rfl⟩
    · refine And.intro v6 (And.intro (fun (a1 : mi σ 6 x = 0) => ⟨Or.inl rfl, ?_⟩) (fun (a1 : ¬ mi σ 6 x = 0) => And.intro v7 (And.intro (fun (a2 : ¬ mb σ 7 x = 0) => ⟨Or.inl rfl, ?_⟩) (fun (a2 : mb σ 7 x = 0) => ⟨Or.inr rfl, ?_⟩))))
      · show some _ = (gX8_canBe ln k i σ).2.1 ∧ σ = (gX8_canBe ln k i σ).2.2
        rw [he]; unfold mo_ca mo_cb; rw [if_neg n1, if_neg n2, if_neg n3, if_pos h4, if_pos a1]; exact ⟨rfl, rfl⟩
      · show some _ = (gX8_canBe ln k i σ).2.1 ∧ σ = (gX8_canBe ln k i σ).2.2
        rw [he]; unfold mo_ca mo_cb; rw [if_neg n1, if_neg n2, if_neg n3, if_pos h4, if_neg a1, if_neg a2]; exact ⟨rfl, rfl⟩
      · show some _ = (gX8_canBe ln k i σ).2.1 ∧ σ = (gX8_canBe ln k i σ).2.2
        rw [he]; unfold mo_ca mo_cb; rw [if_neg n1, if_neg n2, if_neg n3, if_pos h4, if_neg a1, if_pos a2]; exact ⟨rfl, rfl⟩
    · refine And.intro v13 (And.intro (fun (a1 : ¬ mb σ 13 x = 0) => ⟨Or.inl rfl, ?_⟩) (fun (a1 : mb σ 13 x = 0) => ⟨Or.inr rfl, ?_⟩))
      · show some _ = (gX8_canBe ln k i σ).2.1 ∧ σ = (gX8_canBe ln k i σ).2.2
        rw [he]; unfold mo_ca; rw [if_neg n1, if_neg n2, if_neg n3, if_neg n4, if_neg a1]; exact ⟨rfl, rfl⟩
      · show some _ = (gX8_canBe ln k i σ).2.1 ∧ σ = (gX8_canBe ln k i σ).2.2
        rw [he]; unfold mo_ca; rw [if_neg n1, if_neg n2, if_neg n3, if_neg n4, if_pos a1]; exact ⟨rfl, rfl⟩
  obtain ⟨M, key⟩ := key
  refine ⟨M + 20, sw_ws_wp [10] M 20 _ _ _ _ ?_⟩
  rw [hxe] at key
  exact And.intro hm key
set_option maxRecDepth 100000 in
theorem mX8_canBe {l : Launch} {ad : sw_A} {V : Nat → Nat → Prop} {ln : sw_A} {ca : Nat → ClassId} {D : va_G} (hG : sw_wf ad V sw_rf ln) : sw_met l ad V sw_rf ln ca D yX8_canBe cX8_canBe 3 (some .boolean) { frames := 1, cells := 0, slots := 0, locals := 20 } 2 (fX8_canBe ln) := by
  refine sw_meth hG (by decide) (by refine ⟨?_, ?_, ?_, ?_⟩ <;> intro h <;> first | rfl | exact ⟨_, rfl⟩ | exact absurd h (by decide)) (by decide) kX8_canBe flX8_in cnX8_in ?_ (sw_foi_h (W := fun Q L σ => ∃ fuel, wX8_canBe ln Q fuel 0 L [] σ) (fun a0 a1 σ h => hX8_canBe ln a0 a1 σ h))
  intro p e s m args below meth c S hT hnw
  refine List.forall_mem_cons.mpr ⟨sw_cokV S hT hnw (mX8_streamIn hG) 190 8 (by decide) ⟨by decide +kernel, by decide +kernel, by decide +kernel, by decide +kernel, by decide +kernel⟩ ⟨rfl, by decide, by decide, by decide +kernel⟩ ⟨rfl, rfl⟩ ⟨by decide, by decide⟩, ?_⟩
  refine List.forall_mem_cons.mpr ⟨sw_cokV S hT hnw (mX8_kind hG) 183 8 (by decide) ⟨by decide +kernel, by decide +kernel, by decide +kernel, by decide +kernel, by decide +kernel⟩ ⟨rfl, by decide, by decide, by decide +kernel⟩ ⟨rfl, rfl⟩ ⟨by decide, by decide⟩, ?_⟩
  refine List.forall_mem_cons.mpr ⟨sw_cokV S hT hnw (mX8_countIn hG) 187 8 (by decide) ⟨by decide +kernel, by decide +kernel, by decide +kernel, by decide +kernel, by decide +kernel⟩ ⟨rfl, by decide, by decide, by decide +kernel⟩ ⟨rfl, rfl⟩ ⟨by decide, by decide⟩, ?_⟩
  exact fun q h => absurd h List.not_mem_nil
def mo_ti (x : Int32) (n : Nat) (a : sw_S) : sw_S := mis a 20 (400 * x + mi a 19 x) (mi a 38 (2 + nI n))
def mo_tm (n : Nat) (a : sw_S) : Int32 := if mi a 38 1 >>> (nI n &&& 31) &&& 1 = 1 then 1 else 0
def mo_tj (x : Int32) (n : Nat) (a : sw_S) : sw_S := mbs a 21 (400 * x + mi a 19 x) (mo_tm n a)
def mo_tk (x : Int32) (a : sw_S) : sw_S := mis a 19 x (mi a 19 x + 1)
def mo_tl (x : Int32) : Nat → sw_S → sw_S
  | 0, σ => σ
  | n + 1, σ => mo_tk x (mo_tj x n (mo_ti x n (mo_tl x n σ)))
theorem mo_tl_k (x : Int32) {c k' : Nat} (h1 : ¬ (c = 15 ∧ k' = 19)) (h2 : ¬ (c = 15 ∧ k' = 20)) (h3 : ¬ (c = 16 ∧ k' = 21)) (j' : Nat) : ∀ (n : Nat) (σ : sw_S), mo_tl x n σ c k' j' = σ c k' j'
  | 0, _ => rfl
  | n + 1, σ => (if_neg (fun z => h1 ⟨z.1, z.2.1⟩)).trans ((if_neg (fun z => h3 ⟨z.1, z.2.1⟩)).trans ((if_neg (fun z => h2 ⟨z.1, z.2.1⟩)).trans (mo_tl_k x h1 h2 h3 j' n σ)))
theorem mo_tl_19 (x : Int32) (q : Nat) : ∀ (n : Nat) (σ : sw_S), mi σ 19 x = nI q → mi (mo_tl x n σ) 19 x = nI (q + n)
  | 0, _, h => h
  | n + 1, σ, h => by
    show mi (mo_tk x (mo_tj x n (mo_ti x n (mo_tl x n σ)))) 19 x = _
    rw [show mi (mo_tk x (mo_tj x n (mo_ti x n (mo_tl x n σ)))) 19 x = mi (mo_tj x n (mo_ti x n (mo_tl x n σ))) 19 x + 1 from sw_upe _ _ _ _ _, show mi (mo_tj x n (mo_ti x n (mo_tl x n σ))) 19 x = mi (mo_ti x n (mo_tl x n σ)) 19 x from sw_upk _ (by decide), show mi (mo_ti x n (mo_tl x n σ)) 19 x = mi (mo_tl x n σ) 19 x from sw_upi _ (by decide), mo_tl_19 x q n σ h, nI_1]
    rfl
def mo_te (k : Nat) (x : Int32) (a : sw_S) : sw_S := if mi (mbs a 13 x 1) 6 x = 0 then mo_be k x (mbs a 13 x 1) else mbs a 13 x 1
def mo_ta (k : Nat) (x : Int32) (σ : sw_S) : sw_S :=
  if mo_kd σ = 1 then mo_tl x (mo_ct σ).toNatClampNeg σ
  else if mo_kd σ = 2 then mis σ 8 x (mi σ 8 x + mi σ 38 1)
  else if mo_kd σ = 3 then mo_te k x σ
  else if mo_kd σ = 4 then mbs σ 7 x 1
  else mo_te k x σ
def gX8_take (ln : sw_A) (k : Nat) (i : Int32) (σ : sw_S) : sw_X := (mo ln ∧ vp_in (mo_ix i (mo_sn σ)) 16 ∧ (mo_kd σ = 1 → ∃ q n : Nat, mi σ 19 (mo_ix i (mo_sn σ)) = nI q ∧ mo_ct σ = nI n ∧ n ≤ 16 ∧ ∀ j, j < n → vp_in (mo_rx (mo_ix i (mo_sn σ)) (q + j)) 6400), none, mo_ta k (mo_ix i (mo_sn σ)) σ)
def fX8_take (ln : sw_A) : sw_F := sw_foi 8 (gX8_take ln)
def ctX8_take (ln : sw_A) : sw_C := [(190, 1, 9, fX8_streamIn ln), (183, 1, 9, fX8_kind ln), (187, 1, 9, fX8_countIn ln), (141, 2, 9, fX8_begin ln)]
abbrev wX8_take (ln : sw_A) (Q : Option sw_V → sw_S → Prop) : Nat → Nat → sw_L → List sw_V → sw_S → Prop := sw_wp sw_rf ln (ctX8_take ln) sX8_take 0 183 tX8_take Q
theorem hX8_take_l (ln : sw_A) (k q n : Nat) (i x : Int32) (σ : sw_S) (X : sw_X) (hm : mo ln) (hx : vp_in x 16) (hq : mi σ 19 x = nI q) (hc : mo_ct σ = nI n) (hn : n ≤ 16) (hb : ∀ j, j < n → vp_in (mo_rx x (q + j)) 6400) (hX : X.2 = (none, mo_tl x n σ)) : ∀ (d j : Nat), j + d = n → ∃ fuel, wX8_take ln (sw_end X) fuel 46 [some (.inr (some (8, k))), some (.inl i), some (.inl x), some (.inl (nI j))] [] (mo_tl x j σ) := by
  intro d
  induction d with
  | zero =>
    intro j hj
    have hj : j = n := by omega
    subst hj
    have hl : mo_ct (mo_tl x j σ) = nI j := by
      show sw_ushr (mo_tl x j σ 15 38 _) 24 = _
      rw [mo_tl_k x (by decide) (by decide) (by decide)]
      exact hc
    refine ⟨40, And.intro hm (And.intro (fun _ => ?_) (fun (h : ¬ mo_ct (mo_tl x j σ) ≤ nI j) => absurd (by rw [hl]; exact Int32.le_refl _) h))⟩
    show none = X.2.1 ∧ mo_tl x j σ = X.2.2
    rw [hX]
    exact ⟨rfl, rfl⟩
  | succ d ih =>
    intro j hj
    have hl : mo_ct (mo_tl x j σ) = nI n := by
      show sw_ushr (mo_tl x j σ 15 38 _) 24 = _
      rw [mo_tl_k x (by decide) (by decide) (by decide)]
      exact hc
    obtain ⟨a, ha⟩ : ∃ a, a = mo_tl x j σ := ⟨_, rfl⟩
    have e19 : mi a 19 x = nI (q + j) := by rw [ha]; exact mo_tl_19 x q j σ hq
    have b1 : vp_in (400 * x + mi a 19 x) 6400 := by rw [e19]; exact hb j (by omega)
    have b2 : vp_in (400 * x + mi (mo_ti x j a) 19 x) 6400 := by rw [show mi (mo_ti x j a) 19 x = mi a 19 x from sw_upi _ (by decide)]; exact b1
    have v19 := hm.i (j := 19) rfl hx
    have v2 : vp_in (2 + nI j) 19 := by
      rw [show (2 : Int32) + nI j = nI (2 + j) from nI_add 2 j]
      exact vp_in_nI (by omega) (by decide)
    have w1 := hm.i (j := 38) rfl vp_1_19
    obtain ⟨f, hf⟩ := ih (j + 1) (by omega)
    rw [← nI_1] at hf
    have hct : ¬ mo_ct a ≤ nI j := by rw [ha, hl]; exact nI_ge (by omega) (by omega)
    have k114 : ∃ M, ∀ v, v = mo_tm j (mo_ti x j a) → wX8_take ln (sw_end X) M 114 [some (.inr (some (8, k))), some (.inl i), some (.inl x), some (.inl (nI j))] [.inl v, .inl (400 * x + mi (mo_ti x j a) 19 x), .inr (some (16, 21))] (mo_ti x j a) := by
      refine ⟨f + 30, fun v hv => sw_ws_wp [46] f 30 _ _ _ _ ?_⟩
      subst hv
      rw [ha] at b2 ⊢
      refine And.intro (hm.z (j := 21) rfl b2) (And.intro ?_ (And.intro v19 (And.intro v19 hf)))
      show sw_bo (mo_tm j _)
      unfold mo_tm
      split
      · exact Or.inr rfl
      · exact Or.inl rfl
    obtain ⟨M, k114⟩ := k114
    rw [← ha]
    refine ⟨M + 60, sw_ws_wp [114] M 60 _ _ _ _ ?_⟩
    exact And.intro hm (And.intro (fun h => absurd h hct) (fun _ => And.intro v19 (And.intro (hm.i (j := 38) rfl v2) (And.intro (hm.i (j := 20) rfl b1) (And.intro v19 (And.intro w1 (And.intro (fun (a1 : ¬ mi (mo_ti x j a) 38 1 >>> (nI j &&& 31) &&& 1 = 1) => k114 _ (if_neg a1).symm) (fun (a1 : mi (mo_ti x j a) 38 1 >>> (nI j &&& 31) &&& 1 = 1) => k114 _ (if_pos a1).symm))))))))
theorem hX8_take (ln : sw_A) (k : Nat) (i : Int32) (σ : sw_S) (h : (gX8_take ln k i σ).1) : ∃ fuel, wX8_take ln (sw_end (gX8_take ln k i σ)) fuel 0 (sw_ent 4 [.inr (some (8, k)), .inl i]) [] σ := by
  obtain ⟨hm, hx, hd⟩ := h
  obtain ⟨x, hxe⟩ : ∃ x, x = mo_ix i (mo_sn σ) := ⟨_, rfl⟩
  rw [← hxe] at hx hd
  have he : (gX8_take ln k i σ).2 = (none, mo_ta k x σ) := by rw [hxe]; rfl
  have v6 := hm.i (j := 6) rfl hx
  have v7 := hm.z (j := 7) rfl hx
  have v8 := hm.i (j := 8) rfl hx
  have v13 := hm.z (j := 13) rfl hx
  have w1 := hm.i (j := 38) rfl vp_1_19
  have fin : ∀ b, b = mo_ta k x σ → none = (gX8_take ln k i σ).2.1 ∧ b = (gX8_take ln k i σ).2.2 := fun b hb => by rw [he, hb]; exact ⟨rfl, rfl⟩
  have key : ∃ M, wX8_take ln (sw_end (gX8_take ln k i σ)) M 10 [some (.inr (some (8, k))), some (.inl i), some (.inl x), none] [] σ := by
    by_cases h1 : mo_kd σ = 1
    · obtain ⟨q, n, hq, hc, hn, hb⟩ := hd h1
      obtain ⟨f, hf⟩ := hX8_take_l ln k q n i x σ (gX8_take ln k i σ) hm hx hq hc hn hb (by
        rw [he]
        unfold mo_ta
        rw [if_pos h1]
        show (none, mo_tl x (mo_ct σ).toNatClampNeg σ) = _
        rw [hc, nI_clamp (by omega)]) n 0 (by omega)
      refine ⟨f + 30, sw_ws_wp [46] f 30 _ _ _ _ ?_⟩
      exact And.intro hm (And.intro (fun _ => hf) (fun z => absurd h1 z))
    · refine ⟨60, And.intro hm (And.intro (fun z => absurd z h1) (fun _ => And.intro (fun (h2 : mo_kd σ = 2) => And.intro v8 (And.intro w1 (And.intro v8 (fin _ ?_)))) (fun (n2 : ¬ mo_kd σ = 2) => And.intro (fun (h3 : mo_kd σ = 3) => And.intro v13 (And.intro (Or.inr rfl) (And.intro v6 (And.intro (fun (a1 : ¬ mi (mbs σ 13 x 1) 6 x = 0) => fin _ ?_) (fun (a1 : mi (mbs σ 13 x 1) 6 x = 0) => And.intro ⟨hm, hx⟩ (fin _ ?_)))))) (fun (n3 : ¬ mo_kd σ = 3) => And.intro (fun (h4 : mo_kd σ = 4) => And.intro v7 (And.intro (Or.inr rfl) (fin _ ?_))) (fun (n4 : ¬ mo_kd σ = 4) => And.intro v13 (And.intro (Or.inr rfl) (And.intro v6 (And.intro (fun (a1 : ¬ mi (mbs σ 13 x 1) 6 x = 0) => fin _ ?_) (fun (a1 : mi (mbs σ 13 x 1) 6 x = 0) => And.intro ⟨hm, hx⟩ (fin _ ?_))))))))))⟩
      · unfold mo_ta; rw [if_neg h1, if_pos h2]; rfl
      · unfold mo_ta mo_te; rw [if_neg h1, if_neg n2, if_pos h3, if_neg a1]; rfl
      · unfold mo_ta mo_te; rw [if_neg h1, if_neg n2, if_pos h3, if_pos a1]; rfl
      · unfold mo_ta; rw [if_neg h1, if_neg n2, if_neg n3, if_pos h4]; rfl
      · unfold mo_ta mo_te; rw [if_neg h1, if_neg n2, if_neg n3, if_neg n4, if_neg a1]; rfl
      · unfold mo_ta mo_te; rw [if_neg h1, if_neg n2, if_neg n3, if_neg n4, if_pos a1]; rfl
  obtain ⟨M, key⟩ := key
  refine ⟨M + 20, sw_ws_wp [10] M 20 _ _ _ _ ?_⟩
  rw [hxe] at key
  exact And.intro hm key
set_option maxRecDepth 100000 in
theorem mX8_take {l : Launch} {ad : sw_A} {V : Nat → Nat → Prop} {ln : sw_A} {ca : Nat → ClassId} {D : va_G} (hG : sw_wf ad V sw_rf ln) : sw_met l ad V sw_rf ln ca D yX8_take cX8_take 4 none { frames := 1, cells := 0, slots := 0, locals := 21 } 2 (fX8_take ln) := by
  refine sw_meth hG (by decide) (by refine ⟨?_, ?_, ?_, ?_⟩ <;> intro h <;> first | rfl | exact ⟨_, rfl⟩ | exact absurd h (by decide)) (by decide) kX8_take flX8_in cnX8_in ?_ (sw_foi_h (W := fun Q L σ => ∃ fuel, wX8_take ln Q fuel 0 L [] σ) (fun a0 a1 σ h => hX8_take ln a0 a1 σ h))
  intro p e s m args below meth c S hT hnw
  refine List.forall_mem_cons.mpr ⟨sw_cokV S hT hnw (mX8_streamIn hG) 190 8 (by decide) ⟨by decide +kernel, by decide +kernel, by decide +kernel, by decide +kernel, by decide +kernel⟩ ⟨rfl, by decide, by decide, by decide +kernel⟩ ⟨rfl, rfl⟩ ⟨by decide, by decide⟩, ?_⟩
  refine List.forall_mem_cons.mpr ⟨sw_cokV S hT hnw (mX8_kind hG) 183 8 (by decide) ⟨by decide +kernel, by decide +kernel, by decide +kernel, by decide +kernel, by decide +kernel⟩ ⟨rfl, by decide, by decide, by decide +kernel⟩ ⟨rfl, rfl⟩ ⟨by decide, by decide⟩, ?_⟩
  refine List.forall_mem_cons.mpr ⟨sw_cokV S hT hnw (mX8_countIn hG) 187 8 (by decide) ⟨by decide +kernel, by decide +kernel, by decide +kernel, by decide +kernel, by decide +kernel⟩ ⟨rfl, by decide, by decide, by decide +kernel⟩ ⟨rfl, rfl⟩ ⟨by decide, by decide⟩, ?_⟩
  refine List.forall_mem_cons.mpr ⟨sw_cokV S hT hnw (mX8_begin hG) 141 8 (by decide) ⟨by decide +kernel, by decide +kernel, by decide +kernel, by decide +kernel, by decide +kernel⟩ ⟨rfl, by decide, by decide, by decide +kernel⟩ ⟨rfl, rfl⟩ ⟨by decide, by decide⟩, ?_⟩
  exact fun q h => absurd h List.not_mem_nil
end
