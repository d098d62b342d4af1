section
-- ===== PART A: goes FIRST, ahead of the names: the tables' words, and 'selects' of the private methods out of them =====
/-- a private method of a class that the tables say can be made, by its rows of tables_1 -/
def lw_okq (q : MethodName × Nat) : Prop := (q.1.cls ≠ "java/lang/invoke/MethodHandle" ∧ q.1.cls ≠ "java/lang/invoke/VarHandle") ∧ Cond.instantiable q.1.cls q.2 ∈ tables_1 ∧ Cond.privateMethod q.1 ∈ tables_1 ∧ Cond.instanceMethod q.1 ∈ tables_1
theorem lw_p0 : lw_okq (⟨"StreamWires", "flowAt", "(II)LStreamWires$Flow;"⟩, 2) := ⟨⟨by decide +kernel, by decide +kernel⟩, List.mem_of_getElem? (i := 12) (by decide +kernel), List.mem_of_getElem? (i := 264) (by decide +kernel), List.mem_of_getElem? (i := 265) (by decide +kernel)⟩
theorem lw_p1 : lw_okq (⟨"StreamWires", "sideAt", "(I)LStreamWires$Side;"⟩, 2) := ⟨⟨by decide +kernel, by decide +kernel⟩, List.mem_of_getElem? (i := 12) (by decide +kernel), List.mem_of_getElem? (i := 268) (by decide +kernel), List.mem_of_getElem? (i := 269) (by decide +kernel)⟩
theorem lw_p2 : lw_okq (⟨"StreamWires$Flow", "becomeOpen", "()V"⟩, 13) := ⟨⟨by decide +kernel, by decide +kernel⟩, List.mem_of_getElem? (i := 93) (by decide +kernel), List.mem_of_getElem? (i := 280) (by decide +kernel), List.mem_of_getElem? (i := 281) (by decide +kernel)⟩
theorem lw_p3 : lw_okq (⟨"StreamWires", "putItem", "(IIIZ)I"⟩, 2) := ⟨⟨by decide +kernel, by decide +kernel⟩, List.mem_of_getElem? (i := 12) (by decide +kernel), List.mem_of_getElem? (i := 288) (by decide +kernel), List.mem_of_getElem? (i := 289) (by decide +kernel)⟩
theorem lw_p4 : lw_okq (⟨"StreamWires$Side", "freeCells", "()I"⟩, 15) := ⟨⟨by decide +kernel, by decide +kernel⟩, List.mem_of_getElem? (i := 64) (by decide +kernel), List.mem_of_getElem? (i := 296) (by decide +kernel), List.mem_of_getElem? (i := 297) (by decide +kernel)⟩
theorem lw_p5 : lw_okq (⟨"StreamWires$Side", "itemsOut", "()I"⟩, 15) := ⟨⟨by decide +kernel, by decide +kernel⟩, List.mem_of_getElem? (i := 64) (by decide +kernel), List.mem_of_getElem? (i := 300) (by decide +kernel), List.mem_of_getElem? (i := 301) (by decide +kernel)⟩
theorem lw_p6 : lw_okq (⟨"StreamWires$Frames", "slotAt", "(I)LStreamWires$Frame;"⟩, 3) := ⟨⟨by decide +kernel, by decide +kernel⟩, List.mem_of_getElem? (i := 167) (by decide +kernel), List.mem_of_getElem? (i := 312) (by decide +kernel), List.mem_of_getElem? (i := 313) (by decide +kernel)⟩
theorem lw_p7 : lw_okq (⟨"StreamWires$Cells", "holds", "(I)Z"⟩, 4) := ⟨⟨by decide +kernel, by decide +kernel⟩, List.mem_of_getElem? (i := 70) (by decide +kernel), List.mem_of_getElem? (i := 337) (by decide +kernel), List.mem_of_getElem? (i := 338) (by decide +kernel)⟩
theorem lw_p8 : lw_okq (⟨"StreamWires$Side", "streamToGrant", "()I"⟩, 15) := ⟨⟨by decide +kernel, by decide +kernel⟩, List.mem_of_getElem? (i := 64) (by decide +kernel), List.mem_of_getElem? (i := 418) (by decide +kernel), List.mem_of_getElem? (i := 419) (by decide +kernel)⟩
theorem lw_p9 : lw_okq (⟨"StreamWires$Side", "sendGrant", "(I)V"⟩, 15) := ⟨⟨by decide +kernel, by decide +kernel⟩, List.mem_of_getElem? (i := 64) (by decide +kernel), List.mem_of_getElem? (i := 422) (by decide +kernel), List.mem_of_getElem? (i := 423) (by decide +kernel)⟩
theorem lw_p10 : lw_okq (⟨"StreamWires$Side", "beginNumbered", "(III)V"⟩, 15) := ⟨⟨by decide +kernel, by decide +kernel⟩, List.mem_of_getElem? (i := 64) (by decide +kernel), List.mem_of_getElem? (i := 427) (by decide +kernel), List.mem_of_getElem? (i := 428) (by decide +kernel)⟩
theorem lw_p11 : lw_okq (⟨"StreamWires$Side", "sendNumbered", "()V"⟩, 15) := ⟨⟨by decide +kernel, by decide +kernel⟩, List.mem_of_getElem? (i := 64) (by decide +kernel), List.mem_of_getElem? (i := 444) (by decide +kernel), List.mem_of_getElem? (i := 445) (by decide +kernel)⟩
theorem lw_p12 : lw_okq (⟨"StreamWires$Frame", "sumBefore", "(I)I"⟩, 2) := ⟨⟨by decide +kernel, by decide +kernel⟩, List.mem_of_getElem? (i := 179) (by decide +kernel), List.mem_of_getElem? (i := 452) (by decide +kernel), List.mem_of_getElem? (i := 453) (by decide +kernel)⟩
theorem lw_p13 : lw_okq (⟨"StreamWires$Side", "sendDraft", "()V"⟩, 15) := ⟨⟨by decide +kernel, by decide +kernel⟩, List.mem_of_getElem? (i := 64) (by decide +kernel), List.mem_of_getElem? (i := 467) (by decide +kernel), List.mem_of_getElem? (i := 468) (by decide +kernel)⟩
theorem lw_p14 : lw_okq (⟨"StreamWires$Side", "streamToSend", "()I"⟩, 15) := ⟨⟨by decide +kernel, by decide +kernel⟩, List.mem_of_getElem? (i := 64) (by decide +kernel), List.mem_of_getElem? (i := 471) (by decide +kernel), List.mem_of_getElem? (i := 472) (by decide +kernel)⟩
theorem lw_p15 : lw_okq (⟨"StreamWires$Side", "streamAfter", "(I)I"⟩, 15) := ⟨⟨by decide +kernel, by decide +kernel⟩, List.mem_of_getElem? (i := 64) (by decide +kernel), List.mem_of_getElem? (i := 480) (by decide +kernel), List.mem_of_getElem? (i := 481) (by decide +kernel)⟩
def lw_privs_1 : List (MethodName × Nat) := [(⟨"StreamWires", "flowAt", "(II)LStreamWires$Flow;"⟩, 2), (⟨"StreamWires", "sideAt", "(I)LStreamWires$Side;"⟩, 2), (⟨"StreamWires$Flow", "becomeOpen", "()V"⟩, 13), (⟨"StreamWires", "putItem", "(IIIZ)I"⟩, 2), (⟨"StreamWires$Side", "freeCells", "()I"⟩, 15), (⟨"StreamWires$Side", "itemsOut", "()I"⟩, 15), (⟨"StreamWires$Frames", "slotAt", "(I)LStreamWires$Frame;"⟩, 3), (⟨"StreamWires$Cells", "holds", "(I)Z"⟩, 4), (⟨"StreamWires$Side", "streamToGrant", "()I"⟩, 15), (⟨"StreamWires$Side", "sendGrant", "(I)V"⟩, 15), (⟨"StreamWires$Side", "beginNumbered", "(III)V"⟩, 15), (⟨"StreamWires$Side", "sendNumbered", "()V"⟩, 15), (⟨"StreamWires$Frame", "sumBefore", "(I)I"⟩, 2), (⟨"StreamWires$Side", "sendDraft", "()V"⟩, 15), (⟨"StreamWires$Side", "streamToSend", "()I"⟩, 15), (⟨"StreamWires$Side", "streamAfter", "(I)I"⟩, 15)]
theorem lw_r1 : ∀ q ∈ lw_privs_1, lw_okq q := List.forall_mem_cons.mpr ⟨lw_p0, List.forall_mem_cons.mpr ⟨lw_p1, List.forall_mem_cons.mpr ⟨lw_p2, List.forall_mem_cons.mpr ⟨lw_p3, List.forall_mem_cons.mpr ⟨lw_p4, List.forall_mem_cons.mpr ⟨lw_p5, List.forall_mem_cons.mpr ⟨lw_p6, List.forall_mem_cons.mpr ⟨lw_p7, List.forall_mem_cons.mpr ⟨lw_p8, List.forall_mem_cons.mpr ⟨lw_p9, List.forall_mem_cons.mpr ⟨lw_p10, List.forall_mem_cons.mpr ⟨lw_p11, List.forall_mem_cons.mpr ⟨lw_p12, List.forall_mem_cons.mpr ⟨lw_p13, List.forall_mem_cons.mpr ⟨lw_p14, List.forall_mem_cons.mpr ⟨lw_p15, fun _ h => absurd h List.not_mem_nil⟩⟩⟩⟩⟩⟩⟩⟩⟩⟩⟩⟩⟩⟩⟩⟩
theorem lw_p16 : lw_okq (⟨"StreamWires$Side", "sendInTurn", "(I)V"⟩, 15) := ⟨⟨by decide +kernel, by decide +kernel⟩, List.mem_of_getElem? (i := 64) (by decide +kernel), List.mem_of_getElem? (i := 484) (by decide +kernel), List.mem_of_getElem? (i := 485) (by decide +kernel)⟩
theorem lw_p17 : lw_okq (⟨"StreamWires$Side", "beginTurn", "(I)V"⟩, 15) := ⟨⟨by decide +kernel, by decide +kernel⟩, List.mem_of_getElem? (i := 64) (by decide +kernel), List.mem_of_getElem? (i := 488) (by decide +kernel), List.mem_of_getElem? (i := 489) (by decide +kernel)⟩
theorem lw_p18 : lw_okq (⟨"StreamWires$Side", "draftData", "(LStreamWires$Flow;I)V"⟩, 15) := ⟨⟨by decide +kernel, by decide +kernel⟩, List.mem_of_getElem? (i := 64) (by decide +kernel), List.mem_of_getElem? (i := 492) (by decide +kernel), List.mem_of_getElem? (i := 493) (by decide +kernel)⟩
theorem lw_p19 : lw_okq (⟨"StreamWires$Side", "countTurn", "()V"⟩, 15) := ⟨⟨by decide +kernel, by decide +kernel⟩, List.mem_of_getElem? (i := 64) (by decide +kernel), List.mem_of_getElem? (i := 502) (by decide +kernel), List.mem_of_getElem? (i := 503) (by decide +kernel)⟩
theorem lw_p20 : lw_okq (⟨"StreamWires$Side", "sendAck", "()V"⟩, 15) := ⟨⟨by decide +kernel, by decide +kernel⟩, List.mem_of_getElem? (i := 64) (by decide +kernel), List.mem_of_getElem? (i := 506) (by decide +kernel), List.mem_of_getElem? (i := 507) (by decide +kernel)⟩
theorem lw_p21 : lw_okq (⟨"StreamWires$Frame", "lengthTold", "()I"⟩, 2) := ⟨⟨by decide +kernel, by decide +kernel⟩, List.mem_of_getElem? (i := 179) (by decide +kernel), List.mem_of_getElem? (i := 527) (by decide +kernel), List.mem_of_getElem? (i := 528) (by decide +kernel)⟩
theorem lw_p22 : lw_okq (⟨"StreamWires$Frame", "isSoundForKind", "(LStreamWires$Limits;)Z"⟩, 2) := ⟨⟨by decide +kernel, by decide +kernel⟩, List.mem_of_getElem? (i := 179) (by decide +kernel), List.mem_of_getElem? (i := 548) (by decide +kernel), List.mem_of_getElem? (i := 549) (by decide +kernel)⟩
theorem lw_p23 : lw_okq (⟨"StreamWires$Frame", "areMarksSound", "()Z"⟩, 2) := ⟨⟨by decide +kernel, by decide +kernel⟩, List.mem_of_getElem? (i := 179) (by decide +kernel), List.mem_of_getElem? (i := 552) (by decide +kernel), List.mem_of_getElem? (i := 553) (by decide +kernel)⟩
theorem lw_p24 : lw_okq (⟨"StreamWires$Side", "refuse", "()I"⟩, 15) := ⟨⟨by decide +kernel, by decide +kernel⟩, List.mem_of_getElem? (i := 64) (by decide +kernel), List.mem_of_getElem? (i := 568) (by decide +kernel), List.mem_of_getElem? (i := 569) (by decide +kernel)⟩
theorem lw_p25 : lw_okq (⟨"StreamWires$Side", "settleBefore", "(I)V"⟩, 15) := ⟨⟨by decide +kernel, by decide +kernel⟩, List.mem_of_getElem? (i := 64) (by decide +kernel), List.mem_of_getElem? (i := 573) (by decide +kernel), List.mem_of_getElem? (i := 574) (by decide +kernel)⟩
theorem lw_p26 : lw_okq (⟨"StreamWires$Flow", "canBeFilled", "()Z"⟩, 13) := ⟨⟨by decide +kernel, by decide +kernel⟩, List.mem_of_getElem? (i := 93) (by decide +kernel), List.mem_of_getElem? (i := 593) (by decide +kernel), List.mem_of_getElem? (i := 594) (by decide +kernel)⟩
theorem lw_p27 : lw_okq (⟨"StreamWires$Flow", "layDown", "(LStreamWires$Frame;)V"⟩, 13) := ⟨⟨by decide +kernel, by decide +kernel⟩, List.mem_of_getElem? (i := 93) (by decide +kernel), List.mem_of_getElem? (i := 603) (by decide +kernel), List.mem_of_getElem? (i := 604) (by decide +kernel)⟩
theorem lw_p28 : lw_okq (⟨"StreamWires", "frameAt", "(II)LStreamWires$Frame;"⟩, 2) := ⟨⟨by decide +kernel, by decide +kernel⟩, List.mem_of_getElem? (i := 12) (by decide +kernel), List.mem_of_getElem? (i := 619) (by decide +kernel), List.mem_of_getElem? (i := 620) (by decide +kernel)⟩
theorem lw_p29 : lw_okq (⟨"StreamWiresModel", "isStream", "(II)Z"⟩, 40) := ⟨⟨by decide +kernel, by decide +kernel⟩, List.mem_of_getElem? (i := 667) (by decide +kernel), List.mem_of_getElem? (i := 801) (by decide +kernel), List.mem_of_getElem? (i := 802) (by decide +kernel)⟩
theorem lw_p30 : lw_okq (⟨"StreamWiresModel", "begin", "(I)V"⟩, 40) := ⟨⟨by decide +kernel, by decide +kernel⟩, List.mem_of_getElem? (i := 667) (by decide +kernel), List.mem_of_getElem? (i := 808) (by decide +kernel), List.mem_of_getElem? (i := 809) (by decide +kernel)⟩
theorem lw_p31 : lw_okq (⟨"StreamWiresModel", "put", "(IIIZ)I"⟩, 40) := ⟨⟨by decide +kernel, by decide +kernel⟩, List.mem_of_getElem? (i := 667) (by decide +kernel), List.mem_of_getElem? (i := 816) (by decide +kernel), List.mem_of_getElem? (i := 817) (by decide +kernel)⟩
def lw_privs_2 : List (MethodName × Nat) := [(⟨"StreamWires$Side", "sendInTurn", "(I)V"⟩, 15), (⟨"StreamWires$Side", "beginTurn", "(I)V"⟩, 15), (⟨"StreamWires$Side", "draftData", "(LStreamWires$Flow;I)V"⟩, 15), (⟨"StreamWires$Side", "countTurn", "()V"⟩, 15), (⟨"StreamWires$Side", "sendAck", "()V"⟩, 15), (⟨"StreamWires$Frame", "lengthTold", "()I"⟩, 2), (⟨"StreamWires$Frame", "isSoundForKind", "(LStreamWires$Limits;)Z"⟩, 2), (⟨"StreamWires$Frame", "areMarksSound", "()Z"⟩, 2), (⟨"StreamWires$Side", "refuse", "()I"⟩, 15), (⟨"StreamWires$Side", "settleBefore", "(I)V"⟩, 15), (⟨"StreamWires$Flow", "canBeFilled", "()Z"⟩, 13), (⟨"StreamWires$Flow", "layDown", "(LStreamWires$Frame;)V"⟩, 13), (⟨"StreamWires", "frameAt", "(II)LStreamWires$Frame;"⟩, 2), (⟨"StreamWiresModel", "isStream", "(II)Z"⟩, 40), (⟨"StreamWiresModel", "begin", "(I)V"⟩, 40), (⟨"StreamWiresModel", "put", "(IIIZ)I"⟩, 40)]
theorem lw_r2 : ∀ q ∈ lw_privs_2, lw_okq q := List.forall_mem_cons.mpr ⟨lw_p16, List.forall_mem_cons.mpr ⟨lw_p17, List.forall_mem_cons.mpr ⟨lw_p18, List.forall_mem_cons.mpr ⟨lw_p19, List.forall_mem_cons.mpr ⟨lw_p20, List.forall_mem_cons.mpr ⟨lw_p21, List.forall_mem_cons.mpr ⟨lw_p22, List.forall_mem_cons.mpr ⟨lw_p23, List.forall_mem_cons.mpr ⟨lw_p24, List.forall_mem_cons.mpr ⟨lw_p25, List.forall_mem_cons.mpr ⟨lw_p26, List.forall_mem_cons.mpr ⟨lw_p27, List.forall_mem_cons.mpr ⟨lw_p28, List.forall_mem_cons.mpr ⟨lw_p29, List.forall_mem_cons.mpr ⟨lw_p30, List.forall_mem_cons.mpr ⟨lw_p31, fun _ h => absurd h List.not_mem_nil⟩⟩⟩⟩⟩⟩⟩⟩⟩⟩⟩⟩⟩⟩⟩⟩
theorem lw_p32 : lw_okq (⟨"StreamWiresModel", "free", "(I)I"⟩, 40) := ⟨⟨by decide +kernel, by decide +kernel⟩, List.mem_of_getElem? (i := 667) (by decide +kernel), List.mem_of_getElem? (i := 820) (by decide +kernel), List.mem_of_getElem? (i := 821) (by decide +kernel)⟩
theorem lw_p33 : lw_okq (⟨"StreamWiresModel", "beginFrame", "(IIII)V"⟩, 40) := ⟨⟨by decide +kernel, by decide +kernel⟩, List.mem_of_getElem? (i := 667) (by decide +kernel), List.mem_of_getElem? (i := 848) (by decide +kernel), List.mem_of_getElem? (i := 849) (by decide +kernel)⟩
theorem lw_p34 : lw_okq (⟨"StreamWiresModel", "add", "(I)V"⟩, 40) := ⟨⟨by decide +kernel, by decide +kernel⟩, List.mem_of_getElem? (i := 667) (by decide +kernel), List.mem_of_getElem? (i := 852) (by decide +kernel), List.mem_of_getElem? (i := 853) (by decide +kernel)⟩
theorem lw_p35 : lw_okq (⟨"StreamWiresModel", "finish", "(I)V"⟩, 40) := ⟨⟨by decide +kernel, by decide +kernel⟩, List.mem_of_getElem? (i := 667) (by decide +kernel), List.mem_of_getElem? (i := 856) (by decide +kernel), List.mem_of_getElem? (i := 857) (by decide +kernel)⟩
theorem lw_p36 : lw_okq (⟨"StreamWiresModel", "sumOf", "(I)I"⟩, 40) := ⟨⟨by decide +kernel, by decide +kernel⟩, List.mem_of_getElem? (i := 667) (by decide +kernel), List.mem_of_getElem? (i := 860) (by decide +kernel), List.mem_of_getElem? (i := 861) (by decide +kernel)⟩
theorem lw_p37 : lw_okq (⟨"StreamWiresModel", "ontoWire", "(I)V"⟩, 40) := ⟨⟨by decide +kernel, by decide +kernel⟩, List.mem_of_getElem? (i := 667) (by decide +kernel), List.mem_of_getElem? (i := 865) (by decide +kernel), List.mem_of_getElem? (i := 866) (by decide +kernel)⟩
theorem lw_p38 : lw_okq (⟨"StreamWiresModel", "hasSome", "(II)Z"⟩, 40) := ⟨⟨by decide +kernel, by decide +kernel⟩, List.mem_of_getElem? (i := 667) (by decide +kernel), List.mem_of_getElem? (i := 869) (by decide +kernel), List.mem_of_getElem? (i := 870) (by decide +kernel)⟩
theorem lw_p39 : lw_okq (⟨"StreamWiresModel", "sendOf", "(II)V"⟩, 40) := ⟨⟨by decide +kernel, by decide +kernel⟩, List.mem_of_getElem? (i := 667) (by decide +kernel), List.mem_of_getElem? (i := 873) (by decide +kernel), List.mem_of_getElem? (i := 874) (by decide +kernel)⟩
theorem lw_p40 : lw_okq (⟨"StreamWiresModel", "dropOldest", "(I)V"⟩, 40) := ⟨⟨by decide +kernel, by decide +kernel⟩, List.mem_of_getElem? (i := 667) (by decide +kernel), List.mem_of_getElem? (i := 886) (by decide +kernel), List.mem_of_getElem? (i := 887) (by decide +kernel)⟩
theorem lw_p41 : lw_okq (⟨"StreamWiresModel", "isFrame", "()Z"⟩, 40) := ⟨⟨by decide +kernel, by decide +kernel⟩, List.mem_of_getElem? (i := 667) (by decide +kernel), List.mem_of_getElem? (i := 890) (by decide +kernel), List.mem_of_getElem? (i := 891) (by decide +kernel)⟩
theorem lw_p42 : lw_okq (⟨"StreamWiresModel", "kind", "()I"⟩, 40) := ⟨⟨by decide +kernel, by decide +kernel⟩, List.mem_of_getElem? (i := 667) (by decide +kernel), List.mem_of_getElem? (i := 894) (by decide +kernel), List.mem_of_getElem? (i := 895) (by decide +kernel)⟩
theorem lw_p43 : lw_okq (⟨"StreamWiresModel", "countIn", "()I"⟩, 40) := ⟨⟨by decide +kernel, by decide +kernel⟩, List.mem_of_getElem? (i := 667) (by decide +kernel), List.mem_of_getElem? (i := 898) (by decide +kernel), List.mem_of_getElem? (i := 899) (by decide +kernel)⟩
theorem lw_p44 : lw_okq (⟨"StreamWiresModel", "streamIn", "()I"⟩, 40) := ⟨⟨by decide +kernel, by decide +kernel⟩, List.mem_of_getElem? (i := 667) (by decide +kernel), List.mem_of_getElem? (i := 902) (by decide +kernel), List.mem_of_getElem? (i := 903) (by decide +kernel)⟩
theorem lw_p45 : lw_okq (⟨"StreamWiresModel", "confirm", "(II)V"⟩, 40) := ⟨⟨by decide +kernel, by decide +kernel⟩, List.mem_of_getElem? (i := 667) (by decide +kernel), List.mem_of_getElem? (i := 907) (by decide +kernel), List.mem_of_getElem? (i := 908) (by decide +kernel)⟩
theorem lw_p46 : lw_okq (⟨"StreamWiresModel", "canBe", "(I)Z"⟩, 40) := ⟨⟨by decide +kernel, by decide +kernel⟩, List.mem_of_getElem? (i := 667) (by decide +kernel), List.mem_of_getElem? (i := 911) (by decide +kernel), List.mem_of_getElem? (i := 912) (by decide +kernel)⟩
theorem lw_p47 : lw_okq (⟨"StreamWiresModel", "take", "(I)V"⟩, 40) := ⟨⟨by decide +kernel, by decide +kernel⟩, List.mem_of_getElem? (i := 667) (by decide +kernel), List.mem_of_getElem? (i := 915) (by decide +kernel), List.mem_of_getElem? (i := 916) (by decide +kernel)⟩
def lw_privs_3 : List (MethodName × Nat) := [(⟨"StreamWiresModel", "free", "(I)I"⟩, 40), (⟨"StreamWiresModel", "beginFrame", "(IIII)V"⟩, 40), (⟨"StreamWiresModel", "add", "(I)V"⟩, 40), (⟨"StreamWiresModel", "finish", "(I)V"⟩, 40), (⟨"StreamWiresModel", "sumOf", "(I)I"⟩, 40), (⟨"StreamWiresModel", "ontoWire", "(I)V"⟩, 40), (⟨"StreamWiresModel", "hasSome", "(II)Z"⟩, 40), (⟨"StreamWiresModel", "sendOf", "(II)V"⟩, 40), (⟨"StreamWiresModel", "dropOldest", "(I)V"⟩, 40), (⟨"StreamWiresModel", "isFrame", "()Z"⟩, 40), (⟨"StreamWiresModel", "kind", "()I"⟩, 40), (⟨"StreamWiresModel", "countIn", "()I"⟩, 40), (⟨"StreamWiresModel", "streamIn", "()I"⟩, 40), (⟨"StreamWiresModel", "confirm", "(II)V"⟩, 40), (⟨"StreamWiresModel", "canBe", "(I)Z"⟩, 40), (⟨"StreamWiresModel", "take", "(I)V"⟩, 40)]
theorem lw_r3 : ∀ q ∈ lw_privs_3, lw_okq q := List.forall_mem_cons.mpr ⟨lw_p32, List.forall_mem_cons.mpr ⟨lw_p33, List.forall_mem_cons.mpr ⟨lw_p34, List.forall_mem_cons.mpr ⟨lw_p35, List.forall_mem_cons.mpr ⟨lw_p36, List.forall_mem_cons.mpr ⟨lw_p37, List.forall_mem_cons.mpr ⟨lw_p38, List.forall_mem_cons.mpr ⟨lw_p39, List.forall_mem_cons.mpr ⟨lw_p40, List.forall_mem_cons.mpr ⟨lw_p41, List.forall_mem_cons.mpr ⟨lw_p42, List.forall_mem_cons.mpr ⟨lw_p43, List.forall_mem_cons.mpr ⟨lw_p44, List.forall_mem_cons.mpr ⟨lw_p45, List.forall_mem_cons.mpr ⟨lw_p46, List.forall_mem_cons.mpr ⟨lw_p47, fun _ h => absurd h List.not_mem_nil⟩⟩⟩⟩⟩⟩⟩⟩⟩⟩⟩⟩⟩⟩⟩⟩
def lw_privs : List (MethodName × Nat) := lw_privs_1 ++ (lw_privs_2 ++ (lw_privs_3))
def lw_tbl : List Cond := k2_sels lw_privs ++ tables_1
theorem lw_privs_ok : ∀ q ∈ lw_privs, lw_okq q := by
  show ∀ q ∈ lw_privs_1 ++ (lw_privs_2 ++ (lw_privs_3)), lw_okq q
  exact List.forall_mem_append.mpr ⟨lw_r1, List.forall_mem_append.mpr ⟨lw_r2, lw_r3⟩⟩
end
section
def RX0 : String := "StreamWires$Cells"
def TX0 : u_T := fun k => match k with
  | 0 => ("StreamWires$Cells", "words", "[I", true)
  | 1 => ("StreamWires$Cells", "marks", "[Z", true)
  | 2 => ("StreamWires$Cells", "next", "[I", true)
  | _ => ("StreamWires$Cells", "spare", "I", false)
def tyX0 : Nat → FieldType := fun k => match k with
  | 0 => .array .int
  | 1 => .array .boolean
  | 2 => .array .int
  | _ => .int
abbrev wsX00 : List Cond := u_ws RX0 TX0 4
theorem nmX0 : ∀ a, a < 4 → ∀ b, b < 4 → a ≠ b → (TX0 a).2.1 ≠ (TX0 b).2.1 := by decide +kernel
theorem tyX0_ok : ∀ k, k < 4 → parseFieldDescriptor (TX0 k).2.2.1 = some (tyX0 k) := by decide +kernel
abbrev cX0_init : ByteArray := prog_2_method_1_code
def yX0_init : MethodName := ⟨RX0, "<init>", "(I)V"⟩
abbrev cX0_holds : ByteArray := prog_2_method_2_code
def yX0_holds : MethodName := ⟨RX0, "holds", "(I)Z"⟩
abbrev cX0_fill : ByteArray := prog_2_method_3_code
def yX0_fill : MethodName := ⟨RX0, "fill", "(IZ)I"⟩
abbrev cX0_chain : ByteArray := prog_2_method_4_code
def yX0_chain : MethodName := ⟨RX0, "chain", "(II)V"⟩
abbrev cX0_giveBack : ByteArray := prog_2_method_5_code
def yX0_giveBack : MethodName := ⟨RX0, "giveBack", "(I)I"⟩
abbrev cX0_wordIn : ByteArray := prog_2_method_6_code
def yX0_wordIn : MethodName := ⟨RX0, "wordIn", "(I)I"⟩
abbrev cX0_isMark : ByteArray := prog_2_method_7_code
def yX0_isMark : MethodName := ⟨RX0, "isMark", "(I)Z"⟩
def RX1 : String := "StreamWires$Flow"
def TX1 : u_T := fun k => match k with
  | 0 => ("StreamWires$Flow", "toSend", "LStreamWires$Queue;", true)
  | 1 => ("StreamWires$Flow", "lying", "LStreamWires$Queue;", true)
  | 2 => ("StreamWires$Flow", "kept", "I", true)
  | 3 => ("StreamWires$Flow", "state", "I", false)
  | 4 => ("StreamWires$Flow", "weight", "I", false)
  | 5 => ("StreamWires$Flow", "credit", "I", false)
  | 6 => ("StreamWires$Flow", "due", "I", false)
  | 7 => ("StreamWires$Flow", "openingToSend", "Z", false)
  | 8 => ("StreamWires$Flow", "endToSend", "Z", false)
  | 9 => ("StreamWires$Flow", "shut", "Z", false)
  | 10 => ("StreamWires$Flow", "openingCame", "Z", false)
  | 11 => ("StreamWires$Flow", "wordsTaken", "I", false)
  | _ => ("StreamWires$Flow", "marksTaken", "I", false)
def tyX1 : Nat → FieldType := fun k => match k with
  | 0 => .object "StreamWires$Queue"
  | 1 => .object "StreamWires$Queue"
  | 2 => .int
  | 3 => .int
  | 4 => .int
  | 5 => .int
  | 6 => .int
  | 7 => .boolean
  | 8 => .boolean
  | 9 => .boolean
  | 10 => .boolean
  | 11 => .int
  | _ => .int
abbrev wsX10 : List Cond := u_ws RX1 TX1 13
theorem nmX1 : ∀ a, a < 13 → ∀ b, b < 13 → a ≠ b → (TX1 a).2.1 ≠ (TX1 b).2.1 := by decide +kernel
theorem tyX1_ok : ∀ k, k < 13 → parseFieldDescriptor (TX1 k).2.2.1 = some (tyX1 k) := by decide +kernel
abbrev cX1_init : ByteArray := prog_3_method_1_code
def yX1_init : MethodName := ⟨RX1, "<init>", "(LStreamWires$Cells;I)V"⟩
abbrev cX1_begin : ByteArray := prog_3_method_2_code
def yX1_begin : MethodName := ⟨RX1, "begin", "()Z"⟩
abbrev cX1_finish : ByteArray := prog_3_method_3_code
def yX1_finish : MethodName := ⟨RX1, "finish", "()Z"⟩
abbrev cX1_becomeOpen : ByteArray := prog_3_method_4_code
def yX1_becomeOpen : MethodName := ⟨RX1, "becomeOpen", "()V"⟩
abbrev cX1_hasToSend : ByteArray := prog_3_method_5_code
def yX1_hasToSend : MethodName := ⟨RX1, "hasToSend", "()Z"⟩
abbrev cX1_isShut : ByteArray := prog_3_method_6_code
def yX1_isShut : MethodName := ⟨RX1, "isShut", "()Z"⟩
abbrev cX1_dropTaken : ByteArray := prog_3_method_7_code
def yX1_dropTaken : MethodName := ⟨RX1, "dropTaken", "()V"⟩
abbrev cX1_canTake : ByteArray := prog_3_method_8_code
def yX1_canTake : MethodName := ⟨RX1, "canTake", "(LStreamWires$Frame;)Z"⟩
abbrev cX1_canBeFilled : ByteArray := prog_3_method_9_code
def yX1_canBeFilled : MethodName := ⟨RX1, "canBeFilled", "()Z"⟩
abbrev cX1_take : ByteArray := prog_3_method_10_code
def yX1_take : MethodName := ⟨RX1, "take", "(LStreamWires$Frame;)V"⟩
abbrev cX1_layDown : ByteArray := prog_3_method_11_code
def yX1_layDown : MethodName := ⟨RX1, "layDown", "(LStreamWires$Frame;)V"⟩
abbrev cX1_tell : ByteArray := prog_3_method_12_code
def yX1_tell : MethodName := ⟨RX1, "tell", "(I)I"⟩
def RX2 : String := "StreamWires$Frame"
def TX2 : u_T := fun k => match k with
  | 0 => ("StreamWires$Frame", "words", "[I", true)
  | _ => ("StreamWires$Frame", "length", "I", false)
def tyX2 : Nat → FieldType := fun k => match k with
  | 0 => .array .int
  | _ => .int
abbrev wsX20 : List Cond := u_ws RX2 TX2 2
theorem nmX2 : ∀ a, a < 2 → ∀ b, b < 2 → a ≠ b → (TX2 a).2.1 ≠ (TX2 b).2.1 := by decide +kernel
theorem tyX2_ok : ∀ k, k < 2 → parseFieldDescriptor (TX2 k).2.2.1 = some (tyX2 k) := by decide +kernel
abbrev cX2_init : ByteArray := prog_4_method_1_code
def yX2_init : MethodName := ⟨RX2, "<init>", "(I)V"⟩
abbrev cX2_begin : ByteArray := prog_4_method_2_code
def yX2_begin : MethodName := ⟨RX2, "begin", "(I)V"⟩
abbrev cX2_put : ByteArray := prog_4_method_3_code
def yX2_put : MethodName := ⟨RX2, "put", "(I)V"⟩
abbrev cX2_copyFrom : ByteArray := prog_4_method_4_code
def yX2_copyFrom : MethodName := ⟨RX2, "copyFrom", "(LStreamWires$Frame;)V"⟩
abbrev cX2_wordAt : ByteArray := prog_4_method_5_code
def yX2_wordAt : MethodName := ⟨RX2, "wordAt", "(I)I"⟩
abbrev cX2_flip : ByteArray := prog_4_method_6_code
def yX2_flip : MethodName := ⟨RX2, "flip", "(II)Z"⟩
abbrev cX2_seal : ByteArray := prog_4_method_7_code
def yX2_seal : MethodName := ⟨RX2, "seal", "()V"⟩
abbrev cX2_renew : ByteArray := prog_4_method_8_code
def yX2_renew : MethodName := ⟨RX2, "renew", "(I)V"⟩
abbrev cX2_kind : ByteArray := prog_4_method_9_code
def yX2_kind : MethodName := ⟨RX2, "kind", "()I"⟩
abbrev cX2_streamNumber : ByteArray := prog_4_method_10_code
def yX2_streamNumber : MethodName := ⟨RX2, "streamNumber", "()I"⟩
abbrev cX2_number : ByteArray := prog_4_method_11_code
def yX2_number : MethodName := ⟨RX2, "number", "()I"⟩
abbrev cX2_wanted : ByteArray := prog_4_method_12_code
def yX2_wanted : MethodName := ⟨RX2, "wanted", "()I"⟩
abbrev cX2_count : ByteArray := prog_4_method_13_code
def yX2_count : MethodName := ⟨RX2, "count", "()I"⟩
abbrev cX2_isMark : ByteArray := prog_4_method_14_code
def yX2_isMark : MethodName := ⟨RX2, "isMark", "(I)Z"⟩
abbrev cX2_itemWord : ByteArray := prog_4_method_15_code
def yX2_itemWord : MethodName := ⟨RX2, "itemWord", "(I)I"⟩
abbrev cX2_granted : ByteArray := prog_4_method_16_code
def yX2_granted : MethodName := ⟨RX2, "granted", "()I"⟩
abbrev cX2_isSound : ByteArray := prog_4_method_17_code
def yX2_isSound : MethodName := ⟨RX2, "isSound", "(LStreamWires$Limits;)Z"⟩
abbrev cX2_lengthTold : ByteArray := prog_4_method_18_code
def yX2_lengthTold : MethodName := ⟨RX2, "lengthTold", "()I"⟩
abbrev cX2_isSoundForKind : ByteArray := prog_4_method_19_code
def yX2_isSoundForKind : MethodName := ⟨RX2, "isSoundForKind", "(LStreamWires$Limits;)Z"⟩
abbrev cX2_areMarksSound : ByteArray := prog_4_method_20_code
def yX2_areMarksSound : MethodName := ⟨RX2, "areMarksSound", "()Z"⟩
abbrev cX2_sumBefore : ByteArray := prog_4_method_21_code
def yX2_sumBefore : MethodName := ⟨RX2, "sumBefore", "(I)I"⟩
def RX3 : String := "StreamWires$Frames"
def TX3 : u_T := fun k => match k with
  | 0 => ("StreamWires$Frames", "ring", "[LStreamWires$Frame;", true)
  | 1 => ("StreamWires$Frames", "first", "I", false)
  | _ => ("StreamWires$Frames", "size", "I", false)
def tyX3 : Nat → FieldType := fun k => match k with
  | 0 => .array (.object "StreamWires$Frame")
  | 1 => .int
  | _ => .int
abbrev wsX30 : List Cond := u_ws RX3 TX3 3
theorem nmX3 : ∀ a, a < 3 → ∀ b, b < 3 → a ≠ b → (TX3 a).2.1 ≠ (TX3 b).2.1 := by decide +kernel
theorem tyX3_ok : ∀ k, k < 3 → parseFieldDescriptor (TX3 k).2.2.1 = some (tyX3 k) := by decide +kernel
abbrev cX3_init : ByteArray := prog_5_method_1_code
def yX3_init : MethodName := ⟨RX3, "<init>", "(II)V"⟩
abbrev cX3_size : ByteArray := prog_5_method_2_code
def yX3_size : MethodName := ⟨RX3, "size", "()I"⟩
abbrev cX3_hasRoom : ByteArray := prog_5_method_3_code
def yX3_hasRoom : MethodName := ⟨RX3, "hasRoom", "()Z"⟩
abbrev cX3_frameAt : ByteArray := prog_5_method_4_code
def yX3_frameAt : MethodName := ⟨RX3, "frameAt", "(I)LStreamWires$Frame;"⟩
abbrev cX3_add : ByteArray := prog_5_method_5_code
def yX3_add : MethodName := ⟨RX3, "add", "(LStreamWires$Frame;)V"⟩
abbrev cX3_dropFirst : ByteArray := prog_5_method_6_code
def yX3_dropFirst : MethodName := ⟨RX3, "dropFirst", "()Z"⟩
abbrev cX3_slotAt : ByteArray := prog_5_method_7_code
def yX3_slotAt : MethodName := ⟨RX3, "slotAt", "(I)LStreamWires$Frame;"⟩
def RX4 : String := "StreamWires$Limits"
def TX4 : u_T := fun k => match k with
  | 0 => ("StreamWires$Limits", "streams", "I", true)
  | 1 => ("StreamWires$Limits", "most", "I", true)
  | 2 => ("StreamWires$Limits", "window", "I", true)
  | 3 => ("StreamWires$Limits", "cells", "I", true)
  | 4 => ("StreamWires$Limits", "wireRoom", "I", true)
  | _ => ("StreamWires$Limits", "kept", "I", true)
def tyX4 : Nat → FieldType := fun k => match k with
  | 0 => .int
  | 1 => .int
  | 2 => .int
  | 3 => .int
  | 4 => .int
  | _ => .int
abbrev wsX40 : List Cond := u_ws RX4 TX4 6
theorem nmX4 : ∀ a, a < 6 → ∀ b, b < 6 → a ≠ b → (TX4 a).2.1 ≠ (TX4 b).2.1 := by decide +kernel
theorem tyX4_ok : ∀ k, k < 6 → parseFieldDescriptor (TX4 k).2.2.1 = some (tyX4 k) := by decide +kernel
abbrev cX4_init : ByteArray := prog_6_method_1_code
def yX4_init : MethodName := ⟨RX4, "<init>", "(IIIII)V"⟩
abbrev cX4_longestFrame : ByteArray := prog_6_method_2_code
def yX4_longestFrame : MethodName := ⟨RX4, "longestFrame", "()I"⟩
abbrev cX4_numberBehind : ByteArray := prog_6_method_3_code
def yX4_numberBehind : MethodName := ⟨RX4, "numberBehind", "(II)I"⟩
abbrev cX4_stepsBetween : ByteArray := prog_6_method_4_code
def yX4_stepsBetween : MethodName := ⟨RX4, "stepsBetween", "(II)I"⟩
def RX5 : String := "StreamWires$Queue"
def TX5 : u_T := fun k => match k with
  | 0 => ("StreamWires$Queue", "cells", "LStreamWires$Cells;", true)
  | 1 => ("StreamWires$Queue", "oldest", "I", false)
  | 2 => ("StreamWires$Queue", "newest", "I", false)
  | _ => ("StreamWires$Queue", "size", "I", false)
def tyX5 : Nat → FieldType := fun k => match k with
  | 0 => .object "StreamWires$Cells"
  | 1 => .int
  | 2 => .int
  | _ => .int
abbrev wsX50 : List Cond := u_ws RX5 TX5 4
theorem nmX5 : ∀ a, a < 4 → ∀ b, b < 4 → a ≠ b → (TX5 a).2.1 ≠ (TX5 b).2.1 := by decide +kernel
theorem tyX5_ok : ∀ k, k < 4 → parseFieldDescriptor (TX5 k).2.2.1 = some (tyX5 k) := by decide +kernel
abbrev cX5_init : ByteArray := prog_7_method_1_code
def yX5_init : MethodName := ⟨RX5, "<init>", "(LStreamWires$Cells;)V"⟩
abbrev cX5_size : ByteArray := prog_7_method_2_code
def yX5_size : MethodName := ⟨RX5, "size", "()I"⟩
abbrev cX5_put : ByteArray := prog_7_method_3_code
def yX5_put : MethodName := ⟨RX5, "put", "(IZ)V"⟩
abbrev cX5_oldestWord : ByteArray := prog_7_method_4_code
def yX5_oldestWord : MethodName := ⟨RX5, "oldestWord", "()I"⟩
abbrev cX5_oldestIsMark : ByteArray := prog_7_method_5_code
def yX5_oldestIsMark : MethodName := ⟨RX5, "oldestIsMark", "()Z"⟩
abbrev cX5_dropOldest : ByteArray := prog_7_method_6_code
def yX5_dropOldest : MethodName := ⟨RX5, "dropOldest", "()V"⟩
def RX6 : String := "StreamWires$Side"
def TX6 : u_T := fun k => match k with
  | 0 => ("StreamWires$Side", "limits", "LStreamWires$Limits;", true)
  | 1 => ("StreamWires$Side", "flows", "[LStreamWires$Flow;", true)
  | 2 => ("StreamWires$Side", "out", "LStreamWires$Frames;", true)
  | 3 => ("StreamWires$Side", "line", "LStreamWires$Frames;", true)
  | 4 => ("StreamWires$Side", "draft", "LStreamWires$Frame;", true)
  | 5 => ("StreamWires$Side", "oldestOut", "I", false)
  | 6 => ("StreamWires$Side", "waitedFor", "I", false)
  | 7 => ("StreamWires$Side", "turn", "I", false)
  | 8 => ("StreamWires$Side", "turnLeft", "I", false)
  | 9 => ("StreamWires$Side", "owesAck", "Z", false)
  | 10 => ("StreamWires$Side", "lastWord", "I", false)
  | 11 => ("StreamWires$Side", "sent", "I", false)
  | 12 => ("StreamWires$Side", "taken", "I", false)
  | 13 => ("StreamWires$Side", "spoilt", "I", false)
  | _ => ("StreamWires$Side", "late", "I", false)
def tyX6 : Nat → FieldType := fun k => match k with
  | 0 => .object "StreamWires$Limits"
  | 1 => .array (.object "StreamWires$Flow")
  | 2 => .object "StreamWires$Frames"
  | 3 => .object "StreamWires$Frames"
  | 4 => .object "StreamWires$Frame"
  | 5 => .int
  | 6 => .int
  | 7 => .int
  | 8 => .int
  | 9 => .boolean
  | 10 => .int
  | 11 => .int
  | 12 => .int
  | 13 => .int
  | _ => .int
abbrev wsX60 : List Cond := u_ws RX6 TX6 15
theorem nmX6 : ∀ a, a < 15 → ∀ b, b < 15 → a ≠ b → (TX6 a).2.1 ≠ (TX6 b).2.1 := by decide +kernel
theorem tyX6_ok : ∀ k, k < 15 → parseFieldDescriptor (TX6 k).2.2.1 = some (tyX6 k) := by decide +kernel
abbrev cX6_init : ByteArray := prog_8_method_1_code
def yX6_init : MethodName := ⟨RX6, "<init>", "(LStreamWires$Limits;)V"⟩
abbrev cX6_flowAt : ByteArray := prog_8_method_2_code
def yX6_flowAt : MethodName := ⟨RX6, "flowAt", "(I)LStreamWires$Flow;"⟩
abbrev cX6_queueItem : ByteArray := prog_8_method_3_code
def yX6_queueItem : MethodName := ⟨RX6, "queueItem", "(LStreamWires$Flow;IZ)I"⟩
abbrev cX6_takeItem : ByteArray := prog_8_method_4_code
def yX6_takeItem : MethodName := ⟨RX6, "takeItem", "(LStreamWires$Flow;)I"⟩
abbrev cX6_freeCells : ByteArray := prog_8_method_5_code
def yX6_freeCells : MethodName := ⟨RX6, "freeCells", "()I"⟩
abbrev cX6_itemsOut : ByteArray := prog_8_method_6_code
def yX6_itemsOut : MethodName := ⟨RX6, "itemsOut", "()I"⟩
abbrev cX6_sendNext : ByteArray := prog_8_method_7_code
def yX6_sendNext : MethodName := ⟨RX6, "sendNext", "()I"⟩
abbrev cX6_streamToGrant : ByteArray := prog_8_method_8_code
def yX6_streamToGrant : MethodName := ⟨RX6, "streamToGrant", "()I"⟩
abbrev cX6_streamToSend : ByteArray := prog_8_method_9_code
def yX6_streamToSend : MethodName := ⟨RX6, "streamToSend", "()I"⟩
abbrev cX6_sendGrant : ByteArray := prog_8_method_10_code
def yX6_sendGrant : MethodName := ⟨RX6, "sendGrant", "(I)V"⟩
abbrev cX6_sendInTurn : ByteArray := prog_8_method_11_code
def yX6_sendInTurn : MethodName := ⟨RX6, "sendInTurn", "(I)V"⟩
abbrev cX6_streamAfter : ByteArray := prog_8_method_12_code
def yX6_streamAfter : MethodName := ⟨RX6, "streamAfter", "(I)I"⟩
abbrev cX6_beginTurn : ByteArray := prog_8_method_13_code
def yX6_beginTurn : MethodName := ⟨RX6, "beginTurn", "(I)V"⟩
abbrev cX6_countTurn : ByteArray := prog_8_method_14_code
def yX6_countTurn : MethodName := ⟨RX6, "countTurn", "()V"⟩
abbrev cX6_draftData : ByteArray := prog_8_method_15_code
def yX6_draftData : MethodName := ⟨RX6, "draftData", "(LStreamWires$Flow;I)V"⟩
abbrev cX6_beginNumbered : ByteArray := prog_8_method_16_code
def yX6_beginNumbered : MethodName := ⟨RX6, "beginNumbered", "(III)V"⟩
abbrev cX6_sendNumbered : ByteArray := prog_8_method_17_code
def yX6_sendNumbered : MethodName := ⟨RX6, "sendNumbered", "()V"⟩
abbrev cX6_sendAck : ByteArray := prog_8_method_18_code
def yX6_sendAck : MethodName := ⟨RX6, "sendAck", "()V"⟩
abbrev cX6_sendDraft : ByteArray := prog_8_method_19_code
def yX6_sendDraft : MethodName := ⟨RX6, "sendDraft", "()V"⟩
abbrev cX6_sendAgain : ByteArray := prog_8_method_20_code
def yX6_sendAgain : MethodName := ⟨RX6, "sendAgain", "()I"⟩
abbrev cX6_meet : ByteArray := prog_8_method_21_code
def yX6_meet : MethodName := ⟨RX6, "meet", "(LStreamWires$Frame;)I"⟩
abbrev cX6_refuse : ByteArray := prog_8_method_22_code
def yX6_refuse : MethodName := ⟨RX6, "refuse", "()I"⟩
abbrev cX6_settleBefore : ByteArray := prog_8_method_23_code
def yX6_settleBefore : MethodName := ⟨RX6, "settleBefore", "(I)V"⟩
abbrev cX6_tell : ByteArray := prog_8_method_24_code
def yX6_tell : MethodName := ⟨RX6, "tell", "(I)I"⟩
def RX7 : String := "StreamWires"
def TX7 : u_T := fun k => match k with
  | 0 => ("StreamWires", "zero", "LStreamWires$Side;", true)
  | _ => ("StreamWires", "one", "LStreamWires$Side;", true)
def tyX7 : Nat → FieldType := fun k => match k with
  | 0 => .object "StreamWires$Side"
  | _ => .object "StreamWires$Side"
abbrev wsX70 : List Cond := u_ws RX7 TX7 2
theorem nmX7 : ∀ a, a < 2 → ∀ b, b < 2 → a ≠ b → (TX7 a).2.1 ≠ (TX7 b).2.1 := by decide +kernel
theorem tyX7_ok : ∀ k, k < 2 → parseFieldDescriptor (TX7 k).2.2.1 = some (tyX7 k) := by decide +kernel
abbrev cX7_init : ByteArray := prog_1_method_1_code
def yX7_init : MethodName := ⟨RX7, "<init>", "(IIIII)V"⟩
abbrev cX7_open : ByteArray := prog_1_method_2_code
def yX7_open : MethodName := ⟨RX7, "open", "(II)I"⟩
abbrev cX7_send : ByteArray := prog_1_method_3_code
def yX7_send : MethodName := ⟨RX7, "send", "(III)I"⟩
abbrev cX7_mark : ByteArray := prog_1_method_4_code
def yX7_mark : MethodName := ⟨RX7, "mark", "(II)I"⟩
abbrev cX7_close : ByteArray := prog_1_method_5_code
def yX7_close : MethodName := ⟨RX7, "close", "(II)I"⟩
abbrev cX7_receive : ByteArray := prog_1_method_6_code
def yX7_receive : MethodName := ⟨RX7, "receive", "(II)I"⟩
abbrev cX7_word : ByteArray := prog_1_method_7_code
def yX7_word : MethodName := ⟨RX7, "word", "(I)I"⟩
abbrev cX7_weight : ByteArray := prog_1_method_8_code
def yX7_weight : MethodName := ⟨RX7, "weight", "(III)I"⟩
abbrev cX7_pump : ByteArray := prog_1_method_9_code
def yX7_pump : MethodName := ⟨RX7, "pump", "(I)I"⟩
abbrev cX7_drain : ByteArray := prog_1_method_10_code
def yX7_drain : MethodName := ⟨RX7, "drain", "(II)I"⟩
abbrev cX7_deliver : ByteArray := prog_1_method_11_code
def yX7_deliver : MethodName := ⟨RX7, "deliver", "(I)I"⟩
abbrev cX7_lose : ByteArray := prog_1_method_12_code
def yX7_lose : MethodName := ⟨RX7, "lose", "(I)Z"⟩
abbrev cX7_corrupt : ByteArray := prog_1_method_13_code
def yX7_corrupt : MethodName := ⟨RX7, "corrupt", "(III)Z"⟩
abbrev cX7_timeout : ByteArray := prog_1_method_14_code
def yX7_timeout : MethodName := ⟨RX7, "timeout", "(I)I"⟩
abbrev cX7_wire : ByteArray := prog_1_method_15_code
def yX7_wire : MethodName := ⟨RX7, "wire", "(III)I"⟩
abbrev cX7_stream : ByteArray := prog_1_method_16_code
def yX7_stream : MethodName := ⟨RX7, "stream", "(III)I"⟩
abbrev cX7_side : ByteArray := prog_1_method_17_code
def yX7_side : MethodName := ⟨RX7, "side", "(II)I"⟩
abbrev cX7_sideAt : ByteArray := prog_1_method_18_code
def yX7_sideAt : MethodName := ⟨RX7, "sideAt", "(I)LStreamWires$Side;"⟩
abbrev cX7_flowAt : ByteArray := prog_1_method_19_code
def yX7_flowAt : MethodName := ⟨RX7, "flowAt", "(II)LStreamWires$Flow;"⟩
abbrev cX7_frameAt : ByteArray := prog_1_method_20_code
def yX7_frameAt : MethodName := ⟨RX7, "frameAt", "(II)LStreamWires$Frame;"⟩
abbrev cX7_putItem : ByteArray := prog_1_method_21_code
def yX7_putItem : MethodName := ⟨RX7, "putItem", "(IIIZ)I"⟩
abbrev cX7_within : ByteArray := prog_1_method_22_code
def yX7_within : MethodName := ⟨RX7, "within", "(III)I"⟩
abbrev cX7_bit : ByteArray := prog_1_method_23_code
def yX7_bit : MethodName := ⟨RX7, "bit", "(Z)I"⟩
def RX8 : String := "StreamWiresModel"
def TX8 : u_T := fun k => match k with
  | 0 => ("StreamWiresModel", "streams", "I", true)
  | 1 => ("StreamWiresModel", "most", "I", true)
  | 2 => ("StreamWiresModel", "window", "I", true)
  | 3 => ("StreamWiresModel", "cells", "I", true)
  | 4 => ("StreamWiresModel", "wire1", "I", true)
  | 5 => ("StreamWiresModel", "kept", "I", true)
  | 6 => ("StreamWiresModel", "how", "[I", true)
  | 7 => ("StreamWiresModel", "shut", "[Z", true)
  | 8 => ("StreamWiresModel", "credit", "[I", true)
  | 9 => ("StreamWiresModel", "due", "[I", true)
  | 10 => ("StreamWiresModel", "weight", "[I", true)
  | 11 => ("StreamWiresModel", "openingWaits", "[Z", true)
  | 12 => ("StreamWiresModel", "endWaits", "[Z", true)
  | 13 => ("StreamWiresModel", "openingCame", "[Z", true)
  | 14 => ("StreamWiresModel", "words", "[I", true)
  | 15 => ("StreamWiresModel", "marks", "[I", true)
  | 16 => ("StreamWiresModel", "queued", "[I", true)
  | 17 => ("StreamWiresModel", "queueWord", "[I", true)
  | 18 => ("StreamWiresModel", "queueMark", "[Z", true)
  | 19 => ("StreamWiresModel", "lying", "[I", true)
  | 20 => ("StreamWiresModel", "lyingWord", "[I", true)
  | 21 => ("StreamWiresModel", "lyingMark", "[Z", true)
  | 22 => ("StreamWiresModel", "out", "[I", true)
  | 23 => ("StreamWiresModel", "outSize", "[I", true)
  | 24 => ("StreamWiresModel", "outWord", "[I", true)
  | 25 => ("StreamWiresModel", "on", "[I", true)
  | 26 => ("StreamWiresModel", "onSize", "[I", true)
  | 27 => ("StreamWiresModel", "onWord", "[I", true)
  | 28 => ("StreamWiresModel", "next", "[I", true)
  | 29 => ("StreamWiresModel", "wanted", "[I", true)
  | 30 => ("StreamWiresModel", "turn", "[I", true)
  | 31 => ("StreamWiresModel", "left", "[I", true)
  | 32 => ("StreamWiresModel", "heard", "[Z", true)
  | 33 => ("StreamWiresModel", "sent", "[I", true)
  | 34 => ("StreamWiresModel", "taken", "[I", true)
  | 35 => ("StreamWiresModel", "spoilt", "[I", true)
  | 36 => ("StreamWiresModel", "late", "[I", true)
  | 37 => ("StreamWiresModel", "last", "[I", true)
  | 38 => ("StreamWiresModel", "frame", "[I", true)
  | _ => ("StreamWiresModel", "size", "I", false)
def tyX8 : Nat → FieldType := fun k => match k with
  | 0 => .int
  | 1 => .int
  | 2 => .int
  | 3 => .int
  | 4 => .int
  | 5 => .int
  | 6 => .array .int
  | 7 => .array .boolean
  | 8 => .array .int
  | 9 => .array .int
  | 10 => .array .int
  | 11 => .array .boolean
  | 12 => .array .boolean
  | 13 => .array .boolean
  | 14 => .array .int
  | 15 => .array .int
  | 16 => .array .int
  | 17 => .array .int
  | 18 => .array .boolean
  | 19 => .array .int
  | 20 => .array .int
  | 21 => .array .boolean
  | 22 => .array .int
  | 23 => .array .int
  | 24 => .array .int
  | 25 => .array .int
  | 26 => .array .int
  | 27 => .array .int
  | 28 => .array .int
  | 29 => .array .int
  | 30 => .array .int
  | 31 => .array .int
  | 32 => .array .boolean
  | 33 => .array .int
  | 34 => .array .int
  | 35 => .array .int
  | 36 => .array .int
  | 37 => .array .int
  | 38 => .array .int
  | _ => .int
abbrev wsX80 : List Cond := u_ws RX8 TX8 40
theorem nmX8 : ∀ a, a < 40 → ∀ b, b < 40 → a ≠ b → (TX8 a).2.1 ≠ (TX8 b).2.1 := by decide +kernel
theorem tyX8_ok : ∀ k, k < 40 → parseFieldDescriptor (TX8 k).2.2.1 = some (tyX8 k) := by decide +kernel
abbrev cX8_within : ByteArray := prog_10_method_1_code
def yX8_within : MethodName := ⟨RX8, "within", "(III)I"⟩
abbrev cX8_init : ByteArray := prog_10_method_2_code
def yX8_init : MethodName := ⟨RX8, "<init>", "(IIIII)V"⟩
abbrev cX8_isSide : ByteArray := prog_10_method_3_code
def yX8_isSide : MethodName := ⟨RX8, "isSide", "(I)Z"⟩
abbrev cX8_isStream : ByteArray := prog_10_method_4_code
def yX8_isStream : MethodName := ⟨RX8, "isStream", "(II)Z"⟩
abbrev cX8_free : ByteArray := prog_10_method_5_code
def yX8_free : MethodName := ⟨RX8, "free", "(I)I"⟩
abbrev cX8_open : ByteArray := prog_10_method_6_code
def yX8_open : MethodName := ⟨RX8, "open", "(II)I"⟩
abbrev cX8_begin : ByteArray := prog_10_method_7_code
def yX8_begin : MethodName := ⟨RX8, "begin", "(I)V"⟩
abbrev cX8_put : ByteArray := prog_10_method_8_code
def yX8_put : MethodName := ⟨RX8, "put", "(IIIZ)I"⟩
abbrev cX8_send : ByteArray := prog_10_method_9_code
def yX8_send : MethodName := ⟨RX8, "send", "(III)I"⟩
abbrev cX8_mark : ByteArray := prog_10_method_10_code
def yX8_mark : MethodName := ⟨RX8, "mark", "(II)I"⟩
abbrev cX8_close : ByteArray := prog_10_method_11_code
def yX8_close : MethodName := ⟨RX8, "close", "(II)I"⟩
abbrev cX8_receive : ByteArray := prog_10_method_12_code
def yX8_receive : MethodName := ⟨RX8, "receive", "(II)I"⟩
abbrev cX8_word : ByteArray := prog_10_method_13_code
def yX8_word : MethodName := ⟨RX8, "word", "(I)I"⟩
abbrev cX8_weight : ByteArray := prog_10_method_14_code
def yX8_weight : MethodName := ⟨RX8, "weight", "(III)I"⟩
abbrev cX8_sumOf : ByteArray := prog_10_method_15_code
def yX8_sumOf : MethodName := ⟨RX8, "sumOf", "(I)I"⟩
abbrev cX8_beginFrame : ByteArray := prog_10_method_16_code
def yX8_beginFrame : MethodName := ⟨RX8, "beginFrame", "(IIII)V"⟩
abbrev cX8_add : ByteArray := prog_10_method_17_code
def yX8_add : MethodName := ⟨RX8, "add", "(I)V"⟩
abbrev cX8_finish : ByteArray := prog_10_method_18_code
def yX8_finish : MethodName := ⟨RX8, "finish", "(I)V"⟩
abbrev cX8_ontoWire : ByteArray := prog_10_method_19_code
def yX8_ontoWire : MethodName := ⟨RX8, "ontoWire", "(I)V"⟩
abbrev cX8_hasSome : ByteArray := prog_10_method_20_code
def yX8_hasSome : MethodName := ⟨RX8, "hasSome", "(II)Z"⟩
abbrev cX8_sendOf : ByteArray := prog_10_method_21_code
def yX8_sendOf : MethodName := ⟨RX8, "sendOf", "(II)V"⟩
abbrev cX8_pump : ByteArray := prog_10_method_22_code
def yX8_pump : MethodName := ⟨RX8, "pump", "(I)I"⟩
abbrev cX8_drain : ByteArray := prog_10_method_23_code
def yX8_drain : MethodName := ⟨RX8, "drain", "(II)I"⟩
abbrev cX8_dropOldest : ByteArray := prog_10_method_24_code
def yX8_dropOldest : MethodName := ⟨RX8, "dropOldest", "(I)V"⟩
abbrev cX8_kind : ByteArray := prog_10_method_25_code
def yX8_kind : MethodName := ⟨RX8, "kind", "()I"⟩
abbrev cX8_streamIn : ByteArray := prog_10_method_26_code
def yX8_streamIn : MethodName := ⟨RX8, "streamIn", "()I"⟩
abbrev cX8_countIn : ByteArray := prog_10_method_27_code
def yX8_countIn : MethodName := ⟨RX8, "countIn", "()I"⟩
abbrev cX8_isFrame : ByteArray := prog_10_method_28_code
def yX8_isFrame : MethodName := ⟨RX8, "isFrame", "()Z"⟩
abbrev cX8_confirm : ByteArray := prog_10_method_29_code
def yX8_confirm : MethodName := ⟨RX8, "confirm", "(II)V"⟩
abbrev cX8_canBe : ByteArray := prog_10_method_30_code
def yX8_canBe : MethodName := ⟨RX8, "canBe", "(I)Z"⟩
abbrev cX8_take : ByteArray := prog_10_method_31_code
def yX8_take : MethodName := ⟨RX8, "take", "(I)V"⟩
abbrev cX8_deliver : ByteArray := prog_10_method_32_code
def yX8_deliver : MethodName := ⟨RX8, "deliver", "(I)I"⟩
abbrev cX8_lose : ByteArray := prog_10_method_33_code
def yX8_lose : MethodName := ⟨RX8, "lose", "(I)Z"⟩
abbrev cX8_corrupt : ByteArray := prog_10_method_34_code
def yX8_corrupt : MethodName := ⟨RX8, "corrupt", "(III)Z"⟩
abbrev cX8_timeout : ByteArray := prog_10_method_35_code
def yX8_timeout : MethodName := ⟨RX8, "timeout", "(I)I"⟩
abbrev cX8_wire : ByteArray := prog_10_method_36_code
def yX8_wire : MethodName := ⟨RX8, "wire", "(III)I"⟩
abbrev cX8_stream : ByteArray := prog_10_method_37_code
def yX8_stream : MethodName := ⟨RX8, "stream", "(III)I"⟩
abbrev cX8_side : ByteArray := prog_10_method_38_code
def yX8_side : MethodName := ⟨RX8, "side", "(II)I"⟩
def RJ9 : String := "java/lang/Math"
def TJ9 : u_T := fun k => match k with
  | _ => ("", "", "", false)
def tyJ9 : Nat → FieldType := fun k => match k with
  | _ => .int
abbrev wsJ90 : List Cond := u_ws RJ9 TJ9 0
theorem nmJ9 : ∀ a, a < 0 → ∀ b, b < 0 → a ≠ b → (TJ9 a).2.1 ≠ (TJ9 b).2.1 := by decide +kernel
theorem tyJ9_ok : ∀ k, k < 0 → parseFieldDescriptor (TJ9 k).2.2.1 = some (tyJ9 k) := by decide +kernel
abbrev cJ9_max_7cf53 : ByteArray := prog_11_method_65_code
def yJ9_max_7cf53 : MethodName := ⟨RJ9, "max", "(II)I"⟩
abbrev cJ9_min_7cf53 : ByteArray := prog_11_method_69_code
def yJ9_min_7cf53 : MethodName := ⟨RJ9, "min", "(II)I"⟩
def RL : String := "StreamWiresLaw"
abbrev cL_cell : ByteArray := method_2_code
def yL_cell : MethodName := ⟨RL, "cell", "([II)I"⟩
abbrev cL_law : ByteArray := code
def yL_law : MethodName := ⟨RL, "law", "([I)Z"⟩
abbrev vwCl : List vw_C := [(RX0, TX0, 4), (RX1, TX1, 13), (RX2, TX2, 2), (RX3, TX3, 3), (RX4, TX4, 6), (RX5, TX5, 4), (RX6, TX6, 15), (RX7, TX7, 2), (RX8, TX8, 40)]
theorem inX0 : ∀ w ∈ wsX00, w ∈ lw_tbl := by decide +kernel
theorem inX1 : ∀ w ∈ wsX10, w ∈ lw_tbl := by decide +kernel
theorem inX2 : ∀ w ∈ wsX20, w ∈ lw_tbl := by decide +kernel
theorem inX3 : ∀ w ∈ wsX30, w ∈ lw_tbl := by decide +kernel
theorem inX4 : ∀ w ∈ wsX40, w ∈ lw_tbl := by decide +kernel
theorem inX5 : ∀ w ∈ wsX50, w ∈ lw_tbl := by decide +kernel
theorem inX6 : ∀ w ∈ wsX60, w ∈ lw_tbl := by decide +kernel
theorem inX7 : ∀ w ∈ wsX70, w ∈ lw_tbl := by decide +kernel
theorem inX8 : ∀ w ∈ wsX80, w ∈ lw_tbl := by decide +kernel
end
section
/-! The abstract machine of one method: values, stores, locals; the layout of the kinds; one step; many steps -/
abbrev sw_V : Type := Int32 ⊕ Option (Nat × Nat)
abbrev sw_S : Type := Nat → Nat → Nat → Int32
abbrev sw_L : Type := List (Option sw_V)
abbrev sw_I : Type := Nat × Nat × Nat × Nat × Int32
abbrev sw_F : Type := List sw_V → sw_S → Prop × (Option sw_V × sw_S)
abbrev sw_A : Type := Nat → Nat → Nat
abbrev sw_R : Type := Nat → Nat → Nat → Nat
abbrev sw_C : Type := List (Nat × Nat × Nat × sw_F)
abbrev sw_T : Type := Nat → List (Int32 × Nat)
def sw_up (σ : sw_S) (c k j : Nat) (v : Int32) : sw_S := fun c' k' j' => if c' = c ∧ k' = k ∧ j' = j then v else σ c' k' j'
def sw_get : sw_L → Nat → Option sw_V
  | [], _ => none
  | x :: _, 0 => x
  | _ :: l, n + 1 => sw_get l n
def sw_set : sw_L → Nat → sw_V → sw_L
  | [], _, _ => []
  | _ :: l, 0, v => some v :: l
  | x :: l, n + 1, v => x :: sw_set l n v
def sw_nth : List Nat → Nat → Option Nat
  | [], _ => none
  | x :: _, 0 => some x
  | _ :: l, n + 1 => sw_nth l n
def sw_tk : Nat → List sw_V → List sw_V → Option (List sw_V × List sw_V)
  | 0, st, acc => some (acc, st)
  | n + 1, v :: st, acc => sw_tk n st (v :: acc)
  | _ + 1, [], _ => none
def sw_lk : sw_C → Nat → Option (Nat × Nat × sw_F)
  | [], _ => none
  | q :: l, i => bif Nat.beq q.1 i then some q.2 else sw_lk l i
def sw_fl : List (Nat × Nat × Nat) → Nat → Option (Nat × Nat)
  | [], _ => none
  | q :: l, i => bif Nat.beq q.1 i then some q.2 else sw_fl l i
def sw_cn : List (Nat × Int32) → Nat → Option Int32
  | [], _ => none
  | q :: l, i => bif Nat.beq q.1 i then some q.2 else sw_cn l i
/-- a call's receiver: md 0 is static, md k + 1 wants an object of kind k -/
def sw_rc (md b : Nat) (avs : List sw_V) : Bool := match md with
  | 0 => Nat.beq b 1
  | c0 + 1 => Nat.beq b 0 && (match avs with
    | .inr (some q) :: _ => Nat.beq q.1 c0
    | _ => false)
def sw_bo (x : Int32) : Prop := x = 0 ∨ x = 1
def sw_ushr (x y : Int32) : Int32 := (x.toUInt32 >>> (y.toUInt32 &&& Int32.toUInt32 31)).toInt32
def sw_rem (x y : Int32) : Int32 := x - x / y * y
def sw_ar (a : Nat) (x y : Int32) : Int32 := match a with
  | 0 => x + y
  | 1 => x - y
  | 2 => x * y
  | 3 => x &&& y
  | 4 => x ||| y
  | 5 => x ^^^ y
  | 6 => x <<< (y &&& 31)
  | 7 => x >>> (y &&& 31)
  | _ => sw_ushr x y
def sw_br (a : Nat) (x y : Int32) (T F : Prop) : Prop := match a with
  | 0 => (x = y → T) ∧ (¬ x = y → F)
  | 1 => (¬ x = y → T) ∧ (x = y → F)
  | 2 => (x < y → T) ∧ (¬ x < y → F)
  | 3 => (y ≤ x → T) ∧ (¬ y ≤ x → F)
  | 4 => (y < x → T) ∧ (¬ y < x → F)
  | _ => (x ≤ y → T) ∧ (¬ x ≤ y → F)
def sw_sw (x : Int32) (d : Nat) (K : Nat → Prop) : List (Int32 × Nat) → Prop
  | [] => K d
  | q :: l => (x = q.1 → K q.2) ∧ (¬ x = q.1 → sw_sw x d K l)
def sw_lay (c : Nat) : List Nat ⊕ Nat := match c with
  | 0 => .inl [12, 13, 14, 0]
  | 1 => .inl [8, 8, 2, 0, 0, 0, 0, 1, 1, 1, 1, 0, 0]
  | 2 => .inl [15, 0]
  | 3 => .inl [16, 0, 0]
  | 4 => .inl [2, 2, 2, 2, 2, 2]
  | 5 => .inl [3, 0, 0, 0]
  | 6 => .inl [7, 17, 6, 6, 5, 0, 0, 0, 0, 1, 0, 0, 0, 0, 0]
  | 7 => .inl [9, 9]
  | 8 => .inl [2, 2, 2, 2, 2, 2, 18, 19, 18, 18, 18, 19, 19, 19, 18, 18, 18, 18, 19, 18, 18, 19, 18, 18, 18, 18, 18, 18, 18, 18, 18, 18, 19, 18, 18, 18, 18, 18, 18, 0]
  | 9 => .inr 0
  | 10 => .inr 1
  | 11 => .inr 0
  | 12 => .inr 0
  | 13 => .inr 4
  | 14 => .inr 3
  | 15 => .inr 0
  | 16 => .inr 1
  | _ => .inr 9999
/-- one instruction: (which, a, b, the next pc, a number) -/
def sw_st (rf : sw_R) (ln : sw_A) (CT : sw_C) (TS : List (Int32 × Nat)) (rt : Nat) (Q : Option sw_V → sw_S → Prop) (K : Nat → sw_L → List sw_V → sw_S → Prop) (i : sw_I) (ls : sw_L) (st : List sw_V) (σ : sw_S) : Prop :=
  match i with
  | (0, _, _, nx, v) => K nx ls (.inl v :: st) σ
  | (1, a, _, nx, _) => match sw_get ls a with
    | some (.inl x) => K nx ls (.inl x :: st) σ
    | _ => False
  | (2, a, _, nx, _) => match sw_get ls a with
    | some (.inr r) => K nx ls (.inr r :: st) σ
    | _ => False
  | (3, a, _, nx, _) => match st with
    | .inl x :: st' => bif Nat.blt a ls.length then K nx (sw_set ls a (.inl x)) st' σ else False
    | _ => False
  | (4, a, _, nx, _) => match st with
    | .inr r :: st' => bif Nat.blt a ls.length then K nx (sw_set ls a (.inr r)) st' σ else False
    | _ => False
  | (5, a, _, nx, v) => match sw_get ls a with
    | some (.inl x) => K nx (sw_set ls a (.inl (x + v))) st σ
    | _ => False
  | (6, a, _, nx, _) => match st with
    | .inl y :: .inl x :: st' => K nx ls (.inl (sw_ar a x y) :: st') σ
    | _ => False
  | (7, a, b, nx, _) => match st with
    | .inr (some q) :: st' => bif Nat.beq q.1 a then (match sw_lay a with
      | .inl ds => match sw_nth ds b with
        | some d => K nx ls ((bif Nat.blt d 3 then .inl (σ a q.2 b) else .inr (some (d - 3, rf a q.2 b))) :: st') σ
        | none => False
      | _ => False) else False
    | _ => False
  | (8, a, b, nx, _) => match st with
    | .inl x :: .inr (some q) :: st' => bif Nat.beq q.1 a then (match sw_lay a with
      | .inl ds => match sw_nth ds b with
        | some 0 => K nx ls st' (sw_up σ a q.2 b x)
        | some 1 => sw_bo x ∧ K nx ls st' (sw_up σ a q.2 b x)
        | _ => False
      | _ => False) else False
    | _ => False
  | (9, a, _, nx, _) => match st with
    | .inl j :: .inr (some q) :: st' => (match sw_lay q.1 with
      | .inr t => vp_in j (ln q.1 q.2) ∧ (match a with
        | 2 => (bif Nat.ble 2 t then K nx ls (.inr (some (t - 2, rf q.1 q.2 j.toNatClampNeg)) :: st') σ else False)
        | _ => (bif Nat.beq t a then K nx ls (.inl (σ q.1 q.2 j.toNatClampNeg) :: st') σ else False))
      | _ => False)
    | _ => False
  | (10, a, _, nx, _) => match st with
    | .inl x :: .inl j :: .inr (some q) :: st' => (match sw_lay q.1 with
      | .inr t => bif Nat.beq t a then (vp_in j (ln q.1 q.2) ∧ (match a with
        | 0 => K nx ls st' (sw_up σ q.1 q.2 j.toNatClampNeg x)
        | _ => sw_bo x ∧ K nx ls st' (sw_up σ q.1 q.2 j.toNatClampNeg x))) else False
      | _ => False)
    | _ => False
  | (11, _, _, nx, _) => match st with
    | .inr (some q) :: st' => (match sw_lay q.1 with
      | .inr t => bif Nat.ble t 4 then K nx ls (.inl (nI (ln q.1 q.2)) :: st') σ else False
      | _ => False)
    | _ => False
  | (12, a, b, nx, _) => match st with
    | .inl x :: st' => sw_br a x 0 (K b ls st' σ) (K nx ls st' σ)
    | _ => False
  | (13, a, b, nx, _) => match st with
    | .inl y :: .inl x :: st' => sw_br a x y (K b ls st' σ) (K nx ls st' σ)
    | _ => False
  | (14, _, b, nx, _) => match st with
    | .inr none :: st' => K b ls st' σ
    | .inr (some _) :: st' => K nx ls st' σ
    | _ => False
  | (15, _, b, nx, _) => match st with
    | .inr none :: st' => K nx ls st' σ
    | .inr (some _) :: st' => K b ls st' σ
    | _ => False
  | (16, _, b, _, _) => K b ls st σ
  | (17, a, _, _, _) => match st with
    | .inl x :: st' => sw_sw x a (fun t => K t ls st' σ) TS
    | _ => False
  | (18, a, b, nx, _) => match sw_lk CT a with
    | some (n, md, f) => (match sw_tk n st [] with
      | some (avs, st') => bif sw_rc md b avs && Nat.ble st'.length 8 then ((f avs σ).1 ∧ K nx ls ((f avs σ).2.1.toList ++ st') (f avs σ).2.2) else False
      | none => False)
    | none => False
  | (19, _, _, _, _) => match st with
    | [.inl x] => (match rt with
      | 1 => Q (some (.inl x)) σ
      | 2 => sw_bo x ∧ Q (some (.inl x)) σ
      | _ => False)
    | _ => False
  | (20, _, _, _, _) => match st with
    | [.inr r] => (match rt with
      | 3 => Q (some (.inr r)) σ
      | _ => False)
    | _ => False
  | (21, _, _, _, _) => match st with
    | [] => (match rt with
      | 0 => Q none σ
      | _ => False)
    | _ => False
  | (22, _, _, nx, _) => match st with
    | x :: st' => K nx ls (x :: x :: st') σ
    | _ => False
  | (23, _, _, nx, _) => match st with
    | x :: y :: st' => K nx ls (x :: y :: x :: y :: st') σ
    | _ => False
  | (24, _, _, nx, _) => match st with
    | _ :: st' => K nx ls st' σ
    | _ => False
  | (25, _, _, nx, _) => K nx ls (.inr none :: st) σ
  | (26, _, _, nx, _) => match st with
    | .inl y :: .inl x :: st' => ¬ y = 0 ∧ K nx ls (.inl (x / y) :: st') σ
    | _ => False
  | (27, _, _, nx, _) => match st with
    | .inl y :: .inl x :: st' => ¬ y = 0 ∧ K nx ls (.inl (sw_rem x y) :: st') σ
    | _ => False
  | _ => False
/-- the code of a method: a table up to a last pc -/
def sw_tab (N : Nat) (tree : Nat → sw_I) (pc : Nat) : sw_I := bif Nat.ble pc N then tree pc else (99, 0, 0, 0, 0)
def sw_wp (rf : sw_R) (ln : sw_A) (CT : sw_C) (TS : sw_T) (rt N : Nat) (tree : Nat → sw_I) (Q : Option sw_V → sw_S → Prop) : Nat → Nat → sw_L → List sw_V → sw_S → Prop
  | 0, _, _, _, _ => False
  | n + 1, pc, ls, st, σ => sw_st rf ln CT (TS pc) rt Q (sw_wp rf ln CT TS rt N tree Q n) (sw_tab N tree pc) ls st σ
theorem sw_br_mono {a : Nat} {x y : Int32} {T F T' F' : Prop} (hT : T → T') (hF : F → F') (h : sw_br a x y T F) : sw_br a x y T' F' := by
  unfold sw_br at h ⊢
  split at h <;> exact ⟨fun z => by first | exact hT (h.1 z), fun z => by first | exact hF (h.2 z)⟩
theorem sw_sw_mono {x : Int32} {d : Nat} {K K' : Nat → Prop} (hK : ∀ t, K t → K' t) : ∀ l : List (Int32 × Nat), sw_sw x d K l → sw_sw x d K' l
  | [], h => hK _ h
  | q :: l, h => ⟨fun z => hK _ (h.1 z), fun z => sw_sw_mono hK l (h.2 z)⟩
end
section
/-! The world: static addresses, references, lengths; a store of ints -/
def sw_tbl : List Cond := lw_tbl.filter goodWord
theorem sw_tbl_lw {w : Cond} (h : w ∈ sw_tbl) : w ∈ lw_tbl := (List.mem_filter.mp h).1
theorem sw_tbl_good : GoodIn sw_tbl sw_tbl := fun w h => ⟨h, good_of_word (List.mem_filter.mp h).2⟩
theorem sw_good_cons {w : Cond} (h : w ∈ sw_tbl) : GoodIn sw_tbl (w :: sw_tbl) := fun v hv => by
  rcases List.mem_cons.mp hv with rfl | h2
  · exact sw_tbl_good _ h
  · exact sw_tbl_good _ h2
def sw_em (ad : sw_A) : sw_V → Value
  | .inl x => .int x
  | .inr none => .null
  | .inr (some q) => .ref (ad q.1 q.2)
def sw_ov (V : Nat → Nat → Prop) : sw_V → Prop
  | .inl _ => True
  | .inr none => True
  | .inr (some q) => V q.1 q.2
theorem sw_em_cat (ad : sw_A) (v : sw_V) : (sw_em ad v).category = 1 := by
  rcases v with x | _ | q <;> rfl
def sw_wf (ad : sw_A) (V : Nat → Nat → Prop) (rf : sw_R) (ln : sw_A) : Prop :=
  (∀ c k c' k', V c k → V c' k' → ad c k = ad c' k' → c = c' ∧ k = k') ∧
  (∀ c k ds j d, V c k → sw_lay c = .inl ds → sw_nth ds j = some d → 3 ≤ d → V (d - 3) (rf c k j)) ∧
  (∀ c k t j, V c k → sw_lay c = .inr t → 2 ≤ t → j < ln c k → V (t - 2) (rf c k j)) ∧
  (∀ c k, V c k → c < 17)
def sw_fv (ad : sw_A) (rf : sw_R) (c k : Nat) (r : Nat → Int32) (j d : Nat) : Value := bif Nat.blt d 3 then .int (r j) else .ref (ad (d - 3) (rf c k j))
def sw_fs (ad : sw_A) (rf : sw_R) (c k : Nat) (r : Nat → Int32) : List Nat → Nat → List Value
  | [], _ => []
  | d :: l, j => sw_fv ad rf c k r j d :: sw_fs ad rf c k r l (j + 1)
def sw_en (ad : sw_A) (rf : sw_R) (ln : sw_A) (ca : Nat → ClassId) (c k : Nat) (r : Nat → Int32) : va_E := match sw_lay c with
  | .inl ds => .inr (c, sw_fs ad rf c k r ds 0)
  | .inr t => bif Nat.blt t 2 then .inl (ca t, ln c k, .inl r) else .inl (ca t, ln c k, .inr (.inr (.inr (.inr (fun j => some (ad (t - 2) (rf c k j)))))))
def sw_w (ad : sw_A) (V : Nat → Nat → Prop) (rf : sw_R) (ln : sw_A) (ca : Nat → ClassId) (D : va_G) (σ : sw_S) (H : Heap) : Prop := ∀ c k, V c k → va_at D vwCl (ad c k, sw_en ad rf ln ca c k (σ c k)) H
def sw_ty (ca : Nat → ClassId) : List (ClassId × FieldType) := [(ca 0, .int), (ca 1, .boolean), (ca 3, .object "StreamWires$Flow"), (ca 4, .object "StreamWires$Frame")]
def sw_ad (ad : sw_A) (V : Nat → Nat → Prop) : Nat → Prop := fun q => ∃ c k, V c k ∧ ad c k = q
def sw_cl : Nat → vw_C
  | 0 => (RX0, TX0, 4)
  | 1 => (RX1, TX1, 13)
  | 2 => (RX2, TX2, 2)
  | 3 => (RX3, TX3, 3)
  | 4 => (RX4, TX4, 6)
  | 5 => (RX5, TX5, 4)
  | 6 => (RX6, TX6, 15)
  | 7 => (RX7, TX7, 2)
  | _ => (RX8, TX8, 40)
def sw_tc : Nat → Nat → FieldType
  | 0 => tyX0
  | 1 => tyX1
  | 2 => tyX2
  | 3 => tyX3
  | 4 => tyX4
  | 5 => tyX5
  | 6 => tyX6
  | 7 => tyX7
  | _ => tyX8
theorem sw_lay_lt {c : Nat} {ds : List Nat} (h : sw_lay c = .inl ds) : c < 9 := by
  match c, h with
  | 0, _ => decide
  | 1, _ => decide
  | 2, _ => decide
  | 3, _ => decide
  | 4, _ => decide
  | 5, _ => decide
  | 6, _ => decide
  | 7, _ => decide
  | 8, _ => decide
  | 9, h => cases h
  | 10, h => cases h
  | 11, h => cases h
  | 12, h => cases h
  | 13, h => cases h
  | 14, h => cases h
  | 15, h => cases h
  | 16, h => cases h
  | n + 17, h => cases h
theorem sw_9 {P : Nat → Prop} (h0 : P 0) (h1 : P 1) (h2 : P 2) (h3 : P 3) (h4 : P 4) (h5 : P 5) (h6 : P 6) (h7 : P 7) (h8 : P 8) {c : Nat} (h : c < 9) : P c := by
  match c, h with
  | 0, _ => exact h0
  | 1, _ => exact h1
  | 2, _ => exact h2
  | 3, _ => exact h3
  | 4, _ => exact h4
  | 5, _ => exact h5
  | 6, _ => exact h6
  | 7, _ => exact h7
  | 8, _ => exact h8
theorem sw_cl_at {c : Nat} (h : c < 9) : vwCl[c]? = some (sw_cl c) := sw_9 (P := fun c => vwCl[c]? = some (sw_cl c)) rfl rfl rfl rfl rfl rfl rfl rfl rfl h
theorem sw_cl_in {c : Nat} (h : c < 9) : ∀ w ∈ u_ws (sw_cl c).1 (sw_cl c).2.1 (sw_cl c).2.2, w ∈ sw_tbl :=
  sw_9 (P := fun c => ∀ w ∈ u_ws (sw_cl c).1 (sw_cl c).2.1 (sw_cl c).2.2, w ∈ sw_tbl) (by decide +kernel) (by decide +kernel) (by decide +kernel) (by decide +kernel) (by decide +kernel) (by decide +kernel) (by decide +kernel) (by decide +kernel) (by decide +kernel) h
theorem sw_cl_ty {c : Nat} (h : c < 9) : ∀ k, k < (sw_cl c).2.2 → parseFieldDescriptor ((sw_cl c).2.1 k).2.2.1 = some (sw_tc c k) :=
  sw_9 (P := fun c => ∀ k, k < (sw_cl c).2.2 → parseFieldDescriptor ((sw_cl c).2.1 k).2.2.1 = some (sw_tc c k)) tyX0_ok tyX1_ok tyX2_ok tyX3_ok tyX4_ok tyX5_ok tyX6_ok tyX7_ok tyX8_ok h
theorem sw_cl_nm {c : Nat} (h : c < 9) : ∀ a, a < (sw_cl c).2.2 → ∀ b, b < (sw_cl c).2.2 → a ≠ b → ((sw_cl c).2.1 a).2.1 ≠ ((sw_cl c).2.1 b).2.1 :=
  sw_9 (P := fun c => ∀ a, a < (sw_cl c).2.2 → ∀ b, b < (sw_cl c).2.2 → a ≠ b → ((sw_cl c).2.1 a).2.1 ≠ ((sw_cl c).2.1 b).2.1) nmX0 nmX1 nmX2 nmX3 nmX4 nmX5 nmX6 nmX7 nmX8 h
def sw_fok (c : Nat) : Bool := match sw_lay c with
  | .inl ds => Nat.beq ds.length (sw_cl c).2.2 && (List.range (sw_cl c).2.2).all (fun j => match sw_nth ds j with
    | some 0 => decide (sw_tc c j = .int ∧ ((sw_cl c).2.1 j).2.2.2 = false)
    | some 1 => decide (sw_tc c j = .boolean ∧ ((sw_cl c).2.1 j).2.2.2 = false)
    | some _ => true
    | none => false)
  | _ => false
theorem sw_fok_all : ∀ c, c < 9 → sw_fok c = true := by decide +kernel
theorem sw_nth_lt : ∀ {l : List Nat} {j d : Nat}, sw_nth l j = some d → j < l.length
  | [], _, _, h => by cases h
  | _ :: l, 0, _, _ => Nat.zero_lt_succ _
  | _ :: l, j + 1, _, h => Nat.succ_lt_succ (sw_nth_lt (l := l) h)
theorem sw_f_lt {c j d : Nat} {ds : List Nat} (hl : sw_lay c = .inl ds) (hd : sw_nth ds j = some d) : j < (sw_cl c).2.2 := by
  have h := sw_fok_all c (sw_lay_lt hl)
  unfold sw_fok at h
  rw [hl] at h
  simp only [Bool.and_eq_true] at h
  rw [← Nat.eq_of_beq_eq_true h.1]
  exact sw_nth_lt hd
theorem sw_f_ty {c j d : Nat} {ds : List Nat} (hl : sw_lay c = .inl ds) (hd : sw_nth ds j = some d) : (d = 0 → sw_tc c j = .int ∧ ((sw_cl c).2.1 j).2.2.2 = false) ∧ (d = 1 → sw_tc c j = .boolean ∧ ((sw_cl c).2.1 j).2.2.2 = false) := by
  have hj := sw_f_lt hl hd
  have h := sw_fok_all c (sw_lay_lt hl)
  unfold sw_fok at h
  rw [hl] at h
  simp only [Bool.and_eq_true] at h
  have h2 := List.all_eq_true.mp h.2 j (List.mem_range.mpr hj)
  rw [hd] at h2
  refine ⟨fun e => ?_, fun e => ?_⟩
  · subst e
    exact of_decide_eq_true h2
  · subst e
    exact of_decide_eq_true h2
theorem sw_fs_at (ad : sw_A) (rf : sw_R) (c k : Nat) (r : Nat → Int32) : ∀ (ds : List Nat) (j0 j : Nat), (sw_fs ad rf c k r ds j0)[j]? = (sw_nth ds j).map (fun d => sw_fv ad rf c k r (j0 + j) d)
  | [], _, _ => by simp [sw_fs, sw_nth]
  | d :: l, j0, 0 => by simp [sw_fs, sw_nth]
  | d :: l, j0, j + 1 => by
    simp only [sw_fs, sw_nth, List.getElem?_cons_succ]
    rw [sw_fs_at ad rf c k r l (j0 + 1) j]
    rw [show j0 + 1 + j = j0 + (j + 1) by omega]
theorem sw_w.one {ad : sw_A} {V : Nat → Nat → Prop} {rf : sw_R} {ln : sw_A} {ca : Nat → ClassId} {D : va_G} {σ : sw_S} {H : Heap} (h : sw_w ad V rf ln ca D σ H) {c k : Nat} (hV : V c k) {E : va_E} (hE : sw_en ad rf ln ca c k (σ c k) = E) : va_P D vwCl [(ad c k, E)] H := by
  intro i q hq
  subst hE
  match i, hq with
  | 0, hq => cases hq; exact h c k hV
  | i + 1, hq => simp at hq
theorem sw_up_self (σ : sw_S) (c k j : Nat) (x : Int32) : sw_up σ c k j x c k = upd (σ c k) j x := by
  funext i
  simp only [sw_up, true_and, upd]
theorem sw_up_ne (σ : sw_S) (c k j : Nat) (x : Int32) {c' k' : Nat} (h : ¬ (c' = c ∧ k' = k)) : sw_up σ c k j x c' k' = σ c' k' := by
  funext i
  simp only [sw_up]
  rw [if_neg]
  exact fun z => h ⟨z.1, z.2.1⟩
/-- a cell is written: the world with the new entry -/
theorem sw_w.put {ad : sw_A} {V : Nat → Nat → Prop} {rf : sw_R} {ln : sw_A} {ca : Nat → ClassId} {D : va_G} {σ : sw_S} {H H1 : Heap} (hG : sw_wf ad V rf ln) (h : sw_w ad V rf ln ca D σ H) {c k j : Nat} {x : Int32} (hV : V c k) (he : va_at D vwCl (ad c k, sw_en ad rf ln ca c k (upd (σ c k) j x)) H1) (oq : ∀ q : Nat, q ≠ ad c k → H1[q]? = H[q]?) : sw_w ad V rf ln ca D (sw_up σ c k j x) H1 := by
  intro c' k' hV'
  by_cases hc : c' = c ∧ k' = k
  · obtain ⟨rfl, rfl⟩ := hc
    rw [sw_up_self]
    exact he
  · rw [sw_up_ne σ c k j x hc]
    exact (h c' k' hV').kept (oq _ (fun z => hc (hG.1 c' k' c k hV' hV z)))
theorem sw_w.kept {ad : sw_A} {V : Nat → Nat → Prop} {rf : sw_R} {ln : sw_A} {ca : Nat → ClassId} {D : va_G} {σ : sw_S} {H H1 : Heap} (h : sw_w ad V rf ln ca D σ H) (oq : ∀ c k, V c k → H1[ad c k]? = H[ad c k]?) : sw_w ad V rf ln ca D σ H1 := fun c k hV => (h c k hV).kept (oq c k hV)
end
section
/-! The rows of the heap over the world -/
section swRows
variable {p : Program} {l : Launch} {e : Env} {R : Room} {s : State} {m : MethodId} {args : Array Value} {below : List Frame} {meth : Method} {c : Code} {H : Heap} {locs : List Loc} {cells slots : Nat} {Q : State → Prop}
variable {cc : ByteArray} {pc : Nat} {ls : Array Slot} {rest : List Value} {ad : sw_A} {V : Nat → Nat → Prop} {rf : sw_R} {ln : sw_A} {ca : Nat → ClassId} {D : va_G} {σ : sw_S}
theorem sw_en_o {ck k : Nat} {r : Nat → Int32} {ds : List Nat} (hl : sw_lay ck = .inl ds) : sw_en ad rf ln ca ck k r = .inr (ck, sw_fs ad rf ck k r ds 0) := by
  unfold sw_en
  rw [hl]
theorem sw_en_a {ck k t : Nat} {r : Nat → Int32} (hl : sw_lay ck = .inr t) (ht : t < 2) : sw_en ad rf ln ca ck k r = .inl (ca t, ln ck k, .inl r) := by
  unfold sw_en
  rw [hl]
  have h2 : Nat.blt t 2 = true := Nat.ble_eq.mpr ht
  simp only [h2, cond_true]
theorem sw_en_q {ck k t : Nat} {r : Nat → Int32} (hl : sw_lay ck = .inr t) (ht : 2 ≤ t) : sw_en ad rf ln ca ck k r = .inl (ca t, ln ck k, .inr (.inr (.inr (.inr (fun j => some (ad (t - 2) (rf ck k j))))))) := by
  unfold sw_en
  rw [hl]
  have h2 : Nat.blt t 2 = false := by
    rw [← Bool.not_eq_true]
    intro h
    exact absurd (Nat.le_of_ble_eq_true h) (by omega)
  simp only [h2, cond_false]
theorem sw_getf (hx : p.tables.exec = Jvm.exec) (hb : c.code = cc) {own : String} {idx : Nat} (hts : ∀ w ∈ sw_tbl, w.before args s = true) (hown : s.vm.findClass own = some m.cls) (hK : va_K D vwCl (sw_ty ca) s) (hw : sw_w ad V rf ln ca D σ H) {ck k j d : Nat} {ds : List Nat} (hV : V ck k) (hl : sw_lay ck = .inl ds) (hd : sw_nth ds j = some d)
    (hlink : Cond.fieldLink own idx ((sw_cl ck).2.1 j).1 ((sw_cl ck).2.1 j).2.1 ((sw_cl ck).2.1 j).2.2.1 ∈ sw_tbl) (hdg : decode cc pc = .ok (.getfield idx, 3))
    (kk : W p l e R s m args below meth c H locs cells slots Q (F0 m (pc + 3) ls (sw_fv ad rf ck k (σ ck k) j d :: rest))) : W p l e R s m args below meth c H locs cells slots Q (F0 m pc ls (.ref (ad ck k) :: rest)) := by
  have hP := hw.one hV (sw_en_o hl)
  refine va_get (C := (sw_cl ck).1) (T := (sw_cl ck).2.1) (N := (sw_cl ck).2.2) (ci := ck) hx hb hts (sw_cl_in (sw_lay_lt hl)) hown hK hP 0 rfl (sw_cl_at (sw_lay_lt hl)) j (sw_f_lt hl hd) (hts _ hlink) (fun _ h => h) ?_ hdg kk
  rw [sw_fs_at, hd, Nat.zero_add]
  rfl
theorem sw_putf (hx : p.tables.exec = Jvm.exec) (hb : c.code = cc) {own : String} {idx : Nat} (hts : ∀ w ∈ sw_tbl, w.before args s = true) (hown : s.vm.findClass own = some m.cls) (hK : va_K D vwCl (sw_ty ca) s) (hG : sw_wf ad V rf ln) (hw : sw_w ad V rf ln ca D σ H) (hS : va_S (sw_ad ad V) s.heap H locs) {ck k j d : Nat} {ds : List Nat} {x : Int32} (hV : V ck k) (hl : sw_lay ck = .inl ds) (hd : sw_nth ds j = some d) (hd2 : d = 0 ∨ (d = 1 ∧ sw_bo x))
    (hlink : Cond.fieldLink own idx ((sw_cl ck).2.1 j).1 ((sw_cl ck).2.1 j).2.1 ((sw_cl ck).2.1 j).2.2.1 ∈ sw_tbl) (hdg : decode cc pc = .ok (.putfield idx, 3))
    (kk : ∀ (H1 : Heap) (locs1 : List Loc), sw_w ad V rf ln ca D (sw_up σ ck k j x) H1 → va_S (sw_ad ad V) s.heap H1 locs1 → W p l e R s m args below meth c H1 locs1 cells slots Q (F0 m (pc + 3) ls rest)) : W p l e R s m args below meth c H locs cells slots Q (F0 m pc ls (.int x :: .ref (ad ck k) :: rest)) := by
  have h9 := sw_lay_lt hl
  have hj := sw_f_lt hl hd
  have hty := sw_f_ty hl hd
  have hpd := sw_cl_ty h9 j hj
  have hfin : ((sw_cl ck).2.1 j).2.2.2 = false := by
    rcases hd2 with h | h
    · exact (hty.1 h).2
    · exact (hty.2 h.1).2
  have hnf : narrow (sw_tc ck j) (.int x) = .int x ∧ fits (sw_tc ck j) (.int x) = true := by
    rcases hd2 with h | ⟨h, hbx⟩
    · rw [(hty.1 h).1]
      exact ⟨rfl, rfl⟩
    · rw [(hty.2 h).1]
      rcases hbx with rfl | rfl <;> exact ⟨rfl, rfl⟩
  have hap := va_apart (own := own) hts (sw_cl_in h9) (sw_tc ck) (sw_cl_ty h9) (sw_cl_nm h9) hK (sw_cl_at h9)
  have hat := hw ck k hV
  rw [sw_en_o hl] at hat
  obtain ⟨r, h1, cell, q1, q2, q3, q4⟩ := hat
  have hr : r = sw_cl ck := Option.some.inj (h1.symm.trans (sw_cl_at h9))
  subst hr
  obtain ⟨hSl, hfc, kC, hkC, hkind⟩ := hK.1 ck _ (sw_cl_at h9)
  obtain ⟨cf, kf, fi, f, hi, hsl⟩ := hSl j hj
  have hlay := hts _ (sw_cl_in h9 _ (u_in_lay hj))
  unfold u_lay at hlay
  rw [if_neg (by rw [hfin]; decide)] at hlay
  have hst := (u_facts hfc hkC (u_lays hts (sw_cl_in h9) hj) hi).1
  have h6 := u_store hfc hkC hkind hlay hi hpd hnf.1 hnf.2
  refine W.putK hx hb (f := f) ⟨hown, hts _ hlink, ⟨_, _, _, hi⟩, hst⟩ (by rw [q2]; exact h6) q1 q3 (by rw [hsl]; exact k2_hasslot (q4 j hj)) rfl rfl hdg fun H' e1 e2 e3 => ?_
  rw [hsl] at e1 ⊢
  refine kk H' _ (hw.put hG hV ?_ e3) (hS.put e2 e3 ⟨ck, k, hV, rfl⟩)
  rw [sw_en_o hl]
  refine ⟨_, sw_cl_at h9, t_OB.to (V := updV (vp_V (sw_fs ad rf ck k (σ ck k) ds 0)) j (.int x)) ⟨_, e1, q2, q3, t_set q4 hap hj (.int x)⟩ (fun i _ => ?_)⟩
  have hd3 : Nat.blt d 3 = true := by rcases hd2 with h | h <;> (first | rw [h] | rw [h.1]) <;> rfl
  simp only [vp_V, List.getD_eq_getElem?_getD, sw_fs_at, Nat.zero_add, updV]
  by_cases hij : i = j
  · subst hij
    simp only [if_true, hd, Option.map_some, Option.getD_some, sw_fv, hd3, cond_true, upd]
  · rw [if_neg hij]
    have : ∀ d', sw_fv ad rf ck k (σ ck k) i d' = sw_fv ad rf ck k (upd (σ ck k) j x) i d' := fun d' => by simp only [sw_fv, upd, if_neg hij]
    simp only [this]
theorem sw_ald (hx : p.tables.exec = Jvm.exec) (hb : c.code = cc) (hK : va_K D vwCl (sw_ty ca) s) (hw : sw_w ad V rf ln ca D σ H) {ck k : Nat} {j : Int32} (hV : V ck k) (hin : vp_in j (ln ck k))
    (hh : (sw_lay ck = .inr 0 ∧ decode cc pc = .ok (.iaload, 1)) ∨ (sw_lay ck = .inr 1 ∧ decode cc pc = .ok (.baload, 1)))
    (kk : W p l e R s m args below meth c H locs cells slots Q (F0 m (pc + 1) ls (.int (σ ck k j.toNatClampNeg) :: rest))) : W p l e R s m args below meth c H locs cells slots Q (F0 m pc ls (.int j :: .ref (ad ck k) :: rest)) := by
  rcases hh with ⟨hl, hdg⟩ | ⟨hl, hdg⟩
  · exact va_iald hx hb hK (hw.one hV (sw_en_a hl (by decide))) 0 0 rfl rfl hin hdg kk
  · exact va_zald hx hb hK (hw.one hV (sw_en_a hl (by decide))) 0 1 rfl rfl hin hdg kk
theorem sw_lay_q {ck t : Nat} (h17 : ck < 17) (hl : sw_lay ck = .inr t) (ht : 2 ≤ t) : t = 3 ∨ t = 4 := by
  match ck, h17, hl with
  | 9, _, hl => cases hl; exact absurd ht (by decide)
  | 10, _, hl => cases hl; exact absurd ht (by decide)
  | 11, _, hl => cases hl; exact absurd ht (by decide)
  | 12, _, hl => cases hl; exact absurd ht (by decide)
  | 13, _, hl => cases hl; exact Or.inr rfl
  | 14, _, hl => cases hl; exact Or.inl rfl
  | 15, _, hl => cases hl; exact absurd ht (by decide)
  | 16, _, hl => cases hl; exact absurd ht (by decide)
  | n + 17, h, _ => exact absurd h (by omega)
theorem sw_aldq (hx : p.tables.exec = Jvm.exec) (hb : c.code = cc) (hK : va_K D vwCl (sw_ty ca) s) (hG : sw_wf ad V rf ln) (hw : sw_w ad V rf ln ca D σ H) {ck k t : Nat} {j : Int32} (hV : V ck k) (hin : vp_in j (ln ck k)) (hl : sw_lay ck = .inr t) (ht : 2 ≤ t) (hdg : decode cc pc = .ok (.aaload, 1))
    (kk : W p l e R s m args below meth c H locs cells slots Q (F0 m (pc + 1) ls (.ref (ad (t - 2) (rf ck k j.toNatClampNeg)) :: rest))) : W p l e R s m args below meth c H locs cells slots Q (F0 m pc ls (.int j :: .ref (ad ck k) :: rest)) := by
  have h17 := hG.2.2.2 ck k hV
  have hP := hw.one hV (sw_en_q hl ht)
  rcases sw_lay_q h17 hl ht with rfl | rfl
  · exact va_aldq hx hb hK hP 0 2 rfl rfl hin hdg kk
  · exact va_aldq hx hb hK hP 0 3 rfl rfl hin hdg kk
theorem sw_len (hx : p.tables.exec = Jvm.exec) (hb : c.code = cc) (hK : va_K D vwCl (sw_ty ca) s) (hG : sw_wf ad V rf ln) (hw : sw_w ad V rf ln ca D σ H) {ck k t : Nat} (hV : V ck k) (hl : sw_lay ck = .inr t) (hdg : decode cc pc = .ok (.arraylength, 1))
    (kk : W p l e R s m args below meth c H locs cells slots Q (F0 m (pc + 1) ls (.int (nI (ln ck k)) :: rest))) : W p l e R s m args below meth c H locs cells slots Q (F0 m pc ls (.ref (ad ck k) :: rest)) := by
  have h17 := hG.2.2.2 ck k hV
  by_cases ht : t < 2
  · have hP := hw.one hV (sw_en_a hl ht)
    rcases (show t = 0 ∨ t = 1 by omega) with rfl | rfl
    · exact va_alen hx hb hK hP 0 0 rfl rfl rfl hdg kk
    · exact va_alen hx hb hK hP 0 1 rfl rfl rfl hdg kk
  · have hP := hw.one hV (sw_en_q hl (by omega))
    rcases sw_lay_q h17 hl (by omega) with rfl | rfl
    · exact va_alen hx hb hK hP 0 2 rfl rfl rfl hdg kk
    · exact va_alen hx hb hK hP 0 3 rfl rfl rfl hdg kk
theorem sw_ast (hx : p.tables.exec = Jvm.exec) (hb : c.code = cc) (hK : va_K D vwCl (sw_ty ca) s) (hG : sw_wf ad V rf ln) (hw : sw_w ad V rf ln ca D σ H) (hS : va_S (sw_ad ad V) s.heap H locs) {ck k : Nat} {j x : Int32} (hV : V ck k) (hin : vp_in j (ln ck k))
    (hh : (sw_lay ck = .inr 0 ∧ decode cc pc = .ok (.iastore, 1)) ∨ (sw_lay ck = .inr 1 ∧ sw_bo x ∧ decode cc pc = .ok (.bastore, 1)))
    (kk : ∀ (H1 : Heap) (locs1 : List Loc), sw_w ad V rf ln ca D (sw_up σ ck k j.toNatClampNeg x) H1 → va_S (sw_ad ad V) s.heap H1 locs1 → W p l e R s m args below meth c H1 locs1 cells slots Q (F0 m (pc + 1) ls rest)) : W p l e R s m args below meth c H locs cells slots Q (F0 m pc ls (.int x :: .int j :: .ref (ad ck k) :: rest)) := by
  rcases hh with ⟨hl, hdg⟩ | ⟨hl, hbx, hdg⟩
  · have hat := hw ck k hV
    rw [sw_en_a hl (by decide)] at hat
    refine W.iast hx hb hat ((hK.2 0 _ rfl).1 (ln ck k) (fun i => .int (σ ck k i))) (fun q => by cases q) (by show ¬ (j < 0 ∨ (arrV _ _ _).slots.size ≤ _); rw [arrV_size]; exact hin) rfl rfl hdg fun H1 e1 e2 e3 => ?_
    refine kk H1 _ (hw.put hG hV ?_ e3) (hS.put e2 e3 ⟨ck, k, hV, rfl⟩)
    rw [sw_en_a hl (by decide)]
    show H1[ad ck k]? = some (vp_cell _ _)
    rw [e1]
    rw [vp_cell_i, vp_cell_i, arrV_store]
    congr 2
    funext q
    by_cases hq : q = j.toNatClampNeg
    · subst hq
      simp [updV, upd]
    · simp [updV, upd, hq]
  · have hat := hw ck k hV
    rw [sw_en_a hl (by decide)] at hat
    refine W.zast hx hb hat ((hK.2 1 _ rfl).1 (ln ck k) (fun i => .int (σ ck k i))) (fun q => by cases q) (by show ¬ (j < 0 ∨ (arrV _ _ _).slots.size ≤ _); rw [arrV_size]; exact hin) rfl rfl hdg fun H1 e1 e2 e3 => ?_
    have hnx : narrow .boolean (.int x) = .int x := by rcases hbx with rfl | rfl <;> rfl
    rw [hnx] at e1
    refine kk H1 _ (hw.put hG hV ?_ e3) (hS.put e2 e3 ⟨ck, k, hV, rfl⟩)
    rw [sw_en_a hl (by decide)]
    show H1[ad ck k]? = some (vp_cell _ _)
    rw [e1]
    rw [vp_cell_i, vp_cell_i, arrV_store]
    congr 2
    funext q
    by_cases hq : q = j.toNatClampNeg
    · subst hq
      simp [updV, upd]
    · simp [updV, upd, hq]
/-! locals -/
def sw_lh (ad : sw_A) (nL : Nat) (lsA : Array Slot) (L : sw_L) : Prop := lsA.size = nL ∧ lv_wf lsA ∧ L.length = nL ∧ ∀ (i : Nat) (v : sw_V), sw_get L i = some v → lsA[i]? = some (.val (sw_em ad v))
def sw_lp (ad : sw_A) : sw_L → Nat → List (Nat × Value)
  | [], _ => []
  | none :: l, i => sw_lp ad l (i + 1)
  | some v :: l, i => (i, sw_em ad v) :: sw_lp ad l (i + 1)
theorem sw_lp_in (ad : sw_A) : ∀ (L : sw_L) (i0 i : Nat) (v : sw_V), sw_get L i = some v → (i0 + i, sw_em ad v) ∈ sw_lp ad L i0
  | [], _, _, _, h => by cases h
  | none :: l, i0, 0, v, h => by cases h
  | some w :: l, i0, 0, v, h => by cases h; exact List.mem_cons_self
  | none :: l, i0, i + 1, v, h => by
    have := sw_lp_in ad l (i0 + 1) i v h
    rw [show i0 + (i + 1) = i0 + 1 + i by omega]
    exact this
  | some w :: l, i0, i + 1, v, h => by
    have := sw_lp_in ad l (i0 + 1) i v h
    rw [show i0 + (i + 1) = i0 + 1 + i by omega]
    exact List.mem_cons_of_mem _ this
theorem sw_lp_of (ad : sw_A) : ∀ (L : sw_L) (i0 : Nat) (q : Nat × Value), q ∈ sw_lp ad L i0 → ∃ (i : Nat) (v : sw_V), sw_get L i = some v ∧ q = (i0 + i, sw_em ad v)
  | [], _, _, h => by cases h
  | none :: l, i0, q, h => by
    obtain ⟨i, v, h1, h2⟩ := sw_lp_of ad l (i0 + 1) q h
    exact ⟨i + 1, v, h1, by rw [h2, show i0 + 1 + i = i0 + (i + 1) by omega]⟩
  | some w :: l, i0, q, h => by
    rcases List.mem_cons.mp h with rfl | h
    · exact ⟨0, w, rfl, rfl⟩
    · obtain ⟨i, v, h1, h2⟩ := sw_lp_of ad l (i0 + 1) q h
      exact ⟨i + 1, v, h1, by rw [h2, show i0 + 1 + i = i0 + (i + 1) by omega]⟩
theorem sw_lh.has {nL : Nat} {L : sw_L} (h : sw_lh ad nL ls L) : lv_has ls nL (sw_lp ad L 0) := ⟨h.1, h.2.1, fun q hq => by
  obtain ⟨i, v, h1, rfl⟩ := sw_lp_of ad L 0 q hq
  rw [Nat.zero_add]
  exact h.2.2.2 i v h1⟩
theorem sw_set_len : ∀ (L : sw_L) (i : Nat) (v : sw_V), (sw_set L i v).length = L.length
  | [], _, _ => rfl
  | _ :: l, 0, _ => rfl
  | _ :: l, i + 1, v => congrArg Nat.succ (sw_set_len l i v)
theorem sw_get_set : ∀ (L : sw_L) (i j : Nat) (v : sw_V), sw_get (sw_set L i v) j = if j = i ∧ i < L.length then some v else sw_get L j
  | [], i, j, v => by simp [sw_set, sw_get]
  | x :: l, 0, 0, v => by simp [sw_set, sw_get]
  | x :: l, 0, j + 1, v => by simp [sw_set, sw_get]
  | x :: l, i + 1, 0, v => by simp [sw_set, sw_get]
  | x :: l, i + 1, j + 1, v => by
    simp only [sw_set, sw_get, sw_get_set l i j v, List.length_cons, Nat.add_right_cancel_iff, Nat.add_lt_add_iff_right]
theorem sw_get_lt : ∀ {L : sw_L} {i : Nat} {v : sw_V}, sw_get L i = some v → i < L.length
  | [], _, _, h => by cases h
  | _ :: l, 0, _, _ => Nat.zero_lt_succ _
  | _ :: l, i + 1, _, h => Nat.succ_lt_succ (sw_get_lt (L := l) h)
/-- behind a store into a local -/
theorem sw_lh.set {nL i : Nat} {L : sw_L} {v : sw_V} {ls' : Array Slot} (h : sw_lh ad nL ls L) (hi : i < nL) (h' : lv_has ls' nL ((i, sw_em ad v) :: (sw_lp ad L 0).filter (fun q => !(q.1 == i) && !(q.1 + 1 == i && q.2.category == 2)))) : sw_lh ad nL ls' (sw_set L i v) := by
  refine ⟨h'.1, h'.2.1, by rw [sw_set_len]; exact h.2.2.1, fun j w hj => ?_⟩
  rw [sw_get_set] at hj
  by_cases hji : j = i
  · subst hji
    rw [if_pos ⟨rfl, by rw [h.2.2.1]; exact hi⟩] at hj
    cases hj
    exact h'.2.2 _ List.mem_cons_self
  · rw [if_neg (fun z => hji z.1)] at hj
    refine h'.2.2 (j, sw_em ad w) (List.mem_cons_of_mem _ (List.mem_filter.mpr ⟨by have := sw_lp_in ad L 0 j w hj; rwa [Nat.zero_add] at this, ?_⟩))
    simp [hji, sw_em_cat]
end swRows
end
section
/-! The encoder of instructions, and: each step of the abstract machine is the machine's -/
def sw_cc : Jvm.ClassFile.Cond → Nat
  | .eq => 0
  | .ne => 1
  | .lt => 2
  | .ge => 3
  | .gt => 4
  | .le => 5
abbrev sw_bad : sw_I := (99, 0, 0, 0, 0)
def sw_ln (n k : Nat) (i : sw_I) : sw_I := bif Nat.beq n k then i else sw_bad
def sw_tg (pc : Nat) (off : Int) (f : Nat → sw_I) : sw_I := if 0 ≤ (pc : Int) + off then f ((pc : Int) + off).toNat else sw_bad
def sw_tsk (pc : Nat) (lo hi : Int) (offs : List Int) (TS : List (Int32 × Nat)) : Bool :=
  decide (TS.length = offs.length) && decide (hi - lo + 1 = (offs.length : Int)) && decide (TS.map (fun q => q.1.toInt) = (List.range offs.length).map (fun i : Nat => lo + (i : Int))) && decide (offs.map (fun o => (pc : Int) + o) = TS.map (fun q => (q.2 : Int)))
def sw_lsk (pc : Nat) (ps : List (Int × Int)) (TS : List (Int32 × Nat)) : Bool :=
  decide (ps = TS.map (fun q => (q.1.toInt, (q.2 : Int) - (pc : Int)))) && (ps.zip (ps.drop 1)).all (fun (a, next) => a.1 < next.1)
def sw_o {α : Type} (o : Option α) (f : α → sw_I) : sw_I := match o with
  | some q => f q
  | none => sw_bad
def sw_ec (fl : List (Nat × Nat × Nat)) (cn : List (Nat × Int32)) (TS : List (Int32 × Nat)) (pc n : Nat) : Instr → sw_I
  | .iconst z => sw_ln n 1 (0, 0, 0, pc + 1, Int32.ofInt z)
  | .bipush z => sw_ln n 2 (0, 0, 0, pc + 2, (Int8.ofInt z).toInt32)
  | .sipush z => sw_ln n 3 (0, 0, 0, pc + 3, (Int16.ofInt z).toInt32)
  | .ldc idx => sw_ln n 2 (sw_o (sw_cn cn idx) (fun v => (0, 0, 0, pc + 2, v)))
  | .iload i => sw_ln n 2 (1, i, 0, pc + 2, 0)
  | .iload_n i => sw_ln n 1 (1, i.val, 0, pc + 1, 0)
  | .aload i => sw_ln n 2 (2, i, 0, pc + 2, 0)
  | .aload_n i => sw_ln n 1 (2, i.val, 0, pc + 1, 0)
  | .istore i => sw_ln n 2 (3, i, 0, pc + 2, 0)
  | .istore_n i => sw_ln n 1 (3, i.val, 0, pc + 1, 0)
  | .astore i => sw_ln n 2 (4, i, 0, pc + 2, 0)
  | .astore_n i => sw_ln n 1 (4, i.val, 0, pc + 1, 0)
  | .iinc i z => sw_ln n 3 (5, i, 0, pc + 3, Int32.ofInt z)
  | .iadd => sw_ln n 1 (6, 0, 0, pc + 1, 0)
  | .isub => sw_ln n 1 (6, 1, 0, pc + 1, 0)
  | .imul => sw_ln n 1 (6, 2, 0, pc + 1, 0)
  | .iand => sw_ln n 1 (6, 3, 0, pc + 1, 0)
  | .ior => sw_ln n 1 (6, 4, 0, pc + 1, 0)
  | .ixor => sw_ln n 1 (6, 5, 0, pc + 1, 0)
  | .ishl => sw_ln n 1 (6, 6, 0, pc + 1, 0)
  | .ishr => sw_ln n 1 (6, 7, 0, pc + 1, 0)
  | .iushr => sw_ln n 1 (6, 8, 0, pc + 1, 0)
  | .idiv => sw_ln n 1 (26, 0, 0, pc + 1, 0)
  | .irem => sw_ln n 1 (27, 0, 0, pc + 1, 0)
  | .getfield idx => sw_ln n 3 (sw_o (sw_fl fl idx) (fun q => (7, q.1, q.2, pc + 3, 0)))
  | .putfield idx => sw_ln n 3 (sw_o (sw_fl fl idx) (fun q => (8, q.1, q.2, pc + 3, 0)))
  | .iaload => sw_ln n 1 (9, 0, 0, pc + 1, 0)
  | .baload => sw_ln n 1 (9, 1, 0, pc + 1, 0)
  | .aaload => sw_ln n 1 (9, 2, 0, pc + 1, 0)
  | .iastore => sw_ln n 1 (10, 0, 0, pc + 1, 0)
  | .bastore => sw_ln n 1 (10, 1, 0, pc + 1, 0)
  | .arraylength => sw_ln n 1 (11, 0, 0, pc + 1, 0)
  | .ifCond cd off => sw_ln n 3 (sw_tg pc off (fun t => (12, sw_cc cd, t, pc + 3, 0)))
  | .if_icmp cd off => sw_ln n 3 (sw_tg pc off (fun t => (13, sw_cc cd, t, pc + 3, 0)))
  | .ifnull off => sw_ln n 3 (sw_tg pc off (fun t => (14, 0, t, pc + 3, 0)))
  | .ifnonnull off => sw_ln n 3 (sw_tg pc off (fun t => (15, 0, t, pc + 3, 0)))
  | .goto off => sw_ln n 3 (sw_tg pc off (fun t => (16, 0, t, 0, 0)))
  | .tableswitch d lo hi offs => bif sw_tsk pc lo hi offs.toList TS then sw_tg pc d (fun t => (17, t, 0, 0, 0)) else sw_bad
  | .lookupswitch d ps => bif sw_lsk pc ps.toList TS then sw_tg pc d (fun t => (17, t, 0, 0, 0)) else sw_bad
  | .invokevirtual idx => sw_ln n 3 (18, idx, 0, pc + 3, 0)
  | .invokestatic idx => sw_ln n 3 (18, idx, 1, pc + 3, 0)
  | .ireturn => sw_ln n 1 (19, 0, 0, 0, 0)
  | .areturn => sw_ln n 1 (20, 0, 0, 0, 0)
  | .return_ => sw_ln n 1 (21, 0, 0, 0, 0)
  | .dup => sw_ln n 1 (22, 0, 0, pc + 1, 0)
  | .dup2 => sw_ln n 1 (23, 0, 0, pc + 1, 0)
  | .pop => sw_ln n 1 (24, 0, 0, pc + 1, 0)
  | .aconst_null => sw_ln n 1 (25, 0, 0, pc + 1, 0)
  | _ => sw_bad
section swStep
variable {rf : sw_R} {ln : sw_A} {CT : sw_C} {TS : List (Int32 × Nat)} {rt : Nat} {Qr : Option sw_V → sw_S → Prop} {K : Nat → sw_L → List sw_V → sw_S → Prop} {L : sw_L} {st : List sw_V} {σ : sw_S}
theorem sw_ln_st {n k : Nat} {i : sw_I} (h : sw_st rf ln CT TS rt Qr K (sw_ln n k i) L st σ) : n = k ∧ sw_st rf ln CT TS rt Qr K i L st σ := by
  unfold sw_ln at h
  by_cases hb : Nat.beq n k = true
  · rw [hb, cond_true] at h
    exact ⟨Nat.eq_of_beq_eq_true hb, h⟩
  · rw [Bool.not_eq_true] at hb
    rw [hb, cond_false] at h
    exact False.elim h
theorem sw_tg_st {pc : Nat} {off : Int} {f : Nat → sw_I} (h : sw_st rf ln CT TS rt Qr K (sw_tg pc off f) L st σ) : ∃ t : Nat, (pc : Int) + off = (t : Int) ∧ sw_st rf ln CT TS rt Qr K (f t) L st σ := by
  unfold sw_tg at h
  by_cases hb : 0 ≤ (pc : Int) + off
  · rw [if_pos hb] at h
    exact ⟨_, (Int.toNat_of_nonneg hb).symm, h⟩
  · rw [if_neg hb] at h
    exact False.elim h
theorem sw_if_st {b : Bool} {i : sw_I} (h : sw_st rf ln CT TS rt Qr K (bif b then i else sw_bad) L st σ) : b = true ∧ sw_st rf ln CT TS rt Qr K i L st σ := by
  cases b with
  | true => exact ⟨rfl, h⟩
  | false => exact False.elim h
theorem sw_op_st {α : Type} {o : Option α} {f : α → sw_I} (h : sw_st rf ln CT TS rt Qr K (sw_o o f) L st σ) : ∃ q, o = some q ∧ sw_st rf ln CT TS rt Qr K (f q) L st σ := by
  cases o with
  | none => exact False.elim h
  | some q => exact ⟨q, rfl, h⟩
end swStep
theorem sw_fl_in : ∀ {fl : List (Nat × Nat × Nat)} {i : Nat} {q : Nat × Nat}, sw_fl fl i = some q → (i, q) ∈ fl
  | [], _, _, h => by cases h
  | x :: l, i, q, h => by
    unfold sw_fl at h
    by_cases hb : Nat.beq x.1 i = true
    · rw [hb, cond_true] at h
      have h1 := Nat.eq_of_beq_eq_true hb
      have h2 := Option.some.inj h
      rw [← h1, ← h2]
      exact List.mem_cons_self
    · rw [Bool.not_eq_true] at hb
      rw [hb, cond_false] at h
      exact List.mem_cons_of_mem _ (sw_fl_in h)
theorem sw_cn_in : ∀ {fl : List (Nat × Int32)} {i : Nat} {q : Int32}, sw_cn fl i = some q → (i, q) ∈ fl
  | [], _, _, h => by cases h
  | x :: l, i, q, h => by
    unfold sw_cn at h
    by_cases hb : Nat.beq x.1 i = true
    · rw [hb, cond_true] at h
      have h1 := Nat.eq_of_beq_eq_true hb
      have h2 := Option.some.inj h
      rw [← h1, ← h2]
      exact List.mem_cons_self
    · rw [Bool.not_eq_true] at hb
      rw [hb, cond_false] at h
      exact List.mem_cons_of_mem _ (sw_cn_in h)
theorem sw_lk_in : ∀ {CT : sw_C} {i : Nat} {q : Nat × Nat × sw_F}, sw_lk CT i = some q → (i, q) ∈ CT
  | [], _, _, h => by cases h
  | x :: l, i, q, h => by
    unfold sw_lk at h
    by_cases hb : Nat.beq x.1 i = true
    · rw [hb, cond_true] at h
      have h1 := Nat.eq_of_beq_eq_true hb
      have h2 := Option.some.inj h
      rw [← h1, ← h2]
      exact List.mem_cons_self
    · rw [Bool.not_eq_true] at hb
      rw [hb, cond_false] at h
      exact List.mem_cons_of_mem _ (sw_lk_in h)
theorem sw_tk_of : ∀ {n : Nat} {st acc avs rest : List sw_V}, sw_tk n st acc = some (avs, rest) → acc.reverse ++ avs.drop 0 = acc.reverse ++ avs ∧ avs.length = n + acc.length ∧ ∃ pre : List sw_V, st = pre ++ rest ∧ avs = pre.reverse ++ acc
  | 0, st, acc, avs, rest, h => by
    cases h
    exact ⟨rfl, by omega, [], rfl, rfl⟩
  | n + 1, [], acc, avs, rest, h => by cases h
  | n + 1, v :: st, acc, avs, rest, h => by
    obtain ⟨-, h2, pre, h3, h4⟩ := sw_tk_of (n := n) (st := st) (acc := v :: acc) h
    refine ⟨rfl, by rw [h2, List.length_cons]; omega, v :: pre, by rw [h3]; rfl, by rw [h4]; simp⟩
theorem sw_sw_at {x : Int32} {d : Nat} {K : Nat → Prop} : ∀ {l : List (Int32 × Nat)}, sw_sw x d K l → ∀ (i : Nat) (q : Int32 × Nat), l[i]? = some q → q.1 = x → (∀ (j : Nat) (q' : Int32 × Nat), j < i → l[j]? = some q' → ¬ q'.1 = x) → K q.2
  | [], _, i, q, hq, _, _ => by simp at hq
  | a :: l, h, 0, q, hq, hx, _ => by
    cases hq
    exact h.1 hx.symm
  | a :: l, h, i + 1, q, hq, hx, ho => sw_sw_at (l := l) (h.2 (fun z => ho 0 a (Nat.zero_lt_succ _) rfl z.symm)) i q hq hx (fun j q' hj hq' => ho (j + 1) q' (Nat.succ_lt_succ hj) hq')
theorem sw_sw_no {x : Int32} {d : Nat} {K : Nat → Prop} : ∀ {l : List (Int32 × Nat)}, sw_sw x d K l → (∀ (j : Nat) (q' : Int32 × Nat), l[j]? = some q' → ¬ q'.1 = x) → K d
  | [], h, _ => h
  | a :: l, h, ho => sw_sw_no (l := l) (h.2 (fun z => ho 0 a rfl z.symm)) (fun j q' hq' => ho (j + 1) q' hq')
theorem sw_sw_look {x : Int32} {d : Nat} {K : Nat → Prop} {pc : Nat} {dd : Int} (hd : (pc : Int) + dd = (d : Int)) : ∀ {l : List (Int32 × Nat)}, sw_sw x d K l → ∃ t : Nat, (pc : Int) + Op.lookupswitch.offset (l.map (fun q => (q.1.toInt, (q.2 : Int) - (pc : Int)))) dd x.toInt = (t : Int) ∧ K t
  | [], h => ⟨d, hd, h⟩
  | a :: l, h => by
    rw [List.map_cons, Op.lookupswitch.offset_cons]
    by_cases hx : a.1.toInt = x.toInt
    · rw [if_pos hx]
      exact ⟨a.2, by omega, h.1 (Int32.toInt_inj.mp hx).symm⟩
    · rw [if_neg hx]
      exact sw_sw_look hd (h.2 (fun z => hx (by rw [z])))
end
section
/-! A call, as a step; and the step theorem -/
def sw_cok (p : Program) (l : Launch) (e : Env) (R : Room) (s : State) (m : MethodId) (args : Array Value) (below : List Frame) (meth : Method) (c : Code) (ad : sw_A) (V : Nat → Nat → Prop) (rf : sw_R) (ln : sw_A) (ca : Nat → ClassId) (D : va_G) (cc : ByteArray) (nL : Nat) (q : Nat × Nat × Nat × sw_F) : Prop :=
  ∀ (Qw : State → Prop) (pc : Nat) (H : Heap) (locs : List Loc) (lsA : Array Slot) (avs : List sw_V) (rest : List Value) (σ : sw_S),
    ((q.2.2.1 = 0 ∧ decode cc pc = .ok (.invokestatic q.1, 3)) ∨ (∃ c0 k tl, q.2.2.1 = c0 + 1 ∧ avs = .inr (some (c0, k)) :: tl ∧ decode cc pc = .ok (.invokevirtual q.1, 3))) →
    avs.length = q.2.1 → (∀ v ∈ avs, sw_ov V v) → sw_w ad V rf ln ca D σ H → va_S (sw_ad ad V) s.heap H locs → (q.2.2.2 avs σ).1 → (rest.map fun v => v.category).sum ≤ 8 → lsA.size = nL →
    (∀ (H1 : Heap) (locs1 : List Loc), sw_w ad V rf ln ca D (q.2.2.2 avs σ).2.2 H1 → va_S (sw_ad ad V) s.heap H1 locs1 → (∀ v, (q.2.2.2 avs σ).2.1 = some v → sw_ov V v) → W p l e R s m args below meth c H1 locs1 0 0 Qw (F0 m (pc + 3) lsA (((q.2.2.2 avs σ).2.1.toList).map (sw_em ad) ++ rest))) →
    W p l e R s m args below meth c H locs 0 0 Qw (F0 m pc lsA ((avs.map (sw_em ad)).reverse ++ rest))
def sw_rt (rt : Nat) (ret : Option FieldType) : Prop := (rt = 0 → ret = none) ∧ (rt = 1 → ret = some .int) ∧ (rt = 2 → ret = some .boolean) ∧ (rt = 3 → ∃ n, ret = some (.object n))
/-- the machine stands at a point of the method, in a world: it comes to the method's end -/
def sw_at (p : Program) (l : Launch) (e : Env) (R : Room) (s : State) (m : MethodId) (args : Array Value) (below : List Frame) (meth : Method) (c : Code) (ad : sw_A) (V : Nat → Nat → Prop) (rf : sw_R) (ln : sw_A) (ca : Nat → ClassId) (D : va_G) (nL : Nat) (Qc : Array Value → State → Outcome → State → Prop) (pc : Nat) (L : sw_L) (st : List sw_V) (σ : sw_S) : Prop :=
  ∀ (H : Heap) (locs : List Loc) (lsA : Array Slot), sw_w ad V rf ln ca D σ H → va_S (sw_ad ad V) s.heap H locs → sw_lh ad nL lsA L → (∀ (i : Nat) (v : sw_V), sw_get L i = some v → sw_ov V v) → (∀ v ∈ st, sw_ov V v) →
    W p l e R s m args below meth c H locs 0 0 (MQ below Qc args s 0 0 (sw_ad ad V)) (F0 m pc lsA (st.map (sw_em ad)))
theorem sw_oc {V : Nat → Nat → Prop} {v : sw_V} {st : List sw_V} (h1 : sw_ov V v) (h : ∀ v ∈ st, sw_ov V v) : ∀ w ∈ v :: st, sw_ov V w := List.forall_mem_cons.mpr ⟨h1, h⟩
theorem sw_ot {V : Nat → Nat → Prop} {v : sw_V} {st : List sw_V} (h : ∀ w ∈ v :: st, sw_ov V w) : ∀ w ∈ st, sw_ov V w := (List.forall_mem_cons.mp h).2
theorem sw_oh {V : Nat → Nat → Prop} {v : sw_V} {st : List sw_V} (h : ∀ w ∈ v :: st, sw_ov V w) : sw_ov V v := (List.forall_mem_cons.mp h).1
theorem sw_os {V : Nat → Nat → Prop} {v : sw_V} {L : sw_L} {i : Nat} (h1 : sw_ov V v) (h : ∀ (i : Nat) (v : sw_V), sw_get L i = some v → sw_ov V v) : ∀ (j : Nat) (w : sw_V), sw_get (sw_set L i v) j = some w → sw_ov V w := by
  intro j w hj
  rw [sw_get_set] at hj
  by_cases hc : j = i ∧ i < L.length
  · rw [if_pos hc] at hj
    cases hj
    exact h1
  · rw [if_neg hc] at hj
    exact h j w hj
theorem sw_cats (ad : sw_A) : ∀ st : List sw_V, ((st.map (sw_em ad)).map fun v => v.category).sum = st.length
  | [] => rfl
  | v :: st => by
    rw [List.map_cons, List.map_cons, List.sum_cons, sw_cats ad st, sw_em_cat, List.length_cons]
    omega
theorem sw_bif {b : Bool} {P : Prop} (h : bif b then P else False) : b = true ∧ P := by
  cases b with
  | true => exact ⟨rfl, h⟩
  | false => exact False.elim h
theorem sw_rc_of0 {md : Nat} {avs : List sw_V} {cc : ByteArray} {pc idx : Nat} (h : sw_rc md 0 avs = true) (hd : decode cc pc = .ok (.invokevirtual idx, 3)) : (md = 0 ∧ decode cc pc = .ok (.invokestatic idx, 3)) ∨ (∃ c0 k tl, md = c0 + 1 ∧ avs = .inr (some (c0, k)) :: tl ∧ decode cc pc = .ok (.invokevirtual idx, 3)) := by
  match md, avs, h with
  | 0, _, h => cases h
  | c0 + 1, [], h => cases h
  | c0 + 1, .inl _ :: _, h => cases h
  | c0 + 1, .inr none :: _, h => cases h
  | c0 + 1, .inr (some q) :: tl, h =>
    have h1 : q.1 = c0 := Nat.eq_of_beq_eq_true h
    exact Or.inr ⟨c0, q.2, tl, rfl, by rw [← h1], hd⟩
theorem sw_rc_of1 {md : Nat} {avs : List sw_V} {cc : ByteArray} {pc idx : Nat} (h : sw_rc md 1 avs = true) (hd : decode cc pc = .ok (.invokestatic idx, 3)) : (md = 0 ∧ decode cc pc = .ok (.invokestatic idx, 3)) ∨ (∃ c0 k tl, md = c0 + 1 ∧ avs = .inr (some (c0, k)) :: tl ∧ decode cc pc = .ok (.invokevirtual idx, 3)) := by
  match md, h with
  | 0, _ => exact Or.inl ⟨rfl, hd⟩
  | c0 + 1, h => cases h
theorem sw_em_r (ad : sw_A) (r : Option (Nat × Nat)) : sw_em ad (.inr r) = .null ∨ ∃ a, sw_em ad (.inr r) = .ref a := by
  cases r with
  | none => exact Or.inl rfl
  | some q => exact Or.inr ⟨_, rfl⟩
section swStep2
variable {p : Program} {l : Launch} {e : Env} {R : Room} {s : State} {m : MethodId} {args : Array Value} {below : List Frame} {meth : Method} {c : Code} {ad : sw_A} {V : Nat → Nat → Prop} {rf : sw_R} {ln : sw_A} {ca : Nat → ClassId} {D : va_G} {nL : Nat} {Qc : Array Value → State → Outcome → State → Prop}
variable {CT : sw_C} {TS : List (Int32 × Nat)} {rt : Nat} {Qr : Option sw_V → sw_S → Prop} {K : Nat → sw_L → List sw_V → sw_S → Prop} {L : sw_L} {st : List sw_V} {σ : sw_S} {cc : ByteArray} {fl : List (Nat × Nat × Nat)} {cn : List (Nat × Int32)} {own : String} {pc n : Nat} {ins : Instr} {ret : Option FieldType}
set_option maxHeartbeats 4000000 in
theorem sw_step (hx : p.tables.exec = Jvm.exec) (hb : c.code = cc) (hml : c.maxLocals = nL) (hr : meth.sig.returnType = ret) (hrt : sw_rt rt ret) (hlocks : meth.locks = false) (hown : s.vm.findClass own = some m.cls) (hts : ∀ w ∈ sw_tbl, w.before args s = true) (hT : va_K D vwCl (sw_ty ca) s) (hG : sw_wf ad V rf ln)
    (hfl : ∀ q ∈ fl, Cond.fieldLink own q.1 ((sw_cl q.2.1).2.1 q.2.2).1 ((sw_cl q.2.1).2.1 q.2.2).2.1 ((sw_cl q.2.1).2.1 q.2.2).2.2.1 ∈ sw_tbl) (hcn : ∀ q ∈ cn, Jvm.Cond.constant own q.1 q.2 ∈ sw_tbl) (hct : ∀ q ∈ CT, sw_cok p l e R s m args below meth c ad V rf ln ca D cc nL q)
    (hQ : ∀ (r : Option sw_V) (σ' : sw_S) (H : Heap) (locs : List Loc), Qr r σ' → (∀ v, r = some v → sw_ov V v) → sw_w ad V rf ln ca D σ' H → va_S (sw_ad ad V) s.heap H locs → ∀ t : State, t.heap = H → s.WarmedH t.vm → Qc args s (.returned (r.map (sw_em ad))) t)
    (hd : decode cc pc = .ok (ins, n)) (h : sw_st rf ln CT TS rt Qr K (sw_ec fl cn TS pc n ins) L st σ) (hk : ∀ pc' L' st' σ', K pc' L' st' σ' → sw_at p l e R s m args below meth c ad V rf ln ca D nL Qc pc' L' st' σ') :
    sw_at p l e R s m args below meth c ad V rf ln ca D nL Qc pc L st σ := by
  intro H locs lsA hw hS hL hLo hst
  cases ins
  case iconst z =>
    obtain ⟨hn, h0⟩ := sw_ln_st h
    clear h
    subst hn
    have h := h0
    clear h0
    exact lv_iconst hx hb hd rfl (hk _ _ _ _ h H locs lsA hw hS hL hLo (sw_oc trivial hst))
  case bipush z =>
    obtain ⟨hn, h0⟩ := sw_ln_st h
    clear h
    subst hn
    have h := h0
    clear h0
    exact lv_bipush hx hb hd rfl (hk _ _ _ _ h H locs lsA hw hS hL hLo (sw_oc trivial hst))
  case sipush z =>
    obtain ⟨hn, h0⟩ := sw_ln_st h
    clear h
    subst hn
    have h := h0
    clear h0
    exact lv_sipush hx hb hd rfl (hk _ _ _ _ h H locs lsA hw hS hL hLo (sw_oc trivial hst))
  case ldc idx =>
    obtain ⟨hn, h0⟩ := sw_ln_st h
    clear h
    subst hn
    have h := h0
    clear h0
    obtain ⟨v, hv, h⟩ := sw_op_st h
    exact lv_ldc hx hb hown (hts _ (hcn _ (sw_cn_in hv))) hd (hk _ _ _ _ h H locs lsA hw hS hL hLo (sw_oc trivial hst))
  case iload i =>
    obtain ⟨hn, h0⟩ := sw_ln_st h
    clear h
    subst hn
    have h := h0
    clear h0
    replace h : (match sw_get L i with
      | some (.inl x) => K (pc + 2) L (.inl x :: st) σ
      | _ => False) := h
    cases hg : sw_get L i with
    | none => rw [hg] at h; exact h.elim
    | some v =>
      rw [hg] at h
      rcases v with x | r
      · exact lv_iload hx hb hd (hL.2.2.2 i _ hg) (hk _ _ _ _ h H locs lsA hw hS hL hLo (sw_oc trivial hst))
      · exact h.elim
  case iload_n i =>
    obtain ⟨hn, h0⟩ := sw_ln_st h
    clear h
    subst hn
    have h := h0
    clear h0
    replace h : (match sw_get L i.val with
      | some (.inl x) => K (pc + 1) L (.inl x :: st) σ
      | _ => False) := h
    cases hg : sw_get L i.val with
    | none => rw [hg] at h; exact h.elim
    | some v =>
      rw [hg] at h
      rcases v with x | r
      · exact lv_iload_n hx hb hd rfl (hL.2.2.2 i.val _ hg) (hk _ _ _ _ h H locs lsA hw hS hL hLo (sw_oc trivial hst))
      · exact h.elim
  case aload i =>
    obtain ⟨hn, h0⟩ := sw_ln_st h
    clear h
    subst hn
    have h := h0
    clear h0
    replace h : (match sw_get L i with
      | some (.inr r) => K (pc + 2) L (.inr r :: st) σ
      | _ => False) := h
    cases hg : sw_get L i with
    | none => rw [hg] at h; exact h.elim
    | some v =>
      rw [hg] at h
      rcases v with x | _ | r
      · exact h.elim
      · exact lv_aloadN hx hb hd (hL.2.2.2 i _ hg) (hk _ _ _ _ h H locs lsA hw hS hL hLo (sw_oc (hLo i _ hg) hst))
      · exact lv_aload hx hb hd (hL.2.2.2 i _ hg) (hk _ _ _ _ h H locs lsA hw hS hL hLo (sw_oc (hLo i _ hg) hst))
  case aload_n i =>
    obtain ⟨hn, h0⟩ := sw_ln_st h
    clear h
    subst hn
    have h := h0
    clear h0
    replace h : (match sw_get L i.val with
      | some (.inr r) => K (pc + 1) L (.inr r :: st) σ
      | _ => False) := h
    cases hg : sw_get L i.val with
    | none => rw [hg] at h; exact h.elim
    | some v =>
      rw [hg] at h
      rcases v with x | _ | r
      · exact h.elim
      · exact lv_aload_nN hx hb hd rfl (hL.2.2.2 i.val _ hg) (hk _ _ _ _ h H locs lsA hw hS hL hLo (sw_oc (hLo i.val _ hg) hst))
      · exact lv_aload_n hx hb hd rfl (hL.2.2.2 i.val _ hg) (hk _ _ _ _ h H locs lsA hw hS hL hLo (sw_oc (hLo i.val _ hg) hst))
  case istore i =>
    obtain ⟨hn, h0⟩ := sw_ln_st h
    clear h
    subst hn
    have h := h0
    clear h0
    rcases st with _ | ⟨x | r, st⟩
    · exact False.elim h
    · obtain ⟨hi, h⟩ := sw_bif h
      have hi : i < nL := by rw [← hL.2.2.1]; exact Nat.le_of_ble_eq_true hi
      exact lv_istore hx hb hd hL.has hi rfl (fun ls' h' => hk _ _ _ _ h H locs ls' hw hS (hL.set (v := .inl x) hi h') (sw_os trivial hLo) (sw_ot hst))
    · exact False.elim h
  case istore_n i =>
    obtain ⟨hn, h0⟩ := sw_ln_st h
    clear h
    subst hn
    have h := h0
    clear h0
    rcases st with _ | ⟨x | r, st⟩
    · exact False.elim h
    · obtain ⟨hi, h⟩ := sw_bif h
      have hi : i.val < nL := by rw [← hL.2.2.1]; exact Nat.le_of_ble_eq_true hi
      exact lv_istore_n hx hb hd rfl hL.has hi rfl (fun ls' h' => hk _ _ _ _ h H locs ls' hw hS (hL.set (v := .inl x) hi h') (sw_os trivial hLo) (sw_ot hst))
    · exact False.elim h
  case astore i =>
    obtain ⟨hn, h0⟩ := sw_ln_st h
    clear h
    subst hn
    have h := h0
    clear h0
    rcases st with _ | ⟨x | _ | r, st⟩
    · exact False.elim h
    · exact False.elim h
    · obtain ⟨hi, h⟩ := sw_bif h
      have hi : i < nL := by rw [← hL.2.2.1]; exact Nat.le_of_ble_eq_true hi
      exact lv_astoreN hx hb hd hL.has hi rfl (fun ls' h' => hk _ _ _ _ h H locs ls' hw hS (hL.set (v := .inr none) hi h') (sw_os trivial hLo) (sw_ot hst))
    · obtain ⟨hi, h⟩ := sw_bif h
      have hi : i < nL := by rw [← hL.2.2.1]; exact Nat.le_of_ble_eq_true hi
      exact lv_astore hx hb hd hL.has hi rfl (fun ls' h' => hk _ _ _ _ h H locs ls' hw hS (hL.set (v := .inr (some r)) hi h') (sw_os (sw_oh hst) hLo) (sw_ot hst))
  case astore_n i =>
    obtain ⟨hn, h0⟩ := sw_ln_st h
    clear h
    subst hn
    have h := h0
    clear h0
    rcases st with _ | ⟨x | _ | r, st⟩
    · exact False.elim h
    · exact False.elim h
    · obtain ⟨hi, h⟩ := sw_bif h
      have hi : i.val < nL := by rw [← hL.2.2.1]; exact Nat.le_of_ble_eq_true hi
      exact lv_astore_nN hx hb hd rfl hL.has hi rfl (fun ls' h' => hk _ _ _ _ h H locs ls' hw hS (hL.set (v := .inr none) hi h') (sw_os trivial hLo) (sw_ot hst))
    · obtain ⟨hi, h⟩ := sw_bif h
      have hi : i.val < nL := by rw [← hL.2.2.1]; exact Nat.le_of_ble_eq_true hi
      exact lv_astore_n hx hb hd rfl hL.has hi rfl (fun ls' h' => hk _ _ _ _ h H locs ls' hw hS (hL.set (v := .inr (some r)) hi h') (sw_os (sw_oh hst) hLo) (sw_ot hst))
  case iinc i z =>
    obtain ⟨hn, h0⟩ := sw_ln_st h
    clear h
    subst hn
    have h := h0
    clear h0
    replace h : (match sw_get L i with
      | some (.inl x) => K (pc + 3) (sw_set L i (.inl (x + Int32.ofInt z))) st σ
      | _ => False) := h
    cases hg : sw_get L i with
    | none => rw [hg] at h; exact h.elim
    | some v =>
      rw [hg] at h
      rcases v with x | r
      · have hi : i < nL := by rw [← hL.2.2.1]; exact sw_get_lt hg
        obtain ⟨q, hq⟩ := List.getElem?_of_mem (sw_lp_in ad L 0 i _ hg)
        rw [Nat.zero_add] at hq
        exact lv_iinc hx hb hd hL.has hq rfl hi rfl (fun ls' h' => hk _ _ _ _ h H locs ls' hw hS (hL.set (v := .inl (x + Int32.ofInt z)) hi h') (sw_os trivial hLo) hst)
      · exact h.elim
  case iadd =>
    obtain ⟨hn, h0⟩ := sw_ln_st h
    clear h
    subst hn
    have h := h0
    clear h0
    rcases st with _ | ⟨y | r, _ | ⟨x | r', st⟩⟩
    · exact False.elim h
    · exact False.elim h
    · exact lv_iadd hx hb hd (hk _ _ _ _ h H locs lsA hw hS hL hLo (sw_oc trivial (sw_ot (sw_ot hst))))
    · exact False.elim h
    · exact False.elim h
    · exact False.elim h
    · exact False.elim h
  case isub =>
    obtain ⟨hn, h0⟩ := sw_ln_st h
    clear h
    subst hn
    have h := h0
    clear h0
    rcases st with _ | ⟨y | r, _ | ⟨x | r', st⟩⟩
    · exact False.elim h
    · exact False.elim h
    · exact lv_isub hx hb hd (hk _ _ _ _ h H locs lsA hw hS hL hLo (sw_oc trivial (sw_ot (sw_ot hst))))
    · exact False.elim h
    · exact False.elim h
    · exact False.elim h
    · exact False.elim h
  case imul =>
    obtain ⟨hn, h0⟩ := sw_ln_st h
    clear h
    subst hn
    have h := h0
    clear h0
    rcases st with _ | ⟨y | r, _ | ⟨x | r', st⟩⟩
    · exact False.elim h
    · exact False.elim h
    · exact lv_imul hx hb hd (hk _ _ _ _ h H locs lsA hw hS hL hLo (sw_oc trivial (sw_ot (sw_ot hst))))
    · exact False.elim h
    · exact False.elim h
    · exact False.elim h
    · exact False.elim h
  case iand =>
    obtain ⟨hn, h0⟩ := sw_ln_st h
    clear h
    subst hn
    have h := h0
    clear h0
    rcases st with _ | ⟨y | r, _ | ⟨x | r', st⟩⟩
    · exact False.elim h
    · exact False.elim h
    · exact lv_iand hx hb hd (hk _ _ _ _ h H locs lsA hw hS hL hLo (sw_oc trivial (sw_ot (sw_ot hst))))
    · exact False.elim h
    · exact False.elim h
    · exact False.elim h
    · exact False.elim h
  case ior =>
    obtain ⟨hn, h0⟩ := sw_ln_st h
    clear h
    subst hn
    have h := h0
    clear h0
    rcases st with _ | ⟨y | r, _ | ⟨x | r', st⟩⟩
    · exact False.elim h
    · exact False.elim h
    · exact lv_ior hx hb hd (hk _ _ _ _ h H locs lsA hw hS hL hLo (sw_oc trivial (sw_ot (sw_ot hst))))
    · exact False.elim h
    · exact False.elim h
    · exact False.elim h
    · exact False.elim h
  case ixor =>
    obtain ⟨hn, h0⟩ := sw_ln_st h
    clear h
    subst hn
    have h := h0
    clear h0
    rcases st with _ | ⟨y | r, _ | ⟨x | r', st⟩⟩
    · exact False.elim h
    · exact False.elim h
    · exact lv_ixor hx hb hd (hk _ _ _ _ h H locs lsA hw hS hL hLo (sw_oc trivial (sw_ot (sw_ot hst))))
    · exact False.elim h
    · exact False.elim h
    · exact False.elim h
    · exact False.elim h
  case ishl =>
    obtain ⟨hn, h0⟩ := sw_ln_st h
    clear h
    subst hn
    have h := h0
    clear h0
    rcases st with _ | ⟨y | r, _ | ⟨x | r', st⟩⟩
    · exact False.elim h
    · exact False.elim h
    · exact lv_ishl hx hb hd (hk _ _ _ _ h H locs lsA hw hS hL hLo (sw_oc trivial (sw_ot (sw_ot hst))))
    · exact False.elim h
    · exact False.elim h
    · exact False.elim h
    · exact False.elim h
  case ishr =>
    obtain ⟨hn, h0⟩ := sw_ln_st h
    clear h
    subst hn
    have h := h0
    clear h0
    rcases st with _ | ⟨y | r, _ | ⟨x | r', st⟩⟩
    · exact False.elim h
    · exact False.elim h
    · exact lv_ishr hx hb hd (hk _ _ _ _ h H locs lsA hw hS hL hLo (sw_oc trivial (sw_ot (sw_ot hst))))
    · exact False.elim h
    · exact False.elim h
    · exact False.elim h
    · exact False.elim h
  case iushr =>
    obtain ⟨hn, h0⟩ := sw_ln_st h
    clear h
    subst hn
    have h := h0
    clear h0
    rcases st with _ | ⟨y | r, _ | ⟨x | r', st⟩⟩
    · exact False.elim h
    · exact False.elim h
    · exact lv_iushr hx hb hd rfl (hk _ _ _ _ h H locs lsA hw hS hL hLo (sw_oc trivial (sw_ot (sw_ot hst))))
    · exact False.elim h
    · exact False.elim h
    · exact False.elim h
    · exact False.elim h
  case idiv =>
    obtain ⟨hn, h0⟩ := sw_ln_st h
    clear h
    subst hn
    have h := h0
    clear h0
    rcases st with _ | ⟨y | r, _ | ⟨x | r', st⟩⟩
    · exact False.elim h
    · exact False.elim h
    · exact lv_idiv hx hb hd h.1 (hk _ _ _ _ h.2 H locs lsA hw hS hL hLo (sw_oc trivial (sw_ot (sw_ot hst))))
    · exact False.elim h
    · exact False.elim h
    · exact False.elim h
    · exact False.elim h
  case irem =>
    obtain ⟨hn, h0⟩ := sw_ln_st h
    clear h
    subst hn
    have h := h0
    clear h0
    rcases st with _ | ⟨y | r, _ | ⟨x | r', st⟩⟩
    · exact False.elim h
    · exact False.elim h
    · exact lv_irem hx hb hd h.1 (hk _ _ _ _ h.2 H locs lsA hw hS hL hLo (sw_oc trivial (sw_ot (sw_ot hst))))
    · exact False.elim h
    · exact False.elim h
    · exact False.elim h
    · exact False.elim h
  case getfield idx =>
    obtain ⟨hn, h0⟩ := sw_ln_st h
    clear h
    subst hn
    have h := h0
    clear h0
    obtain ⟨⟨a, b⟩, hv, h⟩ := sw_op_st h
    have hlink := hfl _ (sw_fl_in hv)
    rcases st with _ | ⟨x | _ | ⟨q1, k⟩, st⟩
    · exact False.elim h
    · exact False.elim h
    · exact False.elim h
    · obtain ⟨ha, h⟩ := sw_bif h
      have ha : q1 = a := Nat.eq_of_beq_eq_true ha
      subst ha
      have hV : V q1 k := sw_oh hst
      cases hl : sw_lay q1 with
      | inr t => rw [hl] at h; exact h.elim
      | inl ds =>
        rw [hl] at h
        replace h : (match sw_nth ds b with
          | some d => K (pc + 3) L ((bif Nat.blt d 3 then .inl (σ q1 k b) else .inr (some (d - 3, rf q1 k b))) :: st) σ
          | none => False) := h
        cases hdd : sw_nth ds b with
        | none => rw [hdd] at h; exact h.elim
        | some d =>
          rw [hdd] at h
          refine sw_getf hx hb hts hown hT hw hV hl hdd hlink hd ?_
          unfold sw_fv
          cases h3 : Nat.blt d 3 with
          | true =>
            replace h : K (pc + 3) L ((bif Nat.blt d 3 then .inl (σ q1 k b) else .inr (some (d - 3, rf q1 k b))) :: st) σ := h
            rw [h3] at h
            exact hk _ _ _ _ h H locs lsA hw hS hL hLo (sw_oc trivial (sw_ot hst))
          | false =>
            replace h : K (pc + 3) L ((bif Nat.blt d 3 then .inl (σ q1 k b) else .inr (some (d - 3, rf q1 k b))) :: st) σ := h
            rw [h3] at h
            refine hk _ _ _ _ h H locs lsA hw hS hL hLo (sw_oc (hG.2.1 q1 k ds b d hV hl hdd ?_) (sw_ot hst))
            rcases Nat.lt_or_ge d 3 with z | z
            · exact absurd (Nat.ble_eq.mpr z) (by show ¬ Nat.blt d 3 = true; rw [h3]; decide)
            · exact z
  case putfield idx =>
    obtain ⟨hn, h0⟩ := sw_ln_st h
    clear h
    subst hn
    have h := h0
    clear h0
    obtain ⟨⟨a, b⟩, hv, h⟩ := sw_op_st h
    have hlink := hfl _ (sw_fl_in hv)
    rcases st with _ | ⟨x | r, _ | ⟨y | _ | ⟨q1, k⟩, st⟩⟩
    · exact False.elim h
    · exact False.elim h
    · exact False.elim h
    · exact False.elim h
    · obtain ⟨ha, h⟩ := sw_bif h
      have ha : q1 = a := Nat.eq_of_beq_eq_true ha
      subst ha
      have hV : V q1 k := sw_oh (sw_ot hst)
      cases hl : sw_lay q1 with
      | inr t => rw [hl] at h; exact h.elim
      | inl ds =>
        rw [hl] at h
        replace h : (match sw_nth ds b with
          | some 0 => K (pc + 3) L st (sw_up σ q1 k b x)
          | some 1 => sw_bo x ∧ K (pc + 3) L st (sw_up σ q1 k b x)
          | _ => False) := h
        cases hdd : sw_nth ds b with
        | none => rw [hdd] at h; exact h.elim
        | some d =>
          rw [hdd] at h
          match d, hdd, h with
          | 0, hdd, h => exact sw_putf hx hb hts hown hT hG hw hS hV hl hdd (Or.inl rfl) hlink hd (fun H1 locs1 hw1 hS1 => hk _ _ _ _ h H1 locs1 lsA hw1 hS1 hL hLo (sw_ot (sw_ot hst)))
          | 1, hdd, h => exact sw_putf hx hb hts hown hT hG hw hS hV hl hdd (Or.inr ⟨rfl, h.1⟩) hlink hd (fun H1 locs1 hw1 hS1 => hk _ _ _ _ h.2 H1 locs1 lsA hw1 hS1 hL hLo (sw_ot (sw_ot hst)))
          | d + 2, hdd, h => exact False.elim h
    all_goals exact False.elim h
  case iaload =>
    obtain ⟨hn, h0⟩ := sw_ln_st h
    clear h
    subst hn
    have h := h0
    clear h0
    rcases st with _ | ⟨j | r, _ | ⟨y | _ | ⟨q1, k⟩, st⟩⟩
    · exact False.elim h
    · exact False.elim h
    · exact False.elim h
    · exact False.elim h
    · have hV : V q1 k := sw_oh (sw_ot hst)
      cases hl : sw_lay q1 with
      | inl ds => replace h : (match sw_lay q1 with
          | .inr t => vp_in j (ln q1 k) ∧ (bif Nat.beq t 0 then K (pc + 1) L (.inl (σ q1 k j.toNatClampNeg) :: st) σ else False)
          | _ => False) := h
                  rw [hl] at h; exact h.elim
      | inr t =>
        replace h : (match sw_lay q1 with
          | .inr t => vp_in j (ln q1 k) ∧ (bif Nat.beq t 0 then K (pc + 1) L (.inl (σ q1 k j.toNatClampNeg) :: st) σ else False)
          | _ => False) := h
        rw [hl] at h
        obtain ⟨hin, h⟩ := h
        obtain ⟨ht, h⟩ := sw_bif h
        have ht : t = 0 := Nat.eq_of_beq_eq_true ht
        subst ht
        exact sw_ald hx hb hT hw hV hin (Or.inl ⟨hl, hd⟩) (hk _ _ _ _ h H locs lsA hw hS hL hLo (sw_oc trivial (sw_ot (sw_ot hst))))
    all_goals exact False.elim h
  case baload =>
    obtain ⟨hn, h0⟩ := sw_ln_st h
    clear h
    subst hn
    have h := h0
    clear h0
    rcases st with _ | ⟨j | r, _ | ⟨y | _ | ⟨q1, k⟩, st⟩⟩
    · exact False.elim h
    · exact False.elim h
    · exact False.elim h
    · exact False.elim h
    · have hV : V q1 k := sw_oh (sw_ot hst)
      cases hl : sw_lay q1 with
      | inl ds => replace h : (match sw_lay q1 with
          | .inr t => vp_in j (ln q1 k) ∧ (bif Nat.beq t 1 then K (pc + 1) L (.inl (σ q1 k j.toNatClampNeg) :: st) σ else False)
          | _ => False) := h
                  rw [hl] at h; exact h.elim
      | inr t =>
        replace h : (match sw_lay q1 with
          | .inr t => vp_in j (ln q1 k) ∧ (bif Nat.beq t 1 then K (pc + 1) L (.inl (σ q1 k j.toNatClampNeg) :: st) σ else False)
          | _ => False) := h
        rw [hl] at h
        obtain ⟨hin, h⟩ := h
        obtain ⟨ht, h⟩ := sw_bif h
        have ht : t = 1 := Nat.eq_of_beq_eq_true ht
        subst ht
        exact sw_ald hx hb hT hw hV hin (Or.inr ⟨hl, hd⟩) (hk _ _ _ _ h H locs lsA hw hS hL hLo (sw_oc trivial (sw_ot (sw_ot hst))))
    all_goals exact False.elim h
  case aaload =>
    obtain ⟨hn, h0⟩ := sw_ln_st h
    clear h
    subst hn
    have h := h0
    clear h0
    rcases st with _ | ⟨j | r, _ | ⟨y | _ | ⟨q1, k⟩, st⟩⟩
    · exact False.elim h
    · exact False.elim h
    · exact False.elim h
    · exact False.elim h
    · have hV : V q1 k := sw_oh (sw_ot hst)
      replace h : (match sw_lay q1 with
          | .inr t => vp_in j (ln q1 k) ∧ (bif Nat.ble 2 t then K (pc + 1) L (.inr (some (t - 2, rf q1 k j.toNatClampNeg)) :: st) σ else False)
          | _ => False) := h
      cases hl : sw_lay q1 with
      | inl ds => rw [hl] at h; exact h.elim
      | inr t =>
        rw [hl] at h
        obtain ⟨hin, h⟩ := h
        obtain ⟨ht, h⟩ := sw_bif h
        have ht : 2 ≤ t := Nat.le_of_ble_eq_true ht
        have hj : j.toNatClampNeg < ln q1 k := Nat.not_le.mp fun z => hin (Or.inr z)
        exact sw_aldq hx hb hT hG hw hV hin hl ht hd (hk _ _ _ _ h H locs lsA hw hS hL hLo (sw_oc (hG.2.2.1 q1 k t _ hV hl ht hj) (sw_ot (sw_ot hst))))
    all_goals exact False.elim h
  case iastore =>
    obtain ⟨hn, h0⟩ := sw_ln_st h
    clear h
    subst hn
    have h := h0
    clear h0
    rcases st with _ | ⟨x | r, _ | ⟨j | r, _ | ⟨y | _ | ⟨q1, k⟩, st⟩⟩⟩
    · exact False.elim h
    · exact False.elim h
    · exact False.elim h
    · exact False.elim h
    · exact False.elim h
    · have hV : V q1 k := sw_oh (sw_ot (sw_ot hst))
      replace h : (match sw_lay q1 with
          | .inr t => bif Nat.beq t 0 then (vp_in j (ln q1 k) ∧ K (pc + 1) L st (sw_up σ q1 k j.toNatClampNeg x)) else False
          | _ => False) := h
      cases hl : sw_lay q1 with
      | inl ds => rw [hl] at h; exact h.elim
      | inr t =>
        rw [hl] at h
        obtain ⟨ht, h⟩ := sw_bif h
        have ht : t = 0 := Nat.eq_of_beq_eq_true ht
        subst ht
        obtain ⟨hin, h⟩ := h
        exact sw_ast hx hb hT hG hw hS hV hin (Or.inl ⟨hl, hd⟩) (fun H1 locs1 hw1 hS1 => hk _ _ _ _ h H1 locs1 lsA hw1 hS1 hL hLo (sw_ot (sw_ot (sw_ot hst))))
    all_goals exact False.elim h
  case bastore =>
    obtain ⟨hn, h0⟩ := sw_ln_st h
    clear h
    subst hn
    have h := h0
    clear h0
    rcases st with _ | ⟨x | r, _ | ⟨j | r, _ | ⟨y | _ | ⟨q1, k⟩, st⟩⟩⟩
    · exact False.elim h
    · exact False.elim h
    · exact False.elim h
    · exact False.elim h
    · exact False.elim h
    · have hV : V q1 k := sw_oh (sw_ot (sw_ot hst))
      replace h : (match sw_lay q1 with
          | .inr t => bif Nat.beq t 1 then (vp_in j (ln q1 k) ∧ (sw_bo x ∧ K (pc + 1) L st (sw_up σ q1 k j.toNatClampNeg x))) else False
          | _ => False) := h
      cases hl : sw_lay q1 with
      | inl ds => rw [hl] at h; exact h.elim
      | inr t =>
        rw [hl] at h
        obtain ⟨ht, h⟩ := sw_bif h
        have ht : t = 1 := Nat.eq_of_beq_eq_true ht
        subst ht
        obtain ⟨hin, h⟩ := h
        exact sw_ast hx hb hT hG hw hS hV hin (Or.inr ⟨hl, h.1, hd⟩) (fun H1 locs1 hw1 hS1 => hk _ _ _ _ h.2 H1 locs1 lsA hw1 hS1 hL hLo (sw_ot (sw_ot (sw_ot hst))))
    all_goals exact False.elim h
  case arraylength =>
    obtain ⟨hn, h0⟩ := sw_ln_st h
    clear h
    subst hn
    have h := h0
    clear h0
    rcases st with _ | ⟨y | _ | ⟨q1, k⟩, st⟩
    · exact False.elim h
    · exact False.elim h
    · exact False.elim h
    · have hV : V q1 k := sw_oh hst
      replace h : (match sw_lay q1 with
          | .inr t => bif Nat.ble t 4 then K (pc + 1) L (.inl (nI (ln q1 k)) :: st) σ else False
          | _ => False) := h
      cases hl : sw_lay q1 with
      | inl ds => rw [hl] at h; exact h.elim
      | inr t =>
        rw [hl] at h
        obtain ⟨ht, h⟩ := sw_bif h
        exact sw_len hx hb hT hG hw hV hl hd (hk _ _ _ _ h H locs lsA hw hS hL hLo (sw_oc trivial (sw_ot hst)))
  case ifCond cd off =>
    obtain ⟨hn, h0⟩ := sw_ln_st h
    clear h
    subst hn
    have h := h0
    clear h0
    obtain ⟨t, ht, h⟩ := sw_tg_st h
    rcases st with _ | ⟨x | r, st⟩
    · exact False.elim h
    · cases cd
      · exact lv_if_eq hx hb hd ht (fun z => hk _ _ _ _ (h.1 z) H locs lsA hw hS hL hLo (sw_ot hst)) (fun z => hk _ _ _ _ (h.2 z) H locs lsA hw hS hL hLo (sw_ot hst))
      · exact lv_if_ne hx hb hd ht (fun z => hk _ _ _ _ (h.1 z) H locs lsA hw hS hL hLo (sw_ot hst)) (fun z => hk _ _ _ _ (h.2 z) H locs lsA hw hS hL hLo (sw_ot hst))
      · exact lv_if_lt hx hb hd ht (fun z => hk _ _ _ _ (h.1 z) H locs lsA hw hS hL hLo (sw_ot hst)) (fun z => hk _ _ _ _ (h.2 z) H locs lsA hw hS hL hLo (sw_ot hst))
      · exact lv_if_ge hx hb hd ht (fun z => hk _ _ _ _ (h.1 z) H locs lsA hw hS hL hLo (sw_ot hst)) (fun z => hk _ _ _ _ (h.2 z) H locs lsA hw hS hL hLo (sw_ot hst))
      · exact lv_if_gt hx hb hd ht (fun z => hk _ _ _ _ (h.1 z) H locs lsA hw hS hL hLo (sw_ot hst)) (fun z => hk _ _ _ _ (h.2 z) H locs lsA hw hS hL hLo (sw_ot hst))
      · exact lv_if_le hx hb hd ht (fun z => hk _ _ _ _ (h.1 z) H locs lsA hw hS hL hLo (sw_ot hst)) (fun z => hk _ _ _ _ (h.2 z) H locs lsA hw hS hL hLo (sw_ot hst))
    · exact False.elim h
  case if_icmp cd off =>
    obtain ⟨hn, h0⟩ := sw_ln_st h
    clear h
    subst hn
    have h := h0
    clear h0
    obtain ⟨t, ht, h⟩ := sw_tg_st h
    rcases st with _ | ⟨y | r, _ | ⟨x | r', st⟩⟩
    · exact False.elim h
    · exact False.elim h
    · cases cd
      · exact lv_icmp_eq hx hb hd ht (fun z => hk _ _ _ _ (h.1 z) H locs lsA hw hS hL hLo (sw_ot (sw_ot hst))) (fun z => hk _ _ _ _ (h.2 z) H locs lsA hw hS hL hLo (sw_ot (sw_ot hst)))
      · exact lv_icmp_ne hx hb hd ht (fun z => hk _ _ _ _ (h.1 z) H locs lsA hw hS hL hLo (sw_ot (sw_ot hst))) (fun z => hk _ _ _ _ (h.2 z) H locs lsA hw hS hL hLo (sw_ot (sw_ot hst)))
      · exact lv_icmp_lt hx hb hd ht (fun z => hk _ _ _ _ (h.1 z) H locs lsA hw hS hL hLo (sw_ot (sw_ot hst))) (fun z => hk _ _ _ _ (h.2 z) H locs lsA hw hS hL hLo (sw_ot (sw_ot hst)))
      · exact lv_icmp_ge hx hb hd ht (fun z => hk _ _ _ _ (h.1 z) H locs lsA hw hS hL hLo (sw_ot (sw_ot hst))) (fun z => hk _ _ _ _ (h.2 z) H locs lsA hw hS hL hLo (sw_ot (sw_ot hst)))
      · exact lv_icmp_gt hx hb hd ht (fun z => hk _ _ _ _ (h.1 z) H locs lsA hw hS hL hLo (sw_ot (sw_ot hst))) (fun z => hk _ _ _ _ (h.2 z) H locs lsA hw hS hL hLo (sw_ot (sw_ot hst)))
      · exact lv_icmp_le hx hb hd ht (fun z => hk _ _ _ _ (h.1 z) H locs lsA hw hS hL hLo (sw_ot (sw_ot hst))) (fun z => hk _ _ _ _ (h.2 z) H locs lsA hw hS hL hLo (sw_ot (sw_ot hst)))
    all_goals exact False.elim h
  case ifnull off =>
    obtain ⟨hn, h0⟩ := sw_ln_st h
    clear h
    subst hn
    have h := h0
    clear h0
    obtain ⟨t, ht, h⟩ := sw_tg_st h
    rcases st with _ | ⟨x | _ | q, st⟩
    · exact False.elim h
    · exact False.elim h
    · exact lv_ifnullN hx hb hd ht (hk _ _ _ _ h H locs lsA hw hS hL hLo (sw_ot hst))
    · exact lv_ifnull hx hb hd (hk _ _ _ _ h H locs lsA hw hS hL hLo (sw_ot hst))
  case ifnonnull off =>
    obtain ⟨hn, h0⟩ := sw_ln_st h
    clear h
    subst hn
    have h := h0
    clear h0
    obtain ⟨t, ht, h⟩ := sw_tg_st h
    rcases st with _ | ⟨x | _ | q, st⟩
    · exact False.elim h
    · exact False.elim h
    · exact lv_ifnonnullN hx hb hd (hk _ _ _ _ h H locs lsA hw hS hL hLo (sw_ot hst))
    · exact lv_ifnonnull hx hb hd ht (hk _ _ _ _ h H locs lsA hw hS hL hLo (sw_ot hst))
  case goto off =>
    obtain ⟨hn, h0⟩ := sw_ln_st h
    clear h
    subst hn
    have h := h0
    clear h0
    obtain ⟨t, ht, h⟩ := sw_tg_st h
    exact lv_goto hx hb hd ht (hk _ _ _ _ h H locs lsA hw hS hL hLo hst)
  case tableswitch d lo hi offs =>
    obtain ⟨hc, h⟩ := sw_if_st h
    obtain ⟨t, ht, h⟩ := sw_tg_st h
    rcases st with _ | ⟨x | r, st⟩
    · exact False.elim h
    · replace h : sw_sw x t (fun t => K t L st σ) TS := h
      simp only [sw_tsk, Bool.and_eq_true, decide_eq_true_eq] at hc
      obtain ⟨⟨⟨c1, c2⟩, c3⟩, c4⟩ := hc
      have key : ∀ (i : Nat) (q : Int32 × Nat), TS[i]? = some q → q.1.toInt = lo + (i : Int) := by
        intro i q hq
        have e1 : (TS.map (fun q => q.1.toInt))[i]? = some q.1.toInt := by rw [List.getElem?_map, hq]; rfl
        rw [c3, List.getElem?_map] at e1
        have hi : i < offs.toList.length := by rw [← c1]; exact (List.getElem?_eq_some_iff.mp hq).1
        rw [List.getElem?_range hi] at e1
        exact (Option.some.inj e1).symm
      by_cases hr1 : x.toInt < lo ∨ hi < x.toInt
      · refine lv_tableOut hx hb hd hr1 ht (hk _ _ _ _ (sw_sw_no h fun j q' hq' z => ?_) H locs lsA hw hS hL hLo (sw_ot hst))
        have hj := key j q' hq'
        have hlt : j < offs.toList.length := by rw [← c1]; exact (List.getElem?_eq_some_iff.mp hq').1
        rw [z] at hj
        omega
      · have h1 : ¬ x.toInt < lo := fun z => hr1 (Or.inl z)
        have h2 : ¬ hi < x.toInt := fun z => hr1 (Or.inr z)
        have hi : (x.toInt - lo).toNat < offs.toList.length := by omega
        have hi2 : (x.toInt - lo).toNat < TS.length := by rw [c1]; exact hi
        obtain ⟨q, hq⟩ : ∃ q, TS[(x.toInt - lo).toNat]? = some q := ⟨_, List.getElem?_eq_getElem hi2⟩
        obtain ⟨o, ho⟩ : ∃ o, offs.toList[(x.toInt - lo).toNat]? = some o := ⟨_, List.getElem?_eq_getElem hi⟩
        have e1 : (offs.toList.map (fun o => (pc : Int) + o))[(x.toInt - lo).toNat]? = some ((pc : Int) + o) := by rw [List.getElem?_map, ho]; rfl
        rw [c4, List.getElem?_map, hq] at e1
        have e2 : (pc : Int) + o = (q.2 : Int) := (Option.some.inj e1).symm
        have hqx : q.1 = x := Int32.toInt_inj.mp (by rw [key _ q hq]; omega)
        refine lv_tableIn hx hb hd h1 h2 (by rw [← Array.getElem?_toList]; exact ho) e2 (hk _ _ _ _ (sw_sw_at h _ q hq hqx fun j q' hj hq' z => ?_) H locs lsA hw hS hL hLo (sw_ot hst))
        have := key j q' hq'
        rw [z] at this
        omega
    · exact False.elim h
  case lookupswitch d ps =>
    obtain ⟨hc, h⟩ := sw_if_st h
    obtain ⟨t, ht, h⟩ := sw_tg_st h
    rcases st with _ | ⟨x | r, st⟩
    · exact False.elim h
    · replace h : sw_sw x t (fun t => K t L st σ) TS := h
      simp only [sw_lsk, Bool.and_eq_true, decide_eq_true_eq] at hc
      obtain ⟨u, hu, h⟩ := sw_sw_look ht h
      rw [← hc.1] at hu
      exact lv_lookup hx hb hd hc.2 rfl hu (hk _ _ _ _ h H locs lsA hw hS hL hLo (sw_ot hst))
    · exact False.elim h
  case dup =>
    obtain ⟨hn, h0⟩ := sw_ln_st h
    clear h
    subst hn
    have h := h0
    clear h0
    rcases st with _ | ⟨x, st⟩
    · exact False.elim h
    · exact lv_dup hx hb hd (sw_em_cat ad x) (hk _ _ _ _ h H locs lsA hw hS hL hLo (sw_oc (sw_oh hst) hst))
  case dup2 =>
    obtain ⟨hn, h0⟩ := sw_ln_st h
    clear h
    subst hn
    have h := h0
    clear h0
    rcases st with _ | ⟨x, _ | ⟨y, st⟩⟩
    · exact False.elim h
    · exact False.elim h
    · exact lv_dup2_11 hx hb hd (sw_em_cat ad x) (sw_em_cat ad y) (hk _ _ _ _ h H locs lsA hw hS hL hLo (sw_oc (sw_oh hst) (sw_oc (sw_oh (sw_ot hst)) hst)))
  case pop =>
    obtain ⟨hn, h0⟩ := sw_ln_st h
    clear h
    subst hn
    have h := h0
    clear h0
    rcases st with _ | ⟨x, st⟩
    · exact False.elim h
    · exact lv_pop hx hb hd (sw_em_cat ad x) (hk _ _ _ _ h H locs lsA hw hS hL hLo (sw_ot hst))
  case aconst_null =>
    obtain ⟨hn, h0⟩ := sw_ln_st h
    clear h
    subst hn
    have h := h0
    clear h0
    exact lv_null hx hb hd (hk _ _ _ _ h H locs lsA hw hS hL hLo (sw_oc trivial hst))
  case ireturn =>
    obtain ⟨hn, h0⟩ := sw_ln_st h
    clear h
    subst hn
    have h := h0
    clear h0
    rcases st with _ | ⟨x | r, _ | ⟨y, st⟩⟩
    · exact False.elim h
    · match rt, hrt, h with
      | 0, hrt, h => exact False.elim h
      | 1, hrt, h =>
        have hr1 : meth.sig.returnType = some .int := hr.trans (hrt.2.1 rfl)
        exact W.zret hx hb hr1 rfl (fun t ht hW => hQ (some (.inl x)) σ H locs h (fun v hv => by cases hv; trivial) hw hS t ht hW) hS.2.2 hd
      | 2, hrt, h =>
        have hr1 : meth.sig.returnType = some .boolean := hr.trans (hrt.2.2.1 rfl)
        exact W.zret hx hb hr1 (by rcases h.1 with rfl | rfl <;> rfl) (fun t ht hW => hQ (some (.inl x)) σ H locs h.2 (fun v hv => by cases hv; trivial) hw hS t ht hW) hS.2.2 hd
      | n + 3, hrt, h => exact False.elim h
    all_goals exact False.elim h
  case areturn =>
    obtain ⟨hn, h0⟩ := sw_ln_st h
    clear h
    subst hn
    have h := h0
    clear h0
    rcases st with _ | ⟨x | r, _ | ⟨y, st⟩⟩
    · exact False.elim h
    · exact False.elim h
    · exact False.elim h
    · match rt, hrt, h with
      | 0, hrt, h => exact False.elim h
      | 1, hrt, h => exact False.elim h
      | 2, hrt, h => exact False.elim h
      | 3, hrt, h =>
        obtain ⟨nm, hnm⟩ := hrt.2.2.2 rfl
        exact W.aret (v := sw_em ad (.inr r)) hx hb (hr.trans hnm) (Or.inl ⟨nm, rfl⟩) (sw_em_r ad r) (fun t ht hW => hQ (some (.inr r)) σ H locs h (fun v hv => by cases hv; exact sw_oh hst) hw hS t ht hW) hS.2.2 hd
      | n + 4, hrt, h => exact False.elim h
    · exact False.elim h
  case return_ =>
    obtain ⟨hn, h0⟩ := sw_ln_st h
    clear h
    subst hn
    have h := h0
    clear h0
    rcases st with _ | ⟨x, st⟩
    · match rt, hrt, h with
      | 0, hrt, h =>
        have hr1 : meth.sig.returnType = none := hr.trans (hrt.1 rfl)
        exact W.vret hx hb hr1 (fun t ht hW => hQ none σ H locs h (fun v hv => by cases hv) hw hS t ht hW) hS.2.2 hd
      | n + 1, hrt, h => exact False.elim h
    · exact False.elim h
  case invokevirtual idx =>
    obtain ⟨hn, h0⟩ := sw_ln_st h
    clear h
    subst hn
    have h := h0
    clear h0
    replace h : (match sw_lk CT idx with
      | some (n, md, f) => (match sw_tk n st [] with
        | some (avs, st') => bif sw_rc md 0 avs && Nat.ble st'.length 8 then ((f avs σ).1 ∧ K (pc + 3) L ((f avs σ).2.1.toList ++ st') (f avs σ).2.2) else False
        | none => False)
      | none => False) := h
    cases hq : sw_lk CT idx with
    | none => rw [hq] at h; exact h.elim
    | some q =>
      obtain ⟨n, md, f⟩ := q
      rw [hq] at h
      replace h : (match sw_tk n st [] with
        | some (avs, st') => bif sw_rc md 0 avs && Nat.ble st'.length 8 then ((f avs σ).1 ∧ K (pc + 3) L ((f avs σ).2.1.toList ++ st') (f avs σ).2.2) else False
        | none => False) := h
      cases htk : sw_tk n st [] with
      | none => rw [htk] at h; exact h.elim
      | some q2 =>
        obtain ⟨avs, st'⟩ := q2
        rw [htk] at h
        obtain ⟨hrc, hf, h9⟩ := sw_bif h
        clear h
        rw [Bool.and_eq_true] at hrc
        obtain ⟨hrc, h8⟩ := hrc
        obtain ⟨-, hlen, pre, e1, e2⟩ := sw_tk_of htk
        rw [List.append_nil] at e2
        have e3 : pre = avs.reverse := by rw [e2, List.reverse_reverse]
        subst e1
        have hva : ∀ v ∈ avs, sw_ov V v := fun v hv => hst v (List.mem_append_left _ (by rw [e3]; exact List.mem_reverse.mpr hv))
        have hvr : ∀ v ∈ st', sw_ov V v := fun v hv => hst v (List.mem_append_right _ hv)
        have hc := hct _ (sw_lk_in hq) (MQ below Qc args s 0 0 (sw_ad ad V)) pc H locs lsA avs (st'.map (sw_em ad)) σ (sw_rc_of0 hrc hd) hlen hva hw hS hf (by rw [sw_cats]; exact Nat.le_of_ble_eq_true h8) hL.1 (fun H1 locs1 hw1 hS1 hv1 => by
          have := hk _ _ _ _ h9 H1 locs1 lsA hw1 hS1 hL hLo (fun v hv => by
            rcases List.mem_append.mp hv with z | z
            · exact hv1 v (by simpa using z)
            · exact hvr v z)
          rw [List.map_append] at this
          exact this)
        rw [List.map_append, e3, List.map_reverse]
        exact hc
  case invokestatic idx =>
    obtain ⟨hn, h0⟩ := sw_ln_st h
    clear h
    subst hn
    have h := h0
    clear h0
    replace h : (match sw_lk CT idx with
      | some (n, md, f) => (match sw_tk n st [] with
        | some (avs, st') => bif sw_rc md 1 avs && Nat.ble st'.length 8 then ((f avs σ).1 ∧ K (pc + 3) L ((f avs σ).2.1.toList ++ st') (f avs σ).2.2) else False
        | none => False)
      | none => False) := h
    cases hq : sw_lk CT idx with
    | none => rw [hq] at h; exact h.elim
    | some q =>
      obtain ⟨n, md, f⟩ := q
      rw [hq] at h
      replace h : (match sw_tk n st [] with
        | some (avs, st') => bif sw_rc md 1 avs && Nat.ble st'.length 8 then ((f avs σ).1 ∧ K (pc + 3) L ((f avs σ).2.1.toList ++ st') (f avs σ).2.2) else False
        | none => False) := h
      cases htk : sw_tk n st [] with
      | none => rw [htk] at h; exact h.elim
      | some q2 =>
        obtain ⟨avs, st'⟩ := q2
        rw [htk] at h
        obtain ⟨hrc, hf, h9⟩ := sw_bif h
        clear h
        rw [Bool.and_eq_true] at hrc
        obtain ⟨hrc, h8⟩ := hrc
        obtain ⟨-, hlen, pre, e1, e2⟩ := sw_tk_of htk
        rw [List.append_nil] at e2
        have e3 : pre = avs.reverse := by rw [e2, List.reverse_reverse]
        subst e1
        have hva : ∀ v ∈ avs, sw_ov V v := fun v hv => hst v (List.mem_append_left _ (by rw [e3]; exact List.mem_reverse.mpr hv))
        have hvr : ∀ v ∈ st', sw_ov V v := fun v hv => hst v (List.mem_append_right _ hv)
        have hc := hct _ (sw_lk_in hq) (MQ below Qc args s 0 0 (sw_ad ad V)) pc H locs lsA avs (st'.map (sw_em ad)) σ (sw_rc_of1 hrc hd) hlen hva hw hS hf (by rw [sw_cats]; exact Nat.le_of_ble_eq_true h8) hL.1 (fun H1 locs1 hw1 hS1 hv1 => by
          have := hk _ _ _ _ h9 H1 locs1 lsA hw1 hS1 hL hLo (fun v hv => by
            rcases List.mem_append.mp hv with z | z
            · exact hv1 v (by simpa using z)
            · exact hvr v z)
          rw [List.map_append] at this
          exact this)
        rw [List.map_append, e3, List.map_reverse]
        exact hc
  all_goals exact False.elim h
end swStep2
end
section
/-! A method out of its code: the check of the table, the run, the contract, the calls -/
def sw_chk (cc : ByteArray) (fl : List (Nat × Nat × Nat)) (cn : List (Nat × Int32)) (TS : sw_T) (N : Nat) (tree : Nat → sw_I) : Bool :=
  (List.range (N + 1)).all (fun pc => Nat.beq (tree pc).1 99 || (match decode cc pc with
    | .ok q => decide (sw_ec fl cn (TS pc) pc q.2 q.1 = tree pc)
    | _ => false))
theorem sw_chk_ok {cc : ByteArray} {fl : List (Nat × Nat × Nat)} {cn : List (Nat × Int32)} {TS : sw_T} {N : Nat} {tree : Nat → sw_I} (h : sw_chk cc fl cn TS N tree = true) (pc : Nat) : (sw_tab N tree pc).1 = 99 ∨ ∃ ins n, decode cc pc = .ok (ins, n) ∧ sw_ec fl cn (TS pc) pc n ins = sw_tab N tree pc := by
  unfold sw_tab
  cases hb : Nat.ble pc N with
  | false => exact Or.inl rfl
  | true =>
    rw [cond_true]
    have h1 := List.all_eq_true.mp h pc (List.mem_range.mpr (Nat.lt_succ_of_le (Nat.le_of_ble_eq_true hb)))
    rw [Bool.or_eq_true] at h1
    rcases h1 with h1 | h1
    · exact Or.inl (Nat.eq_of_beq_eq_true h1)
    · right
      cases hd : decode cc pc with
      | error z => rw [hd] at h1; cases h1
      | ok q =>
        rw [hd] at h1
        exact ⟨q.1, q.2, rfl, of_decide_eq_true h1⟩
def sw_ent : Nat → List sw_V → sw_L
  | 0, _ => []
  | n + 1, [] => none :: sw_ent n []
  | n + 1, v :: avs => some v :: sw_ent n avs
theorem sw_ent_len : ∀ (n : Nat) (avs : List sw_V), (sw_ent n avs).length = n
  | 0, _ => rfl
  | n + 1, [] => congrArg Nat.succ (sw_ent_len n [])
  | n + 1, _ :: avs => congrArg Nat.succ (sw_ent_len n avs)
theorem sw_ent_get : ∀ (n : Nat) (avs : List sw_V) (i : Nat) (v : sw_V), sw_get (sw_ent n avs) i = some v → avs[i]? = some v
  | 0, _, _, _, h => by cases h
  | n + 1, [], 0, _, h => by cases h
  | n + 1, [], i + 1, v, h => by
    have := sw_ent_get n [] i v h
    simp at this
  | n + 1, w :: avs, 0, v, h => by cases h; rfl
  | n + 1, w :: avs, i + 1, v, h => sw_ent_get n avs i v h
theorem sw_args_in (ad : sw_A) : ∀ (avs : List sw_V) (i0 i : Nat) (v : sw_V), avs[i]? = some v → (i0 + i, sw_em ad v) ∈ lv_args i0 (avs.map (sw_em ad))
  | [], _, _, _, h => by simp at h
  | w :: avs, i0, 0, v, h => by
    cases h
    exact List.mem_cons_self
  | w :: avs, i0, i + 1, v, h => by
    have h1 := sw_args_in ad avs (i0 + 1) i v h
    rw [List.map_cons]
    refine List.mem_cons_of_mem _ ?_
    rw [if_neg (by rw [sw_em_cat]; decide), show i0 + (i + 1) = i0 + 1 + i by omega]
    exact h1
theorem sw_sl_len (ad : sw_A) : ∀ avs : List sw_V, (lg_sl (avs.map (sw_em ad))).length = avs.length
  | [] => rfl
  | v :: avs => by
    have h := sw_sl_len ad avs
    unfold lg_sl at h ⊢
    rw [List.map_cons, List.flatMap_cons, if_neg (by rw [sw_em_cat]; decide), List.length_append, h, List.length_cons, List.length_cons, List.length_nil]
    omega
def sw_nw (U : State) : Prop := va_Nw (.methodLinkNest RX1 102 yX7_bit RX7) U ∧ va_Nw (.methodLinkNest RX6 286 yX7_bit RX7) U
def sw_Pw (ad : sw_A) (V : Nat → Nat → Prop) (rf : sw_R) (ln : sw_A) (ca : Nat → ClassId) (D : va_G) (σ : sw_S) (U : State) : Prop := sw_w ad V rf ln ca D σ U.heap ∧ va_K D vwCl (sw_ty ca) U ∧ sw_nw U
def sw_Qc (ad : sw_A) (V : Nat → Nat → Prop) (rf : sw_R) (ln : sw_A) (ca : Nat → ClassId) (D : va_G) (r : Option sw_V) (σ : sw_S) : Array Value → State → Outcome → State → Prop := fun _ st o t =>
  o = .returned (r.map (sw_em ad)) ∧ sw_w ad V rf ln ca D σ t.heap ∧ (∀ v, r = some v → sw_ov V v) ∧ va_F (sw_ad ad V) st t
def sw_met (l : Launch) (ad : sw_A) (V : Nat → Nat → Prop) (rf : sw_R) (ln : sw_A) (ca : Nat → ClassId) (D : va_G) (y : MethodName) (cc : ByteArray) (maxL : Nat) (ret : Option FieldType) (rm : Room) (n : Nat) (f : sw_F) : Prop :=
  ∀ (avs : List sw_V) (σ : sw_S), avs.length = n → (∀ v ∈ avs, sw_ov V v) → (f avs σ).1 → Met l y (Cond.code y cc maxL ret :: sw_tbl) rm (va_Pc (avs.map (sw_em ad)) (sw_Pw ad V rf ln ca D σ)) (sw_Qc ad V rf ln ca D (f avs σ).2.1 (f avs σ).2.2) 0 0 (sw_ad ad V)
theorem sw_nw.same {u U : State} (h : u.vm = U.vm) (hn : sw_nw u) : sw_nw U := ⟨va_Nw.same rfl h hn.1, va_Nw.same rfl h hn.2⟩
theorem sw_nw.warm {s U : State} (hW : s.WarmedH U.vm) (hn : sw_nw s) : sw_nw U := ⟨va_Nw.warmM hW hn.1, va_Nw.warmM hW hn.2⟩
section swMeth
variable {l : Launch} {ad : sw_A} {V : Nat → Nat → Prop} {rf : sw_R} {ln : sw_A} {ca : Nat → ClassId} {D : va_G}
theorem sw_meth (hG : sw_wf ad V rf ln) {y : MethodName} {cc : ByteArray} {maxL n rt N : Nat} {ret : Option FieldType} {rm : Room} {tree : Nat → sw_I} {fl : List (Nat × Nat × Nat)} {cn : List (Nat × Int32)} {TS : sw_T} {CT : sw_C} {f : sw_F} (hy : plainName y.cls = true) (hrt : sw_rt rt ret) (hnL : n ≤ maxL)
    (hchk : sw_chk cc fl cn TS N tree = true)
    (hfl : ∀ q ∈ fl, Cond.fieldLink y.cls q.1 ((sw_cl q.2.1).2.1 q.2.2).1 ((sw_cl q.2.1).2.1 q.2.2).2.1 ((sw_cl q.2.1).2.1 q.2.2).2.2.1 ∈ sw_tbl) (hcn : ∀ q ∈ cn, Jvm.Cond.constant y.cls q.1 q.2 ∈ sw_tbl)
    (hct : ∀ (p : Program) (e : Env) (s : State) (m : MethodId) (args : Array Value) (below : List Frame) (meth : Method) (c : Code), CallFix p m c cc maxL s args sw_tbl y.cls → va_K D vwCl (sw_ty ca) s → sw_nw s → ∀ q ∈ CT, sw_cok p l e rm s m args below meth c ad V rf ln ca D cc maxL q)
    (hwp : ∀ (avs : List sw_V) (σ : sw_S), avs.length = n → (f avs σ).1 → ∃ fuel, sw_wp rf ln CT TS rt N tree (fun r σ' => r = (f avs σ).2.1 ∧ σ' = (f avs σ).2.2) fuel 0 (sw_ent maxL avs) [] σ) :
    sw_met l ad V rf ln ca D y cc maxL ret rm n f := by
  intro avs σ hlen hva hf
  obtain ⟨fuel, hw0⟩ := hwp avs σ hlen hf
  refine Met.ofW (cc := cc) (maxL := maxL) (ret := ret) hy rfl ?_
  intro p e s m args below meth c s₁ B hml hv
  obtain ⟨rfl, hw, hT, hnw⟩ := hv
  have hx := B.exec
  have hb := B.bytes
  have hr := B.returns
  have hts0 := atoms_spec (ws := Cond.code y cc maxL ret :: sw_tbl) B.pre
  have hts : ∀ w ∈ sw_tbl, w.before (avs.map (sw_em ad)).toArray s = true := fun w h => hts0 w (List.mem_cons_of_mem _ h)
  have hown : s.vm.findClass y.cls = some m.cls := findClass_of_methodNamed B.named
  have hlocks := B.notSynchronized
  have hS : va_S (sw_ad ad V) s.heap s.heap [] := va_S.rf
  have hrun : ∀ (k pc : Nat) (L : sw_L) (st : List sw_V) (σ0 : sw_S), sw_wp rf ln CT TS rt N tree (fun r σ' => r = (f avs σ).2.1 ∧ σ' = (f avs σ).2.2) k pc L st σ0 → sw_at p l e rm s m (avs.map (sw_em ad)).toArray below meth c ad V rf ln ca D maxL (sw_Qc ad V rf ln ca D (f avs σ).2.1 (f avs σ).2.2) pc L st σ0 := by
    intro k
    induction k with
    | zero => intro pc L st σ0 h; exact False.elim h
    | succ k ih =>
      intro pc L st σ0 h
      rcases sw_chk_ok hchk pc with h99 | ⟨ins, nn, hd, hec⟩
      · replace h : sw_st rf ln CT (TS pc) rt _ (sw_wp rf ln CT TS rt N tree _ k) (sw_tab N tree pc) L st σ0 := h
        generalize sw_tab N tree pc = i at h h99
        obtain ⟨i1, i2, i3, i4, i5⟩ := i
        subst h99
        exact False.elim h
      · replace h : sw_st rf ln CT (TS pc) rt _ (sw_wp rf ln CT TS rt N tree _ k) (sw_tab N tree pc) L st σ0 := h
        rw [← hec] at h
        refine sw_step hx hb hml hr hrt hlocks hown hts hT hG hfl hcn (hct p e s m _ below meth c ⟨hx, hb, hml, hown, hts⟩ hT hnw) ?_ hd h ih
        intro r σ' H locs hq hov hwq hSq t ht hW
        obtain ⟨rfl, rfl⟩ := hq
        exact ⟨rfl, by rw [ht]; exact hwq, hov, hSq.F ht⟩
  have hl := lv_entry (avs.map (sw_em ad)) (n := maxL) (by rw [sw_sl_len, hlen]; exact hnL)
  rw [lg_entry_eq]
  generalize (lg_sl (avs.map (sw_em ad)) ++ List.replicate (maxL - (lg_sl (avs.map (sw_em ad))).length) Slot.unset).toArray = ls at hl ⊢
  refine hrun fuel 0 (sw_ent maxL avs) [] σ hw0 s.heap [] ls hw hS ⟨hl.1, hl.2.1, sw_ent_len _ _, fun i v hi => ?_⟩ (fun i v hi => hva v (List.mem_of_getElem? (sw_ent_get _ _ _ _ hi))) (fun v hv => by cases hv)
  have := sw_args_in ad avs 0 i v (sw_ent_get _ _ _ _ hi)
  rw [Nat.zero_add] at this
  exact hl.2.2 _ this
/-- what a call leaves: the caller goes on -/
theorem sw_call {p : Program} {e : Env} {R : Room} {s : State} {m : MethodId} {args : Array Value} {below : List Frame} {meth : Method} {c : Code} {H : Heap} {locs : List Loc} {Qw : State → Prop} {pc : Nat} {ls : Array Slot} {st0 rest : List Value} {r : Option sw_V} {σ : sw_S} {a : Array Value}
    (hr : va_Run p l e R s m args below meth c H locs 0 0 0 0 (F0 m pc ls st0) rest (sw_Qc ad V rf ln ca D r σ a) (sw_ad ad V)) (hS : va_S (sw_ad ad V) s.heap H locs)
    (kk : ∀ (H1 : Heap) (locs1 : List Loc), sw_w ad V rf ln ca D σ H1 → va_S (sw_ad ad V) s.heap H1 locs1 → (∀ v, r = some v → sw_ov V v) → W p l e R s m args below meth c H1 locs1 0 0 Qw (F0 m (pc + 3) ls ((r.toList).map (sw_em ad) ++ rest))) : W p l e R s m args below meth c H locs 0 0 Qw (F0 m pc ls st0) := by
  intro T hT X
  obtain ⟨v, st₀, t, T', L, h0, X', hL, e1, e2, ⟨hv, hw, hov, hz, hk⟩, st⟩ := hr T hT X
  cases hv
  rw [h0] at hz hk
  obtain ⟨t2, a1, b1⟩ := kk T'.heap (locs ++ L) (by rw [e1]; exact hw) ⟨Nat.le_trans hS.1 (by rw [e1]; exact hz), fun q h1 h2 => by rw [e1, hk q (Nat.lt_of_lt_of_le h1 hS.1) h2]; exact hS.2.1 q h1 h2, fun q hq => by
      rcases List.mem_append.mp hq with h | h
      · exact hS.2.2 q h
      · exact hL q h⟩ hov T' rfl X'
  refine ⟨t2, st t2 ?_, b1⟩
  have e3 : (Option.map (sw_em ad) r).toList = (r.toList).map (sw_em ad) := by cases r <;> rfl
  rw [e3]
  exact a1
theorem sw_blind {avs : List sw_V} {σ : sw_S} : FrameBlind (va_Pc (avs.map (sw_em ad)) (sw_Pw ad V rf ln ca D σ)) := fun a U g mk q => by
  obtain ⟨q0, q1, q2, q3⟩ := q
  exact ⟨q0, q1, va_K.moved (u := U) (U := U.calling g mk a) (Vm.Alike.refl U.vm) q2, sw_nw.same (u := U) (U := U.calling g mk a) rfl q3⟩
theorem sw_cokV {p : Program} {e : Env} {R : Room} {s : State} {m : MethodId} {args : Array Value} {below : List Frame} {meth : Method} {c : Code} {cc : ByteArray} {nL : Nat} {own : String} (S : CallFix p m c cc nL s args sw_tbl own) (hT : va_K D vwCl (sw_ty ca) s) (hnw : sw_nw s)
    {y : MethodName} {cc' : ByteArray} {maxL' n : Nat} {ret' : Option FieldType} {rm' : Room} {f : sw_F} (M : sw_met l ad V rf ln ca D y cc' maxL' ret' rm' (n + 1) f) (idx c0 : Nat) (h9 : c0 < 9)
    (hw : Cond.methodLink own idx y ∈ sw_tbl ∧ Cond.instanceMethod y ∈ sw_tbl ∧ Cond.selects y.cls y y ∈ sw_tbl ∧ Cond.initialized y.cls ∈ sw_tbl ∧ Cond.code y cc' maxL' ret' ∈ sw_tbl)
    (hd : y.cls = (sw_cl c0).1 ∧ y.cls ≠ "java/lang/invoke/MethodHandle" ∧ y.cls ≠ "java/lang/invoke/VarHandle" ∧ (parseMethodDescriptor y.desc).map (fun d => d.parameters.length) = some n) (hrc : rm'.cells = 0 ∧ rm'.slots = 0) (hR : rm'.frames + 1 ≤ R.frames ∧ 8 + (maxL' + 11) + rm'.locals ≤ R.locals) :
    sw_cok p l e R s m args below meth c ad V rf ln ca D cc nL (idx, n + 1, c0 + 1, f) := by
  intro Qw pc H locs lsA avs rest σ hdec hlen hva hwσ hS hf h8 hsz kk
  rcases hdec with ⟨h0, -⟩ | ⟨c1, k, tl, h0, rfl, hdg⟩
  · cases h0
  · cases h0
    have hV : V c0 k := sw_oh hva
    have hrec := va_recv hT (hwσ.one hV rfl) (ci := c0) (q := sw_cl c0) (q0 := 0) (fs := match sw_lay c0 with
      | .inl ds => sw_fs ad rf c0 k (σ c0 k) ds 0
      | _ => []) (sw_cl_at h9) (by
        have : ∃ ds, sw_lay c0 = .inl ds := sw_9 (P := fun c0 => ∃ ds, sw_lay c0 = .inl ds) ⟨_, rfl⟩ ⟨_, rfl⟩ ⟨_, rfl⟩ ⟨_, rfl⟩ ⟨_, rfl⟩ ⟨_, rfl⟩ ⟨_, rfl⟩ ⟨_, rfl⟩ ⟨_, rfl⟩ h9
        obtain ⟨ds, hds⟩ := this
        rw [sw_en_o hds, hds]
        rfl)
    rw [← hd.1] at hrec
    have hrun := va_runV (e := e) (below := below) (meth := meth) (R := R) (locs := locs) (As := tl.map (sw_em ad)) (rest := rest) (g := F0 m pc lsA ((((.inr (some (c0, k)) :: tl : List sw_V)).map (sw_em ad)).reverse ++ rest)) S (M _ σ hlen hva hf)
      (cwV n S.2.2.2.2 (fun w hw2 => by
        rcases List.mem_append.mp hw2 with h | h
        · simp only [List.mem_cons, List.not_mem_nil, or_false] at h
          rcases h with rfl | rfl | rfl | rfl
          · exact sw_tbl_good _ hw.1
          · exact sw_tbl_good _ hw.2.1
          · exact sw_tbl_good _ hw.2.2.1
          · exact sw_tbl_good _ hw.2.2.2.1
        · exact sw_good_cons hw.2.2.2.2 _ h) rfl hrc.1 hrc.2 ⟨rfl, hd.2⟩ hR)
      ⟨sw_blind, hrec, fun U hU hW => ⟨rfl, by rw [hU]; exact hwσ, va_K.moved hW.alike hT, sw_nw.warm hW hnw⟩⟩ rfl (by rw [List.length_map]; exact Nat.succ.inj hlen) hsz (by simp [sw_em]) (lv_room h8) hdg ⟨Nat.zero_le _, Nat.zero_le _⟩
    exact sw_call hrun hS kk
theorem sw_cokS {p : Program} {e : Env} {R : Room} {s : State} {m : MethodId} {args : Array Value} {below : List Frame} {meth : Method} {c : Code} {cc : ByteArray} {nL : Nat} {own : String} (S : CallFix p m c cc nL s args sw_tbl own) (hT : va_K D vwCl (sw_ty ca) s) (hnw : sw_nw s)
    {y : MethodName} {cc' : ByteArray} {maxL' n : Nat} {ret' : Option FieldType} {rm' : Room} {f : sw_F} (M : sw_met l ad V rf ln ca D y cc' maxL' ret' rm' n f) (idx : Nat)
    (hw : Cond.methodLink own idx y ∈ sw_tbl ∧ Cond.static y ∈ sw_tbl ∧ Cond.initialized own ∈ sw_tbl ∧ Cond.code y cc' maxL' ret' ∈ sw_tbl)
    (hd : y.cls = own ∧ y.cls ≠ "java/lang/invoke/MethodHandle" ∧ y.cls ≠ "java/lang/invoke/VarHandle" ∧ (parseMethodDescriptor y.desc).map (fun d => d.parameters.length) = some n) (hrc : rm'.cells = 0 ∧ rm'.slots = 0) (hR : rm'.frames + 1 ≤ R.frames ∧ 8 + (maxL' + 11) + rm'.locals ≤ R.locals) :
    sw_cok p l e R s m args below meth c ad V rf ln ca D cc nL (idx, n, 0, f) := by
  intro Qw pc H locs lsA avs rest σ hdec hlen hva hwσ hS hf h8 hsz kk
  rcases hdec with ⟨-, hdg⟩ | ⟨c1, k, tl, h0, -, -⟩
  · have hrun := va_runS (e := e) (below := below) (meth := meth) (R := R) (locs := locs) (As := avs.map (sw_em ad)) (rest := rest) (g := F0 m pc lsA ((avs.map (sw_em ad)).reverse ++ rest)) S (M _ σ hlen hva hf)
      (cwS n S.2.2.2.2 (fun w hw2 => by
        rcases List.mem_append.mp hw2 with h | h
        · simp only [List.mem_cons, List.not_mem_nil, or_false] at h
          rcases h with rfl | rfl | rfl
          · exact sw_tbl_good _ hw.1
          · exact sw_tbl_good _ hw.2.1
          · exact sw_tbl_good _ hw.2.2.1
        · exact sw_good_cons hw.2.2.2 _ h) rfl hrc.1 hrc.2 hd hR)
      ⟨sw_blind, fun U hU hW => ⟨rfl, by rw [hU]; exact hwσ, va_K.moved hW.alike hT, sw_nw.warm hW hnw⟩⟩ rfl (by rw [List.length_map]; exact hlen) hsz rfl (lv_room h8) hdg ⟨Nat.zero_le _, Nat.zero_le _⟩
    exact sw_call hrun hS kk
  · cases h0
theorem sw_cokN {p : Program} {e : Env} {R : Room} {s : State} {m : MethodId} {args : Array Value} {below : List Frame} {meth : Method} {c : Code} {cc : ByteArray} {nL : Nat} {own host : String} (S : CallFix p m c cc nL s args sw_tbl own) (hT : va_K D vwCl (sw_ty ca) s) (hnw : sw_nw s)
    {y : MethodName} {cc' : ByteArray} {maxL' n : Nat} {ret' : Option FieldType} {rm' : Room} {f : sw_F} (M : sw_met l ad V rf ln ca D y cc' maxL' ret' rm' n f) (idx : Nat) (hl : va_Nw (.methodLinkNest own idx y host) s)
    (hw : Cond.static y ∈ sw_tbl ∧ Cond.initialized y.cls ∈ sw_tbl ∧ Cond.code y cc' maxL' ret' ∈ sw_tbl)
    (hd : y.cls ≠ "java/lang/invoke/MethodHandle" ∧ y.cls ≠ "java/lang/invoke/VarHandle" ∧ (parseMethodDescriptor y.desc).map (fun d => d.parameters.length) = some n) (hrc : rm'.cells = 0 ∧ rm'.slots = 0) (hR : rm'.frames + 1 ≤ R.frames ∧ 8 + (maxL' + 11) + rm'.locals ≤ R.locals) :
    sw_cok p l e R s m args below meth c ad V rf ln ca D cc nL (idx, n, 0, f) := by
  intro Qw pc H locs lsA avs rest σ hdec hlen hva hwσ hS hf h8 hsz kk
  rcases hdec with ⟨-, hdg⟩ | ⟨c1, k, tl, h0, -, -⟩
  · have hrun := va_runSN (e := e) (below := below) (meth := meth) (R := R) (locs := locs) (As := avs.map (sw_em ad)) (rest := rest) (g := F0 m pc lsA ((avs.map (sw_em ad)).reverse ++ rest)) S (M _ σ hlen hva hf)
      ⟨va_cnB n S.2.2.2.2 (sw_good_cons hw.2.2) rfl hrc.1 hrc.2 hl (S.2.2.2.2 _ hw.2.1) hd hR, S.2.2.2.2 _ hw.1, trivial⟩
      ⟨sw_blind, fun U hU hW => ⟨rfl, by rw [hU]; exact hwσ, va_K.moved hW.alike hT, sw_nw.warm hW hnw⟩⟩ rfl (by rw [List.length_map]; exact hlen) hsz rfl (lv_room h8) hdg ⟨Nat.zero_le _, Nat.zero_le _⟩
    exact sw_call hrun hS kk
  · cases h0
def sw_max : sw_F := fun avs σ => match avs with
  | [.inl x, .inl y] => (True, some (.inl (if x < y then y else x)), σ)
  | _ => (False, none, σ)
def sw_min : sw_F := fun avs σ => match avs with
  | [.inl x, .inl y] => (True, some (.inl (if y < x then y else x)), σ)
  | _ => (False, none, σ)
theorem sw_cokX {p : Program} {e : Env} {R : Room} {s : State} {m : MethodId} {args : Array Value} {below : List Frame} {meth : Method} {c : Code} {cc : ByteArray} {nL : Nat} {own : String} (S : CallFix p m c cc nL s args sw_tbl own) (idx : Nat)
    (hw : Cond.methodLink own idx Lib.Math.max.name ∈ sw_tbl) (hR : 1 ≤ R.frames ∧ 21 ≤ R.locals) :
    sw_cok p l e R s m args below meth c ad V rf ln ca D cc nL (idx, 2, 0, sw_max) := by
  intro Qw pc H locs lsA avs rest σ hdec hlen hva hwσ hS hf h8 hsz kk
  rcases hdec with ⟨-, hdg⟩ | ⟨c1, k, tl, h0, -, -⟩
  · match avs, hf, kk with
    | [.inl x, .inl y], hf, kk =>
      exact va_mmax (rest := rest) S.1 S.2.1 (S.2.2.1.trans hsz.symm) S.2.2.2.1 (S.2.2.2.2 _ hw) (S.2.2.2.2 _ (by decide +kernel)) (S.2.2.2.2 _ (by decide +kernel)) (S.2.2.2.2 _ (by decide +kernel)) hR.1 (by have := hR.2; omega) (Nat.zero_le _) (Nat.zero_le _) hdg (kk H locs hwσ hS (fun v hv => by cases hv; trivial))
  · cases h0
theorem sw_cokM {p : Program} {e : Env} {R : Room} {s : State} {m : MethodId} {args : Array Value} {below : List Frame} {meth : Method} {c : Code} {cc : ByteArray} {nL : Nat} {own : String} (S : CallFix p m c cc nL s args sw_tbl own) (idx : Nat)
    (hw : Cond.methodLink own idx Lib.Math.min.name ∈ sw_tbl) (hR : 1 ≤ R.frames ∧ 21 ≤ R.locals) :
    sw_cok p l e R s m args below meth c ad V rf ln ca D cc nL (idx, 2, 0, sw_min) := by
  intro Qw pc H locs lsA avs rest σ hdec hlen hva hwσ hS hf h8 hsz kk
  rcases hdec with ⟨-, hdg⟩ | ⟨c1, k, tl, h0, -, -⟩
  · match avs, hf, kk with
    | [.inl x, .inl y], hf, kk =>
      exact va_mmin (rest := rest) S.1 S.2.1 (S.2.2.1.trans hsz.symm) S.2.2.2.1 (S.2.2.2.2 _ hw) (S.2.2.2.2 _ (by decide +kernel)) (S.2.2.2.2 _ (by decide +kernel)) (S.2.2.2.2 _ (by decide +kernel)) hR.1 (by have := hR.2; omega) (Nat.zero_le _) (Nat.zero_le _) hdg (kk H locs hwσ hS (fun v hv => by cases hv; trivial))
  · cases h0
end swMeth
end
section
/-! More fuel does no harm; a run from a point, by any fuel -/
section swMono
variable {rf : sw_R} {ln : sw_A} {CT : sw_C} {rt N : Nat} {tree : Nat → sw_I} {Qr : Option sw_V → sw_S → Prop}
theorem sw_st_mono {TS : List (Int32 × Nat)} {K K' : Nat → sw_L → List sw_V → sw_S → Prop} (hK : ∀ pc L st σ, K pc L st σ → K' pc L st σ) (i : sw_I) (L : sw_L) (st : List sw_V) (σ : sw_S) (h : sw_st rf ln CT TS rt Qr K i L st σ) : sw_st rf ln CT TS rt Qr K' i L st σ := by
  obtain ⟨op, a, b, nx, v⟩ := i
  match op, h with
  | 0, h => exact hK _ _ _ _ h
  | 1, h =>
    replace h : (match sw_get L a with
      | some (.inl x) => K nx L (.inl x :: st) σ
      | _ => False) := h
    show (match sw_get L a with
      | some (.inl x) => K' nx L (.inl x :: st) σ
      | _ => False)
    cases hg : sw_get L a with
    | none => rw [hg] at h; exact h.elim
    | some w =>
      rw [hg] at h
      rcases w with x | r
      · first | exact hK _ _ _ _ h | exact False.elim h
      · first | exact hK _ _ _ _ h | exact False.elim h
  | 2, h =>
    replace h : (match sw_get L a with
      | some (.inr r) => K nx L (.inr r :: st) σ
      | _ => False) := h
    show (match sw_get L a with
      | some (.inr r) => K' nx L (.inr r :: st) σ
      | _ => False)
    cases hg : sw_get L a with
    | none => rw [hg] at h; exact h.elim
    | some w =>
      rw [hg] at h
      rcases w with x | r
      · first | exact hK _ _ _ _ h | exact False.elim h
      · first | exact hK _ _ _ _ h | exact False.elim h
  | 3, h =>
    rcases st with _ | ⟨x | r, st⟩
    · exact False.elim h
    · obtain ⟨h1, h⟩ := sw_bif h
      show bif Nat.blt a L.length then _ else False
      rw [h1]
      exact hK _ _ _ _ h
    · exact False.elim h
  | 4, h =>
    rcases st with _ | ⟨x | r, st⟩
    · exact False.elim h
    · exact False.elim h
    · obtain ⟨h1, h⟩ := sw_bif h
      show bif Nat.blt a L.length then _ else False
      rw [h1]
      exact hK _ _ _ _ h
  | 5, h =>
    replace h : (match sw_get L a with
      | some (.inl x) => K nx (sw_set L a (.inl (x + v))) st σ
      | _ => False) := h
    show (match sw_get L a with
      | some (.inl x) => K' nx (sw_set L a (.inl (x + v))) st σ
      | _ => False)
    cases hg : sw_get L a with
    | none => rw [hg] at h; exact h.elim
    | some w =>
      rw [hg] at h
      rcases w with x | r
      · first | exact hK _ _ _ _ h | exact False.elim h
      · first | exact hK _ _ _ _ h | exact False.elim h
  | 6, h =>
    rcases st with _ | ⟨y | r, _ | ⟨x | r', st⟩⟩
    · exact False.elim h
    · exact False.elim h
    · exact hK _ _ _ _ h
    all_goals exact False.elim h
  | 7, h =>
    rcases st with _ | ⟨x | _ | ⟨q1, k⟩, st⟩
    · exact False.elim h
    · exact False.elim h
    · exact False.elim h
    · replace h : (bif Nat.beq q1 a then (match sw_lay a with
      | .inl ds => match sw_nth ds b with
        | some d => K nx L ((bif Nat.blt d 3 then .inl (σ a k b) else .inr (some (d - 3, rf a k b))) :: st) σ
        | none => False
      | _ => False) else False) := h
      show (bif Nat.beq q1 a then (match sw_lay a with
      | .inl ds => match sw_nth ds b with
        | some d => K' nx L ((bif Nat.blt d 3 then .inl (σ a k b) else .inr (some (d - 3, rf a k b))) :: st) σ
        | none => False
      | _ => False) else False)
      obtain ⟨h1, h2⟩ := sw_bif h
      clear h
      rw [h1, cond_true]
      split at h2
      · split at h2
        · exact hK _ _ _ _ h2
        · exact False.elim h2
      · exact False.elim h2
  | 8, h =>
    rcases st with _ | ⟨x | r, _ | ⟨y | _ | ⟨q1, k⟩, st⟩⟩
    · exact False.elim h
    · exact False.elim h
    · exact False.elim h
    · exact False.elim h
    · replace h : (bif Nat.beq q1 a then (match sw_lay a with
      | .inl ds => match sw_nth ds b with
        | some 0 => K nx L st (sw_up σ a k b x)
        | some 1 => sw_bo x ∧ K nx L st (sw_up σ a k b x)
        | _ => False
      | _ => False) else False) := h
      show (bif Nat.beq q1 a then (match sw_lay a with
      | .inl ds => match sw_nth ds b with
        | some 0 => K' nx L st (sw_up σ a k b x)
        | some 1 => sw_bo x ∧ K' nx L st (sw_up σ a k b x)
        | _ => False
      | _ => False) else False)
      obtain ⟨h1, h2⟩ := sw_bif h
      clear h
      rw [h1, cond_true]
      split at h2
      · split at h2
        · exact hK _ _ _ _ h2
        · exact ⟨h2.1, hK _ _ _ _ h2.2⟩
        · exact False.elim h2
      · exact False.elim h2
    all_goals exact False.elim h
  | 9, h =>
    rcases st with _ | ⟨j | r, _ | ⟨y | _ | ⟨q1, k⟩, st⟩⟩
    · exact False.elim h
    · exact False.elim h
    · exact False.elim h
    · exact False.elim h
    · rcases a with _ | _ | _ | a
      · replace h : (match sw_lay q1 with
        | .inr t => vp_in j (ln q1 k) ∧ (bif Nat.beq t (0) then K nx L (.inl (σ q1 k j.toNatClampNeg) :: st) σ else False)
        | _ => False) := h
        show (match sw_lay q1 with
        | .inr t => vp_in j (ln q1 k) ∧ (bif Nat.beq t (0) then K' nx L (.inl (σ q1 k j.toNatClampNeg) :: st) σ else False)
        | _ => False)
        split at h
        · obtain ⟨h0, h2⟩ := h
          obtain ⟨h1, h3⟩ := sw_bif h2
          refine ⟨h0, ?_⟩
          rw [h1]
          exact hK _ _ _ _ h3
        · exact False.elim h
      · replace h : (match sw_lay q1 with
        | .inr t => vp_in j (ln q1 k) ∧ (bif Nat.beq t (1) then K nx L (.inl (σ q1 k j.toNatClampNeg) :: st) σ else False)
        | _ => False) := h
        show (match sw_lay q1 with
        | .inr t => vp_in j (ln q1 k) ∧ (bif Nat.beq t (1) then K' nx L (.inl (σ q1 k j.toNatClampNeg) :: st) σ else False)
        | _ => False)
        split at h
        · obtain ⟨h0, h2⟩ := h
          obtain ⟨h1, h3⟩ := sw_bif h2
          refine ⟨h0, ?_⟩
          rw [h1]
          exact hK _ _ _ _ h3
        · exact False.elim h
      · replace h : (match sw_lay q1 with
        | .inr t => vp_in j (ln q1 k) ∧ (bif Nat.ble 2 t then K nx L (.inr (some (t - 2, rf q1 k j.toNatClampNeg)) :: st) σ else False)
        | _ => False) := h
        show (match sw_lay q1 with
        | .inr t => vp_in j (ln q1 k) ∧ (bif Nat.ble 2 t then K' nx L (.inr (some (t - 2, rf q1 k j.toNatClampNeg)) :: st) σ else False)
        | _ => False)
        split at h
        · obtain ⟨h0, h2⟩ := h
          obtain ⟨h1, h3⟩ := sw_bif h2
          refine ⟨h0, ?_⟩
          rw [h1]
          exact hK _ _ _ _ h3
        · exact False.elim h
      · replace h : (match sw_lay q1 with
        | .inr t => vp_in j (ln q1 k) ∧ (bif Nat.beq t (a + 3) then K nx L (.inl (σ q1 k j.toNatClampNeg) :: st) σ else False)
        | _ => False) := h
        show (match sw_lay q1 with
        | .inr t => vp_in j (ln q1 k) ∧ (bif Nat.beq t (a + 3) then K' nx L (.inl (σ q1 k j.toNatClampNeg) :: st) σ else False)
        | _ => False)
        split at h
        · obtain ⟨h0, h2⟩ := h
          obtain ⟨h1, h3⟩ := sw_bif h2
          refine ⟨h0, ?_⟩
          rw [h1]
          exact hK _ _ _ _ h3
        · exact False.elim h
    all_goals exact False.elim h
  | 10, h =>
    rcases st with _ | ⟨x | r, _ | ⟨j | r, _ | ⟨y | _ | ⟨q1, k⟩, st⟩⟩⟩
    · exact False.elim h
    · exact False.elim h
    · exact False.elim h
    · exact False.elim h
    · exact False.elim h
    · rcases a with _ | a
      · replace h : (match sw_lay q1 with
        | .inr t => bif Nat.beq t (0) then (vp_in j (ln q1 k) ∧ K nx L st (sw_up σ q1 k j.toNatClampNeg x)) else False
        | _ => False) := h
        show (match sw_lay q1 with
        | .inr t => bif Nat.beq t (0) then (vp_in j (ln q1 k) ∧ K' nx L st (sw_up σ q1 k j.toNatClampNeg x)) else False
        | _ => False)
        split at h
        · obtain ⟨h1, h2⟩ := sw_bif h
          rw [h1, cond_true]
          exact ⟨h2.1, hK _ _ _ _ h2.2⟩
        · exact False.elim h
      · replace h : (match sw_lay q1 with
        | .inr t => bif Nat.beq t (a + 1) then (vp_in j (ln q1 k) ∧ (sw_bo x ∧ K nx L st (sw_up σ q1 k j.toNatClampNeg x))) else False
        | _ => False) := h
        show (match sw_lay q1 with
        | .inr t => bif Nat.beq t (a + 1) then (vp_in j (ln q1 k) ∧ (sw_bo x ∧ K' nx L st (sw_up σ q1 k j.toNatClampNeg x))) else False
        | _ => False)
        split at h
        · obtain ⟨h1, h2⟩ := sw_bif h
          rw [h1, cond_true]
          exact ⟨h2.1, h2.2.1, hK _ _ _ _ h2.2.2⟩
        · exact False.elim h
    all_goals exact False.elim h
  | 11, h =>
    rcases st with _ | ⟨y | _ | ⟨q1, k⟩, st⟩
    · exact False.elim h
    · exact False.elim h
    · exact False.elim h
    · replace h : (match sw_lay q1 with
      | .inr t => bif Nat.ble t 4 then K nx L (.inl (nI (ln q1 k)) :: st) σ else False
      | _ => False) := h
      show (match sw_lay q1 with
      | .inr t => bif Nat.ble t 4 then K' nx L (.inl (nI (ln q1 k)) :: st) σ else False
      | _ => False)
      split at h
      · obtain ⟨h1, h2⟩ := sw_bif h
        rw [h1]
        exact hK _ _ _ _ h2
      · exact False.elim h
  | 12, h =>
    rcases st with _ | ⟨x | r, st⟩
    · exact False.elim h
    · exact sw_br_mono (hK _ _ _ _) (hK _ _ _ _) h
    · exact False.elim h
  | 13, h =>
    rcases st with _ | ⟨y | r, _ | ⟨x | r', st⟩⟩
    · exact False.elim h
    · exact False.elim h
    · exact sw_br_mono (hK _ _ _ _) (hK _ _ _ _) h
    all_goals exact False.elim h
  | 14, h =>
    rcases st with _ | ⟨x | _ | q, st⟩
    · exact False.elim h
    · exact False.elim h
    · exact hK _ _ _ _ h
    · exact hK _ _ _ _ h
  | 15, h =>
    rcases st with _ | ⟨x | _ | q, st⟩
    · exact False.elim h
    · exact False.elim h
    · exact hK _ _ _ _ h
    · exact hK _ _ _ _ h
  | 16, h => exact hK _ _ _ _ h
  | 17, h =>
    rcases st with _ | ⟨x | r, st⟩
    · exact False.elim h
    · exact sw_sw_mono (fun t => hK _ _ _ _) _ h
    · exact False.elim h
  | 18, h =>
    replace h : (match sw_lk CT a with
    | some (n, md, f) => (match sw_tk n st [] with
      | some (avs, st') => bif sw_rc md b avs && Nat.ble st'.length 8 then ((f avs σ).1 ∧ K nx L ((f avs σ).2.1.toList ++ st') (f avs σ).2.2) else False
      | none => False)
    | none => False) := h
    show (match sw_lk CT a with
    | some (n, md, f) => (match sw_tk n st [] with
      | some (avs, st') => bif sw_rc md b avs && Nat.ble st'.length 8 then ((f avs σ).1 ∧ K' nx L ((f avs σ).2.1.toList ++ st') (f avs σ).2.2) else False
      | none => False)
    | none => False)
    split at h
    · split at h
      · obtain ⟨h1, h2⟩ := sw_bif h
        rw [h1, cond_true]
        exact ⟨h2.1, hK _ _ _ _ h2.2⟩
      · exact False.elim h
    · exact False.elim h
  | 19, h => exact h
  | 20, h => exact h
  | 21, h => exact h
  | 22, h =>
    rcases st with _ | ⟨x, st⟩
    · exact False.elim h
    · exact hK _ _ _ _ h
  | 23, h =>
    rcases st with _ | ⟨x, _ | ⟨y, st⟩⟩
    · exact False.elim h
    · exact False.elim h
    · exact hK _ _ _ _ h
  | 24, h =>
    rcases st with _ | ⟨x, st⟩
    · exact False.elim h
    · exact hK _ _ _ _ h
  | 25, h => exact hK _ _ _ _ h
  | 26, h =>
    rcases st with _ | ⟨y | r, _ | ⟨x | r', st⟩⟩
    · exact False.elim h
    · exact False.elim h
    · exact ⟨h.1, hK _ _ _ _ h.2⟩
    all_goals exact False.elim h
  | 27, h =>
    rcases st with _ | ⟨y | r, _ | ⟨x | r', st⟩⟩
    · exact False.elim h
    · exact False.elim h
    · exact ⟨h.1, hK _ _ _ _ h.2⟩
    all_goals exact False.elim h
  | n + 28, h => exact False.elim h
theorem sw_wp_succ {TS : sw_T} : ∀ (n pc : Nat) (L : sw_L) (st : List sw_V) (σ : sw_S), sw_wp rf ln CT TS rt N tree Qr n pc L st σ → sw_wp rf ln CT TS rt N tree Qr (n + 1) pc L st σ
  | 0, _, _, _, _, h => False.elim h
  | n + 1, pc, L, st, σ, h => sw_st_mono (fun pc L st σ => sw_wp_succ n pc L st σ) _ L st σ h
theorem sw_wp_mono {TS : sw_T} {n pc : Nat} {L : sw_L} {st : List sw_V} {σ : sw_S} (h : sw_wp rf ln CT TS rt N tree Qr n pc L st σ) (k : Nat) : sw_wp rf ln CT TS rt N tree Qr (n + k) pc L st σ := by
  induction k with
  | zero => exact h
  | succ k ih => exact sw_wp_succ _ _ _ _ _ ih
end swMono
end
