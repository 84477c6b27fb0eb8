/-! ===== the skeleton's and the printed names, then tables for the abstract machine (printed by wip/whole/gen1.py) ===== -/
-- ===== PART A: goes FIRST, ahead of the names: the tables' words, and 'selects' of the private methods out of them =====
/-- a private method of a class that the tables say can be made, by its rows of tables_1 -/
def lw_okq (q : MethodName × Nat) : Prop := (q.1.cls ≠ "java/lang/invoke/MethodHandle" ∧ q.1.cls ≠ "java/lang/invoke/VarHandle") ∧ Cond.instantiable q.1.cls q.2 ∈ tables_1 ∧ Cond.privateMethod q.1 ∈ tables_1 ∧ Cond.instanceMethod q.1 ∈ tables_1
theorem lw_p0 : lw_okq (⟨"FieldMixtures$Contest", "startWith", "(I)V"⟩, 5) := ⟨⟨by decide +kernel, by decide +kernel⟩, List.mem_of_getElem? (i := 21) (by decide +kernel), List.mem_of_getElem? (i := 76) (by decide +kernel), List.mem_of_getElem? (i := 77) (by decide +kernel)⟩
theorem lw_p1 : lw_okq (⟨"FieldMixtures$Side", "resetBounds", "()V"⟩, 3) := ⟨⟨by decide +kernel, by decide +kernel⟩, List.mem_of_getElem? (i := 27) (by decide +kernel), List.mem_of_getElem? (i := 80) (by decide +kernel), List.mem_of_getElem? (i := 81) (by decide +kernel)⟩
theorem lw_p2 : lw_okq (⟨"FieldMixtures$Contest", "side", "(I)LFieldMixtures$Side;"⟩, 5) := ⟨⟨by decide +kernel, by decide +kernel⟩, List.mem_of_getElem? (i := 21) (by decide +kernel), List.mem_of_getElem? (i := 261) (by decide +kernel), List.mem_of_getElem? (i := 262) (by decide +kernel)⟩
theorem lw_p3 : lw_okq (⟨"FieldMixtures$Contest", "sumOfValues", "()I"⟩, 5) := ⟨⟨by decide +kernel, by decide +kernel⟩, List.mem_of_getElem? (i := 21) (by decide +kernel), List.mem_of_getElem? (i := 265) (by decide +kernel), List.mem_of_getElem? (i := 266) (by decide +kernel)⟩
theorem lw_p4 : lw_okq (⟨"FieldMixtures$Mixture", "weight", "()I"⟩, 3) := ⟨⟨by decide +kernel, by decide +kernel⟩, List.mem_of_getElem? (i := 33) (by decide +kernel), List.mem_of_getElem? (i := 269) (by decide +kernel), List.mem_of_getElem? (i := 270) (by decide +kernel)⟩
theorem lw_p5 : lw_okq (⟨"FieldMixtures$History", "restoreLatest", "(LFieldMixtures$Contest;)V"⟩, 2) := ⟨⟨by decide +kernel, by decide +kernel⟩, List.mem_of_getElem? (i := 106) (by decide +kernel), List.mem_of_getElem? (i := 279) (by decide +kernel), List.mem_of_getElem? (i := 280) (by decide +kernel)⟩
theorem lw_p6 : lw_okq (⟨"FieldMixtures$Contest", "copyFrom", "(LFieldMixtures$Contest;)V"⟩, 5) := ⟨⟨by decide +kernel, by decide +kernel⟩, List.mem_of_getElem? (i := 21) (by decide +kernel), List.mem_of_getElem? (i := 283) (by decide +kernel), List.mem_of_getElem? (i := 284) (by decide +kernel)⟩
theorem lw_p7 : lw_okq (⟨"FieldMixtures$Side", "copyFrom", "(LFieldMixtures$Side;)V"⟩, 3) := ⟨⟨by decide +kernel, by decide +kernel⟩, List.mem_of_getElem? (i := 27) (by decide +kernel), List.mem_of_getElem? (i := 287) (by decide +kernel), List.mem_of_getElem? (i := 288) (by decide +kernel)⟩
theorem lw_p8 : lw_okq (⟨"FieldMixtures$Mixture", "copyFrom", "(LFieldMixtures$Mixture;)V"⟩, 3) := ⟨⟨by decide +kernel, by decide +kernel⟩, List.mem_of_getElem? (i := 33) (by decide +kernel), List.mem_of_getElem? (i := 291) (by decide +kernel), List.mem_of_getElem? (i := 292) (by decide +kernel)⟩
theorem lw_p9 : lw_okq (⟨"FieldMixtures$Scores", "measure", "(LFieldMixtures$Contest;I)V"⟩, 3) := ⟨⟨by decide +kernel, by decide +kernel⟩, List.mem_of_getElem? (i := 140) (by decide +kernel), List.mem_of_getElem? (i := 317) (by decide +kernel), List.mem_of_getElem? (i := 318) (by decide +kernel)⟩
theorem lw_p10 : lw_okq (⟨"FieldMixtures$Contest", "amountIn", "(II)I"⟩, 5) := ⟨⟨by decide +kernel, by decide +kernel⟩, List.mem_of_getElem? (i := 21) (by decide +kernel), List.mem_of_getElem? (i := 326) (by decide +kernel), List.mem_of_getElem? (i := 327) (by decide +kernel)⟩
theorem lw_p11 : lw_okq (⟨"FieldMixtures$Contest", "outcome", "(III)I"⟩, 5) := ⟨⟨by decide +kernel, by decide +kernel⟩, List.mem_of_getElem? (i := 21) (by decide +kernel), List.mem_of_getElem? (i := 330) (by decide +kernel), List.mem_of_getElem? (i := 331) (by decide +kernel)⟩
theorem lw_p12 : lw_okq (⟨"FieldMixtures$Scores", "of", "(I)I"⟩, 3) := ⟨⟨by decide +kernel, by decide +kernel⟩, List.mem_of_getElem? (i := 140) (by decide +kernel), List.mem_of_getElem? (i := 334) (by decide +kernel), List.mem_of_getElem? (i := 335) (by decide +kernel)⟩
theorem lw_p13 : lw_okq (⟨"FieldMixtures", "freshList", "(I)LFieldMixtures$AllocationList;"⟩, 10) := ⟨⟨by decide +kernel, by decide +kernel⟩, List.mem_of_getElem? (i := 13) (by decide +kernel), List.mem_of_getElem? (i := 358) (by decide +kernel), List.mem_of_getElem? (i := 359) (by decide +kernel)⟩
theorem lw_p14 : lw_okq (⟨"FieldMixtures$AllocationList", "fill", "(LFieldMixtures$Side;I)V"⟩, 2) := ⟨⟨by decide +kernel, by decide +kernel⟩, List.mem_of_getElem? (i := 123) (by decide +kernel), List.mem_of_getElem? (i := 362) (by decide +kernel), List.mem_of_getElem? (i := 363) (by decide +kernel)⟩
theorem lw_p15 : lw_okq (⟨"FieldMixtures$Side", "allows", "(II)Z"⟩, 3) := ⟨⟨by decide +kernel, by decide +kernel⟩, List.mem_of_getElem? (i := 27) (by decide +kernel), List.mem_of_getElem? (i := 366) (by decide +kernel), List.mem_of_getElem? (i := 367) (by decide +kernel)⟩
def lw_privs_1 : List (MethodName × Nat) := [(⟨"FieldMixtures$Contest", "startWith", "(I)V"⟩, 5), (⟨"FieldMixtures$Side", "resetBounds", "()V"⟩, 3), (⟨"FieldMixtures$Contest", "side", "(I)LFieldMixtures$Side;"⟩, 5), (⟨"FieldMixtures$Contest", "sumOfValues", "()I"⟩, 5), (⟨"FieldMixtures$Mixture", "weight", "()I"⟩, 3), (⟨"FieldMixtures$History", "restoreLatest", "(LFieldMixtures$Contest;)V"⟩, 2), (⟨"FieldMixtures$Contest", "copyFrom", "(LFieldMixtures$Contest;)V"⟩, 5), (⟨"FieldMixtures$Side", "copyFrom", "(LFieldMixtures$Side;)V"⟩, 3), (⟨"FieldMixtures$Mixture", "copyFrom", "(LFieldMixtures$Mixture;)V"⟩, 3), (⟨"FieldMixtures$Scores", "measure", "(LFieldMixtures$Contest;I)V"⟩, 3), (⟨"FieldMixtures$Contest", "amountIn", "(II)I"⟩, 5), (⟨"FieldMixtures$Contest", "outcome", "(III)I"⟩, 5), (⟨"FieldMixtures$Scores", "of", "(I)I"⟩, 3), (⟨"FieldMixtures", "freshList", "(I)LFieldMixtures$AllocationList;"⟩, 10), (⟨"FieldMixtures$AllocationList", "fill", "(LFieldMixtures$Side;I)V"⟩, 2), (⟨"FieldMixtures$Side", "allows", "(II)Z"⟩, 3)]
theorem lw_r1 : ∀ q ∈ lw_privs_1, lw_okq q := List.forall_mem_cons.mpr ⟨lw_p0, List.forall_mem_cons.mpr ⟨lw_p1, List.forall_mem_cons.mpr ⟨lw_p2, List.forall_mem_cons.mpr ⟨lw_p3, List.forall_mem_cons.mpr ⟨lw_p4, List.forall_mem_cons.mpr ⟨lw_p5, List.forall_mem_cons.mpr ⟨lw_p6, List.forall_mem_cons.mpr ⟨lw_p7, List.forall_mem_cons.mpr ⟨lw_p8, List.forall_mem_cons.mpr ⟨lw_p9, List.forall_mem_cons.mpr ⟨lw_p10, List.forall_mem_cons.mpr ⟨lw_p11, List.forall_mem_cons.mpr ⟨lw_p12, List.forall_mem_cons.mpr ⟨lw_p13, List.forall_mem_cons.mpr ⟨lw_p14, List.forall_mem_cons.mpr ⟨lw_p15, fun _ h => absurd h List.not_mem_nil⟩⟩⟩⟩⟩⟩⟩⟩⟩⟩⟩⟩⟩⟩⟩⟩
theorem lw_p16 : lw_okq (⟨"FieldMixtures$Contest", "hasField", "(I)Z"⟩, 5) := ⟨⟨by decide +kernel, by decide +kernel⟩, List.mem_of_getElem? (i := 21) (by decide +kernel), List.mem_of_getElem? (i := 375) (by decide +kernel), List.mem_of_getElem? (i := 376) (by decide +kernel)⟩
theorem lw_p17 : lw_okq (⟨"FieldMixtures$Contest", "allows", "(II)Z"⟩, 5) := ⟨⟨by decide +kernel, by decide +kernel⟩, List.mem_of_getElem? (i := 21) (by decide +kernel), List.mem_of_getElem? (i := 393) (by decide +kernel), List.mem_of_getElem? (i := 394) (by decide +kernel)⟩
theorem lw_p18 : lw_okq (⟨"FieldMixtures$Contest", "gainOf", "(III)I"⟩, 5) := ⟨⟨by decide +kernel, by decide +kernel⟩, List.mem_of_getElem? (i := 21) (by decide +kernel), List.mem_of_getElem? (i := 399) (by decide +kernel), List.mem_of_getElem? (i := 400) (by decide +kernel)⟩
theorem lw_p19 : lw_okq (⟨"FieldMixtures$Contest", "lacksMixture", "()Z"⟩, 5) := ⟨⟨by decide +kernel, by decide +kernel⟩, List.mem_of_getElem? (i := 21) (by decide +kernel), List.mem_of_getElem? (i := 408) (by decide +kernel), List.mem_of_getElem? (i := 409) (by decide +kernel)⟩
theorem lw_p20 : lw_okq (⟨"FieldMixtures$Scores", "ofMixture", "(LFieldMixtures$Mixture;)I"⟩, 3) := ⟨⟨by decide +kernel, by decide +kernel⟩, List.mem_of_getElem? (i := 140) (by decide +kernel), List.mem_of_getElem? (i := 412) (by decide +kernel), List.mem_of_getElem? (i := 413) (by decide +kernel)⟩
theorem lw_p21 : lw_okq (⟨"FieldMixtures$Mixture", "hasRoomFor", "(I)Z"⟩, 3) := ⟨⟨by decide +kernel, by decide +kernel⟩, List.mem_of_getElem? (i := 33) (by decide +kernel), List.mem_of_getElem? (i := 424) (by decide +kernel), List.mem_of_getElem? (i := 425) (by decide +kernel)⟩
theorem lw_p22 : lw_okq (⟨"FieldMixtures$Mixture", "weightOf", "(I)I"⟩, 3) := ⟨⟨by decide +kernel, by decide +kernel⟩, List.mem_of_getElem? (i := 33) (by decide +kernel), List.mem_of_getElem? (i := 428) (by decide +kernel), List.mem_of_getElem? (i := 429) (by decide +kernel)⟩
theorem lw_p23 : lw_okq (⟨"FieldMixtures$Mixture", "placeOf", "(I)I"⟩, 3) := ⟨⟨by decide +kernel, by decide +kernel⟩, List.mem_of_getElem? (i := 33) (by decide +kernel), List.mem_of_getElem? (i := 432) (by decide +kernel), List.mem_of_getElem? (i := 433) (by decide +kernel)⟩
theorem lw_p24 : lw_okq (⟨"FieldMixtures$Mixture", "standsAt", "(II)Z"⟩, 3) := ⟨⟨by decide +kernel, by decide +kernel⟩, List.mem_of_getElem? (i := 33) (by decide +kernel), List.mem_of_getElem? (i := 436) (by decide +kernel), List.mem_of_getElem? (i := 437) (by decide +kernel)⟩
theorem lw_p25 : lw_okq (⟨"FieldMixtures$History", "record", "(LFieldMixtures$Contest;)V"⟩, 2) := ⟨⟨by decide +kernel, by decide +kernel⟩, List.mem_of_getElem? (i := 106) (by decide +kernel), List.mem_of_getElem? (i := 442) (by decide +kernel), List.mem_of_getElem? (i := 443) (by decide +kernel)⟩
theorem lw_p26 : lw_okq (⟨"FieldMixtures$History", "dropOldest", "()V"⟩, 2) := ⟨⟨by decide +kernel, by decide +kernel⟩, List.mem_of_getElem? (i := 106) (by decide +kernel), List.mem_of_getElem? (i := 446) (by decide +kernel), List.mem_of_getElem? (i := 447) (by decide +kernel)⟩
theorem lw_p27 : lw_okq (⟨"FieldMixtures$Mixture", "setWeight", "(II)V"⟩, 3) := ⟨⟨by decide +kernel, by decide +kernel⟩, List.mem_of_getElem? (i := 33) (by decide +kernel), List.mem_of_getElem? (i := 450) (by decide +kernel), List.mem_of_getElem? (i := 451) (by decide +kernel)⟩
theorem lw_p28 : lw_okq (⟨"FieldMixtures$Mixture", "openGap", "(I)V"⟩, 3) := ⟨⟨by decide +kernel, by decide +kernel⟩, List.mem_of_getElem? (i := 33) (by decide +kernel), List.mem_of_getElem? (i := 454) (by decide +kernel), List.mem_of_getElem? (i := 455) (by decide +kernel)⟩
theorem lw_p29 : lw_okq (⟨"FieldMixtures$Mixture", "remove", "(I)V"⟩, 3) := ⟨⟨by decide +kernel, by decide +kernel⟩, List.mem_of_getElem? (i := 33) (by decide +kernel), List.mem_of_getElem? (i := 464) (by decide +kernel), List.mem_of_getElem? (i := 465) (by decide +kernel)⟩
theorem lw_p30 : lw_okq (⟨"FieldMixtures", "playRoundInDraft", "(LFieldMixtures$AllocationList;LFieldMixtures$AllocationList;)Z"⟩, 10) := ⟨⟨by decide +kernel, by decide +kernel⟩, List.mem_of_getElem? (i := 13) (by decide +kernel), List.mem_of_getElem? (i := 473) (by decide +kernel), List.mem_of_getElem? (i := 474) (by decide +kernel)⟩
theorem lw_p31 : lw_okq (⟨"FieldMixtures$BestReply", "find", "(LFieldMixtures$AllocationList;LFieldMixtures$Scores;)V"⟩, 3) := ⟨⟨by decide +kernel, by decide +kernel⟩, List.mem_of_getElem? (i := 159) (by decide +kernel), List.mem_of_getElem? (i := 477) (by decide +kernel), List.mem_of_getElem? (i := 478) (by decide +kernel)⟩
def lw_privs_2 : List (MethodName × Nat) := [(⟨"FieldMixtures$Contest", "hasField", "(I)Z"⟩, 5), (⟨"FieldMixtures$Contest", "allows", "(II)Z"⟩, 5), (⟨"FieldMixtures$Contest", "gainOf", "(III)I"⟩, 5), (⟨"FieldMixtures$Contest", "lacksMixture", "()Z"⟩, 5), (⟨"FieldMixtures$Scores", "ofMixture", "(LFieldMixtures$Mixture;)I"⟩, 3), (⟨"FieldMixtures$Mixture", "hasRoomFor", "(I)Z"⟩, 3), (⟨"FieldMixtures$Mixture", "weightOf", "(I)I"⟩, 3), (⟨"FieldMixtures$Mixture", "placeOf", "(I)I"⟩, 3), (⟨"FieldMixtures$Mixture", "standsAt", "(II)Z"⟩, 3), (⟨"FieldMixtures$History", "record", "(LFieldMixtures$Contest;)V"⟩, 2), (⟨"FieldMixtures$History", "dropOldest", "()V"⟩, 2), (⟨"FieldMixtures$Mixture", "setWeight", "(II)V"⟩, 3), (⟨"FieldMixtures$Mixture", "openGap", "(I)V"⟩, 3), (⟨"FieldMixtures$Mixture", "remove", "(I)V"⟩, 3), (⟨"FieldMixtures", "playRoundInDraft", "(LFieldMixtures$AllocationList;LFieldMixtures$AllocationList;)Z"⟩, 10), (⟨"FieldMixtures$BestReply", "find", "(LFieldMixtures$AllocationList;LFieldMixtures$Scores;)V"⟩, 3)]
theorem lw_r2 : ∀ q ∈ lw_privs_2, lw_okq q := List.forall_mem_cons.mpr ⟨lw_p16, List.forall_mem_cons.mpr ⟨lw_p17, List.forall_mem_cons.mpr ⟨lw_p18, List.forall_mem_cons.mpr ⟨lw_p19, List.forall_mem_cons.mpr ⟨lw_p20, List.forall_mem_cons.mpr ⟨lw_p21, List.forall_mem_cons.mpr ⟨lw_p22, List.forall_mem_cons.mpr ⟨lw_p23, List.forall_mem_cons.mpr ⟨lw_p24, List.forall_mem_cons.mpr ⟨lw_p25, List.forall_mem_cons.mpr ⟨lw_p26, List.forall_mem_cons.mpr ⟨lw_p27, List.forall_mem_cons.mpr ⟨lw_p28, List.forall_mem_cons.mpr ⟨lw_p29, List.forall_mem_cons.mpr ⟨lw_p30, List.forall_mem_cons.mpr ⟨lw_p31, fun _ h => absurd h List.not_mem_nil⟩⟩⟩⟩⟩⟩⟩⟩⟩⟩⟩⟩⟩⟩⟩⟩
theorem lw_p32 : lw_okq (⟨"FieldMixtures$Mixture", "addOne", "(I)Z"⟩, 3) := ⟨⟨by decide +kernel, by decide +kernel⟩, List.mem_of_getElem? (i := 33) (by decide +kernel), List.mem_of_getElem? (i := 482) (by decide +kernel), List.mem_of_getElem? (i := 483) (by decide +kernel)⟩
theorem lw_p33 : lw_okq (⟨"FieldMixtures", "changeToDraft", "()V"⟩, 10) := ⟨⟨by decide +kernel, by decide +kernel⟩, List.mem_of_getElem? (i := 13) (by decide +kernel), List.mem_of_getElem? (i := 488) (by decide +kernel), List.mem_of_getElem? (i := 489) (by decide +kernel)⟩
theorem lw_p34 : lw_okq (⟨"FieldMixtures$Contest", "sizeOfMixtures", "()I"⟩, 5) := ⟨⟨by decide +kernel, by decide +kernel⟩, List.mem_of_getElem? (i := 21) (by decide +kernel), List.mem_of_getElem? (i := 492) (by decide +kernel), List.mem_of_getElem? (i := 493) (by decide +kernel)⟩
theorem lw_p35 : lw_okq (⟨"FieldMixtures$Side", "dropWhatIsNotAllowed", "(I)V"⟩, 3) := ⟨⟨by decide +kernel, by decide +kernel⟩, List.mem_of_getElem? (i := 27) (by decide +kernel), List.mem_of_getElem? (i := 504) (by decide +kernel), List.mem_of_getElem? (i := 505) (by decide +kernel)⟩
theorem lw_p36 : lw_okq (⟨"FieldMixtures$Text", "clear", "()V"⟩, 2) := ⟨⟨by decide +kernel, by decide +kernel⟩, List.mem_of_getElem? (i := 176) (by decide +kernel), List.mem_of_getElem? (i := 530) (by decide +kernel), List.mem_of_getElem? (i := 531) (by decide +kernel)⟩
theorem lw_p37 : lw_okq (⟨"FieldMixtures$Text", "append", "(I)V"⟩, 2) := ⟨⟨by decide +kernel, by decide +kernel⟩, List.mem_of_getElem? (i := 176) (by decide +kernel), List.mem_of_getElem? (i := 538) (by decide +kernel), List.mem_of_getElem? (i := 539) (by decide +kernel)⟩
theorem lw_p38 : lw_okq (⟨"FieldMixtures$TextReader", "readInto", "(LFieldMixtures$Contest;LFieldMixtures$Text;)V"⟩, 7) := ⟨⟨by decide +kernel, by decide +kernel⟩, List.mem_of_getElem? (i := 192) (by decide +kernel), List.mem_of_getElem? (i := 549) (by decide +kernel), List.mem_of_getElem? (i := 550) (by decide +kernel)⟩
theorem lw_p39 : lw_okq (⟨"FieldMixtures$TextReader", "readPart", "(LFieldMixtures$Contest;LFieldMixtures$Text;)I"⟩, 7) := ⟨⟨by decide +kernel, by decide +kernel⟩, List.mem_of_getElem? (i := 192) (by decide +kernel), List.mem_of_getElem? (i := 553) (by decide +kernel), List.mem_of_getElem? (i := 554) (by decide +kernel)⟩
theorem lw_p40 : lw_okq (⟨"FieldMixtures$TextReader", "readForm", "(LFieldMixtures$Text;I)Z"⟩, 7) := ⟨⟨by decide +kernel, by decide +kernel⟩, List.mem_of_getElem? (i := 192) (by decide +kernel), List.mem_of_getElem? (i := 557) (by decide +kernel), List.mem_of_getElem? (i := 558) (by decide +kernel)⟩
theorem lw_p41 : lw_okq (⟨"FieldMixtures$Text", "signAt", "(I)I"⟩, 2) := ⟨⟨by decide +kernel, by decide +kernel⟩, List.mem_of_getElem? (i := 176) (by decide +kernel), List.mem_of_getElem? (i := 561) (by decide +kernel), List.mem_of_getElem? (i := 562) (by decide +kernel)⟩
theorem lw_p42 : lw_okq (⟨"FieldMixtures$TextReader", "readSign", "(LFieldMixtures$Text;C)Z"⟩, 7) := ⟨⟨by decide +kernel, by decide +kernel⟩, List.mem_of_getElem? (i := 192) (by decide +kernel), List.mem_of_getElem? (i := 566) (by decide +kernel), List.mem_of_getElem? (i := 567) (by decide +kernel)⟩
theorem lw_p43 : lw_okq (⟨"FieldMixtures$TextReader", "readAllocation", "(LFieldMixtures$Text;I)Z"⟩, 7) := ⟨⟨by decide +kernel, by decide +kernel⟩, List.mem_of_getElem? (i := 192) (by decide +kernel), List.mem_of_getElem? (i := 570) (by decide +kernel), List.mem_of_getElem? (i := 571) (by decide +kernel)⟩
theorem lw_p44 : lw_okq (⟨"FieldMixtures$TextReader", "hasDigit", "(LFieldMixtures$Text;)Z"⟩, 7) := ⟨⟨by decide +kernel, by decide +kernel⟩, List.mem_of_getElem? (i := 192) (by decide +kernel), List.mem_of_getElem? (i := 574) (by decide +kernel), List.mem_of_getElem? (i := 575) (by decide +kernel)⟩
theorem lw_p45 : lw_okq (⟨"FieldMixtures$TextReader", "readDigit", "(LFieldMixtures$Text;)I"⟩, 7) := ⟨⟨by decide +kernel, by decide +kernel⟩, List.mem_of_getElem? (i := 192) (by decide +kernel), List.mem_of_getElem? (i := 579) (by decide +kernel), List.mem_of_getElem? (i := 580) (by decide +kernel)⟩
theorem lw_p46 : lw_okq (⟨"FieldMixtures$TextReader", "readWeight", "(LFieldMixtures$Text;)Z"⟩, 7) := ⟨⟨by decide +kernel, by decide +kernel⟩, List.mem_of_getElem? (i := 192) (by decide +kernel), List.mem_of_getElem? (i := 583) (by decide +kernel), List.mem_of_getElem? (i := 584) (by decide +kernel)⟩
def lw_privs_3 : List (MethodName × Nat) := [(⟨"FieldMixtures$Mixture", "addOne", "(I)Z"⟩, 3), (⟨"FieldMixtures", "changeToDraft", "()V"⟩, 10), (⟨"FieldMixtures$Contest", "sizeOfMixtures", "()I"⟩, 5), (⟨"FieldMixtures$Side", "dropWhatIsNotAllowed", "(I)V"⟩, 3), (⟨"FieldMixtures$Text", "clear", "()V"⟩, 2), (⟨"FieldMixtures$Text", "append", "(I)V"⟩, 2), (⟨"FieldMixtures$TextReader", "readInto", "(LFieldMixtures$Contest;LFieldMixtures$Text;)V"⟩, 7), (⟨"FieldMixtures$TextReader", "readPart", "(LFieldMixtures$Contest;LFieldMixtures$Text;)I"⟩, 7), (⟨"FieldMixtures$TextReader", "readForm", "(LFieldMixtures$Text;I)Z"⟩, 7), (⟨"FieldMixtures$Text", "signAt", "(I)I"⟩, 2), (⟨"FieldMixtures$TextReader", "readSign", "(LFieldMixtures$Text;C)Z"⟩, 7), (⟨"FieldMixtures$TextReader", "readAllocation", "(LFieldMixtures$Text;I)Z"⟩, 7), (⟨"FieldMixtures$TextReader", "hasDigit", "(LFieldMixtures$Text;)Z"⟩, 7), (⟨"FieldMixtures$TextReader", "readDigit", "(LFieldMixtures$Text;)I"⟩, 7), (⟨"FieldMixtures$TextReader", "readWeight", "(LFieldMixtures$Text;)Z"⟩, 7)]
theorem lw_r3 : ∀ q ∈ lw_privs_3, lw_okq q := List.forall_mem_cons.mpr ⟨lw_p32, List.forall_mem_cons.mpr ⟨lw_p33, List.forall_mem_cons.mpr ⟨lw_p34, List.forall_mem_cons.mpr ⟨lw_p35, List.forall_mem_cons.mpr ⟨lw_p36, List.forall_mem_cons.mpr ⟨lw_p37, List.forall_mem_cons.mpr ⟨lw_p38, List.forall_mem_cons.mpr ⟨lw_p39, List.forall_mem_cons.mpr ⟨lw_p40, List.forall_mem_cons.mpr ⟨lw_p41, List.forall_mem_cons.mpr ⟨lw_p42, List.forall_mem_cons.mpr ⟨lw_p43, List.forall_mem_cons.mpr ⟨lw_p44, List.forall_mem_cons.mpr ⟨lw_p45, List.forall_mem_cons.mpr ⟨lw_p46, fun _ h => absurd h List.not_mem_nil⟩⟩⟩⟩⟩⟩⟩⟩⟩⟩⟩⟩⟩⟩⟩
def lw_privs : List (MethodName × Nat) := lw_privs_1 ++ (lw_privs_2 ++ (lw_privs_3))
def lw_tbl : List Cond := k2_sels lw_privs ++ tables_1
theorem lw_privs_ok : ∀ q ∈ lw_privs, lw_okq q := by
  show ∀ q ∈ lw_privs_1 ++ (lw_privs_2 ++ (lw_privs_3)), lw_okq q
  exact List.forall_mem_append.mpr ⟨lw_r1, List.forall_mem_append.mpr ⟨lw_r2, lw_r3⟩⟩

/-- an array class over arrays of ty, as the tables say it -/
def va_AOA (ty : FieldType) (U : State) : Prop := (Jvm.Cond.arrayOver (.array ty)).before #[] U = true
theorem va_AOA.use {ty : FieldType} {A : Array Value} {U : State} (h : va_AOA ty U) : (Jvm.Cond.arrayOver (.array ty)).before A U = true := h
/-! ===== BEGIN new T[n][m]: the outer array a place, the inner ones among the pooled ===== -/
/-- f, but v at every address of l -/
def vr_up {α : Type} (f : Nat → α) (l : List Nat) (v : α) : Nat → α := fun a => if a ∈ l then v else f a
theorem vr_up_in {α : Type} {f : Nat → α} {l : List Nat} {v : α} {a : Nat} (h : a ∈ l) : vr_up f l v a = v := if_pos h
theorem vr_up_ne {α : Type} {f : Nat → α} {l : List Nat} {v : α} {a : Nat} (h : a ∉ l) : vr_up f l v a = f a := if_neg h
theorem vr_rows {L l : List Nat} {f : Nat → va_E} {e : va_E} (h : ∀ a, a ∈ l → a ∉ L) : va_pl L f ++ l.map (fun a => (a, e)) = va_pl (L ++ l) (vr_up f l e) := by
  unfold va_pl
  rw [List.map_append]
  congr 1
  · apply List.map_congr_left
    intro a ha
    rw [vr_up_ne (fun q => h a q ha)]
  · apply List.map_congr_left
    intro a ha
    rw [vr_up_in ha]
theorem vr_lay {X rows : va_W} {x : Nat × va_E} {pl : va_W} {D : va_G} {cl : List vw_C} {H : Heap} (hP : va_P D cl (((X ++ pl) ++ [x]) ++ rows) H) : va_P D cl ((X ++ [x]) ++ (pl ++ rows)) H := by
  rw [List.append_assoc (X ++ pl)] at hP
  have h := va_P.swap hP
  rw [← List.append_assoc X] at h
  have h2 := va_P.swap h
  rw [List.append_assoc (X ++ [x])] at h2
  exact h2
theorem vr_layD {X rows : va_W} {x : Nat × va_E} {pl : va_W} {A : Nat → Prop} (hD : va_D A (((X ++ pl) ++ [x]) ++ rows)) : va_D A ((X ++ [x]) ++ (pl ++ rows)) := by
  rw [List.append_assoc (X ++ pl)] at hD
  have h := va_D.swap hD
  rw [← List.append_assoc X] at h
  have h2 := va_D.swap h
  rw [List.append_assoc (X ++ [x])] at h2
  exact h2
theorem vr_outer (c : ClassId) (N h0 : Nat) : ∀ i : Nat, Jvm.Free.Multi.outerC c N h0 i = arrV c N (fun j => va_rf (if j < i then some (h0 + 1 + j) else none))
  | 0 => by
    show ({ cls := c, slots := Array.replicate N .null, vm := .none } : Cell) = _
    rw [arrV_new]
    refine congrArg (arrV c N) (funext fun j => ?_)
    simp [va_rf]
  | i + 1 => by
    show (Jvm.Free.Multi.outerC c N h0 i).setSlot i (.ref (h0 + 1 + i)) = _
    rw [vr_outer c N h0 i, arrV_store]
    refine congrArg (arrV c N) (funext fun j => ?_)
    by_cases e : j = i
    · subst e
      simp [updV, va_rf]
    · by_cases h : j < i
      · simp [updV, e, h, Nat.lt_succ_of_lt h]
      · simp [updV, e, h, show ¬ j < i + 1 by omega]
section VGM
variable {p : Program} {l : Launch} {e : Env} {R : Room} {s : State} {m : MethodId} {args : Array Value} {below : List Frame} {meth : Method} {c : Code} {H : Heap} {locs : List Loc} {cells slots : Nat} {Q : State → Prop}
variable {cc : ByteArray} {pc : Nat} {ls : Array Slot} {rest : List Value} {D : va_G} {cl : List vw_C} {A : Nat → Prop} {a : Nat} {tys : List (ClassId × FieldType)} {ws : va_W} {H0 : Heap}
theorem va_mna {X : va_W} {L : List Nat} {f : Nat → va_E} {cc : ByteArray} (hexec : p.tables.exec = Jvm.exec) (hb : c.code = cc) {own : String} {index : Nat} {ty : FieldType} {cy : ClassId} (hown : s.vm.findClass own = some m.cls) (hclink : (Cond.classLink own index ("[" ++ (FieldType.array ty).toString)).before args s = true) (hover : va_AOA ty s) (harr : (Cond.arrayClass ty).before args s = true) (hcy : s.vm.findClass (FieldType.array ty).toString = some cy)
    (hK : va_K D cl tys s) (hP : va_P D cl (X ++ va_pl L f) H) (hD : va_D A (X ++ va_pl L f)) (hS : va_S A H0 H locs) (hA : ∀ q, H0.size ≤ q → A q) {n k : Int32} {N' K' : Nat} {z : vp_A} (hn : ¬ n < 0) (hk : ¬ k < 0) (hN : n.toNatClampNeg = N') (hM : k.toNatClampNeg = K')
    (hb1 : N' * 4 ≤ 536870912) (hb2 : K' * componentBytes ty ≤ 536870912) (hb3 : K' ≤ 536870912) (hdf : fits ty (defaultValue ty) = true) (hdd : (defaultValue ty).isDefault = true) (hcells : cells + (1 + N') ≤ R.cells) (hslots : slots + (N' + N' * K') ≤ R.slots) (hz : ∀ c : ClassId, Jvm.Free.Multi.innerC c K' (defaultValue ty) = vp_cell c z) (hdg : decode cc pc = .ok (.multianewarray index 2, 4))
    (kk : ∀ (q : Nat) (r : Nat → Nat) (cA : ClassId) (H1 : Heap), (∀ i j : Nat, i < N' → j < N' → r i = r j → i = j) → (∀ i : Nat, i < N' → r i ∉ L) → va_K D cl (tys ++ [(cA, .array ty)]) s →
      va_P D cl ((X ++ [(q, .inl (cA, N', .inr (.inr (.inr (.inr (fun i => if i < N' then some (r i) else none))))))]) ++ va_pl (L ++ (List.range N').map r) (vr_up f ((List.range N').map r) (.inl (cy, z)))) H1 → va_D A ((X ++ [(q, .inl (cA, N', .inr (.inr (.inr (.inr (fun i => if i < N' then some (r i) else none))))))]) ++ va_pl (L ++ (List.range N').map r) (vr_up f ((List.range N').map r) (.inl (cy, z)))) → va_S A H0 H1 locs →
      W p l e R s m args below meth c H1 locs (cells + 1 + N') (slots + N' + N' * K') Q (F0 m (pc + 4) ls (.ref q :: rest))) : W p l e R s m args below meth c H locs cells slots Q (F0 m pc ls (.int k :: .int n :: rest)) := by
  subst hN
  subst hM
  intro T hT Xs
  obtain ⟨vm₁, cA, comp, -, fA, fC, hO, -, X', step⟩ := Xs.multianewarray2F hexec hown hclink (va_AOA.use hover) harr (g := F0 m pc ls (.int k :: .int n :: rest)) rfl (by rw [hb]; exact hdg) rfl hn hk hb1 hb2 hb3 hdf hdd hcells hslots
  have ec : some cy = some comp := hcy.symm.trans fC
  cases ec
  generalize hF : Jvm.Free.Multi.fill (T.setVm vm₁) cA cy n.toNatClampNeg k.toNatClampNeg (defaultValue ty) n.toNatClampNeg = F at X' step
  have hTh : (T.setVm vm₁).heap = H := hT
  obtain ⟨f1, f2, -, -⟩ := Jvm.Free.Multi.fill_facts (T.setVm vm₁) cA cy n.toNatClampNeg k.toNatClampNeg (defaultValue ty) n.toNatClampNeg
  rw [hF, hTh] at f1 f2
  have hold : ∀ x : Nat, x < H.size → F.heap[x]? = H[x]? := fun x hx => by
    have := Jvm.Free.Multi.fill_old (T.setVm vm₁) cA cy n.toNatClampNeg k.toNatClampNeg (defaultValue ty) (a := x) (by rw [hTh]; exact hx) n.toNatClampNeg
    rw [hF, hTh] at this
    exact this
  have hrow : ∀ j : Nat, j < n.toNatClampNeg → F.heap[H.size + 1 + j]? = some (vp_cell cy z) := fun j hj => by
    have := Jvm.Free.Multi.fill_inner (T.setVm vm₁) cA cy n.toNatClampNeg k.toNatClampNeg (defaultValue ty) n.toNatClampNeg j hj
    rw [hF, hTh, hz] at this
    exact this
  have hout : Jvm.Free.Multi.outerC cA n.toNatClampNeg H.size n.toNatClampNeg = vp_cell cA (n.toNatClampNeg, .inr (.inr (.inr (.inr (fun i => if i < n.toNatClampNeg then some (H.size + 1 + i) else none))))) := by
    rw [vp_cell_q]
    exact vr_outer cA n.toNatClampNeg H.size n.toNatClampNeg
  rw [hout] at f2
  have hlt : ∀ a, a ∈ L → a < H.size := fun a ha => by
    obtain ⟨k9, hk9⟩ := va_pl_get (X := X) (f := f) ha
    exact (hP k9 _ hk9).lt
  have hnl : ∀ i : Nat, i < n.toNatClampNeg → H.size + 1 + i ∉ L := fun i _ h => by
    have := hlt _ h
    omega
  have hnm : ∀ a, a ∈ (List.range n.toNatClampNeg).map (fun i => H.size + 1 + i) → a ∉ L := fun a ha h => by
    obtain ⟨i, -, rfl⟩ := List.mem_map.mp ha
    have := hlt _ h
    omega
  have hP0 : va_P D cl (X ++ va_pl L f) F.heap := hP.kept (fun k9 x hx => hold x.1 ((hP k9 x hx).lt))
  have hP1 : va_P D cl ((X ++ va_pl L f) ++ [(H.size, .inl (cA, n.toNatClampNeg, .inr (.inr (.inr (.inr (fun i => if i < n.toNatClampNeg then some (H.size + 1 + i) else none))))))]) F.heap := hP0.app (fun k9 x hx => by
    have h0 : k9 < 1 := (List.getElem?_eq_some_iff.mp hx).1
    rw [show k9 = 0 by omega] at hx
    cases hx
    exact f2)
  have hP2 : va_P D cl (((X ++ va_pl L f) ++ [(H.size, .inl (cA, n.toNatClampNeg, .inr (.inr (.inr (.inr (fun i => if i < n.toNatClampNeg then some (H.size + 1 + i) else none))))))]) ++ ((List.range n.toNatClampNeg).map (fun i => H.size + 1 + i)).map (fun a => (a, .inl (cy, z)))) F.heap := hP1.app (fun k9 x hx => by
    obtain ⟨a, ha, rfl⟩ := List.mem_map.mp (List.mem_of_getElem? hx)
    obtain ⟨i, hi, rfl⟩ := List.mem_map.mp ha
    exact hrow i (List.mem_range.mp hi))
  have hD2 : va_D A (((X ++ va_pl L f) ++ [(H.size, .inl (cA, n.toNatClampNeg, .inr (.inr (.inr (.inr (fun i => if i < n.toNatClampNeg then some (H.size + 1 + i) else none))))))]) ++ ((List.range n.toNatClampNeg).map (fun i => H.size + 1 + i)).map (fun a => (a, .inl (cy, z)))) := by
    have hD1 := hD.push (e := .inl (cA, n.toNatClampNeg, .inr (.inr (.inr (.inr (fun i => if i < n.toNatClampNeg then some (H.size + 1 + i) else none)))))) hP rfl (hA _ hS.1)
    generalize hW1 : (X ++ va_pl L f) ++ [(H.size, .inl (cA, n.toNatClampNeg, .inr (.inr (.inr (.inr (fun i => if i < n.toNatClampNeg then some (H.size + 1 + i) else none))))))] = W1 at hD1 hP1 ⊢
    have hle : ∀ (k9 : Nat) (x : Nat × va_E), W1[k9]? = some x → x.1 ≤ H.size := fun k9 x hx => by
      rw [← hW1] at hx
      by_cases hl : k9 < (X ++ va_pl L f).length
      · rw [List.getElem?_append_left hl] at hx
        exact Nat.le_of_lt ((hP k9 x hx).lt)
      · rw [List.getElem?_append_right (by omega)] at hx
        have h0 : k9 - (X ++ va_pl L f).length < 1 := (List.getElem?_eq_some_iff.mp hx).1
        rw [show k9 - (X ++ va_pl L f).length = 0 by omega] at hx
        cases hx
        exact Nat.le_refl _
    have hr : ∀ (k9 : Nat) (x : Nat × va_E), (((List.range n.toNatClampNeg).map (fun i => H.size + 1 + i)).map (fun a => ((a, .inl (cy, z)) : Nat × va_E)))[k9]? = some x → x.1 = H.size + 1 + k9 := fun k9 x hx => by
      rw [List.getElem?_map, List.getElem?_map] at hx
      by_cases h9 : k9 < n.toNatClampNeg
      · rw [List.getElem?_range h9] at hx
        cases hx
        rfl
      · have hn0 : (List.range n.toNatClampNeg)[k9]? = none := List.getElem?_eq_none (by rw [List.length_range]; omega)
        rw [hn0] at hx
        cases hx
    refine ⟨fun i j x y hi hj hxy => ?_, fun k9 x hx => ?_⟩
    · by_cases h1 : i < W1.length <;> by_cases h2 : j < W1.length
      · rw [List.getElem?_append_left h1] at hi
        rw [List.getElem?_append_left h2] at hj
        exact hD1.1 i j x y hi hj hxy
      · rw [List.getElem?_append_left h1] at hi
        rw [List.getElem?_append_right (by omega)] at hj
        have := hle _ _ hi
        have := hr _ _ hj
        omega
      · rw [List.getElem?_append_right (by omega)] at hi
        rw [List.getElem?_append_left h2] at hj
        have := hle _ _ hj
        have := hr _ _ hi
        omega
      · rw [List.getElem?_append_right (by omega)] at hi hj
        have := hr _ _ hi
        have := hr _ _ hj
        omega
    · by_cases h1 : k9 < W1.length
      · rw [List.getElem?_append_left h1] at hx
        exact hD1.2 k9 x hx
      · rw [List.getElem?_append_right (by omega)] at hx
        have := hr _ _ hx
        exact hA _ (by have := hS.1; omega)
  have hAr : ArrOfT s cA (.array ty) := fun N9 z9 => by
    obtain ⟨-, k9, hk9, cm9, hkk9⟩ := (hO 0 0 0).1
    exact ⟨(fun q hq => by cases hq), k9, hk9, cm9, hkk9⟩
  have hK2 : va_K D cl (tys ++ [(cA, .array ty)]) s := ⟨hK.1, fun k9 x hx => by
    by_cases hl : k9 < tys.length
    · rw [List.getElem?_append_left hl] at hx
      exact hK.2 k9 x hx
    · rw [List.getElem?_append_right (by omega)] at hx
      have h0 : k9 - tys.length < 1 := (List.getElem?_eq_some_iff.mp hx).1
      rw [show k9 - tys.length = 0 by omega] at hx
      cases hx
      exact ⟨hAr, fA⟩⟩
  obtain ⟨t, a1, b1⟩ := kk H.size (fun i => H.size + 1 + i) cA F.heap (fun i j _ _ h => by have h9 : H.size + 1 + i = H.size + 1 + j := h; omega) hnl hK2 (by rw [← vr_rows hnm]; exact vr_lay hP2) (by rw [← vr_rows hnm]; exact vr_layD hD2) ⟨by rw [f1]; have := hS.1; omega, fun x h1 h2 => (hold x (Nat.lt_of_lt_of_le h1 hS.1)).trans (hS.2.1 x h1 h2), hS.2.2⟩ F rfl X'
  refine ⟨t, step t ?_, b1⟩
  have e : T.heap.size = H.size := by rw [hT]
  rw [e]
  exact a1
end VGM
/-! ===== END ===== -/

/-! ===== BEGIN printed: names, fields, word lists, decode rows ===== -/
def RX0 : String := "FieldMixtures$AllocationList"
def TX0 : u_T := fun k => match k with
  | 0 => ("FieldMixtures$AllocationList", "size", "I", false)
  | _ => ("FieldMixtures$AllocationList", "numbers", "[I", true)
def tyX0 : Nat → FieldType := fun k => match k with
  | 0 => .int
  | _ => .array .int
abbrev wsX00 : List Cond := u_ws RX0 TX0 2
theorem nmX0 : ∀ a, a < 2 → ∀ b, b < 2 → a ≠ b → (TX0 a).2.1 ≠ (TX0 b).2.1 := by decide +kernel
theorem tyX0_ok : ∀ k, k < 2 → parseFieldDescriptor (TX0 k).2.2.1 = some (tyX0 k) := by decide +kernel
abbrev cX0_init : ByteArray := prog_2_method_1_code
def yX0_init : MethodName := ⟨RX0, "<init>", "()V"⟩
abbrev cX0_fill : ByteArray := prog_2_method_2_code
def yX0_fill : MethodName := ⟨RX0, "fill", "(LFieldMixtures$Side;I)V"⟩
def RX1 : String := "FieldMixtures$BestReply"
def TX1 : u_T := fun k => match k with
  | 0 => ("FieldMixtures$BestReply", "allocation", "I", false)
  | 1 => ("FieldMixtures$BestReply", "score", "I", false)
  | _ => ("FieldMixtures$BestReply", "many", "I", false)
def tyX1 : Nat → FieldType := fun k => match k with
  | 0 => .int
  | 1 => .int
  | _ => .int
abbrev wsX10 : List Cond := u_ws RX1 TX1 3
theorem nmX1 : ∀ a, a < 3 → ∀ b, b < 3 → a ≠ b → (TX1 a).2.1 ≠ (TX1 b).2.1 := by decide +kernel
theorem tyX1_ok : ∀ k, k < 3 → parseFieldDescriptor (TX1 k).2.2.1 = some (tyX1 k) := by decide +kernel
abbrev cX1_init : ByteArray := prog_3_method_1_code
def yX1_init : MethodName := ⟨RX1, "<init>", "()V"⟩
abbrev cX1_find : ByteArray := prog_3_method_2_code
def yX1_find : MethodName := ⟨RX1, "find", "(LFieldMixtures$AllocationList;LFieldMixtures$Scores;)V"⟩
def RX2 : String := "FieldMixtures$Contest"
def TX2 : u_T := fun k => match k with
  | 0 => ("FieldMixtures$Contest", "fields", "I", false)
  | 1 => ("FieldMixtures$Contest", "rule", "I", false)
  | 2 => ("FieldMixtures$Contest", "values", "[I", true)
  | 3 => ("FieldMixtures$Contest", "first", "LFieldMixtures$Side;", true)
  | _ => ("FieldMixtures$Contest", "second", "LFieldMixtures$Side;", true)
def tyX2 : Nat → FieldType := fun k => match k with
  | 0 => .int
  | 1 => .int
  | 2 => .array .int
  | 3 => .object "FieldMixtures$Side"
  | _ => .object "FieldMixtures$Side"
abbrev wsX20 : List Cond := u_ws RX2 TX2 5
theorem nmX2 : ∀ a, a < 5 → ∀ b, b < 5 → a ≠ b → (TX2 a).2.1 ≠ (TX2 b).2.1 := by decide +kernel
theorem tyX2_ok : ∀ k, k < 5 → parseFieldDescriptor (TX2 k).2.2.1 = some (tyX2 k) := by decide +kernel
abbrev cX2_init : ByteArray := prog_4_method_1_code
def yX2_init : MethodName := ⟨RX2, "<init>", "()V"⟩
abbrev cX2_startWith : ByteArray := prog_4_method_2_code
def yX2_startWith : MethodName := ⟨RX2, "startWith", "(I)V"⟩
abbrev cX2_copyFrom : ByteArray := prog_4_method_3_code
def yX2_copyFrom : MethodName := ⟨RX2, "copyFrom", "(LFieldMixtures$Contest;)V"⟩
abbrev cX2_side : ByteArray := prog_4_method_4_code
def yX2_side : MethodName := ⟨RX2, "side", "(I)LFieldMixtures$Side;"⟩
abbrev cX2_hasField : ByteArray := prog_4_method_5_code
def yX2_hasField : MethodName := ⟨RX2, "hasField", "(I)Z"⟩
abbrev cX2_allows : ByteArray := prog_4_method_6_code
def yX2_allows : MethodName := ⟨RX2, "allows", "(II)Z"⟩
abbrev cX2_lacksMixture : ByteArray := prog_4_method_7_code
def yX2_lacksMixture : MethodName := ⟨RX2, "lacksMixture", "()Z"⟩
abbrev cX2_sizeOfMixtures : ByteArray := prog_4_method_8_code
def yX2_sizeOfMixtures : MethodName := ⟨RX2, "sizeOfMixtures", "()I"⟩
abbrev cX2_sumOfValues : ByteArray := prog_4_method_9_code
def yX2_sumOfValues : MethodName := ⟨RX2, "sumOfValues", "()I"⟩
abbrev cX2_amountIn : ByteArray := prog_4_method_10_code
def yX2_amountIn : MethodName := ⟨RX2, "amountIn", "(II)I"⟩
abbrev cX2_outcome : ByteArray := prog_4_method_11_code
def yX2_outcome : MethodName := ⟨RX2, "outcome", "(III)I"⟩
abbrev cX2_gainOf : ByteArray := prog_4_method_12_code
def yX2_gainOf : MethodName := ⟨RX2, "gainOf", "(III)I"⟩
def RX3 : String := "FieldMixtures$History"
def TX3 : u_T := fun k => match k with
  | 0 => ("FieldMixtures$History", "size", "I", false)
  | _ => ("FieldMixtures$History", "states", "[LFieldMixtures$Contest;", true)
def tyX3 : Nat → FieldType := fun k => match k with
  | 0 => .int
  | _ => .array (.object "FieldMixtures$Contest")
abbrev wsX30 : List Cond := u_ws RX3 TX3 2
theorem nmX3 : ∀ a, a < 2 → ∀ b, b < 2 → a ≠ b → (TX3 a).2.1 ≠ (TX3 b).2.1 := by decide +kernel
theorem tyX3_ok : ∀ k, k < 2 → parseFieldDescriptor (TX3 k).2.2.1 = some (tyX3 k) := by decide +kernel
abbrev cX3_init : ByteArray := prog_5_method_1_code
def yX3_init : MethodName := ⟨RX3, "<init>", "()V"⟩
abbrev cX3_record : ByteArray := prog_5_method_2_code
def yX3_record : MethodName := ⟨RX3, "record", "(LFieldMixtures$Contest;)V"⟩
abbrev cX3_dropOldest : ByteArray := prog_5_method_3_code
def yX3_dropOldest : MethodName := ⟨RX3, "dropOldest", "()V"⟩
abbrev cX3_restoreLatest : ByteArray := prog_5_method_4_code
def yX3_restoreLatest : MethodName := ⟨RX3, "restoreLatest", "(LFieldMixtures$Contest;)V"⟩
def RX4 : String := "FieldMixtures$Mixture"
def TX4 : u_T := fun k => match k with
  | 0 => ("FieldMixtures$Mixture", "size", "I", false)
  | 1 => ("FieldMixtures$Mixture", "allocations", "[I", true)
  | _ => ("FieldMixtures$Mixture", "weights", "[I", true)
def tyX4 : Nat → FieldType := fun k => match k with
  | 0 => .int
  | 1 => .array .int
  | _ => .array .int
abbrev wsX40 : List Cond := u_ws RX4 TX4 3
theorem nmX4 : ∀ a, a < 3 → ∀ b, b < 3 → a ≠ b → (TX4 a).2.1 ≠ (TX4 b).2.1 := by decide +kernel
theorem tyX4_ok : ∀ k, k < 3 → parseFieldDescriptor (TX4 k).2.2.1 = some (tyX4 k) := by decide +kernel
abbrev cX4_init : ByteArray := prog_6_method_1_code
def yX4_init : MethodName := ⟨RX4, "<init>", "()V"⟩
abbrev cX4_copyFrom : ByteArray := prog_6_method_2_code
def yX4_copyFrom : MethodName := ⟨RX4, "copyFrom", "(LFieldMixtures$Mixture;)V"⟩
abbrev cX4_placeOf : ByteArray := prog_6_method_3_code
def yX4_placeOf : MethodName := ⟨RX4, "placeOf", "(I)I"⟩
abbrev cX4_standsAt : ByteArray := prog_6_method_4_code
def yX4_standsAt : MethodName := ⟨RX4, "standsAt", "(II)Z"⟩
abbrev cX4_weightOf : ByteArray := prog_6_method_5_code
def yX4_weightOf : MethodName := ⟨RX4, "weightOf", "(I)I"⟩
abbrev cX4_hasRoomFor : ByteArray := prog_6_method_6_code
def yX4_hasRoomFor : MethodName := ⟨RX4, "hasRoomFor", "(I)Z"⟩
abbrev cX4_setWeight : ByteArray := prog_6_method_7_code
def yX4_setWeight : MethodName := ⟨RX4, "setWeight", "(II)V"⟩
abbrev cX4_openGap : ByteArray := prog_6_method_8_code
def yX4_openGap : MethodName := ⟨RX4, "openGap", "(I)V"⟩
abbrev cX4_remove : ByteArray := prog_6_method_9_code
def yX4_remove : MethodName := ⟨RX4, "remove", "(I)V"⟩
abbrev cX4_addOne : ByteArray := prog_6_method_10_code
def yX4_addOne : MethodName := ⟨RX4, "addOne", "(I)Z"⟩
abbrev cX4_weight : ByteArray := prog_6_method_11_code
def yX4_weight : MethodName := ⟨RX4, "weight", "()I"⟩
def RX5 : String := "FieldMixtures$Scores"
def TX5 : u_T := fun k => match k with
  | 0 => ("FieldMixtures$Scores", "fields", "I", false)
  | 1 => ("FieldMixtures$Scores", "weight", "I", false)
  | _ => ("FieldMixtures$Scores", "points", "[[I", true)
def tyX5 : Nat → FieldType := fun k => match k with
  | 0 => .int
  | 1 => .int
  | _ => .array (.array .int)
abbrev wsX50 : List Cond := u_ws RX5 TX5 3
theorem nmX5 : ∀ a, a < 3 → ∀ b, b < 3 → a ≠ b → (TX5 a).2.1 ≠ (TX5 b).2.1 := by decide +kernel
theorem tyX5_ok : ∀ k, k < 3 → parseFieldDescriptor (TX5 k).2.2.1 = some (tyX5 k) := by decide +kernel
abbrev cX5_init : ByteArray := prog_7_method_1_code
def yX5_init : MethodName := ⟨RX5, "<init>", "()V"⟩
abbrev cX5_measure : ByteArray := prog_7_method_2_code
def yX5_measure : MethodName := ⟨RX5, "measure", "(LFieldMixtures$Contest;I)V"⟩
abbrev cX5_balance : ByteArray := prog_7_method_3_code
def yX5_balance : MethodName := ⟨RX5, "balance", "(LFieldMixtures$Contest;III)I"⟩
abbrev cX5_of : ByteArray := prog_7_method_4_code
def yX5_of : MethodName := ⟨RX5, "of", "(I)I"⟩
abbrev cX5_ofMixture : ByteArray := prog_7_method_5_code
def yX5_ofMixture : MethodName := ⟨RX5, "ofMixture", "(LFieldMixtures$Mixture;)I"⟩
def RX6 : String := "FieldMixtures$Side"
def TX6 : u_T := fun k => match k with
  | 0 => ("FieldMixtures$Side", "resources", "I", false)
  | 1 => ("FieldMixtures$Side", "bounds", "[I", true)
  | _ => ("FieldMixtures$Side", "mixture", "LFieldMixtures$Mixture;", true)
def tyX6 : Nat → FieldType := fun k => match k with
  | 0 => .int
  | 1 => .array .int
  | _ => .object "FieldMixtures$Mixture"
abbrev wsX60 : List Cond := u_ws RX6 TX6 3
theorem nmX6 : ∀ a, a < 3 → ∀ b, b < 3 → a ≠ b → (TX6 a).2.1 ≠ (TX6 b).2.1 := by decide +kernel
theorem tyX6_ok : ∀ k, k < 3 → parseFieldDescriptor (TX6 k).2.2.1 = some (tyX6 k) := by decide +kernel
abbrev cX6_init : ByteArray := prog_8_method_1_code
def yX6_init : MethodName := ⟨RX6, "<init>", "()V"⟩
abbrev cX6_copyFrom : ByteArray := prog_8_method_2_code
def yX6_copyFrom : MethodName := ⟨RX6, "copyFrom", "(LFieldMixtures$Side;)V"⟩
abbrev cX6_resetBounds : ByteArray := prog_8_method_3_code
def yX6_resetBounds : MethodName := ⟨RX6, "resetBounds", "()V"⟩
abbrev cX6_allows : ByteArray := prog_8_method_4_code
def yX6_allows : MethodName := ⟨RX6, "allows", "(II)Z"⟩
abbrev cX6_dropWhatIsNotAllowed : ByteArray := prog_8_method_5_code
def yX6_dropWhatIsNotAllowed : MethodName := ⟨RX6, "dropWhatIsNotAllowed", "(I)V"⟩
def RX7 : String := "FieldMixtures$Text"
def TX7 : u_T := fun k => match k with
  | 0 => ("FieldMixtures$Text", "length", "I", false)
  | _ => ("FieldMixtures$Text", "signs", "[C", true)
def tyX7 : Nat → FieldType := fun k => match k with
  | 0 => .int
  | _ => .array .char
abbrev wsX70 : List Cond := u_ws RX7 TX7 2
theorem nmX7 : ∀ a, a < 2 → ∀ b, b < 2 → a ≠ b → (TX7 a).2.1 ≠ (TX7 b).2.1 := by decide +kernel
theorem tyX7_ok : ∀ k, k < 2 → parseFieldDescriptor (TX7 k).2.2.1 = some (tyX7 k) := by decide +kernel
abbrev cX7_init : ByteArray := prog_9_method_1_code
def yX7_init : MethodName := ⟨RX7, "<init>", "()V"⟩
abbrev cX7_append : ByteArray := prog_9_method_2_code
def yX7_append : MethodName := ⟨RX7, "append", "(I)V"⟩
abbrev cX7_clear : ByteArray := prog_9_method_3_code
def yX7_clear : MethodName := ⟨RX7, "clear", "()V"⟩
abbrev cX7_signAt : ByteArray := prog_9_method_4_code
def yX7_signAt : MethodName := ⟨RX7, "signAt", "(I)I"⟩
def RX8 : String := "FieldMixtures$TextReader"
def TX8 : u_T := fun k => match k with
  | 0 => ("FieldMixtures$TextReader", "position", "I", false)
  | 1 => ("FieldMixtures$TextReader", "reason", "I", false)
  | 2 => ("FieldMixtures$TextReader", "cause", "I", false)
  | 3 => ("FieldMixtures$TextReader", "next", "I", false)
  | 4 => ("FieldMixtures$TextReader", "player", "I", false)
  | 5 => ("FieldMixtures$TextReader", "allocation", "I", false)
  | _ => ("FieldMixtures$TextReader", "weight", "I", false)
def tyX8 : Nat → FieldType := fun k => match k with
  | 0 => .int
  | 1 => .int
  | 2 => .int
  | 3 => .int
  | 4 => .int
  | 5 => .int
  | _ => .int
abbrev wsX80 : List Cond := u_ws RX8 TX8 7
theorem nmX8 : ∀ a, a < 7 → ∀ b, b < 7 → a ≠ b → (TX8 a).2.1 ≠ (TX8 b).2.1 := by decide +kernel
theorem tyX8_ok : ∀ k, k < 7 → parseFieldDescriptor (TX8 k).2.2.1 = some (tyX8 k) := by decide +kernel
abbrev cX8_init : ByteArray := prog_10_method_1_code
def yX8_init : MethodName := ⟨RX8, "<init>", "()V"⟩
abbrev cX8_readInto : ByteArray := prog_10_method_2_code
def yX8_readInto : MethodName := ⟨RX8, "readInto", "(LFieldMixtures$Contest;LFieldMixtures$Text;)V"⟩
abbrev cX8_readPart : ByteArray := prog_10_method_3_code
def yX8_readPart : MethodName := ⟨RX8, "readPart", "(LFieldMixtures$Contest;LFieldMixtures$Text;)I"⟩
abbrev cX8_readForm : ByteArray := prog_10_method_4_code
def yX8_readForm : MethodName := ⟨RX8, "readForm", "(LFieldMixtures$Text;I)Z"⟩
abbrev cX8_readSign : ByteArray := prog_10_method_5_code
def yX8_readSign : MethodName := ⟨RX8, "readSign", "(LFieldMixtures$Text;C)Z"⟩
abbrev cX8_readAllocation : ByteArray := prog_10_method_6_code
def yX8_readAllocation : MethodName := ⟨RX8, "readAllocation", "(LFieldMixtures$Text;I)Z"⟩
abbrev cX8_readWeight : ByteArray := prog_10_method_7_code
def yX8_readWeight : MethodName := ⟨RX8, "readWeight", "(LFieldMixtures$Text;)Z"⟩
abbrev cX8_hasDigit : ByteArray := prog_10_method_8_code
def yX8_hasDigit : MethodName := ⟨RX8, "hasDigit", "(LFieldMixtures$Text;)Z"⟩
abbrev cX8_readDigit : ByteArray := prog_10_method_9_code
def yX8_readDigit : MethodName := ⟨RX8, "readDigit", "(LFieldMixtures$Text;)I"⟩
def RX9 : String := "FieldMixtures"
def TX9 : u_T := fun k => match k with
  | 0 => ("FieldMixtures", "contest", "LFieldMixtures$Contest;", true)
  | 1 => ("FieldMixtures", "draft", "LFieldMixtures$Contest;", true)
  | 2 => ("FieldMixtures", "history", "LFieldMixtures$History;", true)
  | 3 => ("FieldMixtures", "firstList", "LFieldMixtures$AllocationList;", true)
  | 4 => ("FieldMixtures", "secondList", "LFieldMixtures$AllocationList;", true)
  | 5 => ("FieldMixtures", "scores", "LFieldMixtures$Scores;", true)
  | 6 => ("FieldMixtures", "firstReply", "LFieldMixtures$BestReply;", true)
  | 7 => ("FieldMixtures", "secondReply", "LFieldMixtures$BestReply;", true)
  | 8 => ("FieldMixtures", "text", "LFieldMixtures$Text;", true)
  | _ => ("FieldMixtures", "reader", "LFieldMixtures$TextReader;", true)
def tyX9 : Nat → FieldType := fun k => match k with
  | 0 => .object "FieldMixtures$Contest"
  | 1 => .object "FieldMixtures$Contest"
  | 2 => .object "FieldMixtures$History"
  | 3 => .object "FieldMixtures$AllocationList"
  | 4 => .object "FieldMixtures$AllocationList"
  | 5 => .object "FieldMixtures$Scores"
  | 6 => .object "FieldMixtures$BestReply"
  | 7 => .object "FieldMixtures$BestReply"
  | 8 => .object "FieldMixtures$Text"
  | _ => .object "FieldMixtures$TextReader"
abbrev wsX90 : List Cond := u_ws RX9 TX9 10
theorem nmX9 : ∀ a, a < 10 → ∀ b, b < 10 → a ≠ b → (TX9 a).2.1 ≠ (TX9 b).2.1 := by decide +kernel
theorem tyX9_ok : ∀ k, k < 10 → parseFieldDescriptor (TX9 k).2.2.1 = some (tyX9 k) := by decide +kernel
abbrev cX9_init : ByteArray := prog_1_method_1_code
def yX9_init : MethodName := ⟨RX9, "<init>", "()V"⟩
abbrev cX9_fields : ByteArray := prog_1_method_2_code
def yX9_fields : MethodName := ⟨RX9, "fields", "(I)I"⟩
abbrev cX9_value : ByteArray := prog_1_method_3_code
def yX9_value : MethodName := ⟨RX9, "value", "(II)I"⟩
abbrev cX9_resources : ByteArray := prog_1_method_4_code
def yX9_resources : MethodName := ⟨RX9, "resources", "(II)I"⟩
abbrev cX9_bound : ByteArray := prog_1_method_5_code
def yX9_bound : MethodName := ⟨RX9, "bound", "(III)I"⟩
abbrev cX9_tie : ByteArray := prog_1_method_6_code
def yX9_tie : MethodName := ⟨RX9, "tie", "(I)I"⟩
abbrev cX9_allocations : ByteArray := prog_1_method_7_code
def yX9_allocations : MethodName := ⟨RX9, "allocations", "(II)I"⟩
abbrev cX9_gains : ByteArray := prog_1_method_8_code
def yX9_gains : MethodName := ⟨RX9, "gains", "(II)I"⟩
abbrev cX9_put : ByteArray := prog_1_method_10_code
def yX9_put : MethodName := ⟨RX9, "put", "(III)I"⟩
abbrev cX9_take : ByteArray := prog_1_method_11_code
def yX9_take : MethodName := ⟨RX9, "take", "(II)I"⟩
abbrev cX9_round : ByteArray := prog_1_method_12_code
def yX9_round : MethodName := ⟨RX9, "round", "(I)I"⟩
abbrev cX9_mixtureOf : ByteArray := prog_1_method_13_code
def yX9_mixtureOf : MethodName := ⟨RX9, "mixtureOf", "(III)I"⟩
abbrev cX9_marginal : ByteArray := prog_1_method_14_code
def yX9_marginal : MethodName := ⟨RX9, "marginal", "(III)I"⟩
abbrev cX9_mean : ByteArray := prog_1_method_15_code
def yX9_mean : MethodName := ⟨RX9, "mean", "(III)I"⟩
abbrev cX9_expected : ByteArray := prog_1_method_16_code
def yX9_expected : MethodName := ⟨RX9, "expected", "(I)I"⟩
abbrev cX9_count : ByteArray := prog_1_method_19_code
def yX9_count : MethodName := ⟨RX9, "count", "(I)I"⟩
abbrev cX9_undo : ByteArray := prog_1_method_20_code
def yX9_undo : MethodName := ⟨RX9, "undo", "()I"⟩
abbrev cX9_type : ByteArray := prog_1_method_21_code
def yX9_type : MethodName := ⟨RX9, "type", "(I)I"⟩
abbrev cX9_clearText : ByteArray := prog_1_method_22_code
def yX9_clearText : MethodName := ⟨RX9, "clearText", "()I"⟩
abbrev cX9_fault : ByteArray := prog_1_method_23_code
def yX9_fault : MethodName := ⟨RX9, "fault", "(I)I"⟩
abbrev cX9_read : ByteArray := prog_1_method_24_code
def yX9_read : MethodName := ⟨RX9, "read", "()I"⟩
abbrev cX9_isIn : ByteArray := prog_1_method_25_code
def yX9_isIn : MethodName := ⟨RX9, "isIn", "(III)Z"⟩
abbrev cX9_isPlayer : ByteArray := prog_1_method_26_code
def yX9_isPlayer : MethodName := ⟨RX9, "isPlayer", "(I)Z"⟩
abbrev cX9_isPart : ByteArray := prog_1_method_27_code
def yX9_isPart : MethodName := ⟨RX9, "isPart", "(I)Z"⟩
abbrev cX9_partOf : ByteArray := prog_1_method_28_code
def yX9_partOf : MethodName := ⟨RX9, "partOf", "(III)I"⟩
abbrev cX9_commonDivisor : ByteArray := prog_1_method_29_code
def yX9_commonDivisor : MethodName := ⟨RX9, "commonDivisor", "(II)I"⟩
abbrev cX9_freshList : ByteArray := prog_1_method_30_code
def yX9_freshList : MethodName := ⟨RX9, "freshList", "(I)LFieldMixtures$AllocationList;"⟩
abbrev cX9_playRoundInDraft : ByteArray := prog_1_method_32_code
def yX9_playRoundInDraft : MethodName := ⟨RX9, "playRoundInDraft", "(LFieldMixtures$AllocationList;LFieldMixtures$AllocationList;)Z"⟩
abbrev cX9_changeToDraft : ByteArray := prog_1_method_33_code
def yX9_changeToDraft : MethodName := ⟨RX9, "changeToDraft", "()V"⟩
def RX10 : String := "FieldMixturesModel"
def TX10 : u_T := fun k => match k with
  | _ => ("", "", "", false)
def tyX10 : Nat → FieldType := fun k => match k with
  | _ => .int
abbrev wsX100 : List Cond := u_ws RX10 TX10 0
theorem nmX10 : ∀ a, a < 0 → ∀ b, b < 0 → a ≠ b → (TX10 a).2.1 ≠ (TX10 b).2.1 := by decide +kernel
theorem tyX10_ok : ∀ k, k < 0 → parseFieldDescriptor (TX10 k).2.2.1 = some (tyX10 k) := by decide +kernel
def RJ9 : String := "java/lang/Math"
def TJ9 : u_T := fun k => match k with
  | _ => ("", "", "", false)
def tyJ9 : Nat → FieldType := fun k => match k with
  | _ => .int
abbrev wsJ90 : List Cond := u_ws RJ9 TJ9 0
theorem nmJ9 : ∀ a, a < 0 → ∀ b, b < 0 → a ≠ b → (TJ9 a).2.1 ≠ (TJ9 b).2.1 := by decide +kernel
theorem tyJ9_ok : ∀ k, k < 0 → parseFieldDescriptor (TJ9 k).2.2.1 = some (tyJ9 k) := by decide +kernel
abbrev cJ9_abs_0f7a4 : ByteArray := prog_13_method_59_code
def yJ9_abs_0f7a4 : MethodName := ⟨RJ9, "abs", "(I)I"⟩
abbrev cJ9_max_7cf53 : ByteArray := prog_13_method_65_code
def yJ9_max_7cf53 : MethodName := ⟨RJ9, "max", "(II)I"⟩
def RL : String := "FieldMixturesLaw"
abbrev cL_lot : ByteArray := method_2_code
def yL_lot : MethodName := ⟨RL, "lot", "([II)I"⟩
abbrev cL_low : ByteArray := method_3_code
def yL_low : MethodName := ⟨RL, "low", "(II)I"⟩
abbrev cL_digest : ByteArray := method_4_code
def yL_digest : MethodName := ⟨RL, "digest", "(LFieldMixtures;)J"⟩
abbrev cL_holds : ByteArray := method_5_code
def yL_holds : MethodName := ⟨RL, "holds", "(LFieldMixtures;I)Z"⟩
abbrev cL_types : ByteArray := method_6_code
def yL_types : MethodName := ⟨RL, "types", "(LFieldMixtures;I)Z"⟩
abbrev cL_reads : ByteArray := method_7_code
def yL_reads : MethodName := ⟨RL, "reads", "(LFieldMixtures;)Z"⟩
abbrev cL_acts : ByteArray := method_8_code
def yL_acts : MethodName := ⟨RL, "acts", "(LFieldMixtures;II)Z"⟩
abbrev cL_law : ByteArray := code
def yL_law : MethodName := ⟨RL, "law", "([I)Z"⟩

def zR : Nat → String := fun k => match k with
  | 0 => RX0
  | 1 => RX1
  | 2 => RX2
  | 3 => RX3
  | 4 => RX4
  | 5 => RX5
  | 6 => RX6
  | 7 => RX7
  | 8 => RX8
  | 9 => RX9
  | _ => RL
def zTn : Nat → u_T := fun k => match k with
  | 0 => TX0
  | 1 => TX1
  | 2 => TX2
  | 3 => TX3
  | 4 => TX4
  | 5 => TX5
  | 6 => TX6
  | 7 => TX7
  | 8 => TX8
  | _ => TX9
def zTy : Nat → Nat → FieldType := fun k => match k with
  | 0 => tyX0
  | 1 => tyX1
  | 2 => tyX2
  | 3 => tyX3
  | 4 => tyX4
  | 5 => tyX5
  | 6 => tyX6
  | 7 => tyX7
  | 8 => tyX8
  | _ => tyX9
def zN : Nat → Nat := fun k => match k with
  | 0 => 2
  | 1 => 3
  | 2 => 5
  | 3 => 2
  | 4 => 3
  | 5 => 3
  | 6 => 3
  | 7 => 2
  | 8 => 7
  | _ => 10
abbrev zCl : List vw_C := [(RX0, TX0, 2), (RX1, TX1, 3), (RX2, TX2, 5), (RX3, TX3, 2), (RX4, TX4, 3), (RX5, TX5, 3), (RX6, TX6, 3), (RX7, TX7, 2), (RX8, TX8, 7), (RX9, TX9, 10)]
-- a method: name, bytes, locals, type, its class, parameters, kind (0 virtual, 1 static, 2 init), room
def zML_0 : List (MethodName × ByteArray × Nat × Option FieldType × Nat × Nat × Nat × Nat × Nat) := [(yX0_init, cX0_init, 1, none, 0, 0, 2, 1, 21), (yX6_allows, cX6_allows, 7, (some .boolean), 6, 2, 0, 0, 0), (yX0_fill, cX0_fill, 5, none, 0, 2, 0, 1, 26), (yX1_init, cX1_init, 1, none, 1, 0, 2, 1, 21), (yX5_of, cX5_of, 5, (some .int), 5, 1, 0, 0, 0), (yX1_find, cX1_find, 5, none, 1, 2, 0, 1, 24), (yX4_init, cX4_init, 1, none, 4, 0, 2, 1, 21), (yX6_init, cX6_init, 1, none, 6, 0, 2, 2, 41), (yX6_resetBounds, cX6_resetBounds, 2, none, 6, 0, 0, 0, 0), (yX2_startWith, cX2_startWith, 3, none, 2, 1, 0, 1, 21), (yX2_init, cX2_init, 1, none, 2, 0, 2, 3, 61), (yX4_copyFrom, cX4_copyFrom, 3, none, 4, 1, 0, 0, 0), (yX6_copyFrom, cX6_copyFrom, 3, none, 6, 1, 0, 1, 22), (yX2_copyFrom, cX2_copyFrom, 3, none, 2, 1, 0, 2, 44), (yX2_side, cX2_side, 2, (some (.object "FieldMixtures$Side")), 2, 1, 0, 0, 0), (yX9_isIn, cX9_isIn, 3, (some .boolean), 9, 3, 1, 0, 0), (yX2_hasField, cX2_hasField, 2, (some .boolean), 2, 1, 0, 1, 22), (yX2_allows, cX2_allows, 3, (some .boolean), 2, 2, 0, 1, 26), (yX2_lacksMixture, cX2_lacksMixture, 1, (some .boolean), 2, 0, 0, 0, 0)]
def zML_1 : List (MethodName × ByteArray × Nat × Option FieldType × Nat × Nat × Nat × Nat × Nat) := [(yX2_sizeOfMixtures, cX2_sizeOfMixtures, 1, (some .int), 2, 0, 0, 0, 0), (yX2_sumOfValues, cX2_sumOfValues, 3, (some .int), 2, 0, 0, 0, 0), (yX2_amountIn, cX2_amountIn, 5, (some .int), 2, 2, 0, 0, 0), (yX2_outcome, cX2_outcome, 4, (some .int), 2, 3, 0, 0, 0), (yX2_gainOf, cX2_gainOf, 8, (some .int), 2, 3, 0, 1, 23), (yX3_init, cX3_init, 2, none, 3, 0, 2, 4, 81), (yX3_dropOldest, cX3_dropOldest, 3, none, 3, 0, 0, 0, 0), (yX3_record, cX3_record, 2, none, 3, 1, 0, 3, 66), (yX3_restoreLatest, cX3_restoreLatest, 2, none, 3, 1, 0, 3, 66), (yX4_placeOf, cX4_placeOf, 3, (some .int), 4, 1, 0, 0, 0), (yX4_standsAt, cX4_standsAt, 3, (some .boolean), 4, 2, 0, 0, 0), (yX4_weightOf, cX4_weightOf, 3, (some .int), 4, 1, 0, 1, 22), (yX4_hasRoomFor, cX4_hasRoomFor, 2, (some .boolean), 4, 1, 0, 2, 44), (yX4_openGap, cX4_openGap, 3, none, 4, 1, 0, 0, 0), (yX4_setWeight, cX4_setWeight, 4, none, 4, 2, 0, 1, 22), (yX4_remove, cX4_remove, 4, none, 4, 1, 0, 1, 22), (yX4_addOne, cX4_addOne, 3, (some .boolean), 4, 1, 0, 3, 65), (yX4_weight, cX4_weight, 3, (some .int), 4, 0, 0, 0, 0), (yX5_init, cX5_init, 1, none, 5, 0, 2, 1, 21)]
def zML_2 : List (MethodName × ByteArray × Nat × Option FieldType × Nat × Nat × Nat × Nat × Nat) := [(yX5_balance, cX5_balance, 8, (some .int), 5, 4, 1, 1, 24), (yX5_measure, cX5_measure, 6, none, 5, 2, 0, 2, 51), (yX5_ofMixture, cX5_ofMixture, 4, (some .int), 5, 1, 0, 1, 24), (yX6_dropWhatIsNotAllowed, cX6_dropWhatIsNotAllowed, 3, none, 6, 1, 0, 2, 45), (yX7_init, cX7_init, 1, none, 7, 0, 2, 1, 21), (yX7_append, cX7_append, 2, none, 7, 1, 0, 0, 0), (yX7_clear, cX7_clear, 1, none, 7, 0, 0, 0, 0), (yX7_signAt, cX7_signAt, 2, (some .int), 7, 1, 0, 0, 0), (yX8_init, cX8_init, 1, none, 8, 0, 2, 1, 21), (yX9_isPlayer, cX9_isPlayer, 1, (some .boolean), 9, 1, 1, 1, 22), (yX8_readSign, cX8_readSign, 3, (some .boolean), 8, 2, 0, 1, 21), (yX8_hasDigit, cX8_hasDigit, 2, (some .boolean), 8, 1, 0, 1, 22), (yX8_readDigit, cX8_readDigit, 3, (some .int), 8, 1, 0, 1, 21), (yX8_readAllocation, cX8_readAllocation, 4, (some .boolean), 8, 2, 0, 2, 43), (yX8_readWeight, cX8_readWeight, 2, (some .boolean), 8, 1, 0, 2, 43), (yX8_readForm, cX8_readForm, 3, (some .boolean), 8, 2, 0, 3, 66), (yX8_readPart, cX8_readPart, 4, (some .int), 8, 2, 0, 4, 88), (yX8_readInto, cX8_readInto, 4, none, 8, 2, 0, 5, 111), (yX9_init, cX9_init, 1, none, 9, 0, 2, 5, 102)]
def zML_3 : List (MethodName × ByteArray × Nat × Option FieldType × Nat × Nat × Nat × Nat × Nat) := [(yX9_fields, cX9_fields, 3, (some .int), 9, 1, 0, 4, 87), (yX9_value, cX9_value, 4, (some .int), 9, 2, 0, 4, 87), (yX9_resources, cX9_resources, 4, (some .int), 9, 2, 0, 4, 87), (yX9_bound, cX9_bound, 5, (some .int), 9, 3, 0, 4, 87), (yX9_tie, cX9_tie, 3, (some .int), 9, 1, 0, 4, 87), (yX9_freshList, cX9_freshList, 3, (some (.object "FieldMixtures$AllocationList")), 9, 1, 0, 2, 50), (yX9_allocations, cX9_allocations, 4, (some .int), 9, 2, 0, 3, 72), (yX9_gains, cX9_gains, 3, (some .int), 9, 2, 0, 2, 50), (yX9_gains, cX9_gains, 3, (some .int), 9, 2, 0, 2, 50), (yX9_gains, cX9_gains, 3, (some .int), 9, 2, 0, 2, 50), (yX9_put, cX9_put, 6, (some .int), 9, 3, 0, 4, 87), (yX9_take, cX9_take, 5, (some .int), 9, 2, 0, 4, 87), (yX9_playRoundInDraft, cX9_playRoundInDraft, 3, (some .boolean), 9, 2, 0, 4, 87), (yX9_changeToDraft, cX9_changeToDraft, 1, none, 9, 0, 0, 4, 87), (yX9_round, cX9_round, 5, (some .int), 9, 1, 0, 5, 109), (yX9_commonDivisor, cX9_commonDivisor, 6, (some .int), 9, 2, 1, 1, 21), (yX9_partOf, cX9_partOf, 4, (some .int), 9, 3, 1, 2, 46), (yX9_mixtureOf, cX9_mixtureOf, 5, (some .int), 9, 3, 0, 3, 76), (yX9_marginal, cX9_marginal, 7, (some .int), 9, 3, 0, 2, 43)]
def zML_4 : List (MethodName × ByteArray × Nat × Option FieldType × Nat × Nat × Nat × Nat × Nat) := [(yX9_isPart, cX9_isPart, 1, (some .boolean), 9, 1, 1, 1, 22), (yX9_mean, cX9_mean, 7, (some .int), 9, 3, 0, 3, 69), (yX9_expected, cX9_expected, 3, (some .int), 9, 1, 0, 3, 76), (yX9_gains, cX9_gains, 3, (some .int), 9, 2, 0, 2, 50), (yX9_gains, cX9_gains, 3, (some .int), 9, 2, 0, 2, 50), (yX9_count, cX9_count, 2, (some .int), 9, 1, 0, 1, 22), (yX9_undo, cX9_undo, 1, (some .int), 9, 0, 0, 4, 87), (yX9_type, cX9_type, 2, (some .int), 9, 1, 0, 1, 22), (yX9_clearText, cX9_clearText, 2, (some .int), 9, 0, 0, 1, 20), (yX9_fault, cX9_fault, 2, (some .int), 9, 1, 0, 6, 134), (yX9_read, cX9_read, 1, (some .int), 9, 0, 0, 6, 134), (yL_low, cL_low, 2, (some .int), 10, 2, 1, 0, 0), (yL_digest, cL_digest, 5, (some .long), 10, 1, 1, 4, 100), (yL_holds, cL_holds, 12, (some .boolean), 10, 2, 1, 4, 100), (yL_types, cL_types, 12, (some .boolean), 10, 2, 1, 4, 95), (yL_reads, cL_reads, 8, (some .boolean), 10, 1, 1, 7, 155), (yL_acts, cL_acts, 11, (some .boolean), 10, 3, 1, 8, 182)]
def zML : List (MethodName × ByteArray × Nat × Option FieldType × Nat × Nat × Nat × Nat × Nat) := (zML_0 ++ zML_1 ++ zML_2 ++ zML_3 ++ zML_4) ++ [(yL_law, cL_law, 11, (some .boolean), 10, 1, 1, 11, 424)]
def zLaw : Nat := 93
def zm (k : Nat) : MethodName × ByteArray × Nat × Option FieldType × Nat × Nat × Nat × Nat × Nat := zML.getD k (yL_law, cL_law, 0, none, 0, 0, 0, 0, 0)
def z_y (k : Nat) : MethodName := (zm k).1
def z_code (k : Nat) : ByteArray := (zm k).2.1
def z_ml (k : Nat) : Nat := (zm k).2.2.1
def z_ret (k : Nat) : Option FieldType := (zm k).2.2.2.1
def z_cls (k : Nat) : Nat := (zm k).2.2.2.2.1
def z_np (k : Nat) : Nat := (zm k).2.2.2.2.2.1
def z_kd (k : Nat) : Nat := (zm k).2.2.2.2.2.2.1
def z_fr (k : Nat) : Nat := (zm k).2.2.2.2.2.2.2.1
def z_lo (k : Nat) : Nat := (zm k).2.2.2.2.2.2.2.2
-- calls: class, entry, method, nest (1), place among lw_tbl
def zCT : List (Nat × Nat × Nat × Nat × Nat) := [(0, 24, 1, 1, 412), (1, 28, 4, 1, 527), (2, 17, 7, 1, 75), (2, 32, 9, 0, 122), (2, 45, 8, 1, 126), (2, 48, 12, 1, 333), (2, 52, 15, 1, 425), (2, 56, 14, 0, 443), (2, 60, 1, 1, 444), (2, 64, 22, 0, 449), (3, 21, 10, 1, 160), (3, 22, 25, 0, 492), (3, 25, 13, 1, 329), (4, 22, 28, 0, 478), (4, 26, 29, 0, 482), (4, 30, 30, 0, 474), (4, 33, 32, 0, 500), (4, 37, 31, 0, 532), (4, 41, 33, 0, 533), (5, 23, 14, 1, 367), (5, 36, 36, 1, 368), (5, 45, 38, 0, 369), (5, 55, 21, 1, 372), (5, 62, 22, 1, 376), (5, 66, 4, 0, 462), (6, 21, 6, 1, 81), (6, 26, 11, 1, 337), (6, 36, 1, 0, 554), (6, 40, 34, 1, 555), (8, 38, 54, 0, 599), (8, 47, 53, 0, 603), (8, 51, 17, 1, 633), (8, 55, 14, 1, 634), (8, 65, 31, 1, 635), (8, 71, 33, 1, 636), (8, 75, 45, 1, 607), (8, 79, 47, 1, 611), (8, 82, 48, 0, 612), (8, 86, 51, 0, 616), (8, 89, 52, 0, 629), (8, 93, 49, 0, 620), (8, 96, 50, 0, 625), (8, 100, 15, 1, 624), (9, 9, 10, 1, 69), (9, 21, 24, 1, 154), (9, 28, 0, 1, 171), (9, 38, 37, 1, 188), (9, 45, 3, 1, 207), (9, 55, 42, 1, 224), (9, 62, 46, 1, 240), (9, 67, 15, 0, 304), (9, 76, 26, 1, 488), (9, 80, 9, 1, 568), (9, 84, 16, 1, 421), (9, 92, 47, 0, 359), (9, 95, 14, 1, 307), (9, 104, 41, 1, 550), (9, 122, 62, 0, 404), (9, 131, 17, 1, 439), (9, 135, 23, 1, 445), (9, 143, 31, 1, 470), (9, 147, 30, 1, 487), (9, 151, 33, 1, 496), (9, 156, 34, 1, 510), (9, 159, 18, 1, 454), (9, 163, 13, 1, 518), (9, 166, 69, 0, 519), (9, 170, 70, 0, 534), (9, 173, 19, 1, 538), (9, 183, 39, 1, 363), (9, 187, 4, 1, 380), (9, 193, 73, 0, 384), (9, 196, 21, 1, 429), (9, 200, 76, 0, 426), (9, 203, 36, 1, 315), (9, 205, 40, 1, 458), (9, 209, 5, 1, 523), (9, 222, 20, 1, 311), (9, 229, 27, 1, 325), (9, 232, 43, 1, 584), (9, 235, 44, 1, 576), (9, 238, 55, 1, 595), (9, 256, 72, 0, 390), (9, 263, 2, 1, 408), (9, 267, 35, 1, 528), (10, 13, 81, 0, 300), (10, 21, 74, 0, 355), (10, 25, 87, 0, 345), (10, 31, 63, 0, 400), (10, 35, 77, 0, 417), (10, 39, 75, 0, 431), (10, 42, 64, 0, 435), (10, 45, 78, 0, 450), (10, 48, 84, 0, 572), (10, 52, 83, 0, 580), (10, 55, 85, 0, 591), (10, 58, 86, 0, 637), (10, 61, 67, 0, 466), (10, 66, 68, 0, 506), (10, 69, 71, 0, 514), (10, 72, 58, 0, 542), (10, 75, 59, 0, 546), (10, 78, 60, 0, 556), (10, 81, 61, 0, 560), (10, 84, 57, 0, 564), (10, 87, 90, 0, 569), (10, 91, 91, 0, 588), (10, 95, 56, 0, 61), (10, 96, 89, 0, 397), (10, 99, 82, 0, 320), (10, 106, 88, 0, 349), (10, 110, 92, 0, 463)]
def zOT : List (Nat × Nat × Nat) := [(0, 3, 174), (1, 1, 210), (2, 3, 72), (3, 3, 157), (4, 3, 84), (5, 3, 191), (6, 3, 78), (7, 3, 227), (8, 3, 243), (9, 1, 64)]
def zXT : List (Nat × Nat × Nat × Nat) := [(9, 251, 0, 387), (9, 260, 1, 393)]
def zVT : List (Nat × Nat × Nat) := [(10, 102, 341)]
-- fields: class, entry, class of the field, its place, nest (1), place among lw_tbl
def zFT : List (Nat × Nat × Nat × Nat × Nat × Nat) := [(0, 9, 0, 0, 0, 175), (0, 15, 0, 1, 0, 178), (0, 19, 6, 0, 1, 106), (1, 7, 1, 0, 0, 211), (1, 13, 1, 1, 0, 213), (1, 16, 1, 2, 0, 214), (1, 19, 0, 0, 1, 176), (1, 24, 0, 1, 1, 179), (2, 9, 2, 2, 0, 136), (2, 18, 2, 3, 0, 139), (2, 22, 2, 4, 0, 140), (2, 25, 2, 0, 0, 130), (2, 29, 2, 1, 0, 134), (2, 36, 6, 2, 1, 112), (2, 40, 4, 0, 1, 86), (3, 9, 3, 0, 0, 161), (3, 17, 3, 1, 0, 163), (4, 9, 4, 1, 0, 90), (4, 15, 4, 2, 0, 94), (4, 18, 4, 0, 0, 85), (5, 9, 5, 0, 0, 194), (5, 15, 5, 1, 0, 195), (5, 20, 5, 2, 0, 197), (5, 29, 6, 2, 1, 111), (5, 35, 2, 0, 1, 131), (5, 41, 2, 2, 1, 137), (5, 49, 4, 0, 1, 87), (5, 52, 4, 1, 1, 91), (5, 59, 4, 2, 1, 95), (6, 9, 6, 0, 0, 105), (6, 15, 6, 1, 0, 108), (6, 22, 6, 2, 0, 110), (6, 30, 4, 0, 1, 89), (6, 33, 4, 1, 1, 92), (7, 9, 7, 0, 0, 228), (7, 15, 7, 1, 0, 231), (8, 9, 8, 0, 0, 244), (8, 15, 8, 1, 0, 246), (8, 18, 8, 2, 0, 248), (8, 21, 8, 3, 0, 250), (8, 24, 8, 4, 0, 251), (8, 27, 8, 5, 0, 252), (8, 30, 8, 6, 0, 253), (8, 33, 7, 0, 1, 229), (8, 42, 2, 0, 1, 133), (8, 59, 6, 2, 1, 113), (9, 10, 9, 0, 0, 269), (9, 16, 9, 1, 0, 270), (9, 22, 9, 2, 0, 271), (9, 29, 9, 3, 0, 272), (9, 33, 9, 4, 0, 273), (9, 39, 9, 5, 0, 274), (9, 46, 9, 6, 0, 275), (9, 50, 9, 7, 0, 276), (9, 56, 9, 8, 0, 277), (9, 63, 9, 9, 0, 278), (9, 72, 2, 0, 1, 132), (9, 88, 2, 2, 1, 138), (9, 99, 6, 0, 1, 107), (9, 107, 6, 2, 1, 114), (9, 111, 4, 0, 1, 88), (9, 116, 6, 1, 1, 109), (9, 119, 2, 1, 1, 135), (9, 126, 0, 0, 1, 177), (9, 127, 0, 1, 1, 180), (9, 177, 4, 1, 1, 93), (9, 180, 4, 2, 1, 96), (9, 190, 5, 1, 1, 196), (9, 216, 1, 0, 1, 212), (9, 225, 3, 0, 1, 162), (9, 226, 7, 0, 1, 230), (9, 242, 8, 1, 1, 247), (9, 245, 8, 0, 1, 245), (9, 248, 8, 2, 1, 249)]
-- new, anewarray, multianewarray, ldc: class, entry, .., place among lw_tbl
def zNT : List (Nat × Nat × Nat × Nat) := [(2, 15, 6, 73), (3, 15, 2, 158), (6, 19, 4, 79), (9, 7, 2, 67), (9, 19, 3, 152), (9, 26, 0, 169), (9, 36, 5, 186), (9, 43, 1, 205), (9, 53, 7, 222), (9, 60, 8, 238), (10, 14, 9, 59)]
def zQT : List (Nat × Nat × Nat) := [(3, 15, 158)]
def zMT : List (Nat × Nat × Nat) := [(5, 18, 192)]
def zKT : List (Nat × Nat × Int32 × Nat) := [(9, 71, (-1000001), 319), (9, 130, (-1000004), 362), (9, 146, (-1000003), 486), (9, 155, (-1000002), 324), (9, 259, 100000000, 396), (10, 8, 2147483647, 348), (10, 34, (-1000004), 416), (10, 38, (-1000002), 430), (10, 64, (-1000001), 504), (10, 65, (-1000003), 505)]
def zLT : List (Nat × Nat × Int64 × Nat) := [(10, 9, 47, 352), (10, 11, 31, 353), (10, 19, 101, 354)]
-- a method's words: places of code, initialized, instanceMethod (static), selects
def zMW : List (Nat × Nat × Nat × Nat) := [(173, 53, 172, 0), (415, 50, 414, 15), (411, 53, 410, 14), (209, 55, 208, 0), (383, 54, 382, 12), (526, 55, 525, 31), (83, 51, 82, 0), (77, 50, 76, 0), (129, 50, 128, 1), (125, 49, 124, 0), (71, 49, 70, 0), (340, 51, 339, 8), (336, 50, 335, 7), (332, 49, 331, 6), (310, 49, 309, 2), (306, 48, 305, 0), (424, 49, 423, 16), (442, 49, 441, 17), (457, 49, 456, 19), (541, 49, 540, 34), (314, 49, 313, 3), (375, 49, 374, 10), (379, 49, 378, 11), (448, 49, 447, 18), (156, 52, 155, 0), (495, 52, 494, 26), (491, 52, 490, 25), (328, 52, 327, 5), (481, 51, 480, 23), (485, 51, 484, 24), (477, 51, 476, 22), (473, 51, 472, 21), (503, 51, 502, 28), (499, 51, 498, 27), (513, 51, 512, 29), (531, 51, 530, 32), (318, 51, 317, 4), (190, 54, 189, 0), (371, 54, 370, 0), (366, 54, 365, 9), (461, 54, 460, 20), (553, 50, 552, 35), (226, 56, 225, 0), (587, 56, 586, 37), (579, 56, 578, 36), (610, 56, 609, 41), (242, 57, 241, 0), (361, 48, 360, 0), (615, 57, 614, 42), (623, 57, 622, 44), (628, 57, 627, 45), (619, 57, 618, 43), (632, 57, 631, 46), (606, 57, 605, 40), (602, 57, 601, 39), (598, 57, 597, 38), (63, 48, 62, 0), (567, 48, 565, 566), (545, 48, 543, 544), (549, 48, 547, 548), (559, 48, 557, 558), (563, 48, 561, 562), (407, 48, 406, 13), (403, 48, 401, 402), (438, 48, 436, 437), (438, 48, 436, 437), (438, 48, 436, 437), (469, 48, 467, 468), (509, 48, 507, 508), (522, 48, 521, 30), (537, 48, 536, 33), (517, 48, 515, 516), (392, 48, 391, 0), (386, 48, 385, 0), (358, 48, 356, 357), (434, 48, 432, 433), (428, 48, 427, 0), (420, 48, 418, 419), (453, 48, 451, 452), (438, 48, 436, 437), (438, 48, 436, 437), (303, 48, 301, 302), (323, 48, 321, 322), (583, 48, 581, 582), (575, 48, 573, 574), (594, 48, 592, 593), (640, 48, 638, 639), (347, 47, 346, 0), (351, 47, 350, 0), (399, 47, 398, 0), (571, 47, 570, 0), (590, 47, 589, 0), (465, 47, 464, 0)]
def zCW : List (Nat × Nat) := [(170, 53), (206, 55), (68, 49), (153, 52), (80, 51), (187, 54), (74, 50), (223, 56), (239, 57), (60, 48)]
def zLW : List (List Nat) := [[181, 183], [215, 217, 219], [141, 143, 145, 147, 149], [164, 166], [97, 99, 101], [198, 200, 202], [115, 117, 119], [232, 234], [254, 256, 258, 260, 262, 264, 266], [279, 281, 283, 285, 287, 289, 291, 293, 295, 297]]
def zJW : Nat × Nat × Nat × Nat × Nat := (65, 66, 104, 237, 159)
def zJX : Nat × Nat × Nat × Nat × Nat × Nat := (193, 58, 388, 389, 394, 395)
def zJV : Nat × Nat × Nat × Nat := (342, 343, 47, 344)
abbrev zHost : String := "FieldMixtures"
