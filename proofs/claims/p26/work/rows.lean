section
/-! ===== the skeleton's and the printed names, then tables for the abstract machine (printed by wip/whole/gen1.py) ===== -/
-- ===== PART A: goes FIRST, ahead of the names: the tables' words, and 'selects' of the private methods out of them =====
/-- a private method of a class that the tables say can be made, by its rows of tables_1 -/
def lw_okq (q : MethodName × Nat) : Prop := (q.1.cls ≠ "java/lang/invoke/MethodHandle" ∧ q.1.cls ≠ "java/lang/invoke/VarHandle") ∧ Cond.instantiable q.1.cls q.2 ∈ tables_1 ∧ Cond.privateMethod q.1 ∈ tables_1 ∧ Cond.instanceMethod q.1 ∈ tables_1
theorem lw_p0 : lw_okq (⟨"FieldMixtures$Contest", "startWith", "(I)V"⟩, 5) := ⟨⟨by decide +kernel, by decide +kernel⟩, List.mem_of_getElem? (i := 21) (by decide +kernel), List.mem_of_getElem? (i := 76) (by decide +kernel), List.mem_of_getElem? (i := 77) (by decide +kernel)⟩
theorem lw_p1 : lw_okq (⟨"FieldMixtures$Side", "resetBounds", "()V"⟩, 3) := ⟨⟨by decide +kernel, by decide +kernel⟩, List.mem_of_getElem? (i := 27) (by decide +kernel), List.mem_of_getElem? (i := 80) (by decide +kernel), List.mem_of_getElem? (i := 81) (by decide +kernel)⟩
theorem lw_p2 : lw_okq (⟨"FieldMixtures$Contest", "side", "(I)LFieldMixtures$Side;"⟩, 5) := ⟨⟨by decide +kernel, by decide +kernel⟩, List.mem_of_getElem? (i := 21) (by decide +kernel), List.mem_of_getElem? (i := 261) (by decide +kernel), List.mem_of_getElem? (i := 262) (by decide +kernel)⟩
theorem lw_p3 : lw_okq (⟨"FieldMixtures$Contest", "sumOfValues", "()I"⟩, 5) := ⟨⟨by decide +kernel, by decide +kernel⟩, List.mem_of_getElem? (i := 21) (by decide +kernel), List.mem_of_getElem? (i := 265) (by decide +kernel), List.mem_of_getElem? (i := 266) (by decide +kernel)⟩
theorem lw_p4 : lw_okq (⟨"FieldMixtures$Mixture", "weight", "()I"⟩, 3) := ⟨⟨by decide +kernel, by decide +kernel⟩, List.mem_of_getElem? (i := 33) (by decide +kernel), List.mem_of_getElem? (i := 269) (by decide +kernel), List.mem_of_getElem? (i := 270) (by decide +kernel)⟩
theorem lw_p5 : lw_okq (⟨"FieldMixtures$History", "restoreLatest", "(LFieldMixtures$Contest;)V"⟩, 2) := ⟨⟨by decide +kernel, by decide +kernel⟩, List.mem_of_getElem? (i := 106) (by decide +kernel), List.mem_of_getElem? (i := 279) (by decide +kernel), List.mem_of_getElem? (i := 280) (by decide +kernel)⟩
theorem lw_p6 : lw_okq (⟨"FieldMixtures$Contest", "copyFrom", "(LFieldMixtures$Contest;)V"⟩, 5) := ⟨⟨by decide +kernel, by decide +kernel⟩, List.mem_of_getElem? (i := 21) (by decide +kernel), List.mem_of_getElem? (i := 283) (by decide +kernel), List.mem_of_getElem? (i := 284) (by decide +kernel)⟩
theorem lw_p7 : lw_okq (⟨"FieldMixtures$Side", "copyFrom", "(LFieldMixtures$Side;)V"⟩, 3) := ⟨⟨by decide +kernel, by decide +kernel⟩, List.mem_of_getElem? (i := 27) (by decide +kernel), List.mem_of_getElem? (i := 287) (by decide +kernel), List.mem_of_getElem? (i := 288) (by decide +kernel)⟩
theorem lw_p8 : lw_okq (⟨"FieldMixtures$Mixture", "copyFrom", "(LFieldMixtures$Mixture;)V"⟩, 3) := ⟨⟨by decide +kernel, by decide +kernel⟩, List.mem_of_getElem? (i := 33) (by decide +kernel), List.mem_of_getElem? (i := 291) (by decide +kernel), List.mem_of_getElem? (i := 292) (by decide +kernel)⟩
theorem lw_p9 : lw_okq (⟨"FieldMixtures$Scores", "measure", "(LFieldMixtures$Contest;I)V"⟩, 3) := ⟨⟨by decide +kernel, by decide +kernel⟩, List.mem_of_getElem? (i := 140) (by decide +kernel), List.mem_of_getElem? (i := 317) (by decide +kernel), List.mem_of_getElem? (i := 318) (by decide +kernel)⟩
theorem lw_p10 : lw_okq (⟨"FieldMixtures$Contest", "amountIn", "(II)I"⟩, 5) := ⟨⟨by decide +kernel, by decide +kernel⟩, List.mem_of_getElem? (i := 21) (by decide +kernel), List.mem_of_getElem? (i := 326) (by decide +kernel), List.mem_of_getElem? (i := 327) (by decide +kernel)⟩
theorem lw_p11 : lw_okq (⟨"FieldMixtures$Contest", "outcome", "(III)I"⟩, 5) := ⟨⟨by decide +kernel, by decide +kernel⟩, List.mem_of_getElem? (i := 21) (by decide +kernel), List.mem_of_getElem? (i := 330) (by decide +kernel), List.mem_of_getElem? (i := 331) (by decide +kernel)⟩
theorem lw_p12 : lw_okq (⟨"FieldMixtures$Scores", "of", "(I)I"⟩, 3) := ⟨⟨by decide +kernel, by decide +kernel⟩, List.mem_of_getElem? (i := 140) (by decide +kernel), List.mem_of_getElem? (i := 334) (by decide +kernel), List.mem_of_getElem? (i := 335) (by decide +kernel)⟩
theorem lw_p13 : lw_okq (⟨"FieldMixtures", "freshList", "(I)LFieldMixtures$AllocationList;"⟩, 10) := ⟨⟨by decide +kernel, by decide +kernel⟩, List.mem_of_getElem? (i := 13) (by decide +kernel), List.mem_of_getElem? (i := 358) (by decide +kernel), List.mem_of_getElem? (i := 359) (by decide +kernel)⟩
theorem lw_p14 : lw_okq (⟨"FieldMixtures$AllocationList", "fill", "(LFieldMixtures$Side;I)V"⟩, 2) := ⟨⟨by decide +kernel, by decide +kernel⟩, List.mem_of_getElem? (i := 123) (by decide +kernel), List.mem_of_getElem? (i := 362) (by decide +kernel), List.mem_of_getElem? (i := 363) (by decide +kernel)⟩
theorem lw_p15 : lw_okq (⟨"FieldMixtures$Side", "allows", "(II)Z"⟩, 3) := ⟨⟨by decide +kernel, by decide +kernel⟩, List.mem_of_getElem? (i := 27) (by decide +kernel), List.mem_of_getElem? (i := 366) (by decide +kernel), List.mem_of_getElem? (i := 367) (by decide +kernel)⟩
def lw_privs_1 : List (MethodName × Nat) := [(⟨"FieldMixtures$Contest", "startWith", "(I)V"⟩, 5), (⟨"FieldMixtures$Side", "resetBounds", "()V"⟩, 3), (⟨"FieldMixtures$Contest", "side", "(I)LFieldMixtures$Side;"⟩, 5), (⟨"FieldMixtures$Contest", "sumOfValues", "()I"⟩, 5), (⟨"FieldMixtures$Mixture", "weight", "()I"⟩, 3), (⟨"FieldMixtures$History", "restoreLatest", "(LFieldMixtures$Contest;)V"⟩, 2), (⟨"FieldMixtures$Contest", "copyFrom", "(LFieldMixtures$Contest;)V"⟩, 5), (⟨"FieldMixtures$Side", "copyFrom", "(LFieldMixtures$Side;)V"⟩, 3), (⟨"FieldMixtures$Mixture", "copyFrom", "(LFieldMixtures$Mixture;)V"⟩, 3), (⟨"FieldMixtures$Scores", "measure", "(LFieldMixtures$Contest;I)V"⟩, 3), (⟨"FieldMixtures$Contest", "amountIn", "(II)I"⟩, 5), (⟨"FieldMixtures$Contest", "outcome", "(III)I"⟩, 5), (⟨"FieldMixtures$Scores", "of", "(I)I"⟩, 3), (⟨"FieldMixtures", "freshList", "(I)LFieldMixtures$AllocationList;"⟩, 10), (⟨"FieldMixtures$AllocationList", "fill", "(LFieldMixtures$Side;I)V"⟩, 2), (⟨"FieldMixtures$Side", "allows", "(II)Z"⟩, 3)]
theorem lw_r1 : ∀ q ∈ lw_privs_1, lw_okq q := List.forall_mem_cons.mpr ⟨lw_p0, List.forall_mem_cons.mpr ⟨lw_p1, List.forall_mem_cons.mpr ⟨lw_p2, List.forall_mem_cons.mpr ⟨lw_p3, List.forall_mem_cons.mpr ⟨lw_p4, List.forall_mem_cons.mpr ⟨lw_p5, List.forall_mem_cons.mpr ⟨lw_p6, List.forall_mem_cons.mpr ⟨lw_p7, List.forall_mem_cons.mpr ⟨lw_p8, List.forall_mem_cons.mpr ⟨lw_p9, List.forall_mem_cons.mpr ⟨lw_p10, List.forall_mem_cons.mpr ⟨lw_p11, List.forall_mem_cons.mpr ⟨lw_p12, List.forall_mem_cons.mpr ⟨lw_p13, List.forall_mem_cons.mpr ⟨lw_p14, List.forall_mem_cons.mpr ⟨lw_p15, fun _ h => absurd h List.not_mem_nil⟩⟩⟩⟩⟩⟩⟩⟩⟩⟩⟩⟩⟩⟩⟩⟩
theorem lw_p16 : lw_okq (⟨"FieldMixtures$Contest", "hasField", "(I)Z"⟩, 5) := ⟨⟨by decide +kernel, by decide +kernel⟩, List.mem_of_getElem? (i := 21) (by decide +kernel), List.mem_of_getElem? (i := 375) (by decide +kernel), List.mem_of_getElem? (i := 376) (by decide +kernel)⟩
theorem lw_p17 : lw_okq (⟨"FieldMixtures$Contest", "allows", "(II)Z"⟩, 5) := ⟨⟨by decide +kernel, by decide +kernel⟩, List.mem_of_getElem? (i := 21) (by decide +kernel), List.mem_of_getElem? (i := 393) (by decide +kernel), List.mem_of_getElem? (i := 394) (by decide +kernel)⟩
theorem lw_p18 : lw_okq (⟨"FieldMixtures$Contest", "gainOf", "(III)I"⟩, 5) := ⟨⟨by decide +kernel, by decide +kernel⟩, List.mem_of_getElem? (i := 21) (by decide +kernel), List.mem_of_getElem? (i := 399) (by decide +kernel), List.mem_of_getElem? (i := 400) (by decide +kernel)⟩
theorem lw_p19 : lw_okq (⟨"FieldMixtures$Contest", "lacksMixture", "()Z"⟩, 5) := ⟨⟨by decide +kernel, by decide +kernel⟩, List.mem_of_getElem? (i := 21) (by decide +kernel), List.mem_of_getElem? (i := 408) (by decide +kernel), List.mem_of_getElem? (i := 409) (by decide +kernel)⟩
theorem lw_p20 : lw_okq (⟨"FieldMixtures$Scores", "ofMixture", "(LFieldMixtures$Mixture;)I"⟩, 3) := ⟨⟨by decide +kernel, by decide +kernel⟩, List.mem_of_getElem? (i := 140) (by decide +kernel), List.mem_of_getElem? (i := 412) (by decide +kernel), List.mem_of_getElem? (i := 413) (by decide +kernel)⟩
theorem lw_p21 : lw_okq (⟨"FieldMixtures$Mixture", "hasRoomFor", "(I)Z"⟩, 3) := ⟨⟨by decide +kernel, by decide +kernel⟩, List.mem_of_getElem? (i := 33) (by decide +kernel), List.mem_of_getElem? (i := 424) (by decide +kernel), List.mem_of_getElem? (i := 425) (by decide +kernel)⟩
theorem lw_p22 : lw_okq (⟨"FieldMixtures$Mixture", "weightOf", "(I)I"⟩, 3) := ⟨⟨by decide +kernel, by decide +kernel⟩, List.mem_of_getElem? (i := 33) (by decide +kernel), List.mem_of_getElem? (i := 428) (by decide +kernel), List.mem_of_getElem? (i := 429) (by decide +kernel)⟩
theorem lw_p23 : lw_okq (⟨"FieldMixtures$Mixture", "placeOf", "(I)I"⟩, 3) := ⟨⟨by decide +kernel, by decide +kernel⟩, List.mem_of_getElem? (i := 33) (by decide +kernel), List.mem_of_getElem? (i := 432) (by decide +kernel), List.mem_of_getElem? (i := 433) (by decide +kernel)⟩
theorem lw_p24 : lw_okq (⟨"FieldMixtures$Mixture", "standsAt", "(II)Z"⟩, 3) := ⟨⟨by decide +kernel, by decide +kernel⟩, List.mem_of_getElem? (i := 33) (by decide +kernel), List.mem_of_getElem? (i := 436) (by decide +kernel), List.mem_of_getElem? (i := 437) (by decide +kernel)⟩
theorem lw_p25 : lw_okq (⟨"FieldMixtures$History", "record", "(LFieldMixtures$Contest;)V"⟩, 2) := ⟨⟨by decide +kernel, by decide +kernel⟩, List.mem_of_getElem? (i := 106) (by decide +kernel), List.mem_of_getElem? (i := 442) (by decide +kernel), List.mem_of_getElem? (i := 443) (by decide +kernel)⟩
theorem lw_p26 : lw_okq (⟨"FieldMixtures$History", "dropOldest", "()V"⟩, 2) := ⟨⟨by decide +kernel, by decide +kernel⟩, List.mem_of_getElem? (i := 106) (by decide +kernel), List.mem_of_getElem? (i := 446) (by decide +kernel), List.mem_of_getElem? (i := 447) (by decide +kernel)⟩
theorem lw_p27 : lw_okq (⟨"FieldMixtures$Mixture", "setWeight", "(II)V"⟩, 3) := ⟨⟨by decide +kernel, by decide +kernel⟩, List.mem_of_getElem? (i := 33) (by decide +kernel), List.mem_of_getElem? (i := 450) (by decide +kernel), List.mem_of_getElem? (i := 451) (by decide +kernel)⟩
theorem lw_p28 : lw_okq (⟨"FieldMixtures$Mixture", "openGap", "(I)V"⟩, 3) := ⟨⟨by decide +kernel, by decide +kernel⟩, List.mem_of_getElem? (i := 33) (by decide +kernel), List.mem_of_getElem? (i := 454) (by decide +kernel), List.mem_of_getElem? (i := 455) (by decide +kernel)⟩
theorem lw_p29 : lw_okq (⟨"FieldMixtures$Mixture", "remove", "(I)V"⟩, 3) := ⟨⟨by decide +kernel, by decide +kernel⟩, List.mem_of_getElem? (i := 33) (by decide +kernel), List.mem_of_getElem? (i := 464) (by decide +kernel), List.mem_of_getElem? (i := 465) (by decide +kernel)⟩
theorem lw_p30 : lw_okq (⟨"FieldMixtures", "playRoundInDraft", "(LFieldMixtures$AllocationList;LFieldMixtures$AllocationList;)Z"⟩, 10) := ⟨⟨by decide +kernel, by decide +kernel⟩, List.mem_of_getElem? (i := 13) (by decide +kernel), List.mem_of_getElem? (i := 473) (by decide +kernel), List.mem_of_getElem? (i := 474) (by decide +kernel)⟩
theorem lw_p31 : lw_okq (⟨"FieldMixtures$BestReply", "find", "(LFieldMixtures$AllocationList;LFieldMixtures$Scores;)V"⟩, 3) := ⟨⟨by decide +kernel, by decide +kernel⟩, List.mem_of_getElem? (i := 159) (by decide +kernel), List.mem_of_getElem? (i := 477) (by decide +kernel), List.mem_of_getElem? (i := 478) (by decide +kernel)⟩
def lw_privs_2 : List (MethodName × Nat) := [(⟨"FieldMixtures$Contest", "hasField", "(I)Z"⟩, 5), (⟨"FieldMixtures$Contest", "allows", "(II)Z"⟩, 5), (⟨"FieldMixtures$Contest", "gainOf", "(III)I"⟩, 5), (⟨"FieldMixtures$Contest", "lacksMixture", "()Z"⟩, 5), (⟨"FieldMixtures$Scores", "ofMixture", "(LFieldMixtures$Mixture;)I"⟩, 3), (⟨"FieldMixtures$Mixture", "hasRoomFor", "(I)Z"⟩, 3), (⟨"FieldMixtures$Mixture", "weightOf", "(I)I"⟩, 3), (⟨"FieldMixtures$Mixture", "placeOf", "(I)I"⟩, 3), (⟨"FieldMixtures$Mixture", "standsAt", "(II)Z"⟩, 3), (⟨"FieldMixtures$History", "record", "(LFieldMixtures$Contest;)V"⟩, 2), (⟨"FieldMixtures$History", "dropOldest", "()V"⟩, 2), (⟨"FieldMixtures$Mixture", "setWeight", "(II)V"⟩, 3), (⟨"FieldMixtures$Mixture", "openGap", "(I)V"⟩, 3), (⟨"FieldMixtures$Mixture", "remove", "(I)V"⟩, 3), (⟨"FieldMixtures", "playRoundInDraft", "(LFieldMixtures$AllocationList;LFieldMixtures$AllocationList;)Z"⟩, 10), (⟨"FieldMixtures$BestReply", "find", "(LFieldMixtures$AllocationList;LFieldMixtures$Scores;)V"⟩, 3)]
theorem lw_r2 : ∀ q ∈ lw_privs_2, lw_okq q := List.forall_mem_cons.mpr ⟨lw_p16, List.forall_mem_cons.mpr ⟨lw_p17, List.forall_mem_cons.mpr ⟨lw_p18, List.forall_mem_cons.mpr ⟨lw_p19, List.forall_mem_cons.mpr ⟨lw_p20, List.forall_mem_cons.mpr ⟨lw_p21, List.forall_mem_cons.mpr ⟨lw_p22, List.forall_mem_cons.mpr ⟨lw_p23, List.forall_mem_cons.mpr ⟨lw_p24, List.forall_mem_cons.mpr ⟨lw_p25, List.forall_mem_cons.mpr ⟨lw_p26, List.forall_mem_cons.mpr ⟨lw_p27, List.forall_mem_cons.mpr ⟨lw_p28, List.forall_mem_cons.mpr ⟨lw_p29, List.forall_mem_cons.mpr ⟨lw_p30, List.forall_mem_cons.mpr ⟨lw_p31, fun _ h => absurd h List.not_mem_nil⟩⟩⟩⟩⟩⟩⟩⟩⟩⟩⟩⟩⟩⟩⟩⟩
theorem lw_p32 : lw_okq (⟨"FieldMixtures$Mixture", "addOne", "(I)Z"⟩, 3) := ⟨⟨by decide +kernel, by decide +kernel⟩, List.mem_of_getElem? (i := 33) (by decide +kernel), List.mem_of_getElem? (i := 482) (by decide +kernel), List.mem_of_getElem? (i := 483) (by decide +kernel)⟩
theorem lw_p33 : lw_okq (⟨"FieldMixtures", "changeToDraft", "()V"⟩, 10) := ⟨⟨by decide +kernel, by decide +kernel⟩, List.mem_of_getElem? (i := 13) (by decide +kernel), List.mem_of_getElem? (i := 488) (by decide +kernel), List.mem_of_getElem? (i := 489) (by decide +kernel)⟩
theorem lw_p34 : lw_okq (⟨"FieldMixtures$Contest", "sizeOfMixtures", "()I"⟩, 5) := ⟨⟨by decide +kernel, by decide +kernel⟩, List.mem_of_getElem? (i := 21) (by decide +kernel), List.mem_of_getElem? (i := 492) (by decide +kernel), List.mem_of_getElem? (i := 493) (by decide +kernel)⟩
theorem lw_p35 : lw_okq (⟨"FieldMixtures$Side", "dropWhatIsNotAllowed", "(I)V"⟩, 3) := ⟨⟨by decide +kernel, by decide +kernel⟩, List.mem_of_getElem? (i := 27) (by decide +kernel), List.mem_of_getElem? (i := 504) (by decide +kernel), List.mem_of_getElem? (i := 505) (by decide +kernel)⟩
theorem lw_p36 : lw_okq (⟨"FieldMixtures$Text", "clear", "()V"⟩, 2) := ⟨⟨by decide +kernel, by decide +kernel⟩, List.mem_of_getElem? (i := 176) (by decide +kernel), List.mem_of_getElem? (i := 530) (by decide +kernel), List.mem_of_getElem? (i := 531) (by decide +kernel)⟩
theorem lw_p37 : lw_okq (⟨"FieldMixtures$Text", "append", "(I)V"⟩, 2) := ⟨⟨by decide +kernel, by decide +kernel⟩, List.mem_of_getElem? (i := 176) (by decide +kernel), List.mem_of_getElem? (i := 538) (by decide +kernel), List.mem_of_getElem? (i := 539) (by decide +kernel)⟩
theorem lw_p38 : lw_okq (⟨"FieldMixtures$TextReader", "readInto", "(LFieldMixtures$Contest;LFieldMixtures$Text;)V"⟩, 7) := ⟨⟨by decide +kernel, by decide +kernel⟩, List.mem_of_getElem? (i := 192) (by decide +kernel), List.mem_of_getElem? (i := 549) (by decide +kernel), List.mem_of_getElem? (i := 550) (by decide +kernel)⟩
theorem lw_p39 : lw_okq (⟨"FieldMixtures$TextReader", "readPart", "(LFieldMixtures$Contest;LFieldMixtures$Text;)I"⟩, 7) := ⟨⟨by decide +kernel, by decide +kernel⟩, List.mem_of_getElem? (i := 192) (by decide +kernel), List.mem_of_getElem? (i := 553) (by decide +kernel), List.mem_of_getElem? (i := 554) (by decide +kernel)⟩
theorem lw_p40 : lw_okq (⟨"FieldMixtures$TextReader", "readForm", "(LFieldMixtures$Text;I)Z"⟩, 7) := ⟨⟨by decide +kernel, by decide +kernel⟩, List.mem_of_getElem? (i := 192) (by decide +kernel), List.mem_of_getElem? (i := 557) (by decide +kernel), List.mem_of_getElem? (i := 558) (by decide +kernel)⟩
theorem lw_p41 : lw_okq (⟨"FieldMixtures$Text", "signAt", "(I)I"⟩, 2) := ⟨⟨by decide +kernel, by decide +kernel⟩, List.mem_of_getElem? (i := 176) (by decide +kernel), List.mem_of_getElem? (i := 561) (by decide +kernel), List.mem_of_getElem? (i := 562) (by decide +kernel)⟩
theorem lw_p42 : lw_okq (⟨"FieldMixtures$TextReader", "readSign", "(LFieldMixtures$Text;C)Z"⟩, 7) := ⟨⟨by decide +kernel, by decide +kernel⟩, List.mem_of_getElem? (i := 192) (by decide +kernel), List.mem_of_getElem? (i := 566) (by decide +kernel), List.mem_of_getElem? (i := 567) (by decide +kernel)⟩
theorem lw_p43 : lw_okq (⟨"FieldMixtures$TextReader", "readAllocation", "(LFieldMixtures$Text;I)Z"⟩, 7) := ⟨⟨by decide +kernel, by decide +kernel⟩, List.mem_of_getElem? (i := 192) (by decide +kernel), List.mem_of_getElem? (i := 570) (by decide +kernel), List.mem_of_getElem? (i := 571) (by decide +kernel)⟩
theorem lw_p44 : lw_okq (⟨"FieldMixtures$TextReader", "hasDigit", "(LFieldMixtures$Text;)Z"⟩, 7) := ⟨⟨by decide +kernel, by decide +kernel⟩, List.mem_of_getElem? (i := 192) (by decide +kernel), List.mem_of_getElem? (i := 574) (by decide +kernel), List.mem_of_getElem? (i := 575) (by decide +kernel)⟩
theorem lw_p45 : lw_okq (⟨"FieldMixtures$TextReader", "readDigit", "(LFieldMixtures$Text;)I"⟩, 7) := ⟨⟨by decide +kernel, by decide +kernel⟩, List.mem_of_getElem? (i := 192) (by decide +kernel), List.mem_of_getElem? (i := 579) (by decide +kernel), List.mem_of_getElem? (i := 580) (by decide +kernel)⟩
theorem lw_p46 : lw_okq (⟨"FieldMixtures$TextReader", "readWeight", "(LFieldMixtures$Text;)Z"⟩, 7) := ⟨⟨by decide +kernel, by decide +kernel⟩, List.mem_of_getElem? (i := 192) (by decide +kernel), List.mem_of_getElem? (i := 583) (by decide +kernel), List.mem_of_getElem? (i := 584) (by decide +kernel)⟩
def lw_privs_3 : List (MethodName × Nat) := [(⟨"FieldMixtures$Mixture", "addOne", "(I)Z"⟩, 3), (⟨"FieldMixtures", "changeToDraft", "()V"⟩, 10), (⟨"FieldMixtures$Contest", "sizeOfMixtures", "()I"⟩, 5), (⟨"FieldMixtures$Side", "dropWhatIsNotAllowed", "(I)V"⟩, 3), (⟨"FieldMixtures$Text", "clear", "()V"⟩, 2), (⟨"FieldMixtures$Text", "append", "(I)V"⟩, 2), (⟨"FieldMixtures$TextReader", "readInto", "(LFieldMixtures$Contest;LFieldMixtures$Text;)V"⟩, 7), (⟨"FieldMixtures$TextReader", "readPart", "(LFieldMixtures$Contest;LFieldMixtures$Text;)I"⟩, 7), (⟨"FieldMixtures$TextReader", "readForm", "(LFieldMixtures$Text;I)Z"⟩, 7), (⟨"FieldMixtures$Text", "signAt", "(I)I"⟩, 2), (⟨"FieldMixtures$TextReader", "readSign", "(LFieldMixtures$Text;C)Z"⟩, 7), (⟨"FieldMixtures$TextReader", "readAllocation", "(LFieldMixtures$Text;I)Z"⟩, 7), (⟨"FieldMixtures$TextReader", "hasDigit", "(LFieldMixtures$Text;)Z"⟩, 7), (⟨"FieldMixtures$TextReader", "readDigit", "(LFieldMixtures$Text;)I"⟩, 7), (⟨"FieldMixtures$TextReader", "readWeight", "(LFieldMixtures$Text;)Z"⟩, 7)]
theorem lw_r3 : ∀ q ∈ lw_privs_3, lw_okq q := List.forall_mem_cons.mpr ⟨lw_p32, List.forall_mem_cons.mpr ⟨lw_p33, List.forall_mem_cons.mpr ⟨lw_p34, List.forall_mem_cons.mpr ⟨lw_p35, List.forall_mem_cons.mpr ⟨lw_p36, List.forall_mem_cons.mpr ⟨lw_p37, List.forall_mem_cons.mpr ⟨lw_p38, List.forall_mem_cons.mpr ⟨lw_p39, List.forall_mem_cons.mpr ⟨lw_p40, List.forall_mem_cons.mpr ⟨lw_p41, List.forall_mem_cons.mpr ⟨lw_p42, List.forall_mem_cons.mpr ⟨lw_p43, List.forall_mem_cons.mpr ⟨lw_p44, List.forall_mem_cons.mpr ⟨lw_p45, List.forall_mem_cons.mpr ⟨lw_p46, fun _ h => absurd h List.not_mem_nil⟩⟩⟩⟩⟩⟩⟩⟩⟩⟩⟩⟩⟩⟩⟩
def lw_privs : List (MethodName × Nat) := lw_privs_1 ++ (lw_privs_2 ++ (lw_privs_3))
def lw_tbl : List Cond := k2_sels lw_privs ++ tables_1
theorem lw_privs_ok : ∀ q ∈ lw_privs, lw_okq q := by
  show ∀ q ∈ lw_privs_1 ++ (lw_privs_2 ++ (lw_privs_3)), lw_okq q
  exact List.forall_mem_append.mpr ⟨lw_r1, List.forall_mem_append.mpr ⟨lw_r2, lw_r3⟩⟩

/-- an array class over arrays of ty, as the tables say it -/
def va_AOA (ty : FieldType) (U : State) : Prop := (Jvm.Cond.arrayOver (.array ty)).before #[] U = true
theorem va_AOA.use {ty : FieldType} {A : Array Value} {U : State} (h : va_AOA ty U) : (Jvm.Cond.arrayOver (.array ty)).before A U = true := h
/-! ===== BEGIN new T[n][m]: the outer array a place, the inner ones among the pooled ===== -/
/-- f, but v at every address of l -/
def vr_up {α : Type} (f : Nat → α) (l : List Nat) (v : α) : Nat → α := fun a => if a ∈ l then v else f a
theorem vr_up_in {α : Type} {f : Nat → α} {l : List Nat} {v : α} {a : Nat} (h : a ∈ l) : vr_up f l v a = v := if_pos h
theorem vr_up_ne {α : Type} {f : Nat → α} {l : List Nat} {v : α} {a : Nat} (h : a ∉ l) : vr_up f l v a = f a := if_neg h
theorem vr_rows {L l : List Nat} {f : Nat → va_E} {e : va_E} (h : ∀ a, a ∈ l → a ∉ L) : va_pl L f ++ l.map (fun a => (a, e)) = va_pl (L ++ l) (vr_up f l e) := by
  unfold va_pl
  rw [List.map_append]
  congr 1
  · apply List.map_congr_left
    intro a ha
    rw [vr_up_ne (fun q => h a q ha)]
  · apply List.map_congr_left
    intro a ha
    rw [vr_up_in ha]
theorem vr_lay {X rows : va_W} {x : Nat × va_E} {pl : va_W} {D : va_G} {cl : List vw_C} {H : Heap} (hP : va_P D cl (((X ++ pl) ++ [x]) ++ rows) H) : va_P D cl ((X ++ [x]) ++ (pl ++ rows)) H := by
  rw [List.append_assoc (X ++ pl)] at hP
  have h := va_P.swap hP
  rw [← List.append_assoc X] at h
  have h2 := va_P.swap h
  rw [List.append_assoc (X ++ [x])] at h2
  exact h2
theorem vr_layD {X rows : va_W} {x : Nat × va_E} {pl : va_W} {A : Nat → Prop} (hD : va_D A (((X ++ pl) ++ [x]) ++ rows)) : va_D A ((X ++ [x]) ++ (pl ++ rows)) := by
  rw [List.append_assoc (X ++ pl)] at hD
  have h := va_D.swap hD
  rw [← List.append_assoc X] at h
  have h2 := va_D.swap h
  rw [List.append_assoc (X ++ [x])] at h2
  exact h2
theorem vr_outer (c : ClassId) (N h0 : Nat) : ∀ i : Nat, Jvm.Free.Multi.outerC c N h0 i = arrV c N (fun j => va_rf (if j < i then some (h0 + 1 + j) else none))
  | 0 => by
    show ({ cls := c, slots := Array.replicate N .null, vm := .none } : Cell) = _
    rw [arrV_new]
    refine congrArg (arrV c N) (funext fun j => ?_)
    simp [va_rf]
  | i + 1 => by
    show (Jvm.Free.Multi.outerC c N h0 i).setSlot i (.ref (h0 + 1 + i)) = _
    rw [vr_outer c N h0 i, arrV_store]
    refine congrArg (arrV c N) (funext fun j => ?_)
    by_cases e : j = i
    · subst e
      simp [updV, va_rf]
    · by_cases h : j < i
      · simp [updV, e, h, Nat.lt_succ_of_lt h]
      · simp [updV, e, h, show ¬ j < i + 1 by omega]
section VGM
variable {p : Program} {l : Launch} {e : Env} {R : Room} {s : State} {m : MethodId} {args : Array Value} {below : List Frame} {meth : Method} {c : Code} {H : Heap} {locs : List Loc} {cells slots : Nat} {Q : State → Prop}
variable {cc : ByteArray} {pc : Nat} {ls : Array Slot} {rest : List Value} {D : va_G} {cl : List vw_C} {A : Nat → Prop} {a : Nat} {tys : List (ClassId × FieldType)} {ws : va_W} {H0 : Heap}
theorem va_mna {X : va_W} {L : List Nat} {f : Nat → va_E} {cc : ByteArray} (hexec : p.tables.exec = Jvm.exec) (hb : c.code = cc) {own : String} {index : Nat} {ty : FieldType} {cy : ClassId} (hown : s.vm.findClass own = some m.cls) (hclink : (Cond.classLink own index ("[" ++ (FieldType.array ty).toString)).before args s = true) (hover : va_AOA ty s) (harr : (Cond.arrayClass ty).before args s = true) (hcy : s.vm.findClass (FieldType.array ty).toString = some cy)
    (hK : va_K D cl tys s) (hP : va_P D cl (X ++ va_pl L f) H) (hD : va_D A (X ++ va_pl L f)) (hS : va_S A H0 H locs) (hA : ∀ q, H0.size ≤ q → A q) {n k : Int32} {N' K' : Nat} {z : vp_A} (hn : ¬ n < 0) (hk : ¬ k < 0) (hN : n.toNatClampNeg = N') (hM : k.toNatClampNeg = K')
    (hb1 : N' * 4 ≤ 536870912) (hb2 : K' * componentBytes ty ≤ 536870912) (hb3 : K' ≤ 536870912) (hdf : fits ty (defaultValue ty) = true) (hdd : (defaultValue ty).isDefault = true) (hcells : cells + (1 + N') ≤ R.cells) (hslots : slots + (N' + N' * K') ≤ R.slots) (hz : ∀ c : ClassId, Jvm.Free.Multi.innerC c K' (defaultValue ty) = vp_cell c z) (hdg : decode cc pc = .ok (.multianewarray index 2, 4))
    (kk : ∀ (q : Nat) (r : Nat → Nat) (cA : ClassId) (H1 : Heap), (∀ i j : Nat, i < N' → j < N' → r i = r j → i = j) → (∀ i : Nat, i < N' → r i ∉ L) → va_K D cl (tys ++ [(cA, .array ty)]) s →
      va_P D cl ((X ++ [(q, .inl (cA, N', .inr (.inr (.inr (.inr (fun i => if i < N' then some (r i) else none))))))]) ++ va_pl (L ++ (List.range N').map r) (vr_up f ((List.range N').map r) (.inl (cy, z)))) H1 → va_D A ((X ++ [(q, .inl (cA, N', .inr (.inr (.inr (.inr (fun i => if i < N' then some (r i) else none))))))]) ++ va_pl (L ++ (List.range N').map r) (vr_up f ((List.range N').map r) (.inl (cy, z)))) → va_S A H0 H1 locs →
      W p l e R s m args below meth c H1 locs (cells + 1 + N') (slots + N' + N' * K') Q (F0 m (pc + 4) ls (.ref q :: rest))) : W p l e R s m args below meth c H locs cells slots Q (F0 m pc ls (.int k :: .int n :: rest)) := by
  subst hN
  subst hM
  intro T hT Xs
  obtain ⟨vm₁, cA, comp, -, fA, fC, hO, -, X', step⟩ := Xs.multianewarray2F hexec hown hclink (va_AOA.use hover) harr (g := F0 m pc ls (.int k :: .int n :: rest)) rfl (by rw [hb]; exact hdg) rfl hn hk hb1 hb2 hb3 hdf hdd hcells hslots
  have ec : some cy = some comp := hcy.symm.trans fC
  cases ec
  generalize hF : Jvm.Free.Multi.fill (T.setVm vm₁) cA cy n.toNatClampNeg k.toNatClampNeg (defaultValue ty) n.toNatClampNeg = F at X' step
  have hTh : (T.setVm vm₁).heap = H := hT
  obtain ⟨f1, f2, -, -⟩ := Jvm.Free.Multi.fill_facts (T.setVm vm₁) cA cy n.toNatClampNeg k.toNatClampNeg (defaultValue ty) n.toNatClampNeg
  rw [hF, hTh] at f1 f2
  have hold : ∀ x : Nat, x < H.size → F.heap[x]? = H[x]? := fun x hx => by
    have := Jvm.Free.Multi.fill_old (T.setVm vm₁) cA cy n.toNatClampNeg k.toNatClampNeg (defaultValue ty) (a := x) (by rw [hTh]; exact hx) n.toNatClampNeg
    rw [hF, hTh] at this
    exact this
  have hrow : ∀ j : Nat, j < n.toNatClampNeg → F.heap[H.size + 1 + j]? = some (vp_cell cy z) := fun j hj => by
    have := Jvm.Free.Multi.fill_inner (T.setVm vm₁) cA cy n.toNatClampNeg k.toNatClampNeg (defaultValue ty) n.toNatClampNeg j hj
    rw [hF, hTh, hz] at this
    exact this
  have hout : Jvm.Free.Multi.outerC cA n.toNatClampNeg H.size n.toNatClampNeg = vp_cell cA (n.toNatClampNeg, .inr (.inr (.inr (.inr (fun i => if i < n.toNatClampNeg then some (H.size + 1 + i) else none))))) := by
    rw [vp_cell_q]
    exact vr_outer cA n.toNatClampNeg H.size n.toNatClampNeg
  rw [hout] at f2
  have hlt : ∀ a, a ∈ L → a < H.size := fun a ha => by
    obtain ⟨k9, hk9⟩ := va_pl_get (X := X) (f := f) ha
    exact (hP k9 _ hk9).lt
  have hnl : ∀ i : Nat, i < n.toNatClampNeg → H.size + 1 + i ∉ L := fun i _ h => by
    have := hlt _ h
    omega
  have hnm : ∀ a, a ∈ (List.range n.toNatClampNeg).map (fun i => H.size + 1 + i) → a ∉ L := fun a ha h => by
    obtain ⟨i, -, rfl⟩ := List.mem_map.mp ha
    have := hlt _ h
    omega
  have hP0 : va_P D cl (X ++ va_pl L f) F.heap := hP.kept (fun k9 x hx => hold x.1 ((hP k9 x hx).lt))
  have hP1 : va_P D cl ((X ++ va_pl L f) ++ [(H.size, .inl (cA, n.toNatClampNeg, .inr (.inr (.inr (.inr (fun i => if i < n.toNatClampNeg then some (H.size + 1 + i) else none))))))]) F.heap := hP0.app (fun k9 x hx => by
    have h0 : k9 < 1 := (List.getElem?_eq_some_iff.mp hx).1
    rw [show k9 = 0 by omega] at hx
    cases hx
    exact f2)
  have hP2 : va_P D cl (((X ++ va_pl L f) ++ [(H.size, .inl (cA, n.toNatClampNeg, .inr (.inr (.inr (.inr (fun i => if i < n.toNatClampNeg then some (H.size + 1 + i) else none))))))]) ++ ((List.range n.toNatClampNeg).map (fun i => H.size + 1 + i)).map (fun a => (a, .inl (cy, z)))) F.heap := hP1.app (fun k9 x hx => by
    obtain ⟨a, ha, rfl⟩ := List.mem_map.mp (List.mem_of_getElem? hx)
    obtain ⟨i, hi, rfl⟩ := List.mem_map.mp ha
    exact hrow i (List.mem_range.mp hi))
  have hD2 : va_D A (((X ++ va_pl L f) ++ [(H.size, .inl (cA, n.toNatClampNeg, .inr (.inr (.inr (.inr (fun i => if i < n.toNatClampNeg then some (H.size + 1 + i) else none))))))]) ++ ((List.range n.toNatClampNeg).map (fun i => H.size + 1 + i)).map (fun a => (a, .inl (cy, z)))) := by
    have hD1 := hD.push (e := .inl (cA, n.toNatClampNeg, .inr (.inr (.inr (.inr (fun i => if i < n.toNatClampNeg then some (H.size + 1 + i) else none)))))) hP rfl (hA _ hS.1)
    generalize hW1 : (X ++ va_pl L f) ++ [(H.size, .inl (cA, n.toNatClampNeg, .inr (.inr (.inr (.inr (fun i => if i < n.toNatClampNeg then some (H.size + 1 + i) else none))))))] = W1 at hD1 hP1 ⊢
    have hle : ∀ (k9 : Nat) (x : Nat × va_E), W1[k9]? = some x → x.1 ≤ H.size := fun k9 x hx => by
      rw [← hW1] at hx
      by_cases hl : k9 < (X ++ va_pl L f).length
      · rw [List.getElem?_append_left hl] at hx
        exact Nat.le_of_lt ((hP k9 x hx).lt)
      · rw [List.getElem?_append_right (by omega)] at hx
        have h0 : k9 - (X ++ va_pl L f).length < 1 := (List.getElem?_eq_some_iff.mp hx).1
        rw [show k9 - (X ++ va_pl L f).length = 0 by omega] at hx
        cases hx
        exact Nat.le_refl _
    have hr : ∀ (k9 : Nat) (x : Nat × va_E), (((List.range n.toNatClampNeg).map (fun i => H.size + 1 + i)).map (fun a => ((a, .inl (cy, z)) : Nat × va_E)))[k9]? = some x → x.1 = H.size + 1 + k9 := fun k9 x hx => by
      rw [List.getElem?_map, List.getElem?_map] at hx
      by_cases h9 : k9 < n.toNatClampNeg
      · rw [List.getElem?_range h9] at hx
        cases hx
        rfl
      · have hn0 : (List.range n.toNatClampNeg)[k9]? = none := List.getElem?_eq_none (by rw [List.length_range]; omega)
        rw [hn0] at hx
        cases hx
    refine ⟨fun i j x y hi hj hxy => ?_, fun k9 x hx => ?_⟩
    · by_cases h1 : i < W1.length <;> by_cases h2 : j < W1.length
      · rw [List.getElem?_append_left h1] at hi
        rw [List.getElem?_append_left h2] at hj
        exact hD1.1 i j x y hi hj hxy
      · rw [List.getElem?_append_left h1] at hi
        rw [List.getElem?_append_right (by omega)] at hj
        have := hle _ _ hi
        have := hr _ _ hj
        omega
      · rw [List.getElem?_append_right (by omega)] at hi
        rw [List.getElem?_append_left h2] at hj
        have := hle _ _ hj
        have := hr _ _ hi
        omega
      · rw [List.getElem?_append_right (by omega)] at hi hj
        have := hr _ _ hi
        have := hr _ _ hj
        omega
    · by_cases h1 : k9 < W1.length
      · rw [List.getElem?_append_left h1] at hx
        exact hD1.2 k9 x hx
      · rw [List.getElem?_append_right (by omega)] at hx
        have := hr _ _ hx
        exact hA _ (by have := hS.1; omega)
  have hAr : ArrOfT s cA (.array ty) := fun N9 z9 => by
    obtain ⟨-, k9, hk9, cm9, hkk9⟩ := (hO 0 0 0).1
    exact ⟨(fun q hq => by cases hq), k9, hk9, cm9, hkk9⟩
  have hK2 : va_K D cl (tys ++ [(cA, .array ty)]) s := ⟨hK.1, fun k9 x hx => by
    by_cases hl : k9 < tys.length
    · rw [List.getElem?_append_left hl] at hx
      exact hK.2 k9 x hx
    · rw [List.getElem?_append_right (by omega)] at hx
      have h0 : k9 - tys.length < 1 := (List.getElem?_eq_some_iff.mp hx).1
      rw [show k9 - tys.length = 0 by omega] at hx
      cases hx
      exact ⟨hAr, fA⟩⟩
  obtain ⟨t, a1, b1⟩ := kk H.size (fun i => H.size + 1 + i) cA F.heap (fun i j _ _ h => by have h9 : H.size + 1 + i = H.size + 1 + j := h; omega) hnl hK2 (by rw [← vr_rows hnm]; exact vr_lay hP2) (by rw [← vr_rows hnm]; exact vr_layD hD2) ⟨by rw [f1]; have := hS.1; omega, fun x h1 h2 => (hold x (Nat.lt_of_lt_of_le h1 hS.1)).trans (hS.2.1 x h1 h2), hS.2.2⟩ F rfl X'
  refine ⟨t, step t ?_, b1⟩
  have e : T.heap.size = H.size := by rw [hT]
  rw [e]
  exact a1
end VGM
/-! ===== END ===== -/

/-! ===== BEGIN printed: names, fields, word lists, decode rows ===== -/
def RX0 : String := "FieldMixtures$AllocationList"
def TX0 : u_T := fun k => match k with
  | 0 => ("FieldMixtures$AllocationList", "size", "I", false)
  | _ => ("FieldMixtures$AllocationList", "numbers", "[I", true)
def tyX0 : Nat → FieldType := fun k => match k with
  | 0 => .int
  | _ => .array .int
abbrev wsX00 : List Cond := u_ws RX0 TX0 2
theorem nmX0 : ∀ a, a < 2 → ∀ b, b < 2 → a ≠ b → (TX0 a).2.1 ≠ (TX0 b).2.1 := by decide +kernel
theorem tyX0_ok : ∀ k, k < 2 → parseFieldDescriptor (TX0 k).2.2.1 = some (tyX0 k) := by decide +kernel
abbrev cX0_init : ByteArray := prog_2_method_1_code
def yX0_init : MethodName := ⟨RX0, "<init>", "()V"⟩
abbrev cX0_fill : ByteArray := prog_2_method_2_code
def yX0_fill : MethodName := ⟨RX0, "fill", "(LFieldMixtures$Side;I)V"⟩
def RX1 : String := "FieldMixtures$BestReply"
def TX1 : u_T := fun k => match k with
  | 0 => ("FieldMixtures$BestReply", "allocation", "I", false)
  | 1 => ("FieldMixtures$BestReply", "score", "I", false)
  | _ => ("FieldMixtures$BestReply", "many", "I", false)
def tyX1 : Nat → FieldType := fun k => match k with
  | 0 => .int
  | 1 => .int
  | _ => .int
abbrev wsX10 : List Cond := u_ws RX1 TX1 3
theorem nmX1 : ∀ a, a < 3 → ∀ b, b < 3 → a ≠ b → (TX1 a).2.1 ≠ (TX1 b).2.1 := by decide +kernel
theorem tyX1_ok : ∀ k, k < 3 → parseFieldDescriptor (TX1 k).2.2.1 = some (tyX1 k) := by decide +kernel
abbrev cX1_init : ByteArray := prog_3_method_1_code
def yX1_init : MethodName := ⟨RX1, "<init>", "()V"⟩
abbrev cX1_find : ByteArray := prog_3_method_2_code
def yX1_find : MethodName := ⟨RX1, "find", "(LFieldMixtures$AllocationList;LFieldMixtures$Scores;)V"⟩
def RX2 : String := "FieldMixtures$Contest"
def TX2 : u_T := fun k => match k with
  | 0 => ("FieldMixtures$Contest", "fields", "I", false)
  | 1 => ("FieldMixtures$Contest", "rule", "I", false)
  | 2 => ("FieldMixtures$Contest", "values", "[I", true)
  | 3 => ("FieldMixtures$Contest", "first", "LFieldMixtures$Side;", true)
  | _ => ("FieldMixtures$Contest", "second", "LFieldMixtures$Side;", true)
def tyX2 : Nat → FieldType := fun k => match k with
  | 0 => .int
  | 1 => .int
  | 2 => .array .int
  | 3 => .object "FieldMixtures$Side"
  | _ => .object "FieldMixtures$Side"
abbrev wsX20 : List Cond := u_ws RX2 TX2 5
theorem nmX2 : ∀ a, a < 5 → ∀ b, b < 5 → a ≠ b → (TX2 a).2.1 ≠ (TX2 b).2.1 := by decide +kernel
theorem tyX2_ok : ∀ k, k < 5 → parseFieldDescriptor (TX2 k).2.2.1 = some (tyX2 k) := by decide +kernel
abbrev cX2_init : ByteArray := prog_4_method_1_code
def yX2_init : MethodName := ⟨RX2, "<init>", "()V"⟩
abbrev cX2_startWith : ByteArray := prog_4_method_2_code
def yX2_startWith : MethodName := ⟨RX2, "startWith", "(I)V"⟩
abbrev cX2_copyFrom : ByteArray := prog_4_method_3_code
def yX2_copyFrom : MethodName := ⟨RX2, "copyFrom", "(LFieldMixtures$Contest;)V"⟩
abbrev cX2_side : ByteArray := prog_4_method_4_code
def yX2_side : MethodName := ⟨RX2, "side", "(I)LFieldMixtures$Side;"⟩
abbrev cX2_hasField : ByteArray := prog_4_method_5_code
def yX2_hasField : MethodName := ⟨RX2, "hasField", "(I)Z"⟩
abbrev cX2_allows : ByteArray := prog_4_method_6_code
def yX2_allows : MethodName := ⟨RX2, "allows", "(II)Z"⟩
abbrev cX2_lacksMixture : ByteArray := prog_4_method_7_code
def yX2_lacksMixture : MethodName := ⟨RX2, "lacksMixture", "()Z"⟩
abbrev cX2_sizeOfMixtures : ByteArray := prog_4_method_8_code
def yX2_sizeOfMixtures : MethodName := ⟨RX2, "sizeOfMixtures", "()I"⟩
abbrev cX2_sumOfValues : ByteArray := prog_4_method_9_code
def yX2_sumOfValues : MethodName := ⟨RX2, "sumOfValues", "()I"⟩
abbrev cX2_amountIn : ByteArray := prog_4_method_10_code
def yX2_amountIn : MethodName := ⟨RX2, "amountIn", "(II)I"⟩
abbrev cX2_outcome : ByteArray := prog_4_method_11_code
def yX2_outcome : MethodName := ⟨RX2, "outcome", "(III)I"⟩
abbrev cX2_gainOf : ByteArray := prog_4_method_12_code
def yX2_gainOf : MethodName := ⟨RX2, "gainOf", "(III)I"⟩
def RX3 : String := "FieldMixtures$History"
def TX3 : u_T := fun k => match k with
  | 0 => ("FieldMixtures$History", "size", "I", false)
  | _ => ("FieldMixtures$History", "states", "[LFieldMixtures$Contest;", true)
def tyX3 : Nat → FieldType := fun k => match k with
  | 0 => .int
  | _ => .array (.object "FieldMixtures$Contest")
abbrev wsX30 : List Cond := u_ws RX3 TX3 2
theorem nmX3 : ∀ a, a < 2 → ∀ b, b < 2 → a ≠ b → (TX3 a).2.1 ≠ (TX3 b).2.1 := by decide +kernel
theorem tyX3_ok : ∀ k, k < 2 → parseFieldDescriptor (TX3 k).2.2.1 = some (tyX3 k) := by decide +kernel
abbrev cX3_init : ByteArray := prog_5_method_1_code
def yX3_init : MethodName := ⟨RX3, "<init>", "()V"⟩
abbrev cX3_record : ByteArray := prog_5_method_2_code
def yX3_record : MethodName := ⟨RX3, "record", "(LFieldMixtures$Contest;)V"⟩
abbrev cX3_dropOldest : ByteArray := prog_5_method_3_code
def yX3_dropOldest : MethodName := ⟨RX3, "dropOldest", "()V"⟩
abbrev cX3_restoreLatest : ByteArray := prog_5_method_4_code
def yX3_restoreLatest : MethodName := ⟨RX3, "restoreLatest", "(LFieldMixtures$Contest;)V"⟩
def RX4 : String := "FieldMixtures$Mixture"
def TX4 : u_T := fun k => match k with
  | 0 => ("FieldMixtures$Mixture", "size", "I", false)
  | 1 => ("FieldMixtures$Mixture", "allocations", "[I", true)
  | _ => ("FieldMixtures$Mixture", "weights", "[I", true)
def tyX4 : Nat → FieldType := fun k => match k with
  | 0 => .int
  | 1 => .array .int
  | _ => .array .int
abbrev wsX40 : List Cond := u_ws RX4 TX4 3
theorem nmX4 : ∀ a, a < 3 → ∀ b, b < 3 → a ≠ b → (TX4 a).2.1 ≠ (TX4 b).2.1 := by decide +kernel
theorem tyX4_ok : ∀ k, k < 3 → parseFieldDescriptor (TX4 k).2.2.1 = some (tyX4 k) := by decide +kernel
abbrev cX4_init : ByteArray := prog_6_method_1_code
def yX4_init : MethodName := ⟨RX4, "<init>", "()V"⟩
abbrev cX4_copyFrom : ByteArray := prog_6_method_2_code
def yX4_copyFrom : MethodName := ⟨RX4, "copyFrom", "(LFieldMixtures$Mixture;)V"⟩
abbrev cX4_placeOf : ByteArray := prog_6_method_3_code
def yX4_placeOf : MethodName := ⟨RX4, "placeOf", "(I)I"⟩
abbrev cX4_standsAt : ByteArray := prog_6_method_4_code
def yX4_standsAt : MethodName := ⟨RX4, "standsAt", "(II)Z"⟩
abbrev cX4_weightOf : ByteArray := prog_6_method_5_code
def yX4_weightOf : MethodName := ⟨RX4, "weightOf", "(I)I"⟩
abbrev cX4_hasRoomFor : ByteArray := prog_6_method_6_code
def yX4_hasRoomFor : MethodName := ⟨RX4, "hasRoomFor", "(I)Z"⟩
abbrev cX4_setWeight : ByteArray := prog_6_method_7_code
def yX4_setWeight : MethodName := ⟨RX4, "setWeight", "(II)V"⟩
abbrev cX4_openGap : ByteArray := prog_6_method_8_code
def yX4_openGap : MethodName := ⟨RX4, "openGap", "(I)V"⟩
abbrev cX4_remove : ByteArray := prog_6_method_9_code
def yX4_remove : MethodName := ⟨RX4, "remove", "(I)V"⟩
abbrev cX4_addOne : ByteArray := prog_6_method_10_code
def yX4_addOne : MethodName := ⟨RX4, "addOne", "(I)Z"⟩
abbrev cX4_weight : ByteArray := prog_6_method_11_code
def yX4_weight : MethodName := ⟨RX4, "weight", "()I"⟩
def RX5 : String := "FieldMixtures$Scores"
def TX5 : u_T := fun k => match k with
  | 0 => ("FieldMixtures$Scores", "fields", "I", false)
  | 1 => ("FieldMixtures$Scores", "weight", "I", false)
  | _ => ("FieldMixtures$Scores", "points", "[[I", true)
def tyX5 : Nat → FieldType := fun k => match k with
  | 0 => .int
  | 1 => .int
  | _ => .array (.array .int)
abbrev wsX50 : List Cond := u_ws RX5 TX5 3
theorem nmX5 : ∀ a, a < 3 → ∀ b, b < 3 → a ≠ b → (TX5 a).2.1 ≠ (TX5 b).2.1 := by decide +kernel
theorem tyX5_ok : ∀ k, k < 3 → parseFieldDescriptor (TX5 k).2.2.1 = some (tyX5 k) := by decide +kernel
abbrev cX5_init : ByteArray := prog_7_method_1_code
def yX5_init : MethodName := ⟨RX5, "<init>", "()V"⟩
abbrev cX5_measure : ByteArray := prog_7_method_2_code
def yX5_measure : MethodName := ⟨RX5, "measure", "(LFieldMixtures$Contest;I)V"⟩
abbrev cX5_balance : ByteArray := prog_7_method_3_code
def yX5_balance : MethodName := ⟨RX5, "balance", "(LFieldMixtures$Contest;III)I"⟩
abbrev cX5_of : ByteArray := prog_7_method_4_code
def yX5_of : MethodName := ⟨RX5, "of", "(I)I"⟩
abbrev cX5_ofMixture : ByteArray := prog_7_method_5_code
def yX5_ofMixture : MethodName := ⟨RX5, "ofMixture", "(LFieldMixtures$Mixture;)I"⟩
def RX6 : String := "FieldMixtures$Side"
def TX6 : u_T := fun k => match k with
  | 0 => ("FieldMixtures$Side", "resources", "I", false)
  | 1 => ("FieldMixtures$Side", "bounds", "[I", true)
  | _ => ("FieldMixtures$Side", "mixture", "LFieldMixtures$Mixture;", true)
def tyX6 : Nat → FieldType := fun k => match k with
  | 0 => .int
  | 1 => .array .int
  | _ => .object "FieldMixtures$Mixture"
abbrev wsX60 : List Cond := u_ws RX6 TX6 3
theorem nmX6 : ∀ a, a < 3 → ∀ b, b < 3 → a ≠ b → (TX6 a).2.1 ≠ (TX6 b).2.1 := by decide +kernel
theorem tyX6_ok : ∀ k, k < 3 → parseFieldDescriptor (TX6 k).2.2.1 = some (tyX6 k) := by decide +kernel
abbrev cX6_init : ByteArray := prog_8_method_1_code
def yX6_init : MethodName := ⟨RX6, "<init>", "()V"⟩
abbrev cX6_copyFrom : ByteArray := prog_8_method_2_code
def yX6_copyFrom : MethodName := ⟨RX6, "copyFrom", "(LFieldMixtures$Side;)V"⟩
abbrev cX6_resetBounds : ByteArray := prog_8_method_3_code
def yX6_resetBounds : MethodName := ⟨RX6, "resetBounds", "()V"⟩
abbrev cX6_allows : ByteArray := prog_8_method_4_code
def yX6_allows : MethodName := ⟨RX6, "allows", "(II)Z"⟩
abbrev cX6_dropWhatIsNotAllowed : ByteArray := prog_8_method_5_code
def yX6_dropWhatIsNotAllowed : MethodName := ⟨RX6, "dropWhatIsNotAllowed", "(I)V"⟩
def RX7 : String := "FieldMixtures$Text"
def TX7 : u_T := fun k => match k with
  | 0 => ("FieldMixtures$Text", "length", "I", false)
  | _ => ("FieldMixtures$Text", "signs", "[C", true)
def tyX7 : Nat → FieldType := fun k => match k with
  | 0 => .int
  | _ => .array .char
abbrev wsX70 : List Cond := u_ws RX7 TX7 2
theorem nmX7 : ∀ a, a < 2 → ∀ b, b < 2 → a ≠ b → (TX7 a).2.1 ≠ (TX7 b).2.1 := by decide +kernel
theorem tyX7_ok : ∀ k, k < 2 → parseFieldDescriptor (TX7 k).2.2.1 = some (tyX7 k) := by decide +kernel
abbrev cX7_init : ByteArray := prog_9_method_1_code
def yX7_init : MethodName := ⟨RX7, "<init>", "()V"⟩
abbrev cX7_append : ByteArray := prog_9_method_2_code
def yX7_append : MethodName := ⟨RX7, "append", "(I)V"⟩
abbrev cX7_clear : ByteArray := prog_9_method_3_code
def yX7_clear : MethodName := ⟨RX7, "clear", "()V"⟩
abbrev cX7_signAt : ByteArray := prog_9_method_4_code
def yX7_signAt : MethodName := ⟨RX7, "signAt", "(I)I"⟩
def RX8 : String := "FieldMixtures$TextReader"
def TX8 : u_T := fun k => match k with
  | 0 => ("FieldMixtures$TextReader", "position", "I", false)
  | 1 => ("FieldMixtures$TextReader", "reason", "I", false)
  | 2 => ("FieldMixtures$TextReader", "cause", "I", false)
  | 3 => ("FieldMixtures$TextReader", "next", "I", false)
  | 4 => ("FieldMixtures$TextReader", "player", "I", false)
  | 5 => ("FieldMixtures$TextReader", "allocation", "I", false)
  | _ => ("FieldMixtures$TextReader", "weight", "I", false)
def tyX8 : Nat → FieldType := fun k => match k with
  | 0 => .int
  | 1 => .int
  | 2 => .int
  | 3 => .int
  | 4 => .int
  | 5 => .int
  | _ => .int
abbrev wsX80 : List Cond := u_ws RX8 TX8 7
theorem nmX8 : ∀ a, a < 7 → ∀ b, b < 7 → a ≠ b → (TX8 a).2.1 ≠ (TX8 b).2.1 := by decide +kernel
theorem tyX8_ok : ∀ k, k < 7 → parseFieldDescriptor (TX8 k).2.2.1 = some (tyX8 k) := by decide +kernel
abbrev cX8_init : ByteArray := prog_10_method_1_code
def yX8_init : MethodName := ⟨RX8, "<init>", "()V"⟩
abbrev cX8_readInto : ByteArray := prog_10_method_2_code
def yX8_readInto : MethodName := ⟨RX8, "readInto", "(LFieldMixtures$Contest;LFieldMixtures$Text;)V"⟩
abbrev cX8_readPart : ByteArray := prog_10_method_3_code
def yX8_readPart : MethodName := ⟨RX8, "readPart", "(LFieldMixtures$Contest;LFieldMixtures$Text;)I"⟩
abbrev cX8_readForm : ByteArray := prog_10_method_4_code
def yX8_readForm : MethodName := ⟨RX8, "readForm", "(LFieldMixtures$Text;I)Z"⟩
abbrev cX8_readSign : ByteArray := prog_10_method_5_code
def yX8_readSign : MethodName := ⟨RX8, "readSign", "(LFieldMixtures$Text;C)Z"⟩
abbrev cX8_readAllocation : ByteArray := prog_10_method_6_code
def yX8_readAllocation : MethodName := ⟨RX8, "readAllocation", "(LFieldMixtures$Text;I)Z"⟩
abbrev cX8_readWeight : ByteArray := prog_10_method_7_code
def yX8_readWeight : MethodName := ⟨RX8, "readWeight", "(LFieldMixtures$Text;)Z"⟩
abbrev cX8_hasDigit : ByteArray := prog_10_method_8_code
def yX8_hasDigit : MethodName := ⟨RX8, "hasDigit", "(LFieldMixtures$Text;)Z"⟩
abbrev cX8_readDigit : ByteArray := prog_10_method_9_code
def yX8_readDigit : MethodName := ⟨RX8, "readDigit", "(LFieldMixtures$Text;)I"⟩
def RX9 : String := "FieldMixtures"
def TX9 : u_T := fun k => match k with
  | 0 => ("FieldMixtures", "contest", "LFieldMixtures$Contest;", true)
  | 1 => ("FieldMixtures", "draft", "LFieldMixtures$Contest;", true)
  | 2 => ("FieldMixtures", "history", "LFieldMixtures$History;", true)
  | 3 => ("FieldMixtures", "firstList", "LFieldMixtures$AllocationList;", true)
  | 4 => ("FieldMixtures", "secondList", "LFieldMixtures$AllocationList;", true)
  | 5 => ("FieldMixtures", "scores", "LFieldMixtures$Scores;", true)
  | 6 => ("FieldMixtures", "firstReply", "LFieldMixtures$BestReply;", true)
  | 7 => ("FieldMixtures", "secondReply", "LFieldMixtures$BestReply;", true)
  | 8 => ("FieldMixtures", "text", "LFieldMixtures$Text;", true)
  | _ => ("FieldMixtures", "reader", "LFieldMixtures$TextReader;", true)
def tyX9 : Nat → FieldType := fun k => match k with
  | 0 => .object "FieldMixtures$Contest"
  | 1 => .object "FieldMixtures$Contest"
  | 2 => .object "FieldMixtures$History"
  | 3 => .object "FieldMixtures$AllocationList"
  | 4 => .object "FieldMixtures$AllocationList"
  | 5 => .object "FieldMixtures$Scores"
  | 6 => .object "FieldMixtures$BestReply"
  | 7 => .object "FieldMixtures$BestReply"
  | 8 => .object "FieldMixtures$Text"
  | _ => .object "FieldMixtures$TextReader"
abbrev wsX90 : List Cond := u_ws RX9 TX9 10
theorem nmX9 : ∀ a, a < 10 → ∀ b, b < 10 → a ≠ b → (TX9 a).2.1 ≠ (TX9 b).2.1 := by decide +kernel
theorem tyX9_ok : ∀ k, k < 10 → parseFieldDescriptor (TX9 k).2.2.1 = some (tyX9 k) := by decide +kernel
abbrev cX9_init : ByteArray := prog_1_method_1_code
def yX9_init : MethodName := ⟨RX9, "<init>", "()V"⟩
abbrev cX9_fields : ByteArray := prog_1_method_2_code
def yX9_fields : MethodName := ⟨RX9, "fields", "(I)I"⟩
abbrev cX9_value : ByteArray := prog_1_method_3_code
def yX9_value : MethodName := ⟨RX9, "value", "(II)I"⟩
abbrev cX9_resources : ByteArray := prog_1_method_4_code
def yX9_resources : MethodName := ⟨RX9, "resources", "(II)I"⟩
abbrev cX9_bound : ByteArray := prog_1_method_5_code
def yX9_bound : MethodName := ⟨RX9, "bound", "(III)I"⟩
abbrev cX9_tie : ByteArray := prog_1_method_6_code
def yX9_tie : MethodName := ⟨RX9, "tie", "(I)I"⟩
abbrev cX9_allocations : ByteArray := prog_1_method_7_code
def yX9_allocations : MethodName := ⟨RX9, "allocations", "(II)I"⟩
abbrev cX9_gains : ByteArray := prog_1_method_8_code
def yX9_gains : MethodName := ⟨RX9, "gains", "(II)I"⟩
abbrev cX9_put : ByteArray := prog_1_method_10_code
def yX9_put : MethodName := ⟨RX9, "put", "(III)I"⟩
abbrev cX9_take : ByteArray := prog_1_method_11_code
def yX9_take : MethodName := ⟨RX9, "take", "(II)I"⟩
abbrev cX9_round : ByteArray := prog_1_method_12_code
def yX9_round : MethodName := ⟨RX9, "round", "(I)I"⟩
abbrev cX9_mixtureOf : ByteArray := prog_1_method_13_code
def yX9_mixtureOf : MethodName := ⟨RX9, "mixtureOf", "(III)I"⟩
abbrev cX9_marginal : ByteArray := prog_1_method_14_code
def yX9_marginal : MethodName := ⟨RX9, "marginal", "(III)I"⟩
abbrev cX9_mean : ByteArray := prog_1_method_15_code
def yX9_mean : MethodName := ⟨RX9, "mean", "(III)I"⟩
abbrev cX9_expected : ByteArray := prog_1_method_16_code
def yX9_expected : MethodName := ⟨RX9, "expected", "(I)I"⟩
abbrev cX9_count : ByteArray := prog_1_method_19_code
def yX9_count : MethodName := ⟨RX9, "count", "(I)I"⟩
abbrev cX9_undo : ByteArray := prog_1_method_20_code
def yX9_undo : MethodName := ⟨RX9, "undo", "()I"⟩
abbrev cX9_type : ByteArray := prog_1_method_21_code
def yX9_type : MethodName := ⟨RX9, "type", "(I)I"⟩
abbrev cX9_clearText : ByteArray := prog_1_method_22_code
def yX9_clearText : MethodName := ⟨RX9, "clearText", "()I"⟩
abbrev cX9_fault : ByteArray := prog_1_method_23_code
def yX9_fault : MethodName := ⟨RX9, "fault", "(I)I"⟩
abbrev cX9_read : ByteArray := prog_1_method_24_code
def yX9_read : MethodName := ⟨RX9, "read", "()I"⟩
abbrev cX9_isIn : ByteArray := prog_1_method_25_code
def yX9_isIn : MethodName := ⟨RX9, "isIn", "(III)Z"⟩
abbrev cX9_isPlayer : ByteArray := prog_1_method_26_code
def yX9_isPlayer : MethodName := ⟨RX9, "isPlayer", "(I)Z"⟩
abbrev cX9_isPart : ByteArray := prog_1_method_27_code
def yX9_isPart : MethodName := ⟨RX9, "isPart", "(I)Z"⟩
abbrev cX9_partOf : ByteArray := prog_1_method_28_code
def yX9_partOf : MethodName := ⟨RX9, "partOf", "(III)I"⟩
abbrev cX9_commonDivisor : ByteArray := prog_1_method_29_code
def yX9_commonDivisor : MethodName := ⟨RX9, "commonDivisor", "(II)I"⟩
abbrev cX9_freshList : ByteArray := prog_1_method_30_code
def yX9_freshList : MethodName := ⟨RX9, "freshList", "(I)LFieldMixtures$AllocationList;"⟩
abbrev cX9_playRoundInDraft : ByteArray := prog_1_method_32_code
def yX9_playRoundInDraft : MethodName := ⟨RX9, "playRoundInDraft", "(LFieldMixtures$AllocationList;LFieldMixtures$AllocationList;)Z"⟩
abbrev cX9_changeToDraft : ByteArray := prog_1_method_33_code
def yX9_changeToDraft : MethodName := ⟨RX9, "changeToDraft", "()V"⟩
def RX10 : String := "FieldMixturesModel"
def TX10 : u_T := fun k => match k with
  | _ => ("", "", "", false)
def tyX10 : Nat → FieldType := fun k => match k with
  | _ => .int
abbrev wsX100 : List Cond := u_ws RX10 TX10 0
theorem nmX10 : ∀ a, a < 0 → ∀ b, b < 0 → a ≠ b → (TX10 a).2.1 ≠ (TX10 b).2.1 := by decide +kernel
theorem tyX10_ok : ∀ k, k < 0 → parseFieldDescriptor (TX10 k).2.2.1 = some (tyX10 k) := by decide +kernel
def RJ9 : String := "java/lang/Math"
def TJ9 : u_T := fun k => match k with
  | _ => ("", "", "", false)
def tyJ9 : Nat → FieldType := fun k => match k with
  | _ => .int
abbrev wsJ90 : List Cond := u_ws RJ9 TJ9 0
theorem nmJ9 : ∀ a, a < 0 → ∀ b, b < 0 → a ≠ b → (TJ9 a).2.1 ≠ (TJ9 b).2.1 := by decide +kernel
theorem tyJ9_ok : ∀ k, k < 0 → parseFieldDescriptor (TJ9 k).2.2.1 = some (tyJ9 k) := by decide +kernel
abbrev cJ9_abs_0f7a4 : ByteArray := prog_13_method_59_code
def yJ9_abs_0f7a4 : MethodName := ⟨RJ9, "abs", "(I)I"⟩
abbrev cJ9_max_7cf53 : ByteArray := prog_13_method_65_code
def yJ9_max_7cf53 : MethodName := ⟨RJ9, "max", "(II)I"⟩
def RL : String := "FieldMixturesLaw"
abbrev cL_lot : ByteArray := method_2_code
def yL_lot : MethodName := ⟨RL, "lot", "([II)I"⟩
abbrev cL_low : ByteArray := method_3_code
def yL_low : MethodName := ⟨RL, "low", "(II)I"⟩
abbrev cL_digest : ByteArray := method_4_code
def yL_digest : MethodName := ⟨RL, "digest", "(LFieldMixtures;)J"⟩
abbrev cL_holds : ByteArray := method_5_code
def yL_holds : MethodName := ⟨RL, "holds", "(LFieldMixtures;I)Z"⟩
abbrev cL_types : ByteArray := method_6_code
def yL_types : MethodName := ⟨RL, "types", "(LFieldMixtures;I)Z"⟩
abbrev cL_reads : ByteArray := method_7_code
def yL_reads : MethodName := ⟨RL, "reads", "(LFieldMixtures;)Z"⟩
abbrev cL_acts : ByteArray := method_8_code
def yL_acts : MethodName := ⟨RL, "acts", "(LFieldMixtures;II)Z"⟩
abbrev cL_law : ByteArray := code
def yL_law : MethodName := ⟨RL, "law", "([I)Z"⟩

def zR : Nat → String := fun k => match k with
  | 0 => RX0
  | 1 => RX1
  | 2 => RX2
  | 3 => RX3
  | 4 => RX4
  | 5 => RX5
  | 6 => RX6
  | 7 => RX7
  | 8 => RX8
  | 9 => RX9
  | _ => RL
def zTn : Nat → u_T := fun k => match k with
  | 0 => TX0
  | 1 => TX1
  | 2 => TX2
  | 3 => TX3
  | 4 => TX4
  | 5 => TX5
  | 6 => TX6
  | 7 => TX7
  | 8 => TX8
  | _ => TX9
def zTy : Nat → Nat → FieldType := fun k => match k with
  | 0 => tyX0
  | 1 => tyX1
  | 2 => tyX2
  | 3 => tyX3
  | 4 => tyX4
  | 5 => tyX5
  | 6 => tyX6
  | 7 => tyX7
  | 8 => tyX8
  | _ => tyX9
def zN : Nat → Nat := fun k => match k with
  | 0 => 2
  | 1 => 3
  | 2 => 5
  | 3 => 2
  | 4 => 3
  | 5 => 3
  | 6 => 3
  | 7 => 2
  | 8 => 7
  | _ => 10
abbrev zCl : List vw_C := [(RX0, TX0, 2), (RX1, TX1, 3), (RX2, TX2, 5), (RX3, TX3, 2), (RX4, TX4, 3), (RX5, TX5, 3), (RX6, TX6, 3), (RX7, TX7, 2), (RX8, TX8, 7), (RX9, TX9, 10)]
-- a method: name, bytes, locals, type, its class, parameters, kind (0 virtual, 1 static, 2 init), room
def zML_0 : List (MethodName × ByteArray × Nat × Option FieldType × Nat × Nat × Nat × Nat × Nat) := [(yX0_init, cX0_init, 1, none, 0, 0, 2, 1, 21), (yX6_allows, cX6_allows, 7, (some .boolean), 6, 2, 0, 0, 0), (yX0_fill, cX0_fill, 5, none, 0, 2, 0, 1, 26), (yX1_init, cX1_init, 1, none, 1, 0, 2, 1, 21), (yX5_of, cX5_of, 5, (some .int), 5, 1, 0, 0, 0), (yX1_find, cX1_find, 5, none, 1, 2, 0, 1, 24), (yX4_init, cX4_init, 1, none, 4, 0, 2, 1, 21), (yX6_init, cX6_init, 1, none, 6, 0, 2, 2, 41), (yX6_resetBounds, cX6_resetBounds, 2, none, 6, 0, 0, 0, 0), (yX2_startWith, cX2_startWith, 3, none, 2, 1, 0, 1, 21), (yX2_init, cX2_init, 1, none, 2, 0, 2, 3, 61), (yX4_copyFrom, cX4_copyFrom, 3, none, 4, 1, 0, 0, 0), (yX6_copyFrom, cX6_copyFrom, 3, none, 6, 1, 0, 1, 22), (yX2_copyFrom, cX2_copyFrom, 3, none, 2, 1, 0, 2, 44), (yX2_side, cX2_side, 2, (some (.object "FieldMixtures$Side")), 2, 1, 0, 0, 0), (yX9_isIn, cX9_isIn, 3, (some .boolean), 9, 3, 1, 0, 0), (yX2_hasField, cX2_hasField, 2, (some .boolean), 2, 1, 0, 1, 22), (yX2_allows, cX2_allows, 3, (some .boolean), 2, 2, 0, 1, 26), (yX2_lacksMixture, cX2_lacksMixture, 1, (some .boolean), 2, 0, 0, 0, 0)]
def zML_1 : List (MethodName × ByteArray × Nat × Option FieldType × Nat × Nat × Nat × Nat × Nat) := [(yX2_sizeOfMixtures, cX2_sizeOfMixtures, 1, (some .int), 2, 0, 0, 0, 0), (yX2_sumOfValues, cX2_sumOfValues, 3, (some .int), 2, 0, 0, 0, 0), (yX2_amountIn, cX2_amountIn, 5, (some .int), 2, 2, 0, 0, 0), (yX2_outcome, cX2_outcome, 4, (some .int), 2, 3, 0, 0, 0), (yX2_gainOf, cX2_gainOf, 8, (some .int), 2, 3, 0, 1, 23), (yX3_init, cX3_init, 2, none, 3, 0, 2, 4, 81), (yX3_dropOldest, cX3_dropOldest, 3, none, 3, 0, 0, 0, 0), (yX3_record, cX3_record, 2, none, 3, 1, 0, 3, 66), (yX3_restoreLatest, cX3_restoreLatest, 2, none, 3, 1, 0, 3, 66), (yX4_placeOf, cX4_placeOf, 3, (some .int), 4, 1, 0, 0, 0), (yX4_standsAt, cX4_standsAt, 3, (some .boolean), 4, 2, 0, 0, 0), (yX4_weightOf, cX4_weightOf, 3, (some .int), 4, 1, 0, 1, 22), (yX4_hasRoomFor, cX4_hasRoomFor, 2, (some .boolean), 4, 1, 0, 2, 44), (yX4_openGap, cX4_openGap, 3, none, 4, 1, 0, 0, 0), (yX4_setWeight, cX4_setWeight, 4, none, 4, 2, 0, 1, 22), (yX4_remove, cX4_remove, 4, none, 4, 1, 0, 1, 22), (yX4_addOne, cX4_addOne, 3, (some .boolean), 4, 1, 0, 3, 65), (yX4_weight, cX4_weight, 3, (some .int), 4, 0, 0, 0, 0), (yX5_init, cX5_init, 1, none, 5, 0, 2, 1, 21)]
def zML_2 : List (MethodName × ByteArray × Nat × Option FieldType × Nat × Nat × Nat × Nat × Nat) := [(yX5_balance, cX5_balance, 8, (some .int), 5, 4, 1, 1, 24), (yX5_measure, cX5_measure, 6, none, 5, 2, 0, 2, 51), (yX5_ofMixture, cX5_ofMixture, 4, (some .int), 5, 1, 0, 1, 24), (yX6_dropWhatIsNotAllowed, cX6_dropWhatIsNotAllowed, 3, none, 6, 1, 0, 2, 45), (yX7_init, cX7_init, 1, none, 7, 0, 2, 1, 21), (yX7_append, cX7_append, 2, none, 7, 1, 0, 0, 0), (yX7_clear, cX7_clear, 1, none, 7, 0, 0, 0, 0), (yX7_signAt, cX7_signAt, 2, (some .int), 7, 1, 0, 0, 0), (yX8_init, cX8_init, 1, none, 8, 0, 2, 1, 21), (yX9_isPlayer, cX9_isPlayer, 1, (some .boolean), 9, 1, 1, 1, 22), (yX8_readSign, cX8_readSign, 3, (some .boolean), 8, 2, 0, 1, 21), (yX8_hasDigit, cX8_hasDigit, 2, (some .boolean), 8, 1, 0, 1, 22), (yX8_readDigit, cX8_readDigit, 3, (some .int), 8, 1, 0, 1, 21), (yX8_readAllocation, cX8_readAllocation, 4, (some .boolean), 8, 2, 0, 2, 43), (yX8_readWeight, cX8_readWeight, 2, (some .boolean), 8, 1, 0, 2, 43), (yX8_readForm, cX8_readForm, 3, (some .boolean), 8, 2, 0, 3, 66), (yX8_readPart, cX8_readPart, 4, (some .int), 8, 2, 0, 4, 88), (yX8_readInto, cX8_readInto, 4, none, 8, 2, 0, 5, 111), (yX9_init, cX9_init, 1, none, 9, 0, 2, 5, 102)]
def zML_3 : List (MethodName × ByteArray × Nat × Option FieldType × Nat × Nat × Nat × Nat × Nat) := [(yX9_fields, cX9_fields, 3, (some .int), 9, 1, 0, 4, 87), (yX9_value, cX9_value, 4, (some .int), 9, 2, 0, 4, 87), (yX9_resources, cX9_resources, 4, (some .int), 9, 2, 0, 4, 87), (yX9_bound, cX9_bound, 5, (some .int), 9, 3, 0, 4, 87), (yX9_tie, cX9_tie, 3, (some .int), 9, 1, 0, 4, 87), (yX9_freshList, cX9_freshList, 3, (some (.object "FieldMixtures$AllocationList")), 9, 1, 0, 2, 50), (yX9_allocations, cX9_allocations, 4, (some .int), 9, 2, 0, 3, 72), (yX9_gains, cX9_gains, 3, (some .int), 9, 2, 0, 2, 50), (yX9_gains, cX9_gains, 3, (some .int), 9, 2, 0, 2, 50), (yX9_gains, cX9_gains, 3, (some .int), 9, 2, 0, 2, 50), (yX9_put, cX9_put, 6, (some .int), 9, 3, 0, 4, 87), (yX9_take, cX9_take, 5, (some .int), 9, 2, 0, 4, 87), (yX9_playRoundInDraft, cX9_playRoundInDraft, 3, (some .boolean), 9, 2, 0, 4, 87), (yX9_changeToDraft, cX9_changeToDraft, 1, none, 9, 0, 0, 4, 87), (yX9_round, cX9_round, 5, (some .int), 9, 1, 0, 5, 109), (yX9_commonDivisor, cX9_commonDivisor, 6, (some .int), 9, 2, 1, 1, 21), (yX9_partOf, cX9_partOf, 4, (some .int), 9, 3, 1, 2, 46), (yX9_mixtureOf, cX9_mixtureOf, 5, (some .int), 9, 3, 0, 3, 76), (yX9_marginal, cX9_marginal, 7, (some .int), 9, 3, 0, 2, 43)]
def zML_4 : List (MethodName × ByteArray × Nat × Option FieldType × Nat × Nat × Nat × Nat × Nat) := [(yX9_isPart, cX9_isPart, 1, (some .boolean), 9, 1, 1, 1, 22), (yX9_mean, cX9_mean, 7, (some .int), 9, 3, 0, 3, 69), (yX9_expected, cX9_expected, 3, (some .int), 9, 1, 0, 3, 76), (yX9_gains, cX9_gains, 3, (some .int), 9, 2, 0, 2, 50), (yX9_gains, cX9_gains, 3, (some .int), 9, 2, 0, 2, 50), (yX9_count, cX9_count, 2, (some .int), 9, 1, 0, 1, 22), (yX9_undo, cX9_undo, 1, (some .int), 9, 0, 0, 4, 87), (yX9_type, cX9_type, 2, (some .int), 9, 1, 0, 1, 22), (yX9_clearText, cX9_clearText, 2, (some .int), 9, 0, 0, 1, 20), (yX9_fault, cX9_fault, 2, (some .int), 9, 1, 0, 6, 134), (yX9_read, cX9_read, 1, (some .int), 9, 0, 0, 6, 134), (yL_low, cL_low, 2, (some .int), 10, 2, 1, 0, 0), (yL_digest, cL_digest, 5, (some .long), 10, 1, 1, 4, 100), (yL_holds, cL_holds, 12, (some .boolean), 10, 2, 1, 4, 100), (yL_types, cL_types, 12, (some .boolean), 10, 2, 1, 4, 95), (yL_reads, cL_reads, 8, (some .boolean), 10, 1, 1, 7, 155), (yL_acts, cL_acts, 11, (some .boolean), 10, 3, 1, 8, 182)]
def zML : List (MethodName × ByteArray × Nat × Option FieldType × Nat × Nat × Nat × Nat × Nat) := (zML_0 ++ zML_1 ++ zML_2 ++ zML_3 ++ zML_4) ++ [(yL_law, cL_law, 11, (some .boolean), 10, 1, 1, 11, 424)]
def zLaw : Nat := 93
def zm (k : Nat) : MethodName × ByteArray × Nat × Option FieldType × Nat × Nat × Nat × Nat × Nat := zML.getD k (yL_law, cL_law, 0, none, 0, 0, 0, 0, 0)
def z_y (k : Nat) : MethodName := (zm k).1
def z_code (k : Nat) : ByteArray := (zm k).2.1
def z_ml (k : Nat) : Nat := (zm k).2.2.1
def z_ret (k : Nat) : Option FieldType := (zm k).2.2.2.1
def z_cls (k : Nat) : Nat := (zm k).2.2.2.2.1
def z_np (k : Nat) : Nat := (zm k).2.2.2.2.2.1
def z_kd (k : Nat) : Nat := (zm k).2.2.2.2.2.2.1
def z_fr (k : Nat) : Nat := (zm k).2.2.2.2.2.2.2.1
def z_lo (k : Nat) : Nat := (zm k).2.2.2.2.2.2.2.2
-- calls: class, entry, method, nest (1), place among lw_tbl
def zCT : List (Nat × Nat × Nat × Nat × Nat) := [(0, 24, 1, 1, 412), (1, 28, 4, 1, 527), (2, 17, 7, 1, 75), (2, 32, 9, 0, 122), (2, 45, 8, 1, 126), (2, 48, 12, 1, 333), (2, 52, 15, 1, 425), (2, 56, 14, 0, 443), (2, 60, 1, 1, 444), (2, 64, 22, 0, 449), (3, 21, 10, 1, 160), (3, 22, 25, 0, 492), (3, 25, 13, 1, 329), (4, 22, 28, 0, 478), (4, 26, 29, 0, 482), (4, 30, 30, 0, 474), (4, 33, 32, 0, 500), (4, 37, 31, 0, 532), (4, 41, 33, 0, 533), (5, 23, 14, 1, 367), (5, 36, 36, 1, 368), (5, 45, 38, 0, 369), (5, 55, 21, 1, 372), (5, 62, 22, 1, 376), (5, 66, 4, 0, 462), (6, 21, 6, 1, 81), (6, 26, 11, 1, 337), (6, 36, 1, 0, 554), (6, 40, 34, 1, 555), (8, 38, 54, 0, 599), (8, 47, 53, 0, 603), (8, 51, 17, 1, 633), (8, 55, 14, 1, 634), (8, 65, 31, 1, 635), (8, 71, 33, 1, 636), (8, 75, 45, 1, 607), (8, 79, 47, 1, 611), (8, 82, 48, 0, 612), (8, 86, 51, 0, 616), (8, 89, 52, 0, 629), (8, 93, 49, 0, 620), (8, 96, 50, 0, 625), (8, 100, 15, 1, 624), (9, 9, 10, 1, 69), (9, 21, 24, 1, 154), (9, 28, 0, 1, 171), (9, 38, 37, 1, 188), (9, 45, 3, 1, 207), (9, 55, 42, 1, 224), (9, 62, 46, 1, 240), (9, 67, 15, 0, 304), (9, 76, 26, 1, 488), (9, 80, 9, 1, 568), (9, 84, 16, 1, 421), (9, 92, 47, 0, 359), (9, 95, 14, 1, 307), (9, 104, 41, 1, 550), (9, 122, 62, 0, 404), (9, 131, 17, 1, 439), (9, 135, 23, 1, 445), (9, 143, 31, 1, 470), (9, 147, 30, 1, 487), (9, 151, 33, 1, 496), (9, 156, 34, 1, 510), (9, 159, 18, 1, 454), (9, 163, 13, 1, 518), (9, 166, 69, 0, 519), (9, 170, 70, 0, 534), (9, 173, 19, 1, 538), (9, 183, 39, 1, 363), (9, 187, 4, 1, 380), (9, 193, 73, 0, 384), (9, 196, 21, 1, 429), (9, 200, 76, 0, 426), (9, 203, 36, 1, 315), (9, 205, 40, 1, 458), (9, 209, 5, 1, 523), (9, 222, 20, 1, 311), (9, 229, 27, 1, 325), (9, 232, 43, 1, 584), (9, 235, 44, 1, 576), (9, 238, 55, 1, 595), (9, 256, 72, 0, 390), (9, 263, 2, 1, 408), (9, 267, 35, 1, 528), (10, 13, 81, 0, 300), (10, 21, 74, 0, 355), (10, 25, 87, 0, 345), (10, 31, 63, 0, 400), (10, 35, 77, 0, 417), (10, 39, 75, 0, 431), (10, 42, 64, 0, 435), (10, 45, 78, 0, 450), (10, 48, 84, 0, 572), (10, 52, 83, 0, 580), (10, 55, 85, 0, 591), (10, 58, 86, 0, 637), (10, 61, 67, 0, 466), (10, 66, 68, 0, 506), (10, 69, 71, 0, 514), (10, 72, 58, 0, 542), (10, 75, 59, 0, 546), (10, 78, 60, 0, 556), (10, 81, 61, 0, 560), (10, 84, 57, 0, 564), (10, 87, 90, 0, 569), (10, 91, 91, 0, 588), (10, 95, 56, 0, 61), (10, 96, 89, 0, 397), (10, 99, 82, 0, 320), (10, 106, 88, 0, 349), (10, 110, 92, 0, 463)]
def zOT : List (Nat × Nat × Nat) := [(0, 3, 174), (1, 1, 210), (2, 3, 72), (3, 3, 157), (4, 3, 84), (5, 3, 191), (6, 3, 78), (7, 3, 227), (8, 3, 243), (9, 1, 64)]
def zXT : List (Nat × Nat × Nat × Nat) := [(9, 251, 0, 387), (9, 260, 1, 393)]
def zVT : List (Nat × Nat × Nat) := [(10, 102, 341)]
-- fields: class, entry, class of the field, its place, nest (1), place among lw_tbl
def zFT : List (Nat × Nat × Nat × Nat × Nat × Nat) := [(0, 9, 0, 0, 0, 175), (0, 15, 0, 1, 0, 178), (0, 19, 6, 0, 1, 106), (1, 7, 1, 0, 0, 211), (1, 13, 1, 1, 0, 213), (1, 16, 1, 2, 0, 214), (1, 19, 0, 0, 1, 176), (1, 24, 0, 1, 1, 179), (2, 9, 2, 2, 0, 136), (2, 18, 2, 3, 0, 139), (2, 22, 2, 4, 0, 140), (2, 25, 2, 0, 0, 130), (2, 29, 2, 1, 0, 134), (2, 36, 6, 2, 1, 112), (2, 40, 4, 0, 1, 86), (3, 9, 3, 0, 0, 161), (3, 17, 3, 1, 0, 163), (4, 9, 4, 1, 0, 90), (4, 15, 4, 2, 0, 94), (4, 18, 4, 0, 0, 85), (5, 9, 5, 0, 0, 194), (5, 15, 5, 1, 0, 195), (5, 20, 5, 2, 0, 197), (5, 29, 6, 2, 1, 111), (5, 35, 2, 0, 1, 131), (5, 41, 2, 2, 1, 137), (5, 49, 4, 0, 1, 87), (5, 52, 4, 1, 1, 91), (5, 59, 4, 2, 1, 95), (6, 9, 6, 0, 0, 105), (6, 15, 6, 1, 0, 108), (6, 22, 6, 2, 0, 110), (6, 30, 4, 0, 1, 89), (6, 33, 4, 1, 1, 92), (7, 9, 7, 0, 0, 228), (7, 15, 7, 1, 0, 231), (8, 9, 8, 0, 0, 244), (8, 15, 8, 1, 0, 246), (8, 18, 8, 2, 0, 248), (8, 21, 8, 3, 0, 250), (8, 24, 8, 4, 0, 251), (8, 27, 8, 5, 0, 252), (8, 30, 8, 6, 0, 253), (8, 33, 7, 0, 1, 229), (8, 42, 2, 0, 1, 133), (8, 59, 6, 2, 1, 113), (9, 10, 9, 0, 0, 269), (9, 16, 9, 1, 0, 270), (9, 22, 9, 2, 0, 271), (9, 29, 9, 3, 0, 272), (9, 33, 9, 4, 0, 273), (9, 39, 9, 5, 0, 274), (9, 46, 9, 6, 0, 275), (9, 50, 9, 7, 0, 276), (9, 56, 9, 8, 0, 277), (9, 63, 9, 9, 0, 278), (9, 72, 2, 0, 1, 132), (9, 88, 2, 2, 1, 138), (9, 99, 6, 0, 1, 107), (9, 107, 6, 2, 1, 114), (9, 111, 4, 0, 1, 88), (9, 116, 6, 1, 1, 109), (9, 119, 2, 1, 1, 135), (9, 126, 0, 0, 1, 177), (9, 127, 0, 1, 1, 180), (9, 177, 4, 1, 1, 93), (9, 180, 4, 2, 1, 96), (9, 190, 5, 1, 1, 196), (9, 216, 1, 0, 1, 212), (9, 225, 3, 0, 1, 162), (9, 226, 7, 0, 1, 230), (9, 242, 8, 1, 1, 247), (9, 245, 8, 0, 1, 245), (9, 248, 8, 2, 1, 249)]
-- new, anewarray, multianewarray, ldc: class, entry, .., place among lw_tbl
def zNT : List (Nat × Nat × Nat × Nat) := [(2, 15, 6, 73), (3, 15, 2, 158), (6, 19, 4, 79), (9, 7, 2, 67), (9, 19, 3, 152), (9, 26, 0, 169), (9, 36, 5, 186), (9, 43, 1, 205), (9, 53, 7, 222), (9, 60, 8, 238), (10, 14, 9, 59)]
def zQT : List (Nat × Nat × Nat) := [(3, 15, 158)]
def zMT : List (Nat × Nat × Nat) := [(5, 18, 192)]
def zKT : List (Nat × Nat × Int32 × Nat) := [(9, 71, (-1000001), 319), (9, 130, (-1000004), 362), (9, 146, (-1000003), 486), (9, 155, (-1000002), 324), (9, 259, 100000000, 396), (10, 8, 2147483647, 348), (10, 34, (-1000004), 416), (10, 38, (-1000002), 430), (10, 64, (-1000001), 504), (10, 65, (-1000003), 505)]
def zLT : List (Nat × Nat × Int64 × Nat) := [(10, 9, 47, 352), (10, 11, 31, 353), (10, 19, 101, 354)]
-- a method's words: places of code, initialized, instanceMethod (static), selects
def zMW : List (Nat × Nat × Nat × Nat) := [(173, 53, 172, 0), (415, 50, 414, 15), (411, 53, 410, 14), (209, 55, 208, 0), (383, 54, 382, 12), (526, 55, 525, 31), (83, 51, 82, 0), (77, 50, 76, 0), (129, 50, 128, 1), (125, 49, 124, 0), (71, 49, 70, 0), (340, 51, 339, 8), (336, 50, 335, 7), (332, 49, 331, 6), (310, 49, 309, 2), (306, 48, 305, 0), (424, 49, 423, 16), (442, 49, 441, 17), (457, 49, 456, 19), (541, 49, 540, 34), (314, 49, 313, 3), (375, 49, 374, 10), (379, 49, 378, 11), (448, 49, 447, 18), (156, 52, 155, 0), (495, 52, 494, 26), (491, 52, 490, 25), (328, 52, 327, 5), (481, 51, 480, 23), (485, 51, 484, 24), (477, 51, 476, 22), (473, 51, 472, 21), (503, 51, 502, 28), (499, 51, 498, 27), (513, 51, 512, 29), (531, 51, 530, 32), (318, 51, 317, 4), (190, 54, 189, 0), (371, 54, 370, 0), (366, 54, 365, 9), (461, 54, 460, 20), (553, 50, 552, 35), (226, 56, 225, 0), (587, 56, 586, 37), (579, 56, 578, 36), (610, 56, 609, 41), (242, 57, 241, 0), (361, 48, 360, 0), (615, 57, 614, 42), (623, 57, 622, 44), (628, 57, 627, 45), (619, 57, 618, 43), (632, 57, 631, 46), (606, 57, 605, 40), (602, 57, 601, 39), (598, 57, 597, 38), (63, 48, 62, 0), (567, 48, 565, 566), (545, 48, 543, 544), (549, 48, 547, 548), (559, 48, 557, 558), (563, 48, 561, 562), (407, 48, 406, 13), (403, 48, 401, 402), (438, 48, 436, 437), (438, 48, 436, 437), (438, 48, 436, 437), (469, 48, 467, 468), (509, 48, 507, 508), (522, 48, 521, 30), (537, 48, 536, 33), (517, 48, 515, 516), (392, 48, 391, 0), (386, 48, 385, 0), (358, 48, 356, 357), (434, 48, 432, 433), (428, 48, 427, 0), (420, 48, 418, 419), (453, 48, 451, 452), (438, 48, 436, 437), (438, 48, 436, 437), (303, 48, 301, 302), (323, 48, 321, 322), (583, 48, 581, 582), (575, 48, 573, 574), (594, 48, 592, 593), (640, 48, 638, 639), (347, 47, 346, 0), (351, 47, 350, 0), (399, 47, 398, 0), (571, 47, 570, 0), (590, 47, 589, 0), (465, 47, 464, 0)]
def zCW : List (Nat × Nat) := [(170, 53), (206, 55), (68, 49), (153, 52), (80, 51), (187, 54), (74, 50), (223, 56), (239, 57), (60, 48)]
def zLW : List (List Nat) := [[181, 183], [215, 217, 219], [141, 143, 145, 147, 149], [164, 166], [97, 99, 101], [198, 200, 202], [115, 117, 119], [232, 234], [254, 256, 258, 260, 262, 264, 266], [279, 281, 283, 285, 287, 289, 291, 293, 295, 297]]
def zJW : Nat × Nat × Nat × Nat × Nat := (65, 66, 104, 237, 159)
def zJX : Nat × Nat × Nat × Nat × Nat × Nat := (193, 58, 388, 389, 394, 395)
def zJV : Nat × Nat × Nat × Nat := (342, 343, 47, 344)
abbrev zHost : String := "FieldMixtures"
end
section
/-! ===== the abstract machine: frames of numbered methods over numbered cells; number 0 is the script, the cells are 1 .. nx =====
a heap: how many cells, how many slots were made, kind and length of each (0 .. 10 an object of that class, 100 int[], 101 char[], 102 rows of contests, 103 int[][], 110 the script), whole numbers, references -/
abbrev zA : Type := Nat × Nat × (Nat → Nat × Nat) × (Nat → Nat → Int32) × (Nat → Nat → Option Nat)
def z_lk2 (t : List (Nat × Nat × Nat × Nat × Nat)) (a b : Nat) : Option (Nat × Nat × Nat) := match t with
  | [] => none
  | q :: t => if q.1 = a ∧ q.2.1 = b then some q.2.2 else z_lk2 t a b
def z_lk3 (t : List (Nat × Nat × Nat × Nat × Nat × Nat)) (a b : Nat) : Option (Nat × Nat × Nat × Nat) := match t with
  | [] => none
  | q :: t => if q.1 = a ∧ q.2.1 = b then some q.2.2 else z_lk3 t a b
def z_lk1 (t : List (Nat × Nat × Nat × Nat)) (a b : Nat) : Option (Nat × Nat) := match t with
  | [] => none
  | q :: t => if q.1 = a ∧ q.2.1 = b then some q.2.2 else z_lk1 t a b
def z_lk0 (t : List (Nat × Nat × Nat)) (a b : Nat) : Option Nat := match t with
  | [] => none
  | q :: t => if q.1 = a ∧ q.2.1 = b then some q.2.2 else z_lk0 t a b
def z_lkK (t : List (Nat × Nat × Int32 × Nat)) (a b : Nat) : Option (Int32 × Nat) := match t with
  | [] => none
  | q :: t => if q.1 = a ∧ q.2.1 = b then some q.2.2 else z_lkK t a b
theorem z_lk2_in {t : List (Nat × Nat × Nat × Nat × Nat)} {a b : Nat} {r : Nat × Nat × Nat} (h : z_lk2 t a b = some r) : (a, b, r) ∈ t := by
  induction t with
  | nil => cases h
  | cons q t ih =>
    unfold z_lk2 at h
    split at h
    next c => cases h; obtain ⟨c1, c2⟩ := c; subst c1; subst c2; exact List.mem_cons_self
    next c => exact List.mem_cons_of_mem _ (ih h)
theorem z_lk3_in {t : List (Nat × Nat × Nat × Nat × Nat × Nat)} {a b : Nat} {r : Nat × Nat × Nat × Nat} (h : z_lk3 t a b = some r) : (a, b, r) ∈ t := by
  induction t with
  | nil => cases h
  | cons q t ih =>
    unfold z_lk3 at h
    split at h
    next c => cases h; obtain ⟨c1, c2⟩ := c; subst c1; subst c2; exact List.mem_cons_self
    next c => exact List.mem_cons_of_mem _ (ih h)
theorem z_lk1_in {t : List (Nat × Nat × Nat × Nat)} {a b : Nat} {r : Nat × Nat} (h : z_lk1 t a b = some r) : (a, b, r) ∈ t := by
  induction t with
  | nil => cases h
  | cons q t ih =>
    unfold z_lk1 at h
    split at h
    next c => cases h; obtain ⟨c1, c2⟩ := c; subst c1; subst c2; exact List.mem_cons_self
    next c => exact List.mem_cons_of_mem _ (ih h)
theorem z_lk0_in {t : List (Nat × Nat × Nat)} {a b : Nat} {r : Nat} (h : z_lk0 t a b = some r) : (a, b, r) ∈ t := by
  induction t with
  | nil => cases h
  | cons q t ih =>
    unfold z_lk0 at h
    split at h
    next c => cases h; obtain ⟨c1, c2⟩ := c; subst c1; subst c2; exact List.mem_cons_self
    next c => exact List.mem_cons_of_mem _ (ih h)
theorem z_lkK_in {t : List (Nat × Nat × Int32 × Nat)} {a b : Nat} {r : Int32 × Nat} (h : z_lkK t a b = some r) : (a, b, r) ∈ t := by
  induction t with
  | nil => cases h
  | cons q t ih =>
    unfold z_lkK at h
    split at h
    next c => cases h; obtain ⟨c1, c2⟩ := c; subst c1; subst c2; exact List.mem_cons_self
    next c => exact List.mem_cons_of_mem _ (ih h)
def z_lkL (t : List (Nat × Nat × Int64 × Nat)) (a b : Nat) : Option (Int64 × Nat) := match t with
  | [] => none
  | q :: t => if q.1 = a ∧ q.2.1 = b then some q.2.2 else z_lkL t a b
theorem z_lkL_in {t : List (Nat × Nat × Int64 × Nat)} {a b : Nat} {r : Int64 × Nat} (h : z_lkL t a b = some r) : (a, b, r) ∈ t := by
  induction t with
  | nil => cases h
  | cons q t ih =>
    unfold z_lkL at h
    split at h
    next c => cases h; obtain ⟨c1, c2⟩ := c; subst c1; subst c2; exact List.mem_cons_self
    next c => exact List.mem_cons_of_mem _ (ih h)
/-- not a long -/
def z_c1 (v : Value) : Bool := match v with
  | .long _ => false
  | _ => true
/-- the mark of a long's second half among the locals -/
abbrev zTop : Value := .float 0
/-- how long an instruction is (a switch: as it is) -/
def z_len (ins : Instr) (len : Nat) : Nat := match ins with
  | .iconst _ | .iload_n _ | .aload_n _ | .istore_n _ | .astore_n _ | .iadd | .isub | .imul | .iand | .ineg | .idiv | .irem | .dup | .dup2 | .i2c | .ladd | .lmul | .i2l | .lcmp | .ishr | .lload_n _ | .lstore_n _ | .lreturn | .iaload | .iastore | .caload | .castore | .aaload | .aastore | .arraylength | .ireturn | .areturn | .return_ => 1
  | .lload _ | .lstore _ | .bipush _ | .ldc _ | .iload _ | .aload _ | .istore _ | .astore _ | .newarray _ => 2
  | .sipush _ | .ldc2_w _ | .ldc_w _ | .iinc _ _ | .ifCond _ _ | .if_icmp _ _ | .goto _ | .getfield _ | .putfield _ | .new _ | .anewarray _ | .invokevirtual _ | .invokestatic _ | .invokespecial _ => 3
  | .multianewarray _ _ => 4
  | .tableswitch _ _ _ _ | .lookupswitch _ _ => len
  | _ => 0
def z_i1 {α : Type} (st : List Value) (f : Int32 → List Value → Option α) : Option α := match st with
  | .int x :: r => f x r
  | _ => none
def z_i2 {α : Type} (st : List Value) (f : Int32 → Int32 → List Value → Option α) : Option α := match st with
  | .int y :: .int x :: r => f x y r
  | _ => none
def z_r1 {α : Type} (st : List Value) (f : Nat → List Value → Option α) : Option α := match st with
  | .ref a :: r => f a r
  | _ => none
def z_v1 {α : Type} (st : List Value) (f : Value → List Value → Option α) : Option α := match st with
  | v :: r => f v r
  | _ => none
def z_l1 {α : Type} (st : List Value) (f : Int64 → List Value → Option α) : Option α := match st with
  | .long x :: r => f x r
  | _ => none
def z_l2 {α : Type} (st : List Value) (f : Int64 → Int64 → List Value → Option α) : Option α := match st with
  | .long y :: .long x :: r => f x y r
  | _ => none
theorem z_l1_s {α : Type} {st : List Value} {f : Int64 → List Value → Option α} {y : α} (h : z_l1 st f = some y) : ∃ x r, st = .long x :: r ∧ f x r = some y := by
  unfold z_l1 at h
  split at h
  next x r => exact ⟨x, r, rfl, h⟩
  next => cases h
theorem z_l2_s {α : Type} {st : List Value} {f : Int64 → Int64 → List Value → Option α} {z : α} (h : z_l2 st f = some z) : ∃ x y r, st = .long y :: .long x :: r ∧ f x y r = some z := by
  unfold z_l2 at h
  split at h
  next y x r => exact ⟨x, y, r, rfl, h⟩
  next => cases h
theorem z_i1_s {α : Type} {st : List Value} {f : Int32 → List Value → Option α} {y : α} (h : z_i1 st f = some y) : ∃ x r, st = .int x :: r ∧ f x r = some y := by
  unfold z_i1 at h
  split at h
  next x r => exact ⟨x, r, rfl, h⟩
  next => cases h
theorem z_i2_s {α : Type} {st : List Value} {f : Int32 → Int32 → List Value → Option α} {z : α} (h : z_i2 st f = some z) : ∃ x y r, st = .int y :: .int x :: r ∧ f x y r = some z := by
  unfold z_i2 at h
  split at h
  next y x r => exact ⟨x, y, r, rfl, h⟩
  next => cases h
theorem z_r1_s {α : Type} {st : List Value} {f : Nat → List Value → Option α} {y : α} (h : z_r1 st f = some y) : ∃ x r, st = .ref x :: r ∧ f x r = some y := by
  unfold z_r1 at h
  split at h
  next x r => exact ⟨x, r, rfl, h⟩
  next => cases h
theorem z_v1_s {α : Type} {st : List Value} {f : Value → List Value → Option α} {y : α} (h : z_v1 st f = some y) : ∃ x r, st = x :: r ∧ f x r = some y := by
  unfold z_v1 at h
  split at h
  next x r => exact ⟨x, r, rfl, h⟩
  next => cases h
abbrev zF : Type := Nat × List Value × List Value
def z_ldi (ls st : List Value) (i pc : Nat) : Option zF := match ls[i]? with
  | some (.int x) => some (pc, ls, .int x :: st)
  | _ => none
def z_lda (ls st : List Value) (i pc : Nat) : Option zF := match ls[i]? with
  | some (.ref x) => some (pc, ls, .ref x :: st)
  | _ => none
def z_sti (ls st : List Value) (i pc : Nat) : Option zF := z_i1 st fun x r => if i < ls.length then some (pc, ls.set i (.int x), r) else none
def z_sta (ls st : List Value) (i pc : Nat) : Option zF := z_r1 st fun x r => if i < ls.length then some (pc, ls.set i (.ref x), r) else none
def z_ldl (ls st : List Value) (i pc : Nat) : Option zF := match ls[i]? with
  | some (.long x) => (match ls[i + 1]? with
    | some (.float _) => some (pc, ls, .long x :: st)
    | _ => none)
  | _ => none
def z_stl (ls st : List Value) (i pc : Nat) : Option zF := z_l1 st fun x r => if i + 1 < ls.length then some (pc, (ls.set i (.long x)).set (i + 1) zTop, r) else none
def z_kstL (k i pc : Nat) (ls st : List Value) : Option zF := match z_lkL zLT (z_cls k) i with
  | some q => some (pc, ls, .long q.1 :: st)
  | none => none
def z_inc (ls st : List Value) (i : Nat) (n : Int) (pc : Nat) : Option zF := match ls[i]? with
  | some (.int x) => if i < ls.length then some (pc, ls.set i (.int (x + Int32.ofInt n)), st) else none
  | _ => none
def z_kst (k i pc : Nat) (ls st : List Value) : Option zF := match z_lkK zKT (z_cls k) i with
  | some q => some (pc, ls, .int q.1 :: st)
  | none => none
def z_t0 (c : Jvm.ClassFile.Cond) (x : Int32) : Bool := match c with
  | .eq => decide (x = 0)
  | .ne => decide (¬ x = 0)
  | .lt => decide (x < 0)
  | .ge => decide (0 ≤ x)
  | .gt => decide (0 < x)
  | .le => decide (x ≤ 0)
def z_t2 (c : Jvm.ClassFile.Cond) (x y : Int32) : Bool := match c with
  | .eq => decide (x = y)
  | .ne => decide (¬ x = y)
  | .lt => decide (x < y)
  | .ge => decide (y ≤ x)
  | .gt => decide (y < x)
  | .le => decide (x ≤ y)
def z_br (ls r : List Value) (pc : Nat) (off : Int) (b : Bool) : Option zF := if 0 ≤ (pc : Int) + off then some (if b then ((pc : Int) + off).toNat else pc + 3, ls, r) else none
def z_go (ls r : List Value) (pc : Nat) (off : Int) : Option zF := if 0 ≤ (pc : Int) + off then some (((pc : Int) + off).toNat, ls, r) else none
def z_tab (ls : List Value) (pc : Nat) (d lo hi : Int) (offs : Array Int) (x : Int32) (r : List Value) : Option zF :=
  if x.toInt < lo ∨ hi < x.toInt then z_go ls r pc d else match offs[(x.toInt - lo).toNat]? with
    | some off => z_go ls r pc off
    | none => none
def z_swi (ls : List Value) (pc : Nat) (d : Int) (ps : Array (Int × Int)) (x : Int32) (r : List Value) : Option zF :=
  if (ps.toList.zip (ps.toList.drop 1)).all (fun (a, next) => a.1 < next.1) = true then z_go ls r pc (Op.lookupswitch.offset ps.toList d x.toInt) else none
/-- what touches no cell -/
def z_pure (k : Nat) (ins : Instr) (pc : Nat) (ls st : List Value) : Option zF := match ins with
  | .iconst n => some (pc + 1, ls, .int (Int32.ofInt n) :: st)
  | .bipush n => some (pc + 2, ls, .int (Int8.ofInt n).toInt32 :: st)
  | .sipush n => some (pc + 3, ls, .int (Int16.ofInt n).toInt32 :: st)
  | .ldc i => z_kst k i (pc + 2) ls st
  | .ldc_w i => z_kst k i (pc + 3) ls st
  | .iload_n i => z_ldi ls st i.val (pc + 1)
  | .iload i => z_ldi ls st i (pc + 2)
  | .aload_n i => z_lda ls st i.val (pc + 1)
  | .aload i => z_lda ls st i (pc + 2)
  | .istore_n i => z_sti ls st i.val (pc + 1)
  | .istore i => z_sti ls st i (pc + 2)
  | .astore_n i => z_sta ls st i.val (pc + 1)
  | .astore i => z_sta ls st i (pc + 2)
  | .iinc i n => z_inc ls st i n (pc + 3)
  | .iadd => z_i2 st fun x y r => some (pc + 1, ls, .int (x + y) :: r)
  | .isub => z_i2 st fun x y r => some (pc + 1, ls, .int (x - y) :: r)
  | .imul => z_i2 st fun x y r => some (pc + 1, ls, .int (x * y) :: r)
  | .iand => z_i2 st fun x y r => some (pc + 1, ls, .int (x &&& y) :: r)
  | .idiv => z_i2 st fun x y r => if y = 0 then none else some (pc + 1, ls, .int (x / y) :: r)
  | .irem => z_i2 st fun x y r => if y = 0 then none else some (pc + 1, ls, .int (x - x / y * y) :: r)
  | .ineg => z_i1 st fun x r => some (pc + 1, ls, .int (-x) :: r)
  | .i2c => z_i1 st fun x r => some (pc + 1, ls, .int (x.toUInt32 % 65536).toInt32 :: r)
  | .ldc2_w i => z_kstL k i (pc + 3) ls st
  | .lload_n i => z_ldl ls st i.val (pc + 1)
  | .lload i => z_ldl ls st i (pc + 2)
  | .lstore_n i => z_stl ls st i.val (pc + 1)
  | .lstore i => z_stl ls st i (pc + 2)
  | .ladd => z_l2 st fun x y r => some (pc + 1, ls, .long (x + y) :: r)
  | .lmul => z_l2 st fun x y r => some (pc + 1, ls, .long (x * y) :: r)
  | .lcmp => z_l2 st fun x y r => some (pc + 1, ls, .int (lg_cmp x y) :: r)
  | .i2l => z_i1 st fun x r => some (pc + 1, ls, .long x.toInt64 :: r)
  | .ishr => z_i2 st fun x y r => some (pc + 1, ls, .int (x >>> (y &&& 31)) :: r)
  | .dup => z_v1 st fun v r => if z_c1 v = true then some (pc + 1, ls, v :: v :: r) else none
  | .ifCond c off => z_i1 st fun x r => z_br ls r pc off (z_t0 c x)
  | .if_icmp c off => z_i2 st fun x y r => z_br ls r pc off (z_t2 c x y)
  | .goto off => z_go ls st pc off
  | .tableswitch d lo hi offs => z_i1 st fun x r => z_tab ls pc d lo hi offs x r
  | .lookupswitch d ps => z_i1 st fun x r => z_swi ls pc d ps x r
  | _ => none
def z_isR (ci f : Nat) : Bool := match zTy ci f with
  | .int | .boolean => false
  | _ => true
def z_isZ (ci f : Nat) : Bool := match zTy ci f with
  | .boolean => true
  | _ => false
def z_setI (h : zA) (a f : Nat) (x : Int32) : zA := (h.1, h.2.1, h.2.2.1, va_up h.2.2.2.1 a (upd (h.2.2.2.1 a) f x), h.2.2.2.2)
def z_setR (h : zA) (a f : Nat) (x : Nat) : zA := (h.1, h.2.1, h.2.2.1, h.2.2.2.1, va_up h.2.2.2.2 a (va_up (h.2.2.2.2 a) f (some x)))
def z_mk (h : zA) (kd len n : Nat) : zA := (h.1 + 1, h.2.1 + n, va_up h.2.2.1 (h.1 + 1) (kd, len), va_up h.2.2.2.1 (h.1 + 1) (fun _ => 0), va_up h.2.2.2.2 (h.1 + 1) (fun _ => none))
/-- an outer array and its rows -/
def z_mk2 (h : zA) (n k : Nat) : zA := (h.1 + 1 + n, h.2.1 + n + n * k, fun j => if j = h.1 + 1 then (103, n) else if h.1 + 1 < j then (100, k) else h.2.2.1 j, fun j => if h.1 < j then (fun _ => 0) else h.2.2.2.1 j, fun j => if j = h.1 + 1 then (fun i => if i < n then some (h.1 + 2 + i) else none) else if h.1 < j then (fun _ => none) else h.2.2.2.2 j)
abbrev zG : Type := List Value × zA
def z_lv (h : zA) (a kd : Nat) : Prop := 1 ≤ a ∧ a ≤ h.1 ∧ (h.2.2.1 a).1 = kd
def z_ix (h : zA) (a : Nat) (i : Int32) : Prop := ¬ (i < 0 ∨ (h.2.2.1 a).2 ≤ i.toNatClampNeg)
def z_gf (k i : Nat) (st : List Value) (h : zA) : Option zG := z_r1 st fun a r => match z_lk3 zFT (z_cls k) i with
  | some q => if 1 ≤ a ∧ a ≤ h.1 ∧ (h.2.2.1 a).1 = q.1 then (if z_isR q.1 q.2.1 then (match h.2.2.2.2 a q.2.1 with
      | some j => some (.ref j :: r, h)
      | none => none) else some (.int (h.2.2.2.1 a q.2.1) :: r, h)) else none
  | none => none
def z_pfI (k : Nat) (q : Nat × Nat × Nat × Nat) (x : Int32) (a : Nat) (h : zA) : Prop := 1 ≤ a ∧ a ≤ h.1 ∧ (h.2.2.1 a).1 = q.1 ∧ z_isR q.1 q.2.1 = false ∧ (z_isZ q.1 q.2.1 = false ∨ x = 0 ∨ x = 1) ∧ (zTn q.1 q.2.1).2.2.2 = false
def z_pfR (k : Nat) (q : Nat × Nat × Nat × Nat) (a : Nat) (h : zA) : Prop := 1 ≤ a ∧ a ≤ h.1 ∧ (h.2.2.1 a).1 = q.1 ∧ z_isR q.1 q.2.1 = true ∧ (zTn q.1 q.2.1).2.2.2 = true ∧ z_kd k = 2 ∧ q.2.2.1 = 0
def z_pf (k i : Nat) (st : List Value) (h : zA) : Option zG := z_v1 st fun v r => z_r1 r fun a r => match z_lk3 zFT (z_cls k) i with
  | some q => (match v with
    | .int x => if 1 ≤ a ∧ a ≤ h.1 ∧ (h.2.2.1 a).1 = q.1 ∧ z_isR q.1 q.2.1 = false ∧ (z_isZ q.1 q.2.1 = false ∨ x = 0 ∨ x = 1) ∧ (zTn q.1 q.2.1).2.2.2 = false then some (r, z_setI h a q.2.1 x) else none
    | .ref x => if 1 ≤ a ∧ a ≤ h.1 ∧ (h.2.2.1 a).1 = q.1 ∧ z_isR q.1 q.2.1 = true ∧ (zTn q.1 q.2.1).2.2.2 = true ∧ z_kd k = 2 ∧ q.2.2.1 = 0 then some (r, z_setR h a q.2.1 x) else none
    | _ => none)
  | none => none
def z_ald (sc : Nat × (Nat → Int32)) (k kd : Nat) (st : List Value) (h : zA) : Option zG := z_i1 st fun i r => z_r1 r fun a r =>
  if (1 ≤ a ∧ a ≤ h.1 ∧ (h.2.2.1 a).1 = kd) ∧ ¬ (i < 0 ∨ (h.2.2.1 a).2 ≤ i.toNatClampNeg) then some (.int (h.2.2.2.1 a i.toNatClampNeg) :: r, h)
  else if (a = 0 ∧ k = zLaw ∧ kd = 100) ∧ ¬ (i < 0 ∨ sc.1 ≤ i.toNatClampNeg) then some (.int (sc.2 i.toNatClampNeg) :: r, h) else none
def z_ast (kd : Nat) (nar : Int32 → Int32) (st : List Value) (h : zA) : Option zG := z_i2 st fun i x r => z_r1 r fun a r =>
  if (1 ≤ a ∧ a ≤ h.1 ∧ (h.2.2.1 a).1 = kd) ∧ ¬ (i < 0 ∨ (h.2.2.1 a).2 ≤ i.toNatClampNeg) then some (r, z_setI h a i.toNatClampNeg (nar x)) else none
def z_aald (st : List Value) (h : zA) : Option zG := z_i1 st fun i r => z_r1 r fun a r =>
  if (1 ≤ a ∧ a ≤ h.1 ∧ ((h.2.2.1 a).1 = 102 ∨ (h.2.2.1 a).1 = 103)) ∧ ¬ (i < 0 ∨ (h.2.2.1 a).2 ≤ i.toNatClampNeg) then (match h.2.2.2.2 a i.toNatClampNeg with
    | some j => some (.ref j :: r, h)
    | none => none) else none
def z_aast (st : List Value) (h : zA) : Option zG := z_r1 st fun v r => z_i1 r fun i r => z_r1 r fun a r =>
  if (1 ≤ a ∧ a ≤ h.1 ∧ (h.2.2.1 a).1 = 102) ∧ (1 ≤ v ∧ v ≤ h.1 ∧ (h.2.2.1 v).1 = 2) ∧ ¬ (i < 0 ∨ (h.2.2.1 a).2 ≤ i.toNatClampNeg) then some (r, z_setR h a i.toNatClampNeg v) else none
def z_new (k i : Nat) (st : List Value) (h : zA) : Option zG := match z_lk1 zNT (z_cls k) i with
  | some q => if q.1 < 10 then some (.ref (h.1 + 1) :: st, z_mk h q.1 0 (zN q.1)) else none
  | none => none
def z_newa (kd : Nat) (st : List Value) (h : zA) : Option zG := z_i1 st fun n r => if ¬ n < 0 ∧ n.toNatClampNeg ≤ 100000 then some (.ref (h.1 + 1) :: r, z_mk h kd n.toNatClampNeg n.toNatClampNeg) else none
def z_newq (k i : Nat) (st : List Value) (h : zA) : Option zG := match z_lk0 zQT (z_cls k) i with
  | some _ => z_newa 102 st h
  | none => none
def z_newm (k i : Nat) (st : List Value) (h : zA) : Option zG := match z_lk0 zMT (z_cls k) i with
  | some _ => z_i2 st fun n m r => if ¬ n < 0 ∧ n.toNatClampNeg ≤ 100000 ∧ ¬ m < 0 ∧ m.toNatClampNeg ≤ 100000 then some (.ref (h.1 + 1) :: r, z_mk2 h n.toNatClampNeg m.toNatClampNeg) else none
  | none => none
def z_len0 (sc : Nat × (Nat → Int32)) (k : Nat) (st : List Value) (h : zA) : Option zG := z_r1 st fun a r => if a = 0 ∧ k = zLaw then some (.int (Int32.ofNat sc.1) :: r, h) else none
def z_obj (k i : Nat) (st : List Value) (h : zA) : Option zG := match z_lk0 zOT (z_cls k) i with
  | some _ => z_r1 st fun _ r => if 1 ≤ z_fr k ∧ 2 * r.length + 12 ≤ z_lo k then some (r, h) else none
  | none => none
def z_math (k i : Nat) (st : List Value) (h : zA) : Option zG := match z_lk1 zXT (z_cls k) i with
  | some q => if q.1 = 0 then (z_i1 st fun x r => if 1 ≤ z_fr k ∧ 2 * r.length + 13 ≤ z_lo k then some (.int (if 0 ≤ x then x else 0 - x) :: r, h) else none)
      else if q.1 = 1 then (z_i2 st fun x y r => if 1 ≤ z_fr k ∧ 2 * r.length + 13 ≤ z_lo k then some (.int (if x < y then y else x) :: r, h) else none) else none
  | none => none
/-- what the law's own method lot answers -/
def z_lt (sc : Nat × (Nat → Int32)) (x : Int32) : Int32 := if x < Int32.ofNat sc.1 then sc.2 x.toNatClampNeg else -1076894359 * (x + 2887) + 2683
def z_lot (sc : Nat × (Nat → Int32)) (k i : Nat) (st : List Value) (h : zA) : Option zG := match z_lk0 zVT (z_cls k) i with
  | some _ => z_i1 st fun x r => z_r1 r fun a r => if (a = 0 ∧ k = zLaw ∧ ¬ x < 0 ∧ sc.1 ≤ 2048) ∧ 1 ≤ z_fr k ∧ r.length ≤ 4 ∧ 21 ≤ z_lo k then some (.int (z_lt sc x) :: r, h) else none
  | none => z_math k i st h
/-- what touches cells (calls of own methods aside) -/
def z_heap (sc : Nat × (Nat → Int32)) (k : Nat) (ins : Instr) (st : List Value) (h : zA) : Option zG := match ins with
  | .getfield i => z_gf k i st h
  | .putfield i => z_pf k i st h
  | .iaload => z_ald sc k 100 st h
  | .caload => z_ald sc k 101 st h
  | .aaload => z_aald st h
  | .iastore => z_ast 100 (fun x => x) st h
  | .castore => z_ast 101 (fun x => vp_nar .char x) st h
  | .aastore => z_aast st h
  | .arraylength => z_len0 sc k st h
  | .new i => z_new k i st h
  | .newarray t => (match t with
    | .int => z_newa 100 st h
    | .char => z_newa 101 st h
    | _ => none)
  | .anewarray i => z_newq k i st h
  | .multianewarray i d => if d = 2 then z_newm k i st h else none
  | .invokespecial i => z_obj k i st h
  | .invokestatic i => z_lot sc k i st h
  | _ => none
abbrev zH : Type := Nat × List Value × List Value × zA
def z_stepI (sc : Nat × (Nat → Int32)) (k : Nat) (ins : Instr) (len pc : Nat) (ls st : List Value) (h : zA) : Option zH := if len = z_len ins len then (match z_pure k ins pc ls st with
    | some q => some (q.1, q.2.1, q.2.2, h)
    | none => match z_heap sc k ins st h with
      | some q => some (pc + len, ls, q.1, q.2)
      | none => none) else none
def z_step (sc : Nat × (Nat → Int32)) (k pc : Nat) (ls st : List Value) (h : zA) : Option zH := match decode (z_code k) pc with
  | .ok q => z_stepI sc k q.1 q.2 pc ls st h
  | .error _ => none
/-- a method's end: what it answers -/
def z_retI (k : Nat) (ins : Instr) (st : List Value) : Option (Option Value) := match ins with
  | .return_ => if z_ret k = none ∧ st = [] then some none else none
  | .ireturn => z_i1 st fun x r => if r = [] ∧ (z_ret k = some .int ∨ (z_ret k = some .boolean ∧ (x = 0 ∨ x = 1))) then some (some (.int x)) else none
  | .lreturn => z_l1 st fun x r => if r = [] ∧ z_ret k = some .long then some (some (.long x)) else none
  | .areturn => z_r1 st fun x r => if r = [] ∧ (z_ret k = some (.object RX0) ∨ z_ret k = some (.object RX6)) then some (some (.ref x)) else none
  | _ => none
def z_end (k pc : Nat) (st : List Value) : Option (Option Value) := match decode (z_code k) pc with
  | .ok q => if q.2 = 1 then z_retI k q.1 st else none
  | .error _ => none
def z_rc (h : zA) (c : Nat) (as : List Value) : Bool := match as with
  | .ref a :: _ => decide (1 ≤ a ∧ a ≤ h.1 ∧ (h.2.2.1 a).1 = c)
  | _ => false
/-- a call of an own method: the method, its arguments, the rest of the stack -/
def z_ar (kd : Nat) : Nat := match kd with
  | 1 => 0
  | _ => 1
def z_callY (k i kd : Nat) (st : List Value) (h : zA) : Option (Nat × List Value × List Value) := match z_lk2 zCT (z_cls k) i with
  | some q => if z_kd q.1 = kd ∧ z_np q.1 + z_ar kd ≤ st.length ∧ z_np q.1 + z_ar kd ≤ z_ml q.1 ∧ q.1 < zLaw ∧ (st.drop (z_np q.1 + z_ar kd)).length ≤ 4 ∧ (st.take (z_np q.1 + z_ar kd)).all z_c1 = true ∧ z_fr q.1 + 1 ≤ z_fr k ∧ 8 + (z_ml q.1 + 11) + z_lo q.1 ≤ z_lo k ∧ (kd = 1 ∨ z_rc h (z_cls q.1) (st.take (z_np q.1 + z_ar kd)).reverse = true) then some (q.1, (st.take (z_np q.1 + z_ar kd)).reverse, st.drop (z_np q.1 + z_ar kd)) else none
  | none => none
def z_inv (k pc : Nat) (st : List Value) (h : zA) : Option (Nat × List Value × List Value) := match decode (z_code k) pc with
  | .ok q => if q.2 = 3 then (match q.1 with
      | .invokevirtual i => z_callY k i 0 st h
      | .invokestatic i => z_callY k i 1 st h
      | .invokespecial i => z_callY k i 2 st h
      | _ => none) else none
  | .error _ => none
def z_run (sc : Nat × (Nat → Int32)) : Nat → Nat → Nat → List Value → List Value → zA → Option (Option Value × zA)
  | 0, _, _, _, _, _ => none
  | n + 1, k, pc, ls, st, h => match z_end k pc st with
    | some r => some (r, h)
    | none => match z_step sc k pc ls st h with
      | some q => z_run sc n k q.1 q.2.1 q.2.2.1 q.2.2.2
      | none => match z_inv k pc st h with
        | some q => (match z_run sc n q.1 0 (q.2.1 ++ List.replicate (z_ml q.1 - q.2.1.length) .null) [] h with
          | some r => z_run sc n k (pc + 3) ls (r.1.toList ++ q.2.2) r.2
          | none => none)
        | none => none
theorem z_mono (sc : Nat × (Nat → Int32)) : ∀ (n k pc : Nat) (ls st : List Value) (h : zA) (r : Option Value × zA), z_run sc n k pc ls st h = some r → ∀ m, n ≤ m → z_run sc m k pc ls st h = some r := by
  intro n
  induction n with
  | zero => intro k pc ls st h r e; cases e
  | succ n ih =>
    intro k pc ls st h r e m hm
    obtain ⟨m, rfl⟩ : ∃ m', m = m' + 1 := ⟨m - 1, by omega⟩
    have hm : n ≤ m := by omega
    unfold z_run at e ⊢
    cases h1 : z_end k pc st with
    | some x => rw [h1] at e; exact e
    | none =>
      rw [h1] at e
      dsimp only at e ⊢
      cases h2 : z_step sc k pc ls st h with
      | some q => rw [h2] at e; exact ih _ _ _ _ _ _ e m hm
      | none =>
        rw [h2] at e
        dsimp only at e ⊢
        cases h3 : z_inv k pc st h with
        | none => rw [h3] at e; cases e
        | some q =>
          rw [h3] at e
          dsimp only at e ⊢
          cases h4 : z_run sc n q.1 0 (q.2.1 ++ List.replicate (z_ml q.1 - q.2.1.length) .null) [] h with
          | none => rw [h4] at e; cases e
          | some r4 =>
            rw [h4] at e
            rw [ih _ _ _ _ _ _ h4 m hm]
            exact ih _ _ _ _ _ _ e m hm
end
section
/-! ===== the tables say what the words of the Statement say: by places among lw_tbl (printed by wip/whole/gen1.py, its end by hand: wip/whole/check.tail.txt) ===== -/
def zT : List Jvm.Cond := lw_tbl.filter goodWord
theorem z_in {w : Jvm.Cond} (i : Nat) (h : lw_tbl[i]? = some w) (g : goodWord w = true) : w ∈ zT := List.mem_filter.mpr ⟨List.mem_of_getElem? h, g⟩
abbrev zkP (q : MethodName × ByteArray × Nat × Option FieldType × Nat × Nat × Nat × Nat × Nat) : Prop := Jvm.Cond.code q.1 q.2.1 q.2.2.1 q.2.2.2.1 ∈ zT
set_option maxRecDepth 20000 in
theorem zk_0 : ∀ q ∈ zML_0, zkP q := List.forall_mem_cons.mpr ⟨z_in 173 rfl rfl, List.forall_mem_cons.mpr ⟨z_in 415 rfl rfl, List.forall_mem_cons.mpr ⟨z_in 411 rfl rfl, List.forall_mem_cons.mpr ⟨z_in 209 rfl rfl, List.forall_mem_cons.mpr ⟨z_in 383 rfl rfl, List.forall_mem_cons.mpr ⟨z_in 526 rfl rfl, List.forall_mem_cons.mpr ⟨z_in 83 rfl rfl, List.forall_mem_cons.mpr ⟨z_in 77 rfl rfl, List.forall_mem_cons.mpr ⟨z_in 129 rfl rfl, List.forall_mem_cons.mpr ⟨z_in 125 rfl rfl, List.forall_mem_cons.mpr ⟨z_in 71 rfl rfl, List.forall_mem_cons.mpr ⟨z_in 340 rfl rfl, List.forall_mem_cons.mpr ⟨z_in 336 rfl rfl, List.forall_mem_cons.mpr ⟨z_in 332 rfl rfl, List.forall_mem_cons.mpr ⟨z_in 310 rfl rfl, List.forall_mem_cons.mpr ⟨z_in 306 rfl rfl, List.forall_mem_cons.mpr ⟨z_in 424 rfl rfl, List.forall_mem_cons.mpr ⟨z_in 442 rfl rfl, List.forall_mem_cons.mpr ⟨z_in 457 rfl rfl, fun _ h => absurd h List.not_mem_nil⟩⟩⟩⟩⟩⟩⟩⟩⟩⟩⟩⟩⟩⟩⟩⟩⟩⟩⟩
set_option maxRecDepth 20000 in
theorem zk_1 : ∀ q ∈ zML_1, zkP q := List.forall_mem_cons.mpr ⟨z_in 541 rfl rfl, List.forall_mem_cons.mpr ⟨z_in 314 rfl rfl, List.forall_mem_cons.mpr ⟨z_in 375 rfl rfl, List.forall_mem_cons.mpr ⟨z_in 379 rfl rfl, List.forall_mem_cons.mpr ⟨z_in 448 rfl rfl, List.forall_mem_cons.mpr ⟨z_in 156 rfl rfl, List.forall_mem_cons.mpr ⟨z_in 495 rfl rfl, List.forall_mem_cons.mpr ⟨z_in 491 rfl rfl, List.forall_mem_cons.mpr ⟨z_in 328 rfl rfl, List.forall_mem_cons.mpr ⟨z_in 481 rfl rfl, List.forall_mem_cons.mpr ⟨z_in 485 rfl rfl, List.forall_mem_cons.mpr ⟨z_in 477 rfl rfl, List.forall_mem_cons.mpr ⟨z_in 473 rfl rfl, List.forall_mem_cons.mpr ⟨z_in 503 rfl rfl, List.forall_mem_cons.mpr ⟨z_in 499 rfl rfl, List.forall_mem_cons.mpr ⟨z_in 513 rfl rfl, List.forall_mem_cons.mpr ⟨z_in 531 rfl rfl, List.forall_mem_cons.mpr ⟨z_in 318 rfl rfl, List.forall_mem_cons.mpr ⟨z_in 190 rfl rfl, fun _ h => absurd h List.not_mem_nil⟩⟩⟩⟩⟩⟩⟩⟩⟩⟩⟩⟩⟩⟩⟩⟩⟩⟩⟩
set_option maxRecDepth 20000 in
theorem zk_2 : ∀ q ∈ zML_2, zkP q := List.forall_mem_cons.mpr ⟨z_in 371 rfl rfl, List.forall_mem_cons.mpr ⟨z_in 366 rfl rfl, List.forall_mem_cons.mpr ⟨z_in 461 rfl rfl, List.forall_mem_cons.mpr ⟨z_in 553 rfl rfl, List.forall_mem_cons.mpr ⟨z_in 226 rfl rfl, List.forall_mem_cons.mpr ⟨z_in 587 rfl rfl, List.forall_mem_cons.mpr ⟨z_in 579 rfl rfl, List.forall_mem_cons.mpr ⟨z_in 610 rfl rfl, List.forall_mem_cons.mpr ⟨z_in 242 rfl rfl, List.forall_mem_cons.mpr ⟨z_in 361 rfl rfl, List.forall_mem_cons.mpr ⟨z_in 615 rfl rfl, List.forall_mem_cons.mpr ⟨z_in 623 rfl rfl, List.forall_mem_cons.mpr ⟨z_in 628 rfl rfl, List.forall_mem_cons.mpr ⟨z_in 619 rfl rfl, List.forall_mem_cons.mpr ⟨z_in 632 rfl rfl, List.forall_mem_cons.mpr ⟨z_in 606 rfl rfl, List.forall_mem_cons.mpr ⟨z_in 602 rfl rfl, List.forall_mem_cons.mpr ⟨z_in 598 rfl rfl, List.forall_mem_cons.mpr ⟨z_in 63 rfl rfl, fun _ h => absurd h List.not_mem_nil⟩⟩⟩⟩⟩⟩⟩⟩⟩⟩⟩⟩⟩⟩⟩⟩⟩⟩⟩
set_option maxRecDepth 20000 in
theorem zk_3 : ∀ q ∈ zML_3, zkP q := List.forall_mem_cons.mpr ⟨z_in 567 rfl rfl, List.forall_mem_cons.mpr ⟨z_in 545 rfl rfl, List.forall_mem_cons.mpr ⟨z_in 549 rfl rfl, List.forall_mem_cons.mpr ⟨z_in 559 rfl rfl, List.forall_mem_cons.mpr ⟨z_in 563 rfl rfl, List.forall_mem_cons.mpr ⟨z_in 407 rfl rfl, List.forall_mem_cons.mpr ⟨z_in 403 rfl rfl, List.forall_mem_cons.mpr ⟨z_in 438 rfl rfl, List.forall_mem_cons.mpr ⟨z_in 438 rfl rfl, List.forall_mem_cons.mpr ⟨z_in 438 rfl rfl, List.forall_mem_cons.mpr ⟨z_in 469 rfl rfl, List.forall_mem_cons.mpr ⟨z_in 509 rfl rfl, List.forall_mem_cons.mpr ⟨z_in 522 rfl rfl, List.forall_mem_cons.mpr ⟨z_in 537 rfl rfl, List.forall_mem_cons.mpr ⟨z_in 517 rfl rfl, List.forall_mem_cons.mpr ⟨z_in 392 rfl rfl, List.forall_mem_cons.mpr ⟨z_in 386 rfl rfl, List.forall_mem_cons.mpr ⟨z_in 358 rfl rfl, List.forall_mem_cons.mpr ⟨z_in 434 rfl rfl, fun _ h => absurd h List.not_mem_nil⟩⟩⟩⟩⟩⟩⟩⟩⟩⟩⟩⟩⟩⟩⟩⟩⟩⟩⟩
set_option maxRecDepth 20000 in
theorem zk_4 : ∀ q ∈ zML_4, zkP q := List.forall_mem_cons.mpr ⟨z_in 428 rfl rfl, List.forall_mem_cons.mpr ⟨z_in 420 rfl rfl, List.forall_mem_cons.mpr ⟨z_in 453 rfl rfl, List.forall_mem_cons.mpr ⟨z_in 438 rfl rfl, List.forall_mem_cons.mpr ⟨z_in 438 rfl rfl, List.forall_mem_cons.mpr ⟨z_in 303 rfl rfl, List.forall_mem_cons.mpr ⟨z_in 323 rfl rfl, List.forall_mem_cons.mpr ⟨z_in 583 rfl rfl, List.forall_mem_cons.mpr ⟨z_in 575 rfl rfl, List.forall_mem_cons.mpr ⟨z_in 594 rfl rfl, List.forall_mem_cons.mpr ⟨z_in 640 rfl rfl, List.forall_mem_cons.mpr ⟨z_in 347 rfl rfl, List.forall_mem_cons.mpr ⟨z_in 351 rfl rfl, List.forall_mem_cons.mpr ⟨z_in 399 rfl rfl, List.forall_mem_cons.mpr ⟨z_in 571 rfl rfl, List.forall_mem_cons.mpr ⟨z_in 590 rfl rfl, List.forall_mem_cons.mpr ⟨z_in 465 rfl rfl, fun _ h => absurd h List.not_mem_nil⟩⟩⟩⟩⟩⟩⟩⟩⟩⟩⟩⟩⟩⟩⟩⟩⟩
def zc_m (j : Nat) : Bool :=
  let q := zMW.getD j (0, 0, 0, 0)
  decide (lw_tbl[q.2.1]? = some (.initialized (z_y j).cls)) &&
  (match z_kd j with
    | 0 => decide (lw_tbl[q.2.2.1]? = some (.instanceMethod (z_y j))) && decide (lw_tbl[q.2.2.2]? = some (.selects (z_y j).cls (z_y j) (z_y j)))
    | 1 => decide (lw_tbl[q.2.2.1]? = some (.static (z_y j)))
    | _ => decide (lw_tbl[q.2.2.1]? = some (.instanceMethod (z_y j))) && decide ((z_y j).name = "<init>") && decide (z_ret j = none)) &&
  plainName (z_y j).cls && decide ((z_y j).cls ≠ "java/lang/invoke/MethodHandle") && decide ((z_y j).cls ≠ "java/lang/invoke/VarHandle") && decide ((parseMethodDescriptor (z_y j).desc).map (fun d => d.parameters.length) = some (z_np j)) && decide ((z_y j).cls = zR (z_cls j)) && decide (z_cls j < 10 ∨ z_kd j = 1)
theorem zc_m_0 : (List.range' 0 19).all zc_m = true := by decide +kernel
theorem zc_m_19 : (List.range' 19 19).all zc_m = true := by decide +kernel
theorem zc_m_38 : (List.range' 38 19).all zc_m = true := by decide +kernel
theorem zc_m_57 : (List.range' 57 19).all zc_m = true := by decide +kernel
theorem zc_m_76 : (List.range' 76 17).all zc_m = true := by decide +kernel
def zc_c (q : Nat × Nat × Nat × Nat × Nat) : Bool := decide (lw_tbl[q.2.2.2.2]? = some (if q.2.2.2.1 = 0 then .methodLink (zR q.1) q.2.1 (z_y q.2.2.1) else .methodLinkNest (zR q.1) q.2.1 (z_y q.2.2.1) zHost)) && decide (q.2.2.2.1 = 1 ∨ z_kd q.2.2.1 ≠ 1 ∨ (z_y q.2.2.1).cls = zR q.1)
set_option maxRecDepth 100000 in
theorem zc_c_ok : zCT.all zc_c = true := by decide +kernel
def zc_f (q : Nat × Nat × Nat × Nat × Nat × Nat) : Bool := decide (lw_tbl[q.2.2.2.2.2]? = some (if q.2.2.2.2.1 = 0 then .fieldLink (zR q.1) q.2.1 (zTn q.2.2.1 q.2.2.2.1).1 (zTn q.2.2.1 q.2.2.2.1).2.1 (zTn q.2.2.1 q.2.2.2.1).2.2.1 else .fieldLinkNest (zR q.1) q.2.1 (zTn q.2.2.1 q.2.2.2.1).1 (zTn q.2.2.1 q.2.2.2.1).2.1 (zTn q.2.2.1 q.2.2.2.1).2.2.1 zHost)) && decide (q.2.2.2.1 < zN q.2.2.1) && decide (q.2.2.1 < 10) && decide (q.2.2.2.2.1 = 1 ∨ q.2.2.2.2.1 = 0) && decide ((zTn q.2.2.1 q.2.2.2.1).2.2.2 = false ∨ (q.1 = q.2.2.1 ∧ (zTn q.2.2.1 q.2.2.2.1).1 = zR q.1) ∨ q.2.2.2.2.1 = 1)
set_option maxRecDepth 100000 in
theorem zc_f_ok : zFT.all zc_f = true := by decide +kernel
def zc_n (q : Nat × Nat × Nat × Nat) : Bool := decide (lw_tbl[q.2.2.2]? = some (.classLink (zR q.1) q.2.1 (zR q.2.2.1)))
theorem zc_n_ok : zNT.all zc_n = true := by decide +kernel
def zc_q (q : Nat × Nat × Nat) : Bool := decide (lw_tbl[q.2.2]? = some (.classLink (zR q.1) q.2.1 RX2))
theorem zc_q_ok : zQT.all zc_q = true := by decide +kernel
def zc_g (q : Nat × Nat × Nat) : Bool := decide (lw_tbl[q.2.2]? = some (.classLink (zR q.1) q.2.1 "[[I"))
theorem zc_g_ok : zMT.all zc_g = true := by decide +kernel
def zc_k (q : Nat × Nat × Int32 × Nat) : Bool := decide (lw_tbl[q.2.2.2]? = some (.constant (zR q.1) q.2.1 q.2.2.1))
theorem zc_k_ok : zKT.all zc_k = true := by decide +kernel
def zc_kl (q : Nat × Nat × Int64 × Nat) : Bool := decide (lw_tbl[q.2.2.2]? = some (.constantLong (zR q.1) q.2.1 q.2.2.1))
theorem zc_kl_ok : zLT.all zc_kl = true := by decide +kernel
def zc_v (q : Nat × Nat × Nat) : Bool := decide (lw_tbl[q.2.2]? = some (.methodLink (zR q.1) q.2.1 yL_lot)) && decide (zR q.1 = RL)
theorem zc_v_ok : zVT.all zc_v = true := by decide +kernel
theorem zc_vw : lw_tbl[zJV.1]? = some (.static yL_lot) ∧ lw_tbl[zJV.2.1]? = some (.code yL_lot cL_lot 2 (some .int)) ∧ lw_tbl[zJV.2.2.1]? = some (.initialized RL) ∧ lw_tbl[zJV.2.2.2]? = some (.constant RL 7 (-1076894359)) := ⟨by decide +kernel, by decide +kernel, by decide +kernel, by decide +kernel⟩
def zc_o (q : Nat × Nat × Nat) : Bool := decide (lw_tbl[q.2.2]? = some (.methodLink (zR q.1) q.2.1 objectInit))
theorem zc_o_ok : zOT.all zc_o = true := by decide +kernel
def zc_x (q : Nat × Nat × Nat × Nat) : Bool := decide (lw_tbl[q.2.2.2]? = some (.methodLink (zR q.1) q.2.1 (if q.2.2.1 = 0 then Lib.Math.abs.name else Lib.Math.max.name)))
theorem zc_x_ok : zXT.all zc_x = true := by decide +kernel
def zc_l (ci : Nat) : Bool := decide ((zLW.getD ci []).map (fun i => lw_tbl[i]?) = (u_ws (zR ci) (zTn ci) (zN ci)).map some) && (u_ws (zR ci) (zTn ci) (zN ci)).all goodWord && decide (lw_tbl[(zCW.getD ci (0, 0)).1]? = some (.instantiable (zR ci) (zN ci))) && decide (lw_tbl[(zCW.getD ci (0, 0)).2]? = some (.initialized (zR ci)))
set_option maxRecDepth 100000 in
theorem zc_l_ok : (List.range 10).all zc_l = true := by decide +kernel
theorem zc_j : lw_tbl[zJW.1]? = some (.instanceMethod objectInit) ∧ lw_tbl[zJW.2.1]? = some (.code objectInit ⟨#[0xb1]⟩ 1 none) ∧ lw_tbl[zJW.2.2.1]? = some (.arrayClass .int) ∧ lw_tbl[zJW.2.2.2.1]? = some (.arrayClass .char) ∧ lw_tbl[zJW.2.2.2.2]? = some (.arrayOver (.object RX2)) := ⟨by decide +kernel, by decide +kernel, by decide +kernel, by decide +kernel, by decide +kernel⟩
theorem zc_w : lw_tbl[zJX.1]? = some (.arrayOver (.array .int)) ∧ lw_tbl[zJX.2.1]? = some (.initialized "java/lang/Math") ∧ lw_tbl[zJX.2.2.1]? = some (.static Lib.Math.abs.name) ∧ lw_tbl[zJX.2.2.2.1]? = some (.code Lib.Math.abs.name Lib.Math.abs.code 1 (some .int)) ∧ lw_tbl[zJX.2.2.2.2.1]? = some (.static Lib.Math.max.name) ∧ lw_tbl[zJX.2.2.2.2.2]? = some (.code Lib.Math.max.name Lib.Math.max.code 2 (some .int)) := ⟨by decide +kernel, by decide +kernel, by decide +kernel, by decide +kernel, by decide +kernel, by decide +kernel⟩
def z_rowOk (ci : Nat) : Bool := (List.range (zN ci)).all (fun a => decide (parseFieldDescriptor (zTn ci a).2.2.1 = some (zTy ci a)) && (List.range (zN ci)).all (fun b => decide (a = b) || decide ((zTn ci a).2.1 ≠ (zTn ci b).2.1)) && (match zTy ci a with
  | .int | .boolean | .object _ | .array _ => true
  | _ => false))
theorem z_row_ok : (List.range 10).all z_rowOk = true := by decide +kernel
end
section
/-! ===== worlds: the abstract heap at real addresses ===== -/
def z_ren (ad : Nat → Nat) (v : Value) : Value := match v with
  | .ref i => .ref (ad i)
  | v => v
def z_wf (n : Nat) (v : Value) : Prop := match v with
  | .int _ => True
  | .null => True
  | .ref i => i ≤ n
  | .long _ => True
  | .float _ => True
  | _ => False
def z_fv (ci f : Nat) (x : Int32) (r : Option Nat) : Value := if z_isR ci f = true then va_rf r else .int x
def z_fs (ad : Nat → Nat) (h : zA) (i : Nat) : List Value := (List.range (zN (h.2.2.1 i).1)).map (fun f => z_fv (h.2.2.1 i).1 f (h.2.2.2.1 i f) ((h.2.2.2.2 i f).map ad))
def z_cell (cA : Nat → ClassId) (ad : Nat → Nat) (h : zA) (i : Nat) : va_E :=
  if (h.2.2.1 i).1 < 10 then .inr ((h.2.2.1 i).1, z_fs ad h i)
  else if (h.2.2.1 i).1 < 102 then .inl (cA i, (h.2.2.1 i).2, .inl (h.2.2.2.1 i))
  else .inl (cA i, (h.2.2.1 i).2, .inr (.inr (.inr (.inr (fun j => (h.2.2.2.2 i j).map ad)))))
def z_ws (cA : Nat → ClassId) (ad : Nat → Nat) (h : zA) : va_W := (List.range h.1).map (fun j => (ad (j + 1), z_cell cA ad h (j + 1)))
def z_aty (kd : Nat) : FieldType := if kd = 100 then .int else if kd = 101 then .char else if kd = 102 then .object RX2 else .array .int
def z_arr (cA : Nat → ClassId) (h : zA) (s : State) : Prop := ∀ i, 1 ≤ i → i ≤ h.1 → 100 ≤ (h.2.2.1 i).1 → ArrOfT s (cA i) (z_aty (h.2.2.1 i).1) ∧ va_RA s (cA i) (z_aty (h.2.2.1 i).1)
def z_hw (h : zA) : Prop := ∀ i, 1 ≤ i → i ≤ h.1 → ((h.2.2.1 i).1 < 10 ∨ (100 ≤ (h.2.2.1 i).1 ∧ (h.2.2.1 i).1 ≤ 103)) ∧ ∀ f j, h.2.2.2.2 i f = some j → j ≤ h.1
theorem z_ws_at {cA : Nat → ClassId} {ad : Nat → Nat} {h : zA} {i : Nat} (h1 : 1 ≤ i) (h2 : i ≤ h.1) : (z_ws cA ad h)[i - 1]? = some (ad i, z_cell cA ad h i) := by
  obtain ⟨j, rfl⟩ : ∃ j, i = j + 1 := ⟨i - 1, by omega⟩
  simp only [z_ws, Nat.add_sub_cancel, List.getElem?_map, List.getElem?_range (show j < h.1 by omega), Option.map_some]
theorem z_ws_len {cA : Nat → ClassId} {ad : Nat → Nat} {h : zA} : (z_ws cA ad h).length = h.1 := by simp [z_ws]
theorem z_ws_get {cA : Nat → ClassId} {ad : Nat → Nat} {h : zA} {j : Nat} (h2 : j < h.1) : (z_ws cA ad h)[j]? = some (ad (j + 1), z_cell cA ad h (j + 1)) := by
  simp only [z_ws, List.getElem?_map, List.getElem?_range h2, Option.map_some]
theorem z_ws_set {cA : Nat → ClassId} {ad : Nat → Nat} {h h' : zA} {i : Nat} {x : va_E} (h1 : 1 ≤ i) (h2 : i ≤ h.1) (hn : h'.1 = h.1) (hx : x = z_cell cA ad h' i) (hc : ∀ j, j ≠ i → z_cell cA ad h' j = z_cell cA ad h j) : (z_ws cA ad h).set (i - 1) (ad i, x) = z_ws cA ad h' := by
  subst hx
  apply List.ext_getElem?
  intro j
  by_cases hj : j < h.1
  · by_cases e : j = i - 1
    · subst e
      rw [List.getElem?_set_self (by rw [z_ws_len]; exact hj), z_ws_get (by omega), show i - 1 + 1 = i by omega]
    · rw [List.getElem?_set_ne (fun q => e q.symm), z_ws_get hj, z_ws_get (by omega), hc (j + 1) (by omega)]
  · rw [List.getElem?_eq_none (by rw [List.length_set, z_ws_len]; omega), List.getElem?_eq_none (by rw [z_ws_len]; omega)]
theorem z_ws_push {cA cA' : Nat → ClassId} {ad ad' : Nat → Nat} {h h' : zA} {q : Nat} {x : va_E} (hn : h'.1 = h.1 + 1) (hq : q = ad' (h.1 + 1)) (hx : x = z_cell cA' ad' h' (h.1 + 1)) (ha : ∀ i, i ≤ h.1 → ad' i = ad i) (hc : ∀ j, 1 ≤ j → j ≤ h.1 → z_cell cA' ad' h' j = z_cell cA ad h j) : z_ws cA ad h ++ [(q, x)] = z_ws cA' ad' h' := by
  subst hx
  subst hq
  apply List.ext_getElem?
  intro j
  by_cases hj : j < h.1
  · rw [List.getElem?_append_left (by rw [z_ws_len]; exact hj), z_ws_get hj, z_ws_get (by omega), ha _ (by omega), hc _ (by omega) (by omega)]
  · by_cases e : j = h.1
    · subst e
      rw [List.getElem?_append_right (by rw [z_ws_len]; omega), z_ws_len, Nat.sub_self, z_ws_get (by omega)]
      rfl
    · rw [List.getElem?_eq_none (by rw [List.length_append, z_ws_len]; simp; omega), List.getElem?_eq_none (by rw [z_ws_len]; omega)]
theorem z_map_set {α : Type} {n f : Nat} {g g' : Nat → α} {v : α} (hv : g' f = v) (hg : ∀ j, j ≠ f → g' j = g j) : ((List.range n).map g).set f v = (List.range n).map g' := by
  apply List.ext_getElem?
  intro j
  by_cases hj : j < n
  · by_cases e : j = f
    · subst e
      rw [List.getElem?_set_self (by simp; exact hj)]
      simp [hj, hv]
    · rw [List.getElem?_set_ne (fun q => e q.symm)]
      simp [hj, hg j e]
  · rw [List.getElem?_eq_none (by simp; omega), List.getElem?_eq_none (by simp; omega)]
theorem z_cat {n : Nat} {ad : Nat → Nat} {v : Value} (h : z_wf n v) (hc : z_c1 v = true) : (z_ren ad v).category = 1 := by
  cases v <;> first | rfl | (exact h.elim) | (cases hc)
theorem z_cat2 {ad : Nat → Nat} {v : Value} : (z_ren ad v).category ≤ 2 := by
  cases v <;> simp [z_ren, Value.category]
theorem z_sum {ad : Nat → Nat} : ∀ {r : List Value}, ((r.map (z_ren ad)).map fun v => v.category).sum ≤ 2 * r.length
  | [] => Nat.le_refl _
  | v :: r => by
    have h1 := z_cat2 (ad := ad) (v := v)
    have h2 := z_sum (ad := ad) (r := r)
    rw [List.map_cons, List.map_cons, List.sum_cons, List.length_cons]
    omega
theorem z_wf_up {n n' : Nat} (hn : n ≤ n') {v : Value} (h : z_wf n v) : z_wf n' v := by
  cases v <;> first | trivial | exact h.elim | exact Nat.le_trans h hn
theorem z_ren_up {n : Nat} {ad ad' : Nat → Nat} (ha : ∀ i, i ≤ n → ad' i = ad i) {v : Value} (h : z_wf n v) : z_ren ad' v = z_ren ad v := by
  cases v with
  | ref i => exact congrArg Value.ref (ha i h)
  | _ => rfl
theorem z_map_up {n : Nat} {ad ad' : Nat → Nat} (ha : ∀ i, i ≤ n → ad' i = ad i) {st : List Value} (h : ∀ v ∈ st, z_wf n v) : st.map (z_ren ad') = st.map (z_ren ad) := List.map_congr_left fun v hv => z_ren_up ha (h v hv)
theorem z_wc {n : Nat} {v : Value} {st : List Value} (h : z_wf n v) (hs : ∀ v ∈ st, z_wf n v) : ∀ w ∈ v :: st, z_wf n w := fun w hw => by
  rcases List.mem_cons.mp hw with rfl | hw
  · exact h
  · exact hs w hw
theorem z_wt {n : Nat} {v : Value} {st : List Value} (hs : ∀ w ∈ v :: st, z_wf n w) : ∀ w ∈ st, z_wf n w := fun w hw => hs w (List.mem_cons_of_mem _ hw)
-- the locals
def z_lvs (ad : Nat → Nat) (ls : List Value) : List (Nat × Value) := (List.range ls.length).filterMap (fun i => match ls[i]? with
  | some (Value.int x) => some (i, Value.int x)
  | some (Value.ref x) => some (i, Value.ref (ad x))
  | some (Value.long x) => (match ls[i + 1]? with
    | some (Value.float _) => some (i, Value.long x)
    | _ => none)
  | _ => none)
theorem z_lvs_in {ad : Nat → Nat} {ls : List Value} {q : Nat × Value} (h : q ∈ z_lvs ad ls) : ∃ v, ls[q.1]? = some v ∧ q.2 = z_ren ad v ∧ (((∃ x, v = .int x) ∨ ∃ x, v = .ref x) ∨ ∃ x f, v = .long x ∧ ls[q.1 + 1]? = some (.float f)) := by
  obtain ⟨i, -, hi⟩ := List.mem_filterMap.mp h
  split at hi
  next x e => cases hi; exact ⟨_, e, rfl, Or.inl (Or.inl ⟨x, rfl⟩)⟩
  next x e => cases hi; exact ⟨_, e, rfl, Or.inl (Or.inr ⟨x, rfl⟩)⟩
  next x e =>
    split at hi
    next f e2 => cases hi; exact ⟨_, e, rfl, Or.inr ⟨x, f, rfl, e2⟩⟩
    next => cases hi
  next => cases hi
theorem z_lvs_i {ad : Nat → Nat} {ls : List Value} {i : Nat} {x : Int32} (h : ls[i]? = some (.int x)) : (i, Value.int x) ∈ z_lvs ad ls := by
  refine List.mem_filterMap.mpr ⟨i, List.mem_range.mpr (List.getElem?_eq_some_iff.mp h).1, ?_⟩
  rw [h]
theorem z_lvs_r {ad : Nat → Nat} {ls : List Value} {i : Nat} {x : Nat} (h : ls[i]? = some (.ref x)) : (i, Value.ref (ad x)) ∈ z_lvs ad ls := by
  refine List.mem_filterMap.mpr ⟨i, List.mem_range.mpr (List.getElem?_eq_some_iff.mp h).1, ?_⟩
  rw [h]
theorem z_lvs_l {ad : Nat → Nat} {ls : List Value} {i : Nat} {x : Int64} {f : UInt32} (h : ls[i]? = some (.long x)) (h2 : ls[i + 1]? = some (.float f)) : (i, Value.long x) ∈ z_lvs ad ls := by
  refine List.mem_filterMap.mpr ⟨i, List.mem_range.mpr (List.getElem?_eq_some_iff.mp h).1, ?_⟩
  rw [h]
  dsimp only
  rw [h2]
def z_L (ad : Nat → Nat) (n nL : Nat) (ls : List Value) (cl : Array Slot) : Prop := lv_has cl nL (z_lvs ad ls) ∧ ls.length = nL ∧ ∀ v ∈ ls, z_wf n v
theorem z_L.up {ad ad' : Nat → Nat} {n n' nL : Nat} {ls : List Value} {cl : Array Slot} (h : z_L ad n nL ls cl) (ha : ∀ i, i ≤ n → ad' i = ad i) (hn : n ≤ n') : z_L ad' n' nL ls cl := by
  refine ⟨⟨h.1.1, h.1.2.1, fun q hq => ?_⟩, h.2.1, fun v hv => z_wf_up hn (h.2.2 v hv)⟩
  obtain ⟨i, hi0, hi⟩ := List.mem_filterMap.mp hq
  split at hi
  next x e => cases hi; exact h.1.2.2 _ (z_lvs_i e)
  next x e =>
    cases hi
    rw [ha x (h.2.2 (.ref x) (List.mem_of_getElem? e))]
    exact h.1.2.2 _ (z_lvs_r e)
  next x e =>
    split at hi
    next f e2 => cases hi; exact h.1.2.2 _ (z_lvs_l e e2)
    next => cases hi
  next => cases hi
theorem z_L.put {ad : Nat → Nat} {n nL i : Nat} {ls : List Value} {cl cl' : Array Slot} {v : Value} (h : z_L ad n nL ls cl) (hv : z_wf n v) (hvf : (∃ x, v = .int x) ∨ ∃ x, v = .ref x) (hi : i < nL)
    (h' : lv_has cl' nL ((i, z_ren ad v) :: (z_lvs ad ls).filter (fun q => !(q.1 == i) && !(q.1 + 1 == i && q.2.category == 2)))) : z_L ad n nL (ls.set i v) cl' := by
  refine ⟨⟨h'.1, h'.2.1, fun q hq => h'.2.2 q ?_⟩, by rw [List.length_set]; exact h.2.1, fun w hw => ?_⟩
  · obtain ⟨w, e1, e3, e4⟩ := z_lvs_in hq
    by_cases e : q.1 = i
    · have hw : w = v := by
        rw [e, List.getElem?_set_self (by rw [h.2.1]; exact hi)] at e1
        exact (Option.some.inj e1).symm
      subst hw
      obtain ⟨q1, q2⟩ := q
      dsimp only at e e3
      subst e e3
      exact List.mem_cons_self
    · refine List.mem_cons_of_mem _ (List.mem_filter.mpr ⟨?_, ?_⟩)
      · rw [List.getElem?_set_ne (fun c => e c.symm)] at e1
        obtain ⟨q1, q2⟩ := q
        dsimp only at e e1 e3 e4
        subst e3
        rcases e4 with (⟨x, rfl⟩ | ⟨x, rfl⟩) | ⟨x, f, rfl, e2⟩
        · exact z_lvs_i e1
        · exact z_lvs_r e1
        · have hne : ¬ i = q1 + 1 := by
            intro c
            subst c
            rw [List.getElem?_set_self (by rw [h.2.1]; exact hi)] at e2
            rcases hvf with ⟨y, rfl⟩ | ⟨y, rfl⟩ <;> cases e2
          rw [List.getElem?_set_ne hne] at e2
          exact z_lvs_l e1 e2
      · obtain ⟨q1, q2⟩ := q
        dsimp only at e e1 e3 e4
        subst e3
        rcases e4 with (⟨x, rfl⟩ | ⟨x, rfl⟩) | ⟨x, f, rfl, e2⟩
        · simp [e, z_ren, Value.category]
        · simp [e, z_ren, Value.category]
        · have hne : ¬ q1 + 1 = i := by
            intro c
            subst c
            rw [List.getElem?_set_self (by rw [h.2.1]; exact hi)] at e2
            rcases hvf with ⟨y, rfl⟩ | ⟨y, rfl⟩ <;> cases e2
          simp [e, hne]
  · rcases List.mem_or_eq_of_mem_set hw with hw | rfl
    · exact h.2.2 w hw
    · exact hv
theorem z_L.putL {ad : Nat → Nat} {n nL i : Nat} {ls : List Value} {cl cl' : Array Slot} {x : Int64} (h : z_L ad n nL ls cl) (hi : i + 1 < nL)
    (h' : lv_has cl' nL ((i, .long x) :: (z_lvs ad ls).filter (fun q => !(q.1 == i) && (!(q.1 == i + 1) && !(q.1 + 1 == i && q.2.category == 2))))) : z_L ad n nL ((ls.set i (.long x)).set (i + 1) zTop) cl' := by
  have hs0 : ((ls.set i (.long x)).set (i + 1) zTop)[i]? = some (.long x) := by
    rw [List.getElem?_set_ne (by omega), List.getElem?_set_self (by rw [h.2.1]; omega)]
  have hs1 : ((ls.set i (.long x)).set (i + 1) zTop)[i + 1]? = some zTop := by
    rw [List.getElem?_set_self (by rw [List.length_set, h.2.1]; omega)]
  have hs2 : ∀ j, j ≠ i → j ≠ i + 1 → ((ls.set i (.long x)).set (i + 1) zTop)[j]? = ls[j]? := by
    intro j h1 h2
    rw [List.getElem?_set_ne (fun c => h2 c.symm), List.getElem?_set_ne (fun c => h1 c.symm)]
  refine ⟨⟨h'.1, h'.2.1, fun q hq => h'.2.2 q ?_⟩, by rw [List.length_set, List.length_set]; exact h.2.1, fun w hw => ?_⟩
  · obtain ⟨w, e1, e3, e4⟩ := z_lvs_in hq
    obtain ⟨q1, q2⟩ := q
    dsimp only at e1 e3 e4
    subst e3
    by_cases e : q1 = i
    · subst e
      rw [hs0] at e1
      cases e1
      exact List.mem_cons_self
    · by_cases e2 : q1 = i + 1
      · subst e2
        rw [hs1] at e1
        cases e1
        rcases e4 with (⟨x, e4⟩ | ⟨x, e4⟩) | ⟨x, f, e4, -⟩ <;> cases e4
      · rw [hs2 q1 e e2] at e1
        refine List.mem_cons_of_mem _ (List.mem_filter.mpr ?_)
        rcases e4 with (⟨x, rfl⟩ | ⟨x, rfl⟩) | ⟨x, f, rfl, e5⟩
        · refine ⟨z_lvs_i e1, ?_⟩
          simp [e, e2, z_ren, Value.category]
        · refine ⟨z_lvs_r e1, ?_⟩
          simp [e, e2, z_ren, Value.category]
        · have hne : ¬ q1 + 1 = i := by
            intro c
            rw [c, hs0] at e5
            cases e5
          rw [hs2 (q1 + 1) hne (by omega)] at e5
          refine ⟨z_lvs_l e1 e5, ?_⟩
          simp [e, e2, hne]
  · rcases List.mem_or_eq_of_mem_set hw with hw | rfl
    · rcases List.mem_or_eq_of_mem_set hw with hw | rfl
      · exact h.2.2 w hw
      · trivial
    · trivial
theorem z_cl_at : ∀ ci : Nat, ci < 10 → zCl[ci]? = some (zR ci, zTn ci, zN ci) := by
  intro ci h
  rcases (show ci = 0 ∨ ci = 1 ∨ ci = 2 ∨ ci = 3 ∨ ci = 4 ∨ ci = 5 ∨ ci = 6 ∨ ci = 7 ∨ ci = 8 ∨ ci = 9 by omega) with rfl | rfl | rfl | rfl | rfl | rfl | rfl | rfl | rfl | rfl <;> rfl
theorem z_hin (ci : Nat) (h : ci < 10) : ∀ w ∈ u_ws (zR ci) (zTn ci) (zN ci), w ∈ zT := by
  intro w hw
  have h1 := List.all_eq_true.mp zc_l_ok ci (List.mem_range.mpr h)
  unfold zc_l at h1
  simp only [Bool.and_eq_true, decide_eq_true_eq] at h1
  have h2 : some w ∈ (u_ws (zR ci) (zTn ci) (zN ci)).map some := List.mem_map_of_mem hw
  rw [← h1.1.1.1] at h2
  obtain ⟨i, -, hi⟩ := List.mem_map.mp h2
  exact z_in i hi (List.all_eq_true.mp h1.1.1.2 w hw)
theorem z_inst (ci : Nat) (h : ci < 10) : Jvm.Cond.instantiable (zR ci) (zN ci) ∈ zT ∧ Jvm.Cond.initialized (zR ci) ∈ zT := by
  have h1 := List.all_eq_true.mp zc_l_ok ci (List.mem_range.mpr h)
  unfold zc_l at h1
  simp only [Bool.and_eq_true, decide_eq_true_eq] at h1
  exact ⟨z_in _ h1.1.2 rfl, z_in _ h1.2 rfl⟩
theorem z_row (ci : Nat) (h : ci < 10) : (∀ a, a < zN ci → parseFieldDescriptor (zTn ci a).2.2.1 = some (zTy ci a)) ∧ (∀ a, a < zN ci → ∀ b, b < zN ci → a ≠ b → (zTn ci a).2.1 ≠ (zTn ci b).2.1) ∧ ∀ a, a < zN ci → (zTy ci a = .int ∧ z_isR ci a = false ∧ z_isZ ci a = false) ∨ (zTy ci a = .boolean ∧ z_isR ci a = false ∧ z_isZ ci a = true) ∨ (z_isR ci a = true ∧ ((∃ n, zTy ci a = .object n) ∨ ∃ t, zTy ci a = .array t)) := by
  have h1 := List.all_eq_true.mp z_row_ok ci (List.mem_range.mpr h)
  unfold z_rowOk at h1
  refine ⟨fun a ha => ?_, fun a ha b hb hab => ?_, fun a ha => ?_⟩
  · have h2 := List.all_eq_true.mp h1 a (List.mem_range.mpr ha)
    simp only [Bool.and_eq_true, decide_eq_true_eq] at h2
    exact h2.1.1
  · have h2 := List.all_eq_true.mp h1 a (List.mem_range.mpr ha)
    simp only [Bool.and_eq_true, decide_eq_true_eq] at h2
    have h3 := List.all_eq_true.mp h2.1.2 b (List.mem_range.mpr hb)
    simp only [Bool.or_eq_true, decide_eq_true_eq] at h3
    exact h3.resolve_left hab
  · have h2 := List.all_eq_true.mp h1 a (List.mem_range.mpr ha)
    simp only [Bool.and_eq_true] at h2
    have h3 := h2.2
    unfold z_isR z_isZ
    cases e : zTy ci a with
    | int => exact Or.inl ⟨rfl, rfl, rfl⟩
    | boolean => exact Or.inr (Or.inl ⟨rfl, rfl, rfl⟩)
    | object n => exact Or.inr (Or.inr ⟨rfl, Or.inl ⟨n, rfl⟩⟩)
    | array t => exact Or.inr (Or.inr ⟨rfl, Or.inr ⟨t, rfl⟩⟩)
    | _ => rw [e] at h3; cases h3
-- what the Statement's tables say at a state, the words of nest mates among it
def z_isN (w : Jvm.Cond) : Bool := match w with
  | .fieldLinkNest .. => true
  | .methodLinkNest .. => true
  | _ => false
def z_K (D : va_G) (s : State) : Prop := va_K D zCl [] s ∧ (∀ w ∈ lw_tbl, z_isN w = true → va_Nw w s) ∧ va_AO RX2 s ∧ va_AOA .int s
theorem z_AOA_spec {ty : FieldType} {s : State} (h : va_AOA ty s) :
    ∃ comp c k, s.vm.findClass (FieldType.array ty).toString = some comp ∧ (s.vm.classes.findIdx? fun x => match x.kind with | .array component _ => component == comp | _ => false) = some c ∧ s.vm.classes[c]? = some k ∧ k.kind = .array comp (.array ty) ∧
      s.vm.findClass ("[" ++ (FieldType.array ty).toString) = some c := by
  unfold va_AOA Jvm.Cond.before at h
  simp only [Jvm.Cond.holds, Jvm.Cond.value, beq_iff_eq] at h
  cases hc : s.vm.findClass (FieldType.array ty).toString with
  | none => simp [hc] at h
  | some comp =>
    simp only [hc, Option.bind_some, Option.bind_eq_some_iff, Option.map_eq_some_iff] at h
    obtain ⟨c, hi, k, hk, hb⟩ := h
    obtain ⟨hlt, hp, -⟩ := Array.findIdx?_eq_some_iff_getElem.mp hi
    have hkk : s.vm.classes[c] = k := (Array.getElem?_eq_some_iff.mp hk).2
    rw [hkk] at hp
    cases hkind : k.kind with
    | array component ty1 =>
      rw [hkind] at hb hp
      simp at hb hp
      exact ⟨comp, c, k, rfl, hi, hk, by rw [hkind, hp, hb.1], hb.2⟩
    | _ => rw [hkind] at hb; simp at hb
theorem va_AOA.moved {ty : FieldType} {u U : State} (hvm : u.vm.Alike U.vm) (h : va_AOA ty u) : va_AOA ty U := by
  obtain ⟨comp, c, k, h1, h2, h3, h4, h5⟩ := z_AOA_spec h
  obtain ⟨k', hk', he⟩ := hvm.2.2 _ _ h3
  have hi : (U.vm.classes.findIdx? fun (x : Class) => match x.kind with | .array component _ => component == comp | _ => false) = some c := by
    have e1 := va_idx_bare U.vm comp
    have e2 := va_idx_bare u.vm comp
    first | rw [hvm.bare_eq] at e1 | rw [← hvm.bare_eq] at e1
    exact e1.symm.trans (e2.trans h2)
  have hkind : k'.kind = .array comp (.array ty) := by rw [he]; exact h4
  have f1 : U.vm.findClass (FieldType.array ty).toString = some comp := by rw [hvm.findClass]; exact h1
  have f2 : U.vm.findClass ("[" ++ (FieldType.array ty).toString) = some c := by rw [hvm.findClass]; exact h5
  unfold va_AOA Jvm.Cond.before Jvm.Cond.holds
  simp only [Jvm.Cond.value]
  rw [f1, Option.bind_some]
  refine (congrArg (fun o : Option Nat => (o.bind (fun c => (U.vm.classes[c]?).map fun (k : Class) => match k.kind with | .array _ ty1 => decide (ty1 = FieldType.array ty) && decide (U.vm.findClass ("[" ++ (FieldType.array ty).toString) = some c) | _ => false) == some true)) hi).trans ?_
  simp [hk', hkind, f2]
theorem va_AOA.of {ty : FieldType} {A : Array Value} {U : State} (h : (Jvm.Cond.arrayOver (.array ty)).before A U = true) : va_AOA ty U := h
theorem z_K.warm {D : va_G} {s U : State} (hW : s.WarmedH U.vm) (h : z_K D s) : z_K D U := by
  refine ⟨va_K.moved hW.alike h.1, fun w hw hn => ?_, va_AO.moved hW.alike h.2.2.1, ?_⟩
  · have h1 := h.2.1 w hw hn
    cases w <;> first | (cases hn; done) | exact va_Nw.warmF hW h1 | exact va_Nw.warmM hW h1
  · exact va_AOA.moved hW.alike h.2.2.2
theorem z_K.same {D : va_G} {u U : State} (hv : u.vm = U.vm) (h : z_K D u) : z_K D U := by
  refine ⟨va_K.moved (by rw [hv]; exact Vm.Alike.refl _) h.1, fun w hw hn => ?_, va_AO.moved (by rw [hv]; exact Vm.Alike.refl _) h.2.2.1, ?_⟩
  · have h1 := h.2.1 w hw hn
    cases w <;> first | (cases hn; done) | exact va_Nw.same rfl hv h1
  · exact va_AOA.moved (by rw [hv]; exact Vm.Alike.refl _) h.2.2.2
theorem z_arr.moved {cA : Nat → ClassId} {h : zA} {u U : State} (hv : u.vm.Alike U.vm) (q : z_arr cA h u) : z_arr cA h U := fun i h1 h2 h3 => ⟨arrOfT_moved hv (q i h1 h2 h3).1, (q i h1 h2 h3).2.moved hv⟩
theorem z_kty {D : va_G} {s : State} {cA : ClassId} {ty : FieldType} (hK : z_K D s) (h : ArrOfT s cA ty ∧ va_RA s cA ty) : va_K D zCl [(cA, ty)] s := by
  refine ⟨hK.1.1, fun k q hk => ?_⟩
  have h0 : k < 1 := (List.getElem?_eq_some_iff.mp hk).1
  rw [show k = 0 by omega] at hk
  cases hk
  exact h
/-- a frame's fixed part -/
def zX (p : Program) (R : Room) (s : State) (m : MethodId) (args : Array Value) (meth : Method) (c : Code) (D : va_G) (k : Nat) : Prop :=
  p.tables.exec = Jvm.exec ∧ c.code = z_code k ∧ c.maxLocals = z_ml k ∧ s.vm.findClass (zR (z_cls k)) = some m.cls ∧ (∀ w ∈ zT, w.before args s = true) ∧ (z_kd k = 2 → meth.name = "<init>") ∧ z_K D s ∧ z_fr k ≤ R.frames ∧ z_lo k ≤ R.locals
/-- a frame's world -/
def zS (s : State) (D : va_G) (A : Nat → Prop) (H0 : Heap) (cA : Nat → ClassId) (ad : Nat → Nat) (h : zA) (H : Heap) (locs : List Loc) : Prop :=
  va_P D zCl (z_ws cA ad h) H ∧ va_D A (z_ws cA ad h) ∧ va_S A H0 H locs ∧ z_arr cA h s ∧ z_hw h ∧ ∀ q, H0.size ≤ q → A q
/-- the script, for the law's own frame -/
def zXs (sc : Nat × (Nat → Int32)) (k : Nat) (A : Nat → Prop) (s : State) (H0 : Heap) (ad : Nat → Nat) : Prop := k = zLaw → ad 0 < H0.size ∧ ¬ A (ad 0) ∧ va_X (ad 0) sc.1 sc.2 s H0
section ZPURE
variable {p : Program} {l : Launch} {e : Env} {R : Room} {s : State} {m : MethodId} {args : Array Value} {below : List Frame} {meth : Method} {c : Code} {H : Heap} {locs : List Loc} {cells slots : Nat} {Q : State → Prop}
variable {D : va_G} {k pc len n : Nat} {ad : Nat → Nat} {ls ls' st st' : List Value} {cl : Array Slot} {pc' : Nat}
abbrev zKK (p : Program) (l : Launch) (e : Env) (R : Room) (s : State) (m : MethodId) (args : Array Value) (below : List Frame) (meth : Method) (c : Code) (H : Heap) (locs : List Loc) (cells slots : Nat) (Q : State → Prop) (ad : Nat → Nat) (n k : Nat) (q : zF) : Prop :=
  ∀ cl' : Array Slot, z_L ad n (z_ml k) q.2.1 cl' → (∀ v ∈ q.2.2, z_wf n v) → W p l e R s m args below meth c H locs cells slots Q (F0 m q.1 cl' (q.2.2.map (z_ren ad)))
theorem z_W_ldi {i : Nat} {q : zF} (hL : z_L ad n (z_ml k) ls cl) (hst : ∀ v ∈ st, z_wf n v) (h : z_ldi ls st i pc' = some q)
    (kk : zKK p l e R s m args below meth c H locs cells slots Q ad n k q) (go : ∀ x : Int32, cl[i]? = some (.val (.int x)) → W p l e R s m args below meth c H locs cells slots Q (F0 m pc' cl (.int x :: st.map (z_ren ad))) → W p l e R s m args below meth c H locs cells slots Q (F0 m pc cl (st.map (z_ren ad)))) : W p l e R s m args below meth c H locs cells slots Q (F0 m pc cl (st.map (z_ren ad))) := by
  unfold z_ldi at h
  split at h
  next x e1 =>
    cases h
    exact go x (hL.1.2.2 _ (z_lvs_i e1)) (kk cl hL (z_wc trivial hst))
  next => cases h
theorem z_W_lda {i : Nat} {q : zF} (hL : z_L ad n (z_ml k) ls cl) (hst : ∀ v ∈ st, z_wf n v) (h : z_lda ls st i pc' = some q)
    (kk : zKK p l e R s m args below meth c H locs cells slots Q ad n k q) (go : ∀ x : Nat, cl[i]? = some (.val (.ref x)) → W p l e R s m args below meth c H locs cells slots Q (F0 m pc' cl (.ref x :: st.map (z_ren ad))) → W p l e R s m args below meth c H locs cells slots Q (F0 m pc cl (st.map (z_ren ad)))) : W p l e R s m args below meth c H locs cells slots Q (F0 m pc cl (st.map (z_ren ad))) := by
  unfold z_lda at h
  split at h
  next x e1 =>
    cases h
    exact go (ad x) (hL.1.2.2 _ (z_lvs_r e1)) (kk cl hL (z_wc (hL.2.2 _ (List.mem_of_getElem? e1)) hst))
  next => cases h
theorem z_W_ldl {i : Nat} {q : zF} (hL : z_L ad n (z_ml k) ls cl) (hst : ∀ v ∈ st, z_wf n v) (h : z_ldl ls st i pc' = some q)
    (kk : zKK p l e R s m args below meth c H locs cells slots Q ad n k q) (go : ∀ x : Int64, cl[i]? = some (.val (.long x)) → W p l e R s m args below meth c H locs cells slots Q (F0 m pc' cl (.long x :: st.map (z_ren ad))) → W p l e R s m args below meth c H locs cells slots Q (F0 m pc cl (st.map (z_ren ad)))) : W p l e R s m args below meth c H locs cells slots Q (F0 m pc cl (st.map (z_ren ad))) := by
  unfold z_ldl at h
  split at h
  next x e1 =>
    split at h
    next f e2 =>
      cases h
      exact go x (hL.1.2.2 _ (z_lvs_l e1 e2)) (kk cl hL (z_wc trivial hst))
    next => cases h
  next => cases h
theorem z_W_br {r : List Value} {off : Int} {b : Bool} {q : zF} (hL : z_L ad n (z_ml k) ls cl) (hst : ∀ v ∈ r, z_wf n v) (h : z_br ls r pc off b = some q)
    (kk : zKK p l e R s m args below meth c H locs cells slots Q ad n k q) (Z : Prop) (go : ∀ tgt : Nat, (pc : Int) + off = (tgt : Int) → (b = true → W p l e R s m args below meth c H locs cells slots Q (F0 m tgt cl (r.map (z_ren ad)))) → (b = false → W p l e R s m args below meth c H locs cells slots Q (F0 m (pc + 3) cl (r.map (z_ren ad)))) → Z) : Z := by
  unfold z_br at h
  split at h
  next c1 =>
    cases h
    have k2 := kk cl hL hst
    refine go ((pc : Int) + off).toNat (by omega) (fun hb => ?_) (fun hb => ?_)
    · subst hb; exact k2
    · subst hb; exact k2
  next => cases h
theorem z_W_go {r : List Value} {off : Int} {q : zF} (hL : z_L ad n (z_ml k) ls cl) (hst : ∀ v ∈ r, z_wf n v) (h : z_go ls r pc off = some q)
    (kk : zKK p l e R s m args below meth c H locs cells slots Q ad n k q) (Z : Prop) (go : ∀ tgt : Nat, (pc : Int) + off = (tgt : Int) → W p l e R s m args below meth c H locs cells slots Q (F0 m tgt cl (r.map (z_ren ad))) → Z) : Z := by
  unfold z_go at h
  split at h
  next c1 =>
    cases h
    exact go ((pc : Int) + off).toNat (by omega) (kk cl hL hst)
  next => cases h
theorem z_W_kst {i : Nat} {q : zF} (X : zX p R s m args meth c D k) (hL : z_L ad n (z_ml k) ls cl) (hst : ∀ v ∈ st, z_wf n v) (h : z_kst k i pc' ls st = some q)
    (kk : zKK p l e R s m args below meth c H locs cells slots Q ad n k q) (go : ∀ v : Int32, (Jvm.Cond.constant (zR (z_cls k)) i v).before args s = true → W p l e R s m args below meth c H locs cells slots Q (F0 m pc' cl (.int v :: st.map (z_ren ad))) → W p l e R s m args below meth c H locs cells slots Q (F0 m pc cl (st.map (z_ren ad)))) : W p l e R s m args below meth c H locs cells slots Q (F0 m pc cl (st.map (z_ren ad))) := by
  unfold z_kst at h
  split at h
  next r e1 =>
    cases h
    have h1 := List.all_eq_true.mp zc_k_ok _ (z_lkK_in e1)
    unfold zc_k at h1
    simp only [decide_eq_true_eq] at h1
    exact go r.1 (X.2.2.2.2.1 _ (z_in _ h1 rfl)) (kk cl hL (z_wc trivial hst))
  next => cases h
theorem z_pure_W {ins : Instr} {q : zF} (X : zX p R s m args meth c D k) (hdg : decode (z_code k) pc = .ok (ins, len)) (hlen : len = z_len ins len) (hL : z_L ad n (z_ml k) ls cl) (hst : ∀ v ∈ st, z_wf n v) (h : z_pure k ins pc ls st = some q)
    (kk : zKK p l e R s m args below meth c H locs cells slots Q ad n k q) : W p l e R s m args below meth c H locs cells slots Q (F0 m pc cl (st.map (z_ren ad))) := by
  have hx := X.1
  have hb := X.2.1
  have hown := X.2.2.2.1
  cases ins with
  | iconst v => cases h; obtain rfl : len = 1 := hlen; exact lv_iconst hx hb hdg rfl (kk cl hL (z_wc trivial hst))
  | bipush v => cases h; obtain rfl : len = 2 := hlen; exact lv_bipush hx hb hdg rfl (kk cl hL (z_wc trivial hst))
  | sipush v => cases h; obtain rfl : len = 3 := hlen; exact lv_sipush hx hb hdg rfl (kk cl hL (z_wc trivial hst))
  | ldc i => obtain rfl : len = 2 := hlen; exact z_W_kst X hL hst h kk (fun v hv k2 => lv_ldc hx hb hown hv hdg k2)
  | ldc_w i => obtain rfl : len = 3 := hlen; exact z_W_kst X hL hst h kk (fun v hv k2 => lv_ldcw hx hb hown hv hdg k2)
  | iload_n i => obtain rfl : len = 1 := hlen; exact z_W_ldi hL hst h kk (fun x hv k2 => lv_iload_n hx hb hdg rfl hv k2)
  | iload i => obtain rfl : len = 2 := hlen; exact z_W_ldi hL hst h kk (fun x hv k2 => lv_iload hx hb hdg hv k2)
  | aload_n i => obtain rfl : len = 1 := hlen; exact z_W_lda hL hst h kk (fun x hv k2 => lv_aload_n hx hb hdg rfl hv k2)
  | aload i => obtain rfl : len = 2 := hlen; exact z_W_lda hL hst h kk (fun x hv k2 => lv_aload hx hb hdg hv k2)
  | istore_n i =>
    obtain rfl : len = 1 := hlen
    replace h := z_i1_s h; obtain ⟨x, r, rfl, h⟩ := h
    try dsimp only at h
    split at h
    next hi =>
      cases h
      rw [hL.2.1] at hi
      exact lv_istore_n hx hb hdg rfl hL.1 hi rfl (fun ls' h' => kk ls' (hL.put (v := .int x) trivial (Or.inl ⟨_, rfl⟩) hi h') (fun v hv => hst v (List.mem_cons_of_mem _ hv)))
    next => cases h
  | istore i =>
    obtain rfl : len = 2 := hlen
    replace h := z_i1_s h; obtain ⟨x, r, rfl, h⟩ := h
    try dsimp only at h
    split at h
    next hi =>
      cases h
      rw [hL.2.1] at hi
      exact lv_istore hx hb hdg hL.1 hi rfl (fun ls' h' => kk ls' (hL.put (v := .int x) trivial (Or.inl ⟨_, rfl⟩) hi h') (fun v hv => hst v (List.mem_cons_of_mem _ hv)))
    next => cases h
  | astore_n i =>
    obtain rfl : len = 1 := hlen
    replace h := z_r1_s h; obtain ⟨x, r, rfl, h⟩ := h
    try dsimp only at h
    split at h
    next hi =>
      cases h
      rw [hL.2.1] at hi
      exact lv_astore_n hx hb hdg rfl hL.1 hi rfl (fun ls' h' => kk ls' (hL.put (v := .ref x) (hst _ List.mem_cons_self) (Or.inr ⟨_, rfl⟩) hi h') (fun v hv => hst v (List.mem_cons_of_mem _ hv)))
    next => cases h
  | astore i =>
    obtain rfl : len = 2 := hlen
    replace h := z_r1_s h; obtain ⟨x, r, rfl, h⟩ := h
    try dsimp only at h
    split at h
    next hi =>
      cases h
      rw [hL.2.1] at hi
      exact lv_astore hx hb hdg hL.1 hi rfl (fun ls' h' => kk ls' (hL.put (v := .ref x) (hst _ List.mem_cons_self) (Or.inr ⟨_, rfl⟩) hi h') (fun v hv => hst v (List.mem_cons_of_mem _ hv)))
    next => cases h
  | iinc i v =>
    obtain rfl : len = 3 := hlen
    unfold z_pure z_inc at h
    try dsimp only at h
    split at h
    next x e1 =>
      split at h
      next hi =>
        cases h
        rw [hL.2.1] at hi
        obtain ⟨j, hj⟩ := List.getElem?_of_mem (z_lvs_i (ad := ad) e1)
        exact lv_iinc hx hb hdg hL.1 hj rfl hi rfl (fun ls' h' => kk ls' (hL.put (v := .int (x + Int32.ofInt v)) trivial (Or.inl ⟨_, rfl⟩) hi h') hst)
      next => cases h
    next => cases h
  | iadd => obtain rfl : len = 1 := hlen; replace h := z_i2_s h; obtain ⟨x, y, r, rfl, h⟩ := h; cases h; exact lv_iadd hx hb hdg (kk cl hL (z_wc trivial (z_wt (z_wt hst))))
  | isub => obtain rfl : len = 1 := hlen; replace h := z_i2_s h; obtain ⟨x, y, r, rfl, h⟩ := h; cases h; exact lv_isub hx hb hdg (kk cl hL (z_wc trivial (z_wt (z_wt hst))))
  | imul => obtain rfl : len = 1 := hlen; replace h := z_i2_s h; obtain ⟨x, y, r, rfl, h⟩ := h; cases h; exact lv_imul hx hb hdg (kk cl hL (z_wc trivial (z_wt (z_wt hst))))
  | iand => obtain rfl : len = 1 := hlen; replace h := z_i2_s h; obtain ⟨x, y, r, rfl, h⟩ := h; cases h; exact lv_iand hx hb hdg (kk cl hL (z_wc trivial (z_wt (z_wt hst))))
  | idiv =>
    obtain rfl : len = 1 := hlen
    replace h := z_i2_s h; obtain ⟨x, y, r, rfl, h⟩ := h
    try dsimp only at h
    split at h
    next => cases h
    next hy => cases h; exact lv_idiv hx hb hdg hy (kk cl hL (z_wc trivial (z_wt (z_wt hst))))
  | irem =>
    obtain rfl : len = 1 := hlen
    replace h := z_i2_s h; obtain ⟨x, y, r, rfl, h⟩ := h
    try dsimp only at h
    split at h
    next => cases h
    next hy => cases h; exact lv_irem hx hb hdg hy (kk cl hL (z_wc trivial (z_wt (z_wt hst))))
  | ineg => obtain rfl : len = 1 := hlen; replace h := z_i1_s h; obtain ⟨x, r, rfl, h⟩ := h; cases h; exact lv_ineg hx hb hdg (kk cl hL (z_wc trivial (z_wt hst)))
  | i2c => obtain rfl : len = 1 := hlen; replace h := z_i1_s h; obtain ⟨x, r, rfl, h⟩ := h; cases h; exact lv_i2c hx hb hdg rfl (kk cl hL (z_wc trivial (z_wt hst)))
  | dup =>
    obtain rfl : len = 1 := hlen
    replace h := z_v1_s h; obtain ⟨x, r, rfl, h⟩ := h
    try dsimp only at h
    split at h
    next hc =>
      cases h
      have hw := hst x List.mem_cons_self
      exact lv_dup hx hb hdg (z_cat hw hc) (kk cl hL (z_wc hw hst))
    next => cases h
  | ldc2_w i =>
    obtain rfl : len = 3 := hlen
    change z_kstL k i (pc + 3) ls st = some q at h
    unfold z_kstL at h
    split at h
    next r e1 =>
      cases h
      have h1 := List.all_eq_true.mp zc_kl_ok _ (z_lkL_in e1)
      unfold zc_kl at h1
      simp only [decide_eq_true_eq] at h1
      exact lv_ldc2 hx hb hown (X.2.2.2.2.1 _ (z_in _ h1 rfl)) hdg (kk cl hL (z_wc trivial hst))
    next => cases h
  | lload_n i => obtain rfl : len = 1 := hlen; exact z_W_ldl hL hst h kk (fun x hv k2 => lv_lload_n hx hb hdg rfl hv k2)
  | lload i => obtain rfl : len = 2 := hlen; exact z_W_ldl hL hst h kk (fun x hv k2 => lv_lload hx hb hdg hv k2)
  | lstore_n i =>
    obtain rfl : len = 1 := hlen
    replace h := z_l1_s h; obtain ⟨x, r, rfl, h⟩ := h
    try dsimp only at h
    split at h
    next hi =>
      cases h
      rw [hL.2.1] at hi
      exact lv_lstore_n hx hb hdg rfl hL.1 hi rfl (fun ls' h' => kk ls' (hL.putL hi h') (fun v hv => hst v (List.mem_cons_of_mem _ hv)))
    next => cases h
  | lstore i =>
    obtain rfl : len = 2 := hlen
    replace h := z_l1_s h; obtain ⟨x, r, rfl, h⟩ := h
    try dsimp only at h
    split at h
    next hi =>
      cases h
      rw [hL.2.1] at hi
      exact lv_lstore hx hb hdg hL.1 hi rfl (fun ls' h' => kk ls' (hL.putL hi h') (fun v hv => hst v (List.mem_cons_of_mem _ hv)))
    next => cases h
  | ladd => obtain rfl : len = 1 := hlen; replace h := z_l2_s h; obtain ⟨x, y, r, rfl, h⟩ := h; cases h; exact lv_ladd hx hb hdg (kk cl hL (z_wc trivial (z_wt (z_wt hst))))
  | lmul => obtain rfl : len = 1 := hlen; replace h := z_l2_s h; obtain ⟨x, y, r, rfl, h⟩ := h; cases h; exact lv_lmul hx hb hdg (kk cl hL (z_wc trivial (z_wt (z_wt hst))))
  | lcmp => obtain rfl : len = 1 := hlen; replace h := z_l2_s h; obtain ⟨x, y, r, rfl, h⟩ := h; cases h; exact W.lcmp hx hb hdg (kk cl hL (z_wc trivial (z_wt (z_wt hst))))
  | i2l => obtain rfl : len = 1 := hlen; replace h := z_i1_s h; obtain ⟨x, r, rfl, h⟩ := h; cases h; exact lv_i2l hx hb hdg rfl (kk cl hL (z_wc trivial (z_wt hst)))
  | ishr => obtain rfl : len = 1 := hlen; replace h := z_i2_s h; obtain ⟨x, y, r, rfl, h⟩ := h; cases h; exact lv_ishr hx hb hdg (kk cl hL (z_wc trivial (z_wt (z_wt hst))))
  | ifCond cd off =>
    obtain rfl : len = 3 := hlen
    replace h := z_i1_s h; obtain ⟨x, r, rfl, h⟩ := h
    refine z_W_br hL (fun v hv => hst v (List.mem_cons_of_mem _ hv)) h kk _ (fun tgt ht h1 h0 => ?_)
    cases cd with
    | eq => exact lv_if_eq hx hb hdg ht (fun q => h1 (decide_eq_true q)) (fun q => h0 (decide_eq_false q))
    | ne => exact lv_if_ne hx hb hdg ht (fun q => h1 (decide_eq_true q)) (fun q => h0 (decide_eq_false (fun z => z q)))
    | lt => exact lv_if_lt hx hb hdg ht (fun q => h1 (decide_eq_true q)) (fun q => h0 (decide_eq_false q))
    | ge => exact lv_if_ge hx hb hdg ht (fun q => h1 (decide_eq_true q)) (fun q => h0 (decide_eq_false q))
    | gt => exact lv_if_gt hx hb hdg ht (fun q => h1 (decide_eq_true q)) (fun q => h0 (decide_eq_false q))
    | le => exact lv_if_le hx hb hdg ht (fun q => h1 (decide_eq_true q)) (fun q => h0 (decide_eq_false q))
  | if_icmp cd off =>
    obtain rfl : len = 3 := hlen
    replace h := z_i2_s h; obtain ⟨x, y, r, rfl, h⟩ := h
    refine z_W_br hL (fun v hv => hst v (List.mem_cons_of_mem _ (List.mem_cons_of_mem _ hv))) h kk _ (fun tgt ht h1 h0 => ?_)
    cases cd with
    | eq => exact lv_icmp_eq hx hb hdg ht (fun q => h1 (decide_eq_true q)) (fun q => h0 (decide_eq_false q))
    | ne => exact lv_icmp_ne hx hb hdg ht (fun q => h1 (decide_eq_true q)) (fun q => h0 (decide_eq_false (fun z => z q)))
    | lt => exact lv_icmp_lt hx hb hdg ht (fun q => h1 (decide_eq_true q)) (fun q => h0 (decide_eq_false q))
    | ge => exact lv_icmp_ge hx hb hdg ht (fun q => h1 (decide_eq_true q)) (fun q => h0 (decide_eq_false q))
    | gt => exact lv_icmp_gt hx hb hdg ht (fun q => h1 (decide_eq_true q)) (fun q => h0 (decide_eq_false q))
    | le => exact lv_icmp_le hx hb hdg ht (fun q => h1 (decide_eq_true q)) (fun q => h0 (decide_eq_false q))
  | goto off => obtain rfl : len = 3 := hlen; exact z_W_go hL hst h kk _ (fun tgt ht k2 => lv_goto hx hb hdg ht k2)
  | tableswitch d lo hi offs =>
    replace h := z_i1_s h; obtain ⟨x, r, rfl, h⟩ := h
    have hr : ∀ v ∈ r, z_wf n v := fun v hv => hst v (List.mem_cons_of_mem _ hv)
    unfold z_tab at h
    split at h
    next hc => exact z_W_go hL hr h kk _ (fun tgt ht k2 => lv_tableOut hx hb hdg hc ht k2)
    next hc =>
      split at h
      next off ho => exact z_W_go hL hr h kk _ (fun tgt ht k2 => lv_tableIn hx hb hdg (fun z => hc (Or.inl z)) (fun z => hc (Or.inr z)) ho ht k2)
      next => cases h
  | lookupswitch d ps =>
    replace h := z_i1_s h; obtain ⟨x, r, rfl, h⟩ := h
    have hr : ∀ v ∈ r, z_wf n v := fun v hv => hst v (List.mem_cons_of_mem _ hv)
    unfold z_swi at h
    split at h
    next hc => exact z_W_go hL hr h kk _ (fun tgt ht k2 => lv_lookup hx hb hdg hc rfl ht k2)
    next => cases h
  | _ => cases h
end ZPURE
end
section
/-! ===== what touches cells: each instruction over a world ===== -/
theorem z_cellO {cA : Nat → ClassId} {ad : Nat → Nat} {h : zA} {i ci : Nat} (e : (h.2.2.1 i).1 = ci) (hc : ci < 10) : z_cell cA ad h i = .inr (ci, z_fs ad h i) := by
  subst e
  unfold z_cell
  rw [if_pos hc]
theorem z_cellI {cA : Nat → ClassId} {ad : Nat → Nat} {h : zA} {i : Nat} (e : (h.2.2.1 i).1 = 100 ∨ (h.2.2.1 i).1 = 101) : z_cell cA ad h i = .inl (cA i, (h.2.2.1 i).2, .inl (h.2.2.2.1 i)) := by
  unfold z_cell
  rw [if_neg (by omega), if_pos (by omega)]
theorem z_cellQ {cA : Nat → ClassId} {ad : Nat → Nat} {h : zA} {i : Nat} (e : (h.2.2.1 i).1 = 102 ∨ (h.2.2.1 i).1 = 103) : z_cell cA ad h i = .inl (cA i, (h.2.2.1 i).2, .inr (.inr (.inr (.inr (fun j => (h.2.2.2.2 i j).map ad))))) := by
  unfold z_cell
  rw [if_neg (by omega), if_neg (by omega)]
theorem z_cell_sI {cA : Nat → ClassId} {ad : Nat → Nat} {h : zA} {a f j : Nat} {x : Int32} (hj : j ≠ a) : z_cell cA ad (z_setI h a f x) j = z_cell cA ad h j := by
  have e : (z_setI h a f x).2.2.2.1 j = h.2.2.2.1 j := va_up_ne _ _ hj
  unfold z_cell z_fs
  rw [e]
  rfl
theorem z_cell_sR {cA : Nat → ClassId} {ad : Nat → Nat} {h : zA} {a f j : Nat} {x : Nat} (hj : j ≠ a) : z_cell cA ad (z_setR h a f x) j = z_cell cA ad h j := by
  have e : (z_setR h a f x).2.2.2.2 j = h.2.2.2.2 j := va_up_ne _ _ hj
  unfold z_cell z_fs
  rw [e]
  rfl
theorem z_cell_mk {cA cA' : Nat → ClassId} {ad ad' : Nat → Nat} {h : zA} {kd ln n j : Nat} (hw : z_hw h) (h1 : 1 ≤ j) (h2 : j ≤ h.1) (hc : cA' j = cA j) (ha : ∀ i, i ≤ h.1 → ad' i = ad i) : z_cell cA' ad' (z_mk h kd ln n) j = z_cell cA ad h j := by
  have hne : j ≠ h.1 + 1 := by omega
  have e1 : (z_mk h kd ln n).2.2.1 j = h.2.2.1 j := va_up_ne _ _ hne
  have e2 : (z_mk h kd ln n).2.2.2.1 j = h.2.2.2.1 j := va_up_ne _ _ hne
  have e3 : (z_mk h kd ln n).2.2.2.2 j = h.2.2.2.2 j := va_up_ne _ _ hne
  have e4 : ∀ f, (h.2.2.2.2 j f).map ad' = (h.2.2.2.2 j f).map ad := by
    intro f
    cases e : h.2.2.2.2 j f with
    | none => rfl
    | some q => exact congrArg some (ha q ((hw j h1 h2).2 f q e))
  unfold z_cell z_fs
  rw [e1, e2, e3, hc]
  simp only [e4]
theorem z_fs_at {ad : Nat → Nat} {h : zA} {i ci f : Nat} (e : (h.2.2.1 i).1 = ci) (hf : f < zN ci) : (z_fs ad h i)[f]? = some (z_fv ci f (h.2.2.2.1 i f) ((h.2.2.2.2 i f).map ad)) := by
  subst e
  unfold z_fs
  rw [List.getElem?_map, List.getElem?_range hf]
  rfl
theorem z_fs_len {ad : Nat → Nat} {h : zA} {i ci : Nat} (e : (h.2.2.1 i).1 = ci) : (z_fs ad h i).length = zN ci := by
  subst e
  simp [z_fs]
theorem z_hwI {h : zA} {a f : Nat} {x : Int32} (hw : z_hw h) : z_hw (z_setI h a f x) := hw
theorem z_hwR {h : zA} {a f x : Nat} (hw : z_hw h) (hx : x ≤ h.1) : z_hw (z_setR h a f x) := by
  intro i h1 h2
  refine ⟨(hw i h1 h2).1, fun g j e => ?_⟩
  by_cases hi : i = a
  · subst hi
    have e' : va_up h.2.2.2.2 i (va_up (h.2.2.2.2 i) f (some x)) i g = some j := e
    rw [va_up_self] at e'
    by_cases hg : g = f
    · subst hg
      rw [va_up_self] at e'
      cases e'
      exact hx
    · rw [va_up_ne _ _ hg] at e'
      exact (hw i h1 h2).2 g j e'
  · have e' : va_up h.2.2.2.2 a (va_up (h.2.2.2.2 a) f (some x)) i g = some j := e
    rw [va_up_ne _ _ hi] at e'
    exact (hw i h1 h2).2 g j e'
theorem z_hw_mk {h : zA} {kd ln n : Nat} (hw : z_hw h) (hk : kd < 10 ∨ (100 ≤ kd ∧ kd ≤ 103)) : z_hw (z_mk h kd ln n) := by
  intro i h1 h2
  have h2 : i ≤ h.1 + 1 := h2
  by_cases hi : i = h.1 + 1
  · subst hi
    refine ⟨?_, fun g j e => ?_⟩
    · show (va_up h.2.2.1 (h.1 + 1) (kd, ln) (h.1 + 1)).1 < 10 ∨ 100 ≤ (va_up h.2.2.1 (h.1 + 1) (kd, ln) (h.1 + 1)).1 ∧ (va_up h.2.2.1 (h.1 + 1) (kd, ln) (h.1 + 1)).1 ≤ 103
      rw [va_up_self]
      exact hk
    · have e' : va_up h.2.2.2.2 (h.1 + 1) (fun _ => none) (h.1 + 1) g = some j := e
      rw [va_up_self] at e'
      cases e'
  · refine ⟨?_, fun g j e => ?_⟩
    · show (va_up h.2.2.1 (h.1 + 1) (kd, ln) i).1 < 10 ∨ 100 ≤ (va_up h.2.2.1 (h.1 + 1) (kd, ln) i).1 ∧ (va_up h.2.2.1 (h.1 + 1) (kd, ln) i).1 ≤ 103
      rw [va_up_ne _ _ hi]
      exact (hw i h1 (by omega)).1
    · have e' : va_up h.2.2.2.2 (h.1 + 1) (fun _ => none) i g = some j := e
      rw [va_up_ne _ _ hi] at e'
      exact Nat.le_succ_of_le ((hw i h1 (by omega)).2 g j e')
theorem z_arr_mk {cA cA' : Nat → ClassId} {h : zA} {kd ln n : Nat} {s : State} (ha : z_arr cA h s) (hc : ∀ i, i ≤ h.1 → cA' i = cA i) (hn : 100 ≤ kd → ArrOfT s (cA' (h.1 + 1)) (z_aty kd) ∧ va_RA s (cA' (h.1 + 1)) (z_aty kd)) : z_arr cA' (z_mk h kd ln n) s := by
  intro i h1 h2 h3
  have h2 : i ≤ h.1 + 1 := h2
  have h3 : 100 ≤ (va_up h.2.2.1 (h.1 + 1) (kd, ln) i).1 := h3
  show ArrOfT s (cA' i) (z_aty (va_up h.2.2.1 (h.1 + 1) (kd, ln) i).1) ∧ va_RA s (cA' i) (z_aty (va_up h.2.2.1 (h.1 + 1) (kd, ln) i).1)
  by_cases hi : i = h.1 + 1
  · subst hi
    rw [va_up_self] at h3 ⊢
    exact hn h3
  · rw [va_up_ne _ _ hi] at h3 ⊢
    rw [hc i (by omega)]
    exact ha i h1 (by omega) h3
section ZHEAP
variable {p : Program} {l : Launch} {e : Env} {R : Room} {s : State} {m : MethodId} {args : Array Value} {below : List Frame} {meth : Method} {c : Code} {H : Heap} {locs : List Loc} {cells slots : Nat} {Q : State → Prop}
variable {D : va_G} {k pc len i : Nat} {ad : Nat → Nat} {cA : Nat → ClassId} {A : Nat → Prop} {H0 : Heap} {h : zA} {ls st : List Value} {cl : Array Slot} {q : zG} {sc : Nat × (Nat → Int32)}
abbrev zKG (p : Program) (l : Launch) (e : Env) (R : Room) (s : State) (m : MethodId) (args : Array Value) (below : List Frame) (meth : Method) (c : Code) (cells slots : Nat) (Q : State → Prop) (D : va_G) (A : Nat → Prop) (H0 : Heap) (ad : Nat → Nat) (h : zA) (cl : Array Slot) (pc' : Nat) (q : zG) : Prop :=
  ∀ (cA' : Nat → ClassId) (ad' : Nat → Nat) (H' : Heap) (locs' : List Loc), (∀ i, i ≤ h.1 → ad' i = ad i) → zS s D A H0 cA' ad' q.2 H' locs' → (∀ v ∈ q.1, z_wf q.2.1 v) → W p l e R s m args below meth c H' locs' (cells + (q.2.1 - h.1)) (slots + (q.2.2.1 - h.2.1)) Q (F0 m pc' cl (q.1.map (z_ren ad')))
/-- the same heap, another stack -/
theorem zKG.same {pc' : Nat} {st' : List Value} (kk : zKG p l e R s m args below meth c cells slots Q D A H0 ad h cl pc' (st', h)) (S : zS s D A H0 cA ad h H locs) (hst : ∀ v ∈ st', z_wf h.1 v) : W p l e R s m args below meth c H locs cells slots Q (F0 m pc' cl (st'.map (z_ren ad))) := by
  have k2 := kk cA ad H locs (fun _ _ => rfl) S hst
  rw [Nat.sub_self, Nat.sub_self] at k2
  exact k2
/-- as many cells as before -/
theorem zKG.keep {pc' : Nat} {st' : List Value} {h' : zA} {H' : Heap} {locs' : List Loc} (kk : zKG p l e R s m args below meth c cells slots Q D A H0 ad h cl pc' (st', h')) (h1 : h'.1 = h.1) (h2 : h'.2.1 = h.2.1) (S : zS s D A H0 cA ad h' H' locs') (hst : ∀ v ∈ st', z_wf h.1 v) : W p l e R s m args below meth c H' locs' cells slots Q (F0 m pc' cl (st'.map (z_ren ad))) := by
  have k2 := kk cA ad H' locs' (fun _ _ => rfl) S (by show ∀ v ∈ st', z_wf h'.1 v; rw [h1]; exact hst)
  dsimp only at k2
  rw [h1, h2, Nat.sub_self, Nat.sub_self] at k2
  exact k2
theorem z_W_gf (X : zX p R s m args meth c D k) (hdg : decode (z_code k) pc = .ok (.getfield i, 3)) (S : zS s D A H0 cA ad h H locs) (hst : ∀ v ∈ st, z_wf h.1 v) (hh : z_gf k i st h = some q)
    (kk : zKG p l e R s m args below meth c cells slots Q D A H0 ad h cl (pc + 3) q) : W p l e R s m args below meth c H locs cells slots Q (F0 m pc cl (st.map (z_ren ad))) := by
  replace hh := z_r1_s hh; obtain ⟨a, r, rfl, hh⟩ := hh
  try dsimp only at hh
  split at hh
  next q0 e1 =>
    split at hh
    next hc =>
      obtain ⟨c1, c2, c3⟩ := hc
      have hf := List.all_eq_true.mp zc_f_ok _ (z_lk3_in e1)
      unfold zc_f at hf
      simp only [Bool.and_eq_true, decide_eq_true_eq] at hf
      obtain ⟨⟨⟨⟨f1, f2⟩, f3⟩, f4⟩, f5⟩ := hf
      have he : (z_ws cA ad h)[a - 1]? = some (ad a, .inr (q0.1, z_fs ad h a)) := by rw [z_ws_at c1 c2, z_cellO c3 f3]
      have go : ∀ v, (z_fs ad h a)[q0.2.1]? = some v → W p l e R s m args below meth c H locs cells slots Q (F0 m (pc + 3) cl (v :: r.map (z_ren ad))) → W p l e R s m args below meth c H locs cells slots Q (F0 m pc cl ((Value.ref a :: r).map (z_ren ad))) := by
        intro v hv k2
        rcases f4 with f4 | f4
        · rw [if_neg (by omega)] at f1
          exact va_getN X.1 X.2.1 X.2.2.2.2.1 (z_hin q0.1 f3) X.2.2.2.1 X.2.2.2.2.2.2.1.1 S.1 (a - 1) he (z_cl_at q0.1 f3) q0.2.1 f2 (va_Nw.use rfl (X.2.2.2.2.2.2.1.2.1 _ (List.mem_of_getElem? f1) rfl)) (fun _ h9 => h9) hv hdg k2
        · rw [if_pos f4] at f1
          exact va_get X.1 X.2.1 X.2.2.2.2.1 (z_hin q0.1 f3) X.2.2.2.1 X.2.2.2.2.2.2.1.1 S.1 (a - 1) he (z_cl_at q0.1 f3) q0.2.1 f2 (X.2.2.2.2.1 _ (z_in _ f1 rfl)) (fun _ h9 => h9) hv hdg k2
      have hv := z_fs_at (ad := ad) c3 f2
      split at hh
      next hr =>
        split at hh
        next j ej =>
          cases hh
          refine go _ hv ?_
          unfold z_fv
          rw [if_pos hr, ej]
          exact kk.same S (z_wc ((S.2.2.2.2.1 a c1 c2).2 _ _ ej) (z_wt hst))
        next => cases hh
      next hr =>
        cases hh
        refine go _ hv ?_
        unfold z_fv
        rw [if_neg hr]
        exact kk.same S (z_wc trivial (z_wt hst))
    next => cases hh
  next => cases hh
theorem z_W_pf (X : zX p R s m args meth c D k) (hdg : decode (z_code k) pc = .ok (.putfield i, 3)) (S : zS s D A H0 cA ad h H locs) (hst : ∀ v ∈ st, z_wf h.1 v) (hh : z_pf k i st h = some q)
    (kk : zKG p l e R s m args below meth c cells slots Q D A H0 ad h cl (pc + 3) q) : W p l e R s m args below meth c H locs cells slots Q (F0 m pc cl (st.map (z_ren ad))) := by
  replace hh := z_v1_s hh; obtain ⟨v, r0, rfl, hh⟩ := hh
  replace hh := z_r1_s hh; obtain ⟨a, r, rfl, hh⟩ := hh
  have hr : ∀ w ∈ r, z_wf h.1 w := z_wt (z_wt hst)
  try dsimp only at hh
  split at hh
  next q0 e1 =>
    have hf := List.all_eq_true.mp zc_f_ok _ (z_lk3_in e1)
    unfold zc_f at hf
    simp only [Bool.and_eq_true, decide_eq_true_eq] at hf
    obtain ⟨⟨⟨⟨f1, f2⟩, f3⟩, f4⟩, f5⟩ := hf
    have hrow := z_row q0.1 f3
    split at hh
    next x =>
      split at hh
      next hc =>
        obtain ⟨c1, c2, c3, c4, c5, c6⟩ := hc
        cases hh
        have he : (z_ws cA ad h)[a - 1]? = some (ad a, .inr (q0.1, z_fs ad h a)) := by rw [z_ws_at c1 c2, z_cellO c3 f3]
        have hset : (z_ws cA ad h).set (a - 1) (ad a, .inr (q0.1, (z_fs ad h a).set q0.2.1 (.int x))) = z_ws cA ad (z_setI h a q0.2.1 x) := by
          refine z_ws_set c1 c2 rfl ?_ (fun j hj => z_cell_sI hj)
          rw [z_cellO (h := z_setI h a q0.2.1 x) c3 f3]
          refine congrArg (fun z => Sum.inr (q0.1, z)) (z_map_set ?_ (fun j hj => ?_))
          · show z_fv (h.2.2.1 a).1 q0.2.1 (va_up h.2.2.2.1 a (upd (h.2.2.2.1 a) q0.2.1 x) a q0.2.1) _ = _
            rw [c3, va_up_self]
            unfold z_fv
            rw [if_neg (by rw [c4]; decide)]
            simp [upd]
          · show z_fv (h.2.2.1 a).1 j (va_up h.2.2.2.1 a (upd (h.2.2.2.1 a) q0.2.1 x) a j) _ = _
            rw [va_up_self]
            unfold upd
            rw [if_neg hj]
            rfl
        have hd := hrow.1 q0.2.1 f2
        have hn : narrow (zTy q0.1 q0.2.1) (.int x) = .int x ∧ fits (zTy q0.1 q0.2.1) (.int x) = true := by
          rcases hrow.2.2 q0.2.1 f2 with g | g | g
          · rw [g.1]; exact ⟨rfl, rfl⟩
          · rw [g.1]
            rcases c5 with c5 | rfl | rfl
            · rw [g.2.2] at c5; cases c5
            · exact ⟨rfl, rfl⟩
            · exact ⟨rfl, rfl⟩
          · rw [g.1] at c4; cases c4
        have k3 : ∀ (H1 : Heap) (locs1 : List Loc), va_P D zCl ((z_ws cA ad h).set (a - 1) (ad a, .inr (q0.1, (z_fs ad h a).set q0.2.1 (.int x)))) H1 → va_D A ((z_ws cA ad h).set (a - 1) (ad a, .inr (q0.1, (z_fs ad h a).set q0.2.1 (.int x)))) → va_S A H0 H1 locs1 → W p l e R s m args below meth c H1 locs1 cells slots Q (F0 m (pc + 3) cl (r.map (z_ren ad))) := by
          intro H1 locs1 hP hD hS
          rw [hset] at hP hD
          exact kk.keep rfl rfl ⟨hP, hD, hS, S.2.2.2.1, z_hwI S.2.2.2.2.1, S.2.2.2.2.2⟩ hr
        rcases f4 with f4 | f4
        · rw [if_neg (by omega)] at f1
          exact va_putN X.1 X.2.1 X.2.2.2.2.1 (z_hin q0.1 f3) (zTy q0.1) hrow.1 hrow.2.1 X.2.2.2.1 X.2.2.2.2.2.2.1.1 S.1 S.2.1 S.2.2.1 (a - 1) he (z_cl_at q0.1 f3) q0.2.1 f2 (va_Nw.use rfl (X.2.2.2.2.2.2.1.2.1 _ (List.mem_of_getElem? f1) rfl)) (fun _ h9 => h9) c6 hd hn.1 hn.2 (by rw [z_fs_len c3]; exact f2) hdg k3
        · rw [if_pos f4] at f1
          exact va_put X.1 X.2.1 X.2.2.2.2.1 (z_hin q0.1 f3) (zTy q0.1) hrow.1 hrow.2.1 X.2.2.2.1 X.2.2.2.2.2.2.1.1 S.1 S.2.1 S.2.2.1 (a - 1) he (z_cl_at q0.1 f3) q0.2.1 f2 (X.2.2.2.2.1 _ (z_in _ f1 rfl)) (fun _ h9 => h9) c6 hd hn.1 hn.2 (by rw [z_fs_len c3]; exact f2) hdg k3
      next => cases hh
    next x =>
      split at hh
      next hc =>
        obtain ⟨c1, c2, c3, c4, c5, c6, c7⟩ := hc
        cases hh
        have hx : x ≤ h.1 := hst _ List.mem_cons_self
        have he : (z_ws cA ad h)[a - 1]? = some (ad a, .inr (q0.1, z_fs ad h a)) := by rw [z_ws_at c1 c2, z_cellO c3 f3]
        have hset : (z_ws cA ad h).set (a - 1) (ad a, .inr (q0.1, (z_fs ad h a).set q0.2.1 (.ref (ad x)))) = z_ws cA ad (z_setR h a q0.2.1 x) := by
          refine z_ws_set c1 c2 rfl ?_ (fun j hj => z_cell_sR hj)
          rw [z_cellO (h := z_setR h a q0.2.1 x) c3 f3]
          refine congrArg (fun z => Sum.inr (q0.1, z)) (z_map_set ?_ (fun j hj => ?_))
          · show z_fv (h.2.2.1 a).1 q0.2.1 _ ((va_up h.2.2.2.2 a (va_up (h.2.2.2.2 a) q0.2.1 (some x)) a q0.2.1).map ad) = _
            rw [c3, va_up_self, va_up_self]
            unfold z_fv
            rw [if_pos c4]
            rfl
          · show z_fv (h.2.2.1 a).1 j _ ((va_up h.2.2.2.2 a (va_up (h.2.2.2.2 a) q0.2.1 (some x)) a j).map ad) = _
            rw [va_up_self, va_up_ne _ _ hj]
            rfl
        have hd := hrow.1 q0.2.1 f2
        have hn : narrow (zTy q0.1 q0.2.1) (.ref (ad x)) = .ref (ad x) ∧ fits (zTy q0.1 q0.2.1) (.ref (ad x)) = true := by
          rcases hrow.2.2 q0.2.1 f2 with g | g | ⟨-, ⟨n, g⟩ | ⟨t, g⟩⟩
          · rw [g.2.1] at c4; cases c4
          · rw [g.2.1] at c4; cases c4
          · rw [g]; exact ⟨rfl, rfl⟩
          · rw [g]; exact ⟨rfl, rfl⟩
        have hw := z_hwR (a := a) (f := q0.2.1) S.2.2.2.2.1 hx
        rw [if_pos c7] at f1
        have hdecl : (zTn q0.1 q0.2.1).1 = zR (z_cls k) := by
          rcases f5 with g | g | g
          · rw [c5] at g; cases g
          · exact g.2
          · omega
        refine va_putF X.1 X.2.1 X.2.2.2.2.1 (z_hin q0.1 f3) (zTy q0.1) hrow.1 hrow.2.1 X.2.2.2.1 X.2.2.2.2.2.2.1.1 S.1 S.2.1 S.2.2.1 (a - 1) he (z_cl_at q0.1 f3) q0.2.1 f2 (X.2.2.2.2.1 _ (z_in _ f1 rfl)) (fun _ h9 => h9) c5 (X.2.2.2.2.2.1 c6) hdecl hd hn.1 hn.2 (by rw [z_fs_len c3]; exact f2) hdg (fun H1 locs1 hP hD hS => ?_)
        have hP : va_P D zCl ((z_ws cA ad h).set (a - 1) (ad a, .inr (q0.1, (z_fs ad h a).set q0.2.1 (.ref (ad x))))) H1 := hP
        have hD : va_D A ((z_ws cA ad h).set (a - 1) (ad a, .inr (q0.1, (z_fs ad h a).set q0.2.1 (.ref (ad x))))) := hD
        rw [hset] at hP hD
        exact kk.keep rfl rfl ⟨hP, hD, hS, S.2.2.2.1, hw, S.2.2.2.2.2⟩ hr
      next => cases hh
    next => cases hh
  next => cases hh
theorem z_W_ald {kd : Nat} {ins : Instr} (hk : (kd = 100 ∧ ins = .iaload) ∨ (kd = 101 ∧ ins = .caload)) (X : zX p R s m args meth c D k) (hdg : decode (z_code k) pc = .ok (ins, 1)) (S : zS s D A H0 cA ad h H locs) (hsc : zXs sc k A s H0 ad) (hst : ∀ v ∈ st, z_wf h.1 v) (hh : z_ald sc k kd st h = some q)
    (kk : zKG p l e R s m args below meth c cells slots Q D A H0 ad h cl (pc + 1) q) : W p l e R s m args below meth c H locs cells slots Q (F0 m pc cl (st.map (z_ren ad))) := by
  replace hh := z_i1_s hh; obtain ⟨j, r0, rfl, hh⟩ := hh
  replace hh := z_r1_s hh; obtain ⟨a, r, rfl, hh⟩ := hh
  try dsimp only at hh
  have k2 : ∀ x : Int32, q = (.int x :: r, h) → W p l e R s m args below meth c H locs cells slots Q (F0 m (pc + 1) cl (.int x :: r.map (z_ren ad))) := by
    intro x e
    subst e
    exact kk.same S (z_wc trivial (z_wt (z_wt hst)))
  split at hh
  next hc =>
    obtain ⟨⟨c1, c2, c3⟩, hin⟩ := hc
    have k2 := k2 _ (Option.some.inj hh).symm
    rcases hk with ⟨rfl, rfl⟩ | ⟨rfl, rfl⟩
    · have he : (z_ws cA ad h)[a - 1]? = some (ad a, .inl (cA a, (h.2.2.1 a).2, .inl (h.2.2.2.1 a))) := by rw [z_ws_at c1 c2, z_cellI (Or.inl c3)]
      have ht := S.2.2.2.1 a c1 c2 (by omega)
      rw [c3] at ht
      exact va_iald X.1 X.2.1 (z_kty X.2.2.2.2.2.2.1 ht) S.1 (a - 1) 0 he rfl hin hdg k2
    · have he : (z_ws cA ad h)[a - 1]? = some (ad a, .inl (cA a, (h.2.2.1 a).2, .inl (h.2.2.2.1 a))) := by rw [z_ws_at c1 c2, z_cellI (Or.inr c3)]
      have ht := S.2.2.2.1 a c1 c2 (by omega)
      rw [c3] at ht
      exact va_cald X.1 X.2.1 (z_kty X.2.2.2.2.2.2.1 ht) S.1 (a - 1) 0 he rfl hin hdg k2
  next =>
    split at hh
    next hc =>
      obtain ⟨⟨rfl, c2, c3⟩, hin⟩ := hc
      have k2 := k2 _ (Option.some.inj hh).symm
      obtain ⟨x1, x2, x3⟩ := hsc c2
      subst c3
      rcases hk with ⟨-, rfl⟩ | ⟨hk, -⟩
      · exact va_sld X.1 X.2.1 x3 x1 x2 S.2.2.1 hin hdg k2
      · cases hk
    next => cases hh
theorem z_W_ast {kd : Nat} {ins : Instr} {nar : Int32 → Int32} (hk : (kd = 100 ∧ ins = .iastore ∧ nar = fun x => x) ∨ (kd = 101 ∧ ins = .castore ∧ nar = fun x => vp_nar .char x)) (X : zX p R s m args meth c D k) (hdg : decode (z_code k) pc = .ok (ins, 1)) (S : zS s D A H0 cA ad h H locs) (hst : ∀ v ∈ st, z_wf h.1 v) (hh : z_ast kd nar st h = some q)
    (kk : zKG p l e R s m args below meth c cells slots Q D A H0 ad h cl (pc + 1) q) : W p l e R s m args below meth c H locs cells slots Q (F0 m pc cl (st.map (z_ren ad))) := by
  replace hh := z_i2_s hh; obtain ⟨j, x, r0, rfl, hh⟩ := hh
  replace hh := z_r1_s hh; obtain ⟨a, r, rfl, hh⟩ := hh
  have hr : ∀ w ∈ r, z_wf h.1 w := z_wt (z_wt (z_wt hst))
  try dsimp only at hh
  split at hh
  next hc =>
    obtain ⟨⟨c1, c2, c3⟩, hin⟩ := hc
    cases hh
    have hk2 : (h.2.2.1 a).1 = 100 ∨ (h.2.2.1 a).1 = 101 := by omega
    have he : (z_ws cA ad h)[a - 1]? = some (ad a, .inl (cA a, (h.2.2.1 a).2, .inl (h.2.2.2.1 a))) := by rw [z_ws_at c1 c2, z_cellI hk2]
    have ht := S.2.2.2.1 a c1 c2 (by omega)
    have hset : ∀ y : Int32, (z_ws cA ad h).set (a - 1) (ad a, .inl (cA a, (h.2.2.1 a).2, .inl (upd (h.2.2.2.1 a) j.toNatClampNeg y))) = z_ws cA ad (z_setI h a j.toNatClampNeg y) := by
      intro y
      refine z_ws_set c1 c2 rfl ?_ (fun j hj => z_cell_sI hj)
      rw [z_cellI (h := z_setI h a j.toNatClampNeg y) hk2]
      refine congrArg (fun z => Sum.inl (cA a, (h.2.2.1 a).2, Sum.inl z)) ?_
      exact (va_up_self _ _ _).symm
    rw [c3] at ht
    rcases hk with ⟨rfl, rfl, rfl⟩ | ⟨rfl, rfl, rfl⟩
    · refine va_iast X.1 X.2.1 (z_kty X.2.2.2.2.2.2.1 ht) S.1 S.2.1 S.2.2.1 (a - 1) 0 he rfl hin hdg (fun H1 locs1 hP hD hS => ?_)
      rw [hset] at hP hD
      exact kk.keep rfl rfl ⟨hP, hD, hS, S.2.2.2.1, z_hwI S.2.2.2.2.1, S.2.2.2.2.2⟩ hr
    · refine va_cast X.1 X.2.1 (z_kty X.2.2.2.2.2.2.1 ht) S.1 S.2.1 S.2.2.1 (a - 1) 0 he rfl hin hdg (fun H1 locs1 hP hD hS => ?_)
      rw [hset] at hP hD
      exact kk.keep rfl rfl ⟨hP, hD, hS, S.2.2.2.1, z_hwI S.2.2.2.2.1, S.2.2.2.2.2⟩ hr
  next => cases hh
theorem z_W_aald (X : zX p R s m args meth c D k) (hdg : decode (z_code k) pc = .ok (.aaload, 1)) (S : zS s D A H0 cA ad h H locs) (hst : ∀ v ∈ st, z_wf h.1 v) (hh : z_aald st h = some q)
    (kk : zKG p l e R s m args below meth c cells slots Q D A H0 ad h cl (pc + 1) q) : W p l e R s m args below meth c H locs cells slots Q (F0 m pc cl (st.map (z_ren ad))) := by
  replace hh := z_i1_s hh; obtain ⟨j, r0, rfl, hh⟩ := hh
  replace hh := z_r1_s hh; obtain ⟨a, r, rfl, hh⟩ := hh
  try dsimp only at hh
  split at hh
  next hc =>
    obtain ⟨⟨c1, c2, c3⟩, hin⟩ := hc
    split at hh
    next y ey =>
      cases hh
      have he : (z_ws cA ad h)[a - 1]? = some (ad a, .inl (cA a, (h.2.2.1 a).2, .inr (.inr (.inr (.inr (fun j => (h.2.2.2.2 a j).map ad)))))) := by rw [z_ws_at c1 c2, z_cellQ c3]
      have ht := S.2.2.2.1 a c1 c2 (by omega)
      have hlt : j.toNatClampNeg < (h.2.2.1 a).2 := Nat.not_le.mp fun q => hin (Or.inr q)
      have k2 := kk.same S (z_wc ((S.2.2.2.2.1 a c1 c2).2 _ _ ey) (z_wt (z_wt hst)))
      refine W.aald (v := .ref (ad y)) (ty := z_aty (h.2.2.1 a).1) X.1 X.2.1 (S.1 (a - 1) _ he) (ht.1 _ (fun j => va_rf ((h.2.2.2.2 a j).map ad))) ?_ (fun q => by cases q) (by show ¬ (j < 0 ∨ (arrV _ _ _).slots.size ≤ _); rw [arrV_size]; exact hin) ?_ rfl rfl hdg k2
      · rcases c3 with c3 | c3 <;> rw [c3] <;> rfl
      · show (arrV _ _ _).slots[_]? = _
        rw [arrV_read _ _ hlt]
        show some (va_rf ((h.2.2.2.2 a j.toNatClampNeg).map ad)) = _
        rw [ey]
        rfl
    next => cases hh
  next => cases hh
theorem z_W_aast (X : zX p R s m args meth c D k) (hdg : decode (z_code k) pc = .ok (.aastore, 1)) (S : zS s D A H0 cA ad h H locs) (hst : ∀ v ∈ st, z_wf h.1 v) (hh : z_aast st h = some q)
    (kk : zKG p l e R s m args below meth c cells slots Q D A H0 ad h cl (pc + 1) q) : W p l e R s m args below meth c H locs cells slots Q (F0 m pc cl (st.map (z_ren ad))) := by
  replace hh := z_r1_s hh; obtain ⟨v, r1, rfl, hh⟩ := hh
  replace hh := z_i1_s hh; obtain ⟨j, r0, rfl, hh⟩ := hh
  replace hh := z_r1_s hh; obtain ⟨a, r, rfl, hh⟩ := hh
  have hr : ∀ w ∈ r, z_wf h.1 w := z_wt (z_wt (z_wt hst))
  try dsimp only at hh
  split at hh
  next hc =>
    obtain ⟨⟨c1, c2, c3⟩, ⟨d1, d2, d3⟩, hin⟩ := hc
    cases hh
    have he : (z_ws cA ad h)[a - 1]? = some (ad a, .inl (cA a, (h.2.2.1 a).2, .inr (.inr (.inr (.inr (fun j => (h.2.2.2.2 a j).map ad)))))) := by rw [z_ws_at c1 c2, z_cellQ (Or.inl c3)]
    have hv : (z_ws cA ad h)[v - 1]? = some (ad v, .inr (2, z_fs ad h v)) := by rw [z_ws_at d1 d2, z_cellO d3 (by omega)]
    have ht := S.2.2.2.1 a c1 c2 (by omega)
    rw [c3] at ht
    have hw := z_hwR (a := a) (f := j.toNatClampNeg) S.2.2.2.2.1 d2
    have hset : (z_ws cA ad h).set (a - 1) (ad a, .inl (cA a, (h.2.2.1 a).2, .inr (.inr (.inr (.inr (va_up (fun j => (h.2.2.2.2 a j).map ad) j.toNatClampNeg (some (ad v)))))))) = z_ws cA ad (z_setR h a j.toNatClampNeg v) := by
      refine z_ws_set c1 c2 rfl ?_ (fun j hj => z_cell_sR hj)
      rw [z_cellQ (h := z_setR h a j.toNatClampNeg v) (Or.inl c3)]
      refine congrArg (fun z => Sum.inl (cA a, (h.2.2.1 a).2, Sum.inr (Sum.inr (Sum.inr (Sum.inr z))))) (funext fun y => ?_)
      show _ = (va_up h.2.2.2.2 a (va_up (h.2.2.2.2 a) j.toNatClampNeg (some v)) a y).map ad
      rw [va_up_self]
      by_cases hy : y = j.toNatClampNeg
      · subst hy; rw [va_up_self, va_up_self]; rfl
      · rw [va_up_ne _ _ hy, va_up_ne _ _ hy]
    refine va_astq (r := (RX2, TX2, zN 2)) X.1 X.2.1 (z_kty X.2.2.2.2.2.2.1 ht) S.1 S.2.1 S.2.2.1 (a - 1) 0 (v - 1) 2 he rfl hv (z_cl_at 2 (by omega)) hin hdg (fun H1 locs1 hP hD hS => ?_)
    rw [hset] at hP hD
    exact kk.keep rfl rfl ⟨hP, hD, hS, S.2.2.2.1, hw, S.2.2.2.2.2⟩ hr
  next => cases hh
/-- a cell comes -/
theorem z_born {cA' : Nat → ClassId} {kd ln n a : Nat} {x : va_E} {H1 : Heap} {locs1 : List Loc} {r : List Value} (S : zS s D A H0 cA ad h H locs) (hr : ∀ v ∈ r, z_wf h.1 v) (hk : kd < 10 ∨ (100 ≤ kd ∧ kd ≤ 103)) (hc : ∀ i, i ≤ h.1 → cA' i = cA i) (hx : x = z_cell cA' (va_up ad (h.1 + 1) a) (z_mk h kd ln n) (h.1 + 1)) (hn : 100 ≤ kd → ArrOfT s (cA' (h.1 + 1)) (z_aty kd) ∧ va_RA s (cA' (h.1 + 1)) (z_aty kd))
    (hP : va_P D zCl (z_ws cA ad h ++ [(a, x)]) H1) (hD : va_D A (z_ws cA ad h ++ [(a, x)])) (hS : va_S A H0 H1 locs1) {pc' : Nat}
    (kk : zKG p l e R s m args below meth c cells slots Q D A H0 ad h cl pc' (.ref (h.1 + 1) :: r, z_mk h kd ln n)) : W p l e R s m args below meth c H1 locs1 (cells + 1) (slots + n) Q (F0 m pc' cl (.ref a :: r.map (z_ren ad))) := by
  have ha : ∀ i, i ≤ h.1 → va_up ad (h.1 + 1) a i = ad i := fun i hi => va_up_ne _ _ (by omega)
  have hw := S.2.2.2.2.1
  have hpush := z_ws_push (cA := cA) (cA' := cA') (ad := ad) (ad' := va_up ad (h.1 + 1) a) (h := h) (h' := z_mk h kd ln n) (q := a) (x := x) rfl (va_up_self _ _ _).symm hx ha (fun j h1 h2 => z_cell_mk hw h1 h2 (hc j h2) ha)
  rw [hpush] at hP hD
  have k2 := kk cA' (va_up ad (h.1 + 1) a) H1 locs1 ha ⟨hP, hD, hS, z_arr_mk S.2.2.2.1 hc hn, z_hw_mk hw hk, S.2.2.2.2.2⟩ (z_wc (Nat.le_refl _) (fun v hv => z_wf_up (Nat.le_succ _) (hr v hv)))
  have e1 : (z_mk h kd ln n).1 - h.1 = 1 := by show h.1 + 1 - h.1 = 1; omega
  have e2 : (z_mk h kd ln n).2.1 - h.2.1 = n := by show h.2.1 + n - h.2.1 = n; omega
  dsimp only at k2
  rw [e1, e2, List.map_cons, z_map_up ha hr] at k2
  have e3 : z_ren (va_up ad (h.1 + 1) a) (.ref (h.1 + 1)) = .ref a := congrArg Value.ref (va_up_self _ _ _)
  rw [e3] at k2
  exact k2
theorem z_W_new (X : zX p R s m args meth c D k) (hdg : decode (z_code k) pc = .ok (.new i, 3)) (S : zS s D A H0 cA ad h H locs) (hst : ∀ v ∈ st, z_wf h.1 v) (hh : z_new k i st h = some q) (hce : cells + (q.2.1 - h.1) ≤ R.cells) (hsl : slots + (q.2.2.1 - h.2.1) ≤ R.slots)
    (kk : zKG p l e R s m args below meth c cells slots Q D A H0 ad h cl (pc + 3) q) : W p l e R s m args below meth c H locs cells slots Q (F0 m pc cl (st.map (z_ren ad))) := by
  unfold z_new at hh
  split at hh
  next q0 e1 =>
    split at hh
    next f3 =>
      cases hh
      have hf := List.all_eq_true.mp zc_n_ok _ (z_lk1_in e1)
      unfold zc_n at hf
      simp only [decide_eq_true_eq] at hf
      have hi := z_inst q0.1 f3
      have hrow := z_row q0.1 f3
      have e2 : (z_mk h q0.1 0 (zN q0.1)).1 - h.1 = 1 := by show h.1 + 1 - h.1 = 1; omega
      have e3 : (z_mk h q0.1 0 (zN q0.1)).2.1 - h.2.1 = zN q0.1 := by show h.2.1 + _ - h.2.1 = _; omega
      dsimp only at hce hsl
      rw [e2] at hce
      rw [e3] at hsl
      refine va_new (ci := q0.1) (fs := (List.range (zN q0.1)).map (fun f => z_fv q0.1 f 0 none)) (C := zR q0.1) (T := zTn q0.1) (N := zN q0.1) X.1 X.2.1 X.2.2.2.2.1 (z_hin q0.1 f3) (zTy q0.1) hrow.1 X.2.2.2.1 (X.2.2.2.2.1 _ (z_in _ hf rfl)) (X.2.2.2.2.1 _ hi.1) (X.2.2.2.2.1 _ hi.2) X.2.2.2.2.2.2.1.1 S.1 S.2.1 S.2.2.1 S.2.2.2.2.2 (z_cl_at q0.1 f3) (fun j hj => ?_) hce hsl hdg (fun a H1 hP hD hS => ?_)
      · unfold vp_V
        rw [List.getD_eq_getElem?_getD, List.getElem?_map, List.getElem?_range hj]
        show _ = z_fv q0.1 j 0 none
        unfold z_fv
        rcases hrow.2.2 j hj with g | g | ⟨g, ⟨n, g2⟩ | ⟨t, g2⟩⟩
        · rw [g.1, g.2.1]; rfl
        · rw [g.1, g.2.1]; rfl
        · rw [g2, g]; rfl
        · rw [g2, g]; rfl
      · refine z_born (cA' := cA) (kd := q0.1) (ln := 0) (n := zN q0.1) S hst (Or.inl f3) (fun _ _ => rfl) ?_ (fun z => by omega) hP hD hS kk
        have e5 : (z_mk h q0.1 0 (zN q0.1)).2.2.1 (h.1 + 1) = (q0.1, 0) := va_up_self _ _ _
        have e6 : (z_mk h q0.1 0 (zN q0.1)).2.2.2.1 (h.1 + 1) = fun _ => 0 := va_up_self _ _ _
        have e7 : (z_mk h q0.1 0 (zN q0.1)).2.2.2.2 (h.1 + 1) = fun _ => none := va_up_self _ _ _
        rw [z_cellO (ci := q0.1) (by rw [e5]) f3]
        unfold z_fs
        rw [e5, e6, e7]
        rfl
    next => cases hh
  next => cases hh
theorem z_W_newa {kd : Nat} {at_ : ArrayType} (hk : (kd = 100 ∧ at_ = .int) ∨ (kd = 101 ∧ at_ = .char)) (X : zX p R s m args meth c D k) (hdg : decode (z_code k) pc = .ok (.newarray at_, 2)) (S : zS s D A H0 cA ad h H locs) (hst : ∀ v ∈ st, z_wf h.1 v) (hh : z_newa kd st h = some q) (hce : cells + (q.2.1 - h.1) ≤ R.cells) (hsl : slots + (q.2.2.1 - h.2.1) ≤ R.slots)
    (kk : zKG p l e R s m args below meth c cells slots Q D A H0 ad h cl (pc + 2) q) : W p l e R s m args below meth c H locs cells slots Q (F0 m pc cl (st.map (z_ren ad))) := by
  replace hh := z_i1_s hh; obtain ⟨n, r, rfl, hh⟩ := hh
  try dsimp only at hh
  split at hh
  next hc =>
    obtain ⟨c1, c2⟩ := hc
    cases hh
    have hr : ∀ w ∈ r, z_wf h.1 w := z_wt hst
    have e2 : (z_mk h kd n.toNatClampNeg n.toNatClampNeg).1 - h.1 = 1 := by show h.1 + 1 - h.1 = 1; omega
    have e3 : (z_mk h kd n.toNatClampNeg n.toNatClampNeg).2.1 - h.2.1 = n.toNatClampNeg := by show h.2.1 + _ - h.2.1 = _; omega
    dsimp only at hce hsl
    rw [e2] at hce
    rw [e3] at hsl
    have hkk : kd < 10 ∨ (100 ≤ kd ∧ kd ≤ 103) := by omega
    have e5 : (z_mk h kd n.toNatClampNeg n.toNatClampNeg).2.2.1 (h.1 + 1) = (kd, n.toNatClampNeg) := va_up_self _ _ _
    have e6 : (z_mk h kd n.toNatClampNeg n.toNatClampNeg).2.2.2.1 (h.1 + 1) = fun _ => 0 := va_up_self _ _ _
    have fin : ∀ (a : Nat) (c1 : ClassId) (H1 : Heap), va_K D zCl ([] ++ [(c1, z_aty kd)]) s → va_P D zCl (z_ws cA ad h ++ [(a, .inl (c1, n.toNatClampNeg, .inl (fun _ => 0)))]) H1 → va_D A (z_ws cA ad h ++ [(a, .inl (c1, n.toNatClampNeg, .inl (fun _ => 0)))]) → va_S A H0 H1 locs → W p l e R s m args below meth c H1 locs (cells + 1) (slots + n.toNatClampNeg) Q (F0 m (pc + 2) cl (.ref a :: r.map (z_ren ad))) := by
      intro a c1 H1 hK hP hD hS
      have hK0 := hK.2 0 (c1, z_aty kd) rfl
      refine z_born (cA' := va_up cA (h.1 + 1) c1) (kd := kd) (ln := n.toNatClampNeg) (n := n.toNatClampNeg) S hr hkk (fun i hi => va_up_ne _ _ (by omega)) ?_ (fun z => by rw [va_up_self]; exact hK0) hP hD hS kk
      rw [z_cellI (by rw [e5]; dsimp only; omega), e5, e6, va_up_self]
    rcases hk with ⟨rfl, rfl⟩ | ⟨rfl, rfl⟩
    · exact va_newa (ty := .int) (a0 := (n.toNatClampNeg, .inl (fun _ => 0))) X.1 X.2.1 (X.2.2.2.2.1 _ (z_in _ zc_j.2.2.1 rfl)) rfl X.2.2.2.2.2.2.1.1 S.1 S.2.1 S.2.2.1 S.2.2.2.2.2 (fun _ => rfl) c1 rfl (by show _ * 4 ≤ _; omega) hce hsl hdg fin
    · exact va_newa (ty := .char) (a0 := (n.toNatClampNeg, .inl (fun _ => 0))) X.1 X.2.1 (X.2.2.2.2.1 _ (z_in _ zc_j.2.2.2.1 rfl)) rfl X.2.2.2.2.2.2.1.1 S.1 S.2.1 S.2.2.1 S.2.2.2.2.2 (fun _ => rfl) c1 rfl (by show _ * 2 ≤ _; omega) hce hsl hdg fin
  next => cases hh
theorem z_W_newq (X : zX p R s m args meth c D k) (hdg : decode (z_code k) pc = .ok (.anewarray i, 3)) (S : zS s D A H0 cA ad h H locs) (hst : ∀ v ∈ st, z_wf h.1 v) (hh : z_newq k i st h = some q) (hce : cells + (q.2.1 - h.1) ≤ R.cells) (hsl : slots + (q.2.2.1 - h.2.1) ≤ R.slots)
    (kk : zKG p l e R s m args below meth c cells slots Q D A H0 ad h cl (pc + 3) q) : W p l e R s m args below meth c H locs cells slots Q (F0 m pc cl (st.map (z_ren ad))) := by
  unfold z_newq at hh
  split at hh
  next q0 e1 =>
    have hf := List.all_eq_true.mp zc_q_ok _ (z_lk0_in e1)
    unfold zc_q at hf
    simp only [decide_eq_true_eq] at hf
    replace hh := z_i1_s hh; obtain ⟨n, r, rfl, hh⟩ := hh
    try dsimp only at hh
    split at hh
    next hc =>
      obtain ⟨c1, c2⟩ := hc
      cases hh
      have hr : ∀ w ∈ r, z_wf h.1 w := z_wt hst
      have e2 : (z_mk h 102 n.toNatClampNeg n.toNatClampNeg).1 - h.1 = 1 := by show h.1 + 1 - h.1 = 1; omega
      have e3 : (z_mk h 102 n.toNatClampNeg n.toNatClampNeg).2.1 - h.2.1 = n.toNatClampNeg := by show h.2.1 + _ - h.2.1 = _; omega
      dsimp only at hce hsl
      rw [e2] at hce
      rw [e3] at hsl
      have e5 : (z_mk h 102 n.toNatClampNeg n.toNatClampNeg).2.2.1 (h.1 + 1) = (102, n.toNatClampNeg) := va_up_self _ _ _
      have e6 : (z_mk h 102 n.toNatClampNeg n.toNatClampNeg).2.2.2.2 (h.1 + 1) = fun _ => none := va_up_self _ _ _
      refine va_newq (N' := n.toNatClampNeg) X.1 X.2.1 X.2.2.2.1 (X.2.2.2.2.1 _ (z_in _ hf rfl)) X.2.2.2.2.2.2.1.2.2.1 X.2.2.2.2.2.2.1.1 S.1 S.2.1 S.2.2.1 S.2.2.2.2.2 c1 rfl (by omega) hce hsl hdg (fun a c1 H1 hK hP hD hS => ?_)
      have hK0 := hK.2 0 (c1, z_aty 102) rfl
      refine z_born (cA' := va_up cA (h.1 + 1) c1) (kd := 102) (ln := n.toNatClampNeg) (n := n.toNatClampNeg) S hr (by omega) (fun i hi => va_up_ne _ _ (by omega)) ?_ (fun z => by rw [va_up_self]; exact hK0) hP hD hS kk
      rw [z_cellQ (by rw [e5]; exact Or.inl rfl), e5, e6, va_up_self]
      rfl
    next => cases hh
  next => cases hh
theorem z_W_len0 (X : zX p R s m args meth c D k) (hdg : decode (z_code k) pc = .ok (.arraylength, 1)) (S : zS s D A H0 cA ad h H locs) (hsc : zXs sc k A s H0 ad) (hst : ∀ v ∈ st, z_wf h.1 v) (hh : z_len0 sc k st h = some q)
    (kk : zKG p l e R s m args below meth c cells slots Q D A H0 ad h cl (pc + 1) q) : W p l e R s m args below meth c H locs cells slots Q (F0 m pc cl (st.map (z_ren ad))) := by
  replace hh := z_r1_s hh; obtain ⟨a, r, rfl, hh⟩ := hh
  try dsimp only at hh
  split at hh
  next hc =>
    obtain ⟨rfl, c2⟩ := hc
    cases hh
    obtain ⟨x1, x2, x3⟩ := hsc c2
    exact va_slen X.1 X.2.1 x3 x1 x2 S.2.2.1 hdg (kk.same S (z_wc trivial (z_wt hst)))
  next => cases hh
theorem z_W_obj (X : zX p R s m args meth c D k) (hcl : cl.size = c.maxLocals) (hdg : decode (z_code k) pc = .ok (.invokespecial i, 3)) (S : zS s D A H0 cA ad h H locs) (hst : ∀ v ∈ st, z_wf h.1 v) (hh : z_obj k i st h = some q)
    (kk : zKG p l e R s m args below meth c cells slots Q D A H0 ad h cl (pc + 3) q) : W p l e R s m args below meth c H locs cells slots Q (F0 m pc cl (st.map (z_ren ad))) := by
  unfold z_obj at hh
  split at hh
  next q0 e1 =>
    have hf := List.all_eq_true.mp zc_o_ok _ (z_lk0_in e1)
    unfold zc_o at hf
    simp only [decide_eq_true_eq] at hf
    replace hh := z_r1_s hh; obtain ⟨a, r, rfl, hh⟩ := hh
    try dsimp only at hh
    split at hh
    next hc =>
      cases hh
      have hr : ∀ w ∈ r, z_wf h.1 w := z_wt hst
      have hR1 := X.2.2.2.2.2.2.2.1
      have hR2 := X.2.2.2.2.2.2.2.2
      refine W.objInit X.1 X.2.1 X.2.2.2.1 (X.2.2.2.2.1 _ (z_in _ hf rfl)) (X.2.2.2.2.1 _ (z_in _ zc_j.1 rfl)) (X.2.2.2.2.1 _ (z_in _ zc_j.2.1 rfl)) rfl hcl rfl hdg (by omega) ?_ ?_
      · show 2 * 0 + ((r.map (z_ren ad)).map fun v => v.category).sum + 12 ≤ R.locals
        have := z_sum (ad := ad) (r := r)
        omega
      · exact kk.same S hr
    next => cases hh
  next => cases hh
theorem z_W_math (X : zX p R s m args meth c D k) (hcl : cl.size = c.maxLocals) (hdg : decode (z_code k) pc = .ok (.invokestatic i, 3)) (S : zS s D A H0 cA ad h H locs) (hst : ∀ v ∈ st, z_wf h.1 v) (hh : z_math k i st h = some q) (hce : cells ≤ R.cells) (hsl : slots ≤ R.slots)
    (kk : zKG p l e R s m args below meth c cells slots Q D A H0 ad h cl (pc + 3) q) : W p l e R s m args below meth c H locs cells slots Q (F0 m pc cl (st.map (z_ren ad))) := by
  unfold z_math at hh
  split at hh
  next q0 e1 =>
    have hf := List.all_eq_true.mp zc_x_ok _ (z_lk1_in e1)
    unfold zc_x at hf
    simp only [decide_eq_true_eq] at hf
    have hR1 := X.2.2.2.2.2.2.2.1
    have hR2 := X.2.2.2.2.2.2.2.2
    split at hh
    next c0 =>
      rw [if_pos c0] at hf
      replace hh := z_i1_s hh; obtain ⟨x, r, rfl, hh⟩ := hh
      try dsimp only at hh
      split at hh
      next hc =>
        cases hh
        have hr : ∀ w ∈ r, z_wf h.1 w := z_wt hst
        refine va_mabs X.1 X.2.1 hcl.symm X.2.2.2.1 (X.2.2.2.2.1 _ (z_in _ hf rfl)) (X.2.2.2.2.1 _ (z_in _ zc_w.2.2.1 rfl)) (X.2.2.2.2.1 _ (z_in _ zc_w.2.1 rfl)) (X.2.2.2.2.1 _ (z_in _ zc_w.2.2.2.1 rfl)) (by omega) ?_ hce hsl hdg (kk.same S (z_wc trivial hr))
        have := z_sum (ad := ad) (r := r)
        omega
      next => cases hh
    next c0 =>
      rw [if_neg c0] at hf
      split at hh
      next c1 =>
        replace hh := z_i2_s hh; obtain ⟨x, y, r, rfl, hh⟩ := hh
        try dsimp only at hh
        split at hh
        next hc =>
          cases hh
          have hr : ∀ w ∈ r, z_wf h.1 w := z_wt (z_wt hst)
          refine va_mmax X.1 X.2.1 hcl.symm X.2.2.2.1 (X.2.2.2.2.1 _ (z_in _ hf rfl)) (X.2.2.2.2.1 _ (z_in _ zc_w.2.2.2.2.1 rfl)) (X.2.2.2.2.1 _ (z_in _ zc_w.2.1 rfl)) (X.2.2.2.2.1 _ (z_in _ zc_w.2.2.2.2.2 rfl)) (by omega) ?_ hce hsl hdg (kk.same S (z_wc trivial hr))
          have := z_sum (ad := ad) (r := r)
          omega
        next => cases hh
      next => cases hh
  next => cases hh
theorem z_wsM {cA cA' : Nat → ClassId} {ad ad' : Nat → Nat} {h h' : zA} {N : Nat} {x : Nat × va_E} {ys : va_W} (hn : h'.1 = h.1 + 1 + N) (ha : ∀ i, i ≤ h.1 → ad' i = ad i) (hc : ∀ j, 1 ≤ j → j ≤ h.1 → z_cell cA' ad' h' j = z_cell cA ad h j) (hx : x = (ad' (h.1 + 1), z_cell cA' ad' h' (h.1 + 1))) (hy : ys = (List.range N).map (fun i => (ad' (h.1 + 2 + i), z_cell cA' ad' h' (h.1 + 2 + i)))) : (z_ws cA ad h ++ [x]) ++ ys = z_ws cA' ad' h' := by
  subst hx hy
  apply List.ext_getElem?
  intro j
  by_cases h1 : j < h.1
  · rw [List.getElem?_append_left (by simp [z_ws_len]; omega), List.getElem?_append_left (by rw [z_ws_len]; exact h1), z_ws_get h1, z_ws_get (by omega), ha _ (by omega), hc _ (by omega) (by omega)]
  · by_cases h2 : j = h.1
    · subst h2
      rw [List.getElem?_append_left (by simp [z_ws_len]), List.getElem?_append_right (by rw [z_ws_len]; omega), z_ws_len, Nat.sub_self, z_ws_get (by omega)]
      rfl
    · rw [List.getElem?_append_right (by simp [z_ws_len]; omega), List.length_append, z_ws_len]
      by_cases h3 : j < h.1 + 1 + N
      · rw [z_ws_get (by omega), List.getElem?_map, List.getElem?_range (by simp; omega)]
        simp only [List.length_cons, List.length_nil, Option.map_some]
        rw [show h.1 + 2 + (j - (h.1 + (0 + 1))) = j + 1 by omega]
      · rw [List.getElem?_eq_none (by simp; omega), List.getElem?_eq_none (by rw [z_ws_len]; omega)]
theorem z_W_newm {d : Nat} (hd : d = 2) (X : zX p R s m args meth c D k) (hdg : decode (z_code k) pc = .ok (.multianewarray i d, 4)) (S : zS s D A H0 cA ad h H locs) (hst : ∀ v ∈ st, z_wf h.1 v) (hh : z_newm k i st h = some q) (hce : cells + (q.2.1 - h.1) ≤ R.cells) (hsl : slots + (q.2.2.1 - h.2.1) ≤ R.slots)
    (kk : zKG p l e R s m args below meth c cells slots Q D A H0 ad h cl (pc + 4) q) : W p l e R s m args below meth c H locs cells slots Q (F0 m pc cl (st.map (z_ren ad))) := by
  subst hd
  unfold z_newm at hh
  split at hh
  next q0 e1 =>
    have hf := List.all_eq_true.mp zc_g_ok _ (z_lk0_in e1)
    unfold zc_g at hf
    simp only [decide_eq_true_eq] at hf
    replace hh := z_i2_s hh; obtain ⟨n, y, r, rfl, hh⟩ := hh
    try dsimp only at hh
    split at hh
    next hc =>
      obtain ⟨c1, c2, c3, c4⟩ := hc
      cases hh
      have hr : ∀ w ∈ r, z_wf h.1 w := z_wt (z_wt hst)
      generalize hN : n.toNatClampNeg = N at *
      generalize hM : y.toNatClampNeg = M at *
      have e2 : (z_mk2 h N M).1 - h.1 = 1 + N := by show h.1 + 1 + N - h.1 = 1 + N; omega
      have e3 : (z_mk2 h N M).2.1 - h.2.1 = N + N * M := by show h.2.1 + N + N * M - h.2.1 = _; omega
      dsimp only at hce hsl
      rw [e2] at hce
      rw [e3] at hsl
      have hcl : (Jvm.Cond.classLink (zR (z_cls k)) i ("[" ++ (FieldType.array .int).toString)).before args s = true := X.2.2.2.2.1 _ (z_in _ hf rfl)
      have hAO := X.2.2.2.2.2.2.1.2.2.2
      obtain ⟨comp, cc, kk0, g1, g2, g3, g4, g5⟩ := z_AOA_spec hAO
      have hP0 : va_P D zCl (z_ws cA ad h ++ va_pl [] (fun _ => .inr (0, []))) H := by show va_P D zCl (z_ws cA ad h ++ []) H; rw [List.append_nil]; exact S.1
      have hD0 : va_D A (z_ws cA ad h ++ va_pl [] (fun _ => .inr (0, []))) := by show va_D A (z_ws cA ad h ++ []); rw [List.append_nil]; exact S.2.1
      have hw := S.2.2.2.2.1
      refine va_mna (X := z_ws cA ad h) (L := []) (f := fun _ => .inr (0, [])) (ty := .int) (cy := comp) (z := (M, .inl (fun _ => 0))) (N' := N) (K' := M) X.1 X.2.1 X.2.2.2.1 hcl hAO (X.2.2.2.2.1 _ (z_in _ zc_j.2.2.1 rfl)) g1 X.2.2.2.2.2.2.1.1 hP0 hD0 S.2.2.1 S.2.2.2.2.2 c1 c3 hN hM (by omega) (by show _ * 4 ≤ _; omega) (by omega) rfl rfl hce hsl ?_ hdg (fun a rr c1 H1 hinj hfr hK hP hD hS => ?_)
      · intro c9
        show _ = arrV c9 M (fun _ => .int 0)
        rw [← arrV_new]
        rfl
      · have hK0 := hK.2 0 (c1, .array .int) rfl
        have hcomp : ArrOfT s comp .int ∧ va_RA s comp .int := by
          obtain ⟨c5, k5, comp5, a1, a2, a3⟩ := Cond.arrayClass_spec (X.2.2.2.2.1 _ (z_in _ zc_j.2.2.1 rfl))
          have e5 : c5 = comp := Option.some.inj (a1.symm.trans g1)
          subst e5
          exact ⟨fun n z => ⟨fun k h => (by cases h), k5, a2, comp5, a3⟩, g1⟩
        have hcell : ∀ (cA' : Nat → ClassId) (ad' : Nat → Nat), (∀ i, i ≤ h.1 → cA' i = cA i) → (∀ i, i ≤ h.1 → ad' i = ad i) → ∀ j, 1 ≤ j → j ≤ h.1 → z_cell cA' ad' (z_mk2 h N M) j = z_cell cA ad h j := by
          intro cA' ad' hc ha j h1 h2
          have f1 : (z_mk2 h N M).2.2.1 j = h.2.2.1 j := by
            show (if j = h.1 + 1 then _ else if h.1 + 1 < j then _ else h.2.2.1 j) = _
            rw [if_neg (by omega), if_neg (by omega)]
          have f2 : (z_mk2 h N M).2.2.2.1 j = h.2.2.2.1 j := by
            show (if h.1 < j then _ else h.2.2.2.1 j) = _
            rw [if_neg (by omega)]
          have f3 : (z_mk2 h N M).2.2.2.2 j = h.2.2.2.2 j := by
            show (if j = h.1 + 1 then _ else if h.1 < j then _ else h.2.2.2.2 j) = _
            rw [if_neg (by omega), if_neg (by omega)]
          have f4 : ∀ f, (h.2.2.2.2 j f).map ad' = (h.2.2.2.2 j f).map ad := by
            intro f
            cases e : h.2.2.2.2 j f with
            | none => rfl
            | some q => exact congrArg some (ha q ((hw j h1 h2).2 f q e))
          unfold z_cell z_fs
          rw [f1, f2, f3, hc j h2]
          simp only [f4]
        obtain ⟨cA', hcA⟩ : ∃ f : Nat → ClassId, f = fun j => if j = h.1 + 1 then c1 else if h.1 + 1 < j then comp else cA j := ⟨_, rfl⟩
        obtain ⟨ad', had⟩ : ∃ f : Nat → Nat, f = fun j => if j = h.1 + 1 then a else if h.1 + 1 < j then rr (j - (h.1 + 2)) else ad j := ⟨_, rfl⟩
        have u1 : ∀ i, i ≤ h.1 → cA' i = cA i := fun i hi => by rw [hcA]; dsimp only; rw [if_neg (by omega), if_neg (by omega)]
        have u2 : ∀ i, i ≤ h.1 → ad' i = ad i := fun i hi => by rw [had]; dsimp only; rw [if_neg (by omega), if_neg (by omega)]
        have u3 : cA' (h.1 + 1) = c1 := by rw [hcA]; dsimp only; rw [if_pos rfl]
        have u4 : ad' (h.1 + 1) = a := by rw [had]; dsimp only; rw [if_pos rfl]
        have u5 : ∀ i, cA' (h.1 + 2 + i) = comp := fun i => by rw [hcA]; dsimp only; rw [if_neg (by omega), if_pos (by omega)]
        have u6 : ∀ i, ad' (h.1 + 2 + i) = rr i := fun i => by rw [had]; dsimp only; rw [if_neg (by omega), if_pos (by omega)]; congr 1; omega
        have w1 : (z_mk2 h N M).2.2.1 (h.1 + 1) = (103, N) := if_pos rfl
        have w2 : (z_mk2 h N M).2.2.2.2 (h.1 + 1) = fun i => if i < N then some (h.1 + 2 + i) else none := if_pos rfl
        have w3 : ∀ i, (z_mk2 h N M).2.2.1 (h.1 + 2 + i) = (100, M) := fun i => by
          show (if h.1 + 2 + i = h.1 + 1 then _ else if h.1 + 1 < h.1 + 2 + i then _ else _) = _
          rw [if_neg (by omega), if_pos (by omega)]
        have w4 : ∀ i, (z_mk2 h N M).2.2.2.1 (h.1 + 2 + i) = fun _ => 0 := fun i => by
          show (if h.1 < h.1 + 2 + i then _ else _) = _
          rw [if_pos (by omega)]
        have w5 : ∀ i, (z_mk2 h N M).2.2.2.2 (h.1 + 2 + i) = fun _ => none := fun i => by
          show (if h.1 + 2 + i = h.1 + 1 then _ else if h.1 < h.1 + 2 + i then _ else _) = _
          rw [if_neg (by omega), if_pos (by omega)]
        have hset := z_wsM (cA := cA) (cA' := cA') (ad := ad) (ad' := ad') (h := h) (h' := z_mk2 h N M) (N := N) (x := (a, .inl (c1, N, .inr (.inr (.inr (.inr (fun i => if i < N then some (rr i) else none))))))) (ys := va_pl ([] ++ (List.range N).map rr) (vr_up (fun _ => .inr (0, [])) ((List.range N).map rr) (.inl (comp, M, .inl (fun _ => 0))))) rfl u2 (hcell cA' ad' u1 u2) ?_ ?_
        · rw [hset] at hP hD
          have hw' : z_hw (z_mk2 h N M) := by
            intro j h1 h2
            have h2 : j ≤ h.1 + 1 + N := h2
            by_cases j1 : j = h.1 + 1
            · subst j1
              rw [w1, w2]
              refine ⟨by dsimp only; omega, fun f z ez => ?_⟩
              dsimp only at ez
              split at ez
              next hlt => cases ez; show h.1 + 2 + f ≤ h.1 + 1 + N; omega
              next => cases ez
            · by_cases j2 : h.1 + 1 < j
              · obtain ⟨i9, rfl⟩ : ∃ i9, j = h.1 + 2 + i9 := ⟨j - (h.1 + 2), by omega⟩
                rw [w3, w5]
                exact ⟨by dsimp only; omega, fun f z ez => by cases ez⟩
              · have f1 : (z_mk2 h N M).2.2.1 j = h.2.2.1 j := by
                  show (if j = h.1 + 1 then _ else if h.1 + 1 < j then _ else h.2.2.1 j) = _
                  rw [if_neg (by omega), if_neg (by omega)]
                have f3 : (z_mk2 h N M).2.2.2.2 j = h.2.2.2.2 j := by
                  show (if j = h.1 + 1 then _ else if h.1 < j then _ else h.2.2.2.2 j) = _
                  rw [if_neg (by omega), if_neg (by omega)]
                rw [f1, f3]
                refine ⟨(hw j h1 (by omega)).1, fun f z ez => ?_⟩
                have := (hw j h1 (by omega)).2 f z ez
                show z ≤ h.1 + 1 + N
                omega
          have ha' : z_arr cA' (z_mk2 h N M) s := by
            intro j h1 h2 h3
            have h2 : j ≤ h.1 + 1 + N := h2
            by_cases j1 : j = h.1 + 1
            · subst j1
              rw [w1, u3]
              exact hK0
            · by_cases j2 : h.1 + 1 < j
              · obtain ⟨i9, rfl⟩ : ∃ i9, j = h.1 + 2 + i9 := ⟨j - (h.1 + 2), by omega⟩
                rw [w3, u5]
                exact hcomp
              · have f1 : (z_mk2 h N M).2.2.1 j = h.2.2.1 j := by
                  show (if j = h.1 + 1 then _ else if h.1 + 1 < j then _ else h.2.2.1 j) = _
                  rw [if_neg (by omega), if_neg (by omega)]
                rw [f1] at h3 ⊢
                rw [u1 j (by omega)]
                exact S.2.2.2.1 j h1 (by omega) h3
          have k2 := kk cA' ad' H1 locs u2 ⟨hP, hD, hS, ha', hw', S.2.2.2.2.2⟩ (z_wc (by show h.1 + 1 ≤ h.1 + 1 + N; omega) (fun v hv => z_wf_up (by show h.1 ≤ h.1 + 1 + N; omega) (hr v hv)))
          dsimp only at k2
          rw [e2, e3, List.map_cons, z_map_up u2 hr, ← Nat.add_assoc, ← Nat.add_assoc] at k2
          have e9 : z_ren ad' (.ref (h.1 + 1)) = .ref a := congrArg Value.ref u4
          rw [e9] at k2
          exact k2
        · rw [z_cellQ (by rw [w1]; exact Or.inr rfl), w1, w2, u3, u4]
          refine congrArg (fun z => (a, Sum.inl (c1, N, Sum.inr (Sum.inr (Sum.inr (Sum.inr z)))))) (funext fun j => ?_)
          by_cases hj : j < N
          · rw [if_pos hj]
            dsimp only
            rw [if_pos hj]
            exact congrArg some (u6 j).symm
          · rw [if_neg hj]
            dsimp only
            rw [if_neg hj]
            rfl
        · unfold va_pl
          rw [List.nil_append, List.map_map]
          refine List.map_congr_left fun j hj => ?_
          have hj := List.mem_range.mp hj
          show (rr j, vr_up _ _ _ (rr j)) = _
          rw [vr_up_in (List.mem_map_of_mem (List.mem_range.mpr hj)), z_cellI (by rw [w3]; exact Or.inl rfl), w3, w4, u5, u6]
    next => cases hh
  next => cases hh
end ZHEAP
end
section
/-! ===== the law's own method lot, called: its contract over the machine ===== -/
def zI (h h' : zA) : Prop := h.1 ≤ h'.1 ∧ h.2.1 ≤ h'.2.1
theorem zI.rf {h : zA} : zI h h := ⟨Nat.le_refl _, Nat.le_refl _⟩
theorem zI.tr {h h' h2 : zA} (a : zI h h') (b : zI h' h2) : zI h h2 := ⟨Nat.le_trans a.1 b.1, Nat.le_trans a.2 b.2⟩
theorem zI.setI {h : zA} {a f : Nat} {x : Int32} : zI h (z_setI h a f x) := ⟨Nat.le_refl _, Nat.le_refl _⟩
theorem zI.setR {h : zA} {a f : Nat} {x : Nat} : zI h (z_setR h a f x) := ⟨Nat.le_refl _, Nat.le_refl _⟩
theorem zI.mk {h : zA} {kd ln n : Nat} : zI h (z_mk h kd ln n) := ⟨Nat.le_succ _, Nat.le_add_right _ _⟩
theorem zI.mk2 {h : zA} {n y : Nat} : zI h (z_mk2 h n y) := by
  refine ⟨by show h.1 ≤ h.1 + 1 + n; omega, by show h.2.1 ≤ h.2.1 + n + n * y; omega⟩
-- a method's contract
def zPc (D : va_G) (cA : Nat → ClassId) (ad : Nat → Nat) (h : zA) (as : List Value) (sz : Nat) : Array Value → State → Prop := va_Pc (as.map (z_ren ad)) (fun U => U.heap.size = sz ∧ va_P D zCl (z_ws cA ad h) U.heap ∧ va_D (fun _ => True) (z_ws cA ad h) ∧ z_arr cA h U ∧ z_K D U)
def zQc (D : va_G) (ad : Nat → Nat) (h h' : zA) (r : Option Value) (A : Nat → Prop) : Array Value → State → Outcome → State → Prop := fun _ st oc t =>
  (∃ (cA' : Nat → ClassId) (ad' : Nat → Nat), (∀ i, i ≤ h.1 → ad' i = ad i) ∧ oc = .returned (r.map (z_ren ad')) ∧ va_P D zCl (z_ws cA' ad' h') t.heap ∧ va_D A (z_ws cA' ad' h') ∧ z_arr cA' h' t ∧ z_hw h' ∧ ∀ v, r = some v → z_wf h'.1 v) ∧ va_F A st t
def zWs (y : Nat) : List Jvm.Cond := Jvm.Cond.code (z_y y) (z_code y) (z_ml y) (z_ret y) :: zT
def zRm (y mc ms : Nat) : Room := { frames := z_fr y, cells := mc, slots := ms, locals := z_lo y }
theorem z_good {ws : List Jvm.Cond} (h : ∀ w ∈ ws, w ∈ zT) : GoodIn zT ws := fun w hw => ⟨h w hw, good_of_word (List.mem_filter.mp (h w hw)).2⟩
theorem z_lg {as : List Value} {n : Nat} {ad : Nat → Nat} (h : ∀ v ∈ as, z_wf n v) (h1 : ∀ v ∈ as, z_c1 v = true) : (lg_sl (as.map (z_ren ad))).length = as.length := by
  induction as with
  | nil => rfl
  | cons v as ih =>
    have hc := z_cat (ad := ad) (h v List.mem_cons_self) (h1 v List.mem_cons_self)
    have i2 := ih (fun w hw => h w (List.mem_cons_of_mem _ hw)) (fun w hw => h1 w (List.mem_cons_of_mem _ hw))
    unfold lg_sl at i2 ⊢
    rw [List.map_cons, List.flatMap_cons, if_neg (by omega), List.length_append, i2, List.length_cons]
    show 0 + 1 + as.length = _
    rw [List.length_cons]
    omega
theorem z_la {ad : Nat → Nat} {n : Nat} : ∀ (as : List Value) (i0 j : Nat) (v : Value), (∀ v ∈ as, z_wf n v) → (∀ v ∈ as, z_c1 v = true) → as[j]? = some v → (i0 + j, z_ren ad v) ∈ lv_args i0 (as.map (z_ren ad))
  | [], _, j, v, _, _, h => by simp at h
  | w :: as, i0, j, v, hw, h1, h => by
    have hc := z_cat (ad := ad) (hw w List.mem_cons_self) (h1 w List.mem_cons_self)
    rw [List.map_cons]
    unfold lv_args
    rw [if_neg (by omega)]
    cases j with
    | zero => rw [List.getElem?_cons_zero] at h; cases h; exact List.mem_cons_self
    | succ j =>
      rw [List.getElem?_cons_succ] at h
      have i2 := z_la (ad := ad) as (i0 + 1) j v (fun w hx => hw w (List.mem_cons_of_mem _ hx)) (fun w hx => h1 w (List.mem_cons_of_mem _ hx)) h
      rw [show i0 + (j + 1) = i0 + 1 + j by omega]
      exact List.mem_cons_of_mem _ i2
section ZLOT
variable {p : Program} {l : Launch} {e : Env} {R : Room} {s : State} {m : MethodId} {args : Array Value} {below : List Frame} {meth : Method} {c : Code} {H : Heap} {locs : List Loc} {cells slots : Nat} {Q : State → Prop}
variable {D : va_G} {k pc len i : Nat} {ad : Nat → Nat} {cA : Nat → ClassId} {A : Nat → Prop} {H0 : Heap} {h : zA} {ls st : List Value} {cl : Array Slot} {sc : Nat × (Nat → Int32)}
/-- behind a call: the callee's run, put beside the caller's frame -/
theorem z_back {st0 rest : List Value} {rv : Option Value} {h1 : zA} {pc' : Nat} {mc ms : Nat} {aa : Array Value} {Qs : State → Prop} (hK : z_K D s) (S : zS s D A H0 cA ad h H locs) (hrest : ∀ v ∈ rest, z_wf h.1 v) (hpc : pc' = pc + 3)
    (hr : va_Run p l e R s m args below meth c H locs cells slots mc ms (F0 m pc cl st0) (rest.map (z_ren ad)) (zQc D ad h h1 rv (va_A (z_ws cA ad h) H.size) aa) (va_A (z_ws cA ad h) H.size)) (hI : zI h h1)
    (kk : ∀ (cA' : Nat → ClassId) (ad' : Nat → Nat) (H' : Heap) (locs' : List Loc), (∀ i, i ≤ h.1 → ad' i = ad i) → zS s D A H0 cA' ad' h1 H' locs' → (∀ v ∈ rv.toList ++ rest, z_wf h1.1 v) → W p l e R s m args below meth c H' locs' (cells + mc) (slots + ms) Qs (F0 m pc' cl ((rv.toList ++ rest).map (z_ren ad')))) : W p l e R s m args below meth c H locs cells slots Qs (F0 m pc cl st0) := by
  subst hpc
  intro T hT Xs
  obtain ⟨v, st₀, t, T', L, h0, X', hL, e1, e2, ⟨⟨cA', ad', u1, hv, u2, u3, u4, u5, u6⟩, hz, hk⟩, st⟩ := hr T hT Xs
  have hv : v = rv.map (z_ren ad') := by cases hv; rfl
  subst hv
  rw [h0] at hz hk
  have hF : ∀ q, va_A (z_ws cA ad h) H.size q → A q := by
    intro q hq
    rcases hq with ⟨j, e, hq⟩ | hq
    · exact S.2.1.2 j (q, e) hq
    · exact S.2.2.2.2.2 q (Nat.le_trans S.2.2.1.1 hq)
  have hS := S.2.2.1
  have hal : s.vm.Alike t.vm := by rw [← e2]; exact X'.warmed.alike
  have S' : zS s D A H0 cA' ad' h1 T'.heap (locs ++ L) := by
    refine ⟨by rw [e1]; exact u2, u3.weaken (fun _ q _ hq => hF q.1 hq), ⟨Nat.le_trans hS.1 (by rw [e1]; exact hz), fun q g1 g2 => ?_, fun q hq => ?_⟩, u4.moved hal.symm, u5, S.2.2.2.2.2⟩
    · rw [e1, hk q (Nat.lt_of_lt_of_le g1 hS.1) (fun z => g2 (hF q z))]
      exact hS.2.1 q g1 g2
    · rcases List.mem_append.mp hq with g | g
      · exact hS.2.2 q g
      · exact hF _ (hL q g)
  have hst : ∀ v ∈ rv.toList ++ rest, z_wf h1.1 v := by
    intro w hw
    rcases List.mem_append.mp hw with g | g
    · exact u6 w (by cases rv with
        | none => cases g
        | some z => rw [List.mem_singleton.mp g])
    · exact z_wf_up hI.1 (hrest w g)
  obtain ⟨t2, a1, b1⟩ := kk cA' ad' T'.heap (locs ++ L) u1 S' hst T' rfl X'
  refine ⟨t2, st t2 ?_, b1⟩
  have e3 : (rv.toList ++ rest).map (z_ren ad') = (rv.map (z_ren ad')).toList ++ rest.map (z_ren ad) := by
    rw [List.map_append, z_map_up u1 hrest]
    cases rv <;> rfl
  rw [e3] at a1
  exact a1

theorem z_lot0 : decode cL_lot 0 = .ok (.iload_n 1, 1) := by decide +kernel
theorem z_lot1 : decode cL_lot 1 = .ok (.aload_n 0, 1) := by decide +kernel
theorem z_lot2 : decode cL_lot 2 = .ok (.arraylength, 1) := by decide +kernel
theorem z_lot3 : decode cL_lot 3 = .ok (.if_icmp .ge 9, 3) := by decide +kernel
theorem z_lot6 : decode cL_lot 6 = .ok (.aload_n 0, 1) := by decide +kernel
theorem z_lot7 : decode cL_lot 7 = .ok (.iload_n 1, 1) := by decide +kernel
theorem z_lot8 : decode cL_lot 8 = .ok (.iaload, 1) := by decide +kernel
theorem z_lot9 : decode cL_lot 9 = .ok (.goto 15, 3) := by decide +kernel
theorem z_lot12 : decode cL_lot 12 = .ok (.ldc 7, 2) := by decide +kernel
theorem z_lot14 : decode cL_lot 14 = .ok (.iload_n 1, 1) := by decide +kernel
theorem z_lot15 : decode cL_lot 15 = .ok (.sipush 2887, 3) := by decide +kernel
theorem z_lot18 : decode cL_lot 18 = .ok (.iadd, 1) := by decide +kernel
theorem z_lot19 : decode cL_lot 19 = .ok (.imul, 1) := by decide +kernel
theorem z_lot20 : decode cL_lot 20 = .ok (.sipush 2683, 3) := by decide +kernel
theorem z_lot23 : decode cL_lot 23 = .ok (.iadd, 1) := by decide +kernel
theorem z_lot24 : decode cL_lot 24 = .ok (.ireturn, 1) := by decide +kernel
def zWl : List Jvm.Cond := Jvm.Cond.code yL_lot cL_lot 2 (some .int) :: zT
def zRl : Room := { frames := 0, cells := 0, slots := 0, locals := 0 }
def zPl (D : va_G) (cA : Nat → ClassId) (ad : Nat → Nat) (h : zA) (L : Nat) (xs : Nat → Int32) (b : Nat) (x : Int32) (sz : Nat) : Array Value → State → Prop := va_Pc [.ref b, .int x] (fun U => U.heap.size = sz ∧ va_P D zCl (z_ws cA ad h) U.heap ∧ va_D (fun _ => True) (z_ws cA ad h) ∧ z_arr cA h U ∧ b < sz ∧ ¬ va_A (z_ws cA ad h) sz b ∧ va_X b L xs U U.heap)
theorem z_lt_in {L : Nat} {x : Int32} (h0 : ¬ x < 0) (hL : L ≤ 2048) (h : x < Int32.ofNat L) : vp_in x L := by
  rintro (g | g)
  · exact h0 g
  · have h : x < nI L := h
    rw [Int32.lt_iff_toInt_lt, nI_toInt (by omega)] at h
    have e : x.toInt.toNat = x.toNatClampNeg := rfl
    have h0 : ¬ x.toInt < 0 := fun z => h0 (Int32.lt_iff_toInt_lt.mpr z)
    omega
theorem z_lot_met {L : Nat} {xs : Nat → Int32} {b : Nat} {x : Int32} {sz : Nat} (h0 : ¬ x < 0) (hL : L ≤ 2048) (hw : z_hw h) :
    Met l yL_lot zWl zRl (zPl D cA ad h L xs b x sz) (zQc D ad h h (some (.int (z_lt (L, xs) x))) (va_A (z_ws cA ad h) sz)) 0 0 (va_A (z_ws cA ad h) sz) := by
  refine Met.ofW (cc := cL_lot) (maxL := 2) (ret := some .int) (by decide) rfl ?_
  intro p e s m args below meth c s₁ B hml hv
  obtain ⟨rfl, hsz, hP, hD0, hAr, hb1, hb2, hX⟩ := hv
  subst hsz
  have hts : ∀ w ∈ zT, w.before (([.ref b, .int x] : List Value).toArray) s = true := fun w hw2 => atoms_spec (ws := zWl) B.pre w (List.mem_cons_of_mem _ hw2)
  have hown : s.vm.findClass RL = some m.cls := findClass_of_methodNamed B.named
  have hlocks := B.notSynchronized
  have hr := B.returns
  have hx := B.exec
  have hb := B.bytes
  have hcon : (Jvm.Cond.constant RL 7 (-1076894359)).before (([.ref b, .int x] : List Value).toArray) s = true := hts _ (z_in _ zc_vw.2.2.2 rfl)
  have hD := hD0.self (sz := s.heap.size)
  have hS : va_S (va_A (z_ws cA ad h) s.heap.size) s.heap s.heap [] := va_S.rf
  have hl := lv_entry ([.ref b, .int x]) (n := 2) (Nat.le_of_ble_eq_true rfl)
  rw [lg_entry_eq]
  generalize (lg_sl ([.ref b, .int x]) ++ List.replicate (2 - (lg_sl ([.ref b, .int x])).length) Slot.unset).toArray = cl at hl ⊢
  have hl : lv_has cl 2 [(0, .ref b), (1, .int x)] := hl
  have l0 : cl[0]? = some (.val (.ref b)) := lv_at hl 0 rfl
  have l1 : cl[1]? = some (.val (.int x)) := lv_at hl 1 rfl
  have fin : ∀ v : Int32, v = z_lt (L, xs) x → W p l e (headSpec zWl zRl).room s m (([.ref b, .int x] : List Value).toArray) below meth c s.heap [] 0 0 (MQ below (zQc D ad h h (some (.int (z_lt (L, xs) x))) (va_A (z_ws cA ad h) s.heap.size)) (([.ref b, .int x] : List Value).toArray) s 0 0 (va_A (z_ws cA ad h) s.heap.size)) (F0 m 24 cl [.int v]) := by
    intro v hv
    subst hv
    refine W.iret hx hb hr (fun t ht hW => ?_) hS.2.2 z_lot24
    exact ⟨⟨cA, ad, fun _ _ => rfl, rfl, by rw [ht]; exact hP, hD, hAr.moved hW.alike, hw, fun v hv => by cases hv; trivial⟩, hS.F ht⟩
  refine lv_iload_n hx hb z_lot0 rfl l1 ?_
  refine lv_aload_n hx hb z_lot1 rfl l0 ?_
  refine va_slen hx hb hX hb1 hb2 hS z_lot2 ?_
  refine lv_icmp_ge hx hb (tgt := 12) z_lot3 rfl (fun g => ?_) (fun g => ?_)
  · have g : ¬ x < Int32.ofNat L := Int32.not_lt.mpr g
    refine lv_ldc hx hb hown hcon z_lot12 ?_
    refine lv_iload_n hx hb z_lot14 rfl l1 ?_
    refine lv_sipush hx hb z_lot15 rfl ?_
    refine lv_iadd hx hb z_lot18 ?_
    refine lv_imul hx hb z_lot19 ?_
    refine lv_sipush hx hb z_lot20 rfl ?_
    refine lv_iadd hx hb z_lot23 ?_
    refine fin _ ?_
    unfold z_lt
    rw [if_neg g]
    rfl
  · have g : x < Int32.ofNat L := Int32.not_le.mp g
    refine lv_aload_n hx hb z_lot6 rfl l0 ?_
    refine lv_iload_n hx hb z_lot7 rfl l1 ?_
    refine va_sld hx hb hX hb1 hb2 hS (z_lt_in h0 hL g) z_lot8 ?_
    refine lv_goto hx hb (tgt := 24) z_lot9 rfl ?_
    refine fin _ ?_
    unfold z_lt
    rw [if_pos g]
theorem z_W_lotM (X : zX p R s m args meth c D k) (hcl : cl.size = c.maxLocals) (hdg : decode (z_code k) pc = .ok (.invokestatic i, 3)) (S : zS s D A H0 cA ad h H locs) (hsc : zXs sc k A s H0 ad) (hst : ∀ v ∈ st, z_wf h.1 v) {q : zG} (hh : z_lot sc k i st h = some q) (hce : cells ≤ R.cells) (hsl : slots ≤ R.slots)
    (kk : zKG p l e R s m args below meth c cells slots Q D A H0 ad h cl (pc + 3) q) : W p l e R s m args below meth c H locs cells slots Q (F0 m pc cl (st.map (z_ren ad))) := by
  unfold z_lot at hh
  split at hh
  next q0 e1 =>
    have hf := List.all_eq_true.mp zc_v_ok _ (z_lk0_in e1)
    unfold zc_v at hf
    simp only [Bool.and_eq_true, decide_eq_true_eq] at hf
    replace hh := z_i1_s hh; obtain ⟨x, r0, rfl, hh⟩ := hh
    replace hh := z_r1_s hh; obtain ⟨a, r, rfl, hh⟩ := hh
    try dsimp only at hh
    split at hh
    next hc =>
      obtain ⟨⟨rfl, c2, c3, c4⟩, c5, c6, c7⟩ := hc
      cases hh
      have hr : ∀ w ∈ r, z_wf h.1 w := z_wt (z_wt hst)
      obtain ⟨x1, x2, x3⟩ := hsc c2
      have hK := X.2.2.2.2.2.2.1
      have hts := X.2.2.2.2.1
      have hsz : cl.size = z_ml k := hcl.trans X.2.2.1
      have C0 : CallFix p m c (z_code k) (z_ml k) s args zT (zR (z_cls k)) := ⟨X.1, X.2.1, X.2.2.1, X.2.2.2.1, X.2.2.2.2.1⟩
      have hM := z_lot_met (l := l) (D := D) (cA := cA) (ad := ad) (h := h) (L := sc.1) (xs := sc.2) (b := ad 0) (x := x) (sz := H.size) c3 c4 S.2.2.2.2.1
      have hszH : ad 0 < H.size := Nat.lt_of_lt_of_le x1 S.2.2.1.1
      have hnA : ¬ va_A (z_ws cA ad h) H.size (ad 0) := by
        rintro (⟨j, e, hq⟩ | hq)
        · exact x2 (S.2.1.2 j (ad 0, e) hq)
        · omega
      have hpre : PreS s H (zPl D cA ad h sc.1 sc.2 (ad 0) x H.size) [.ref (ad 0), .int x] := by
        refine ⟨?_, fun U hU hW => ?_⟩
        · intro a U g mk q
          obtain ⟨q0, q1, q2, q3, q4, q5, q6, q7⟩ := q
          exact ⟨q0, q1, q2, q3, z_arr.moved (u := U) (U := U.calling g mk a) (Vm.Alike.refl U.vm) q4, q5, q6, va_X.moved (u := U) (U := U.calling g mk a) (Vm.Alike.refl U.vm) q7⟩
        · refine ⟨rfl, by rw [hU], by rw [hU]; exact S.1, S.2.1.weaken (fun _ _ _ _ => trivial), S.2.2.2.1.moved hW.alike, hszH, hnA, ?_⟩
          rw [hU]
          exact va_X.moved hW.alike (x3.kept (S.2.2.1.2.1 (ad 0) x1 x2))
      have hroom : zRl.frames + 1 ≤ R.frames ∧ 8 + (2 + 11) + zRl.locals ≤ R.locals := ⟨Nat.le_trans c5 X.2.2.2.2.2.2.2.1, Nat.le_trans c7 X.2.2.2.2.2.2.2.2⟩
      have hW : 2 * (F0 m pc cl ((Value.int x :: Value.ref 0 :: r).map (z_ren ad))).monitorRoom + ((r.map (z_ren ad)).map fun v => v.category).sum ≤ 8 := lv_room (by have := z_sum (ad := ad) (r := r); omega)
      have hgd : GoodIn zT (wsS RL i yL_lot zWl) := z_good (by
        intro w hw
        unfold wsS zWl at hw
        rcases List.mem_append.mp hw with hw | hw
        · simp only [List.mem_cons, List.not_mem_nil, or_false] at hw
          rcases hw with rfl | rfl | rfl
          · have e := z_in _ hf.1 rfl
            rw [hf.2] at e
            exact e
          · exact z_in _ zc_vw.1 rfl
          · exact z_in _ zc_vw.2.2.1 rfl
        · rcases List.mem_cons.mp hw with rfl | hw
          · exact z_in _ zc_vw.2.1 rfl
          · exact hw)
      rw [hf.2] at C0
      refine z_back (rest := r) (rv := some (.int (z_lt sc x))) (h1 := h) (mc := 0) (ms := 0) (aa := #[.ref (ad 0), .int x]) hK S hr rfl (va_runS C0 hM (cwS 2 hts hgd rfl rfl rfl ⟨rfl, by decide, by decide, by decide +kernel⟩ hroom) hpre rfl rfl hsz rfl hW hdg ⟨hce, hsl⟩) zI.rf (fun cA' ad' H' locs' ha S' hst' => ?_)
      have k2 := kk cA' ad' H' locs' ha S' hst'
      dsimp only at k2
      rw [Nat.sub_self, Nat.sub_self] at k2
      exact k2
    next => cases hh
  next => exact z_W_math X hcl hdg S hst hh hce hsl kk
end ZLOT
end
section
/-! ===== the abstract run is sound: a frame of the machine does what it does ===== -/
theorem z_newa_I {kd : Nat} {st : List Value} {h : zA} {q : zG} (hh : z_newa kd st h = some q) : zI h q.2 := by
  replace hh := z_i1_s hh; obtain ⟨n, r, rfl, hh⟩ := hh
  try dsimp only at hh
  split at hh
  · cases hh; exact zI.mk
  · cases hh
theorem z_ast_I {kd : Nat} {nar : Int32 → Int32} {st : List Value} {h : zA} {q : zG} (hh : z_ast kd nar st h = some q) : zI h q.2 := by
  replace hh := z_i2_s hh; obtain ⟨j, x, r0, rfl, hh⟩ := hh
  replace hh := z_r1_s hh; obtain ⟨a, r, rfl, hh⟩ := hh
  try dsimp only at hh
  split at hh
  next hc => cases hh; exact zI.setI
  next => cases hh
theorem z_ald_I {sc : Nat × (Nat → Int32)} {k kd : Nat} {st : List Value} {h : zA} {q : zG} (hh : z_ald sc k kd st h = some q) : zI h q.2 := by
  replace hh := z_i1_s hh; obtain ⟨j, r0, rfl, hh⟩ := hh
  replace hh := z_r1_s hh; obtain ⟨a, r, rfl, hh⟩ := hh
  try dsimp only at hh
  split at hh
  next hc => cases hh; exact zI.rf
  next =>
    split at hh
    next => cases hh; exact zI.rf
    next => cases hh
theorem z_heap_I {sc : Nat × (Nat → Int32)} {k : Nat} {ins : Instr} {st : List Value} {h : zA} {q : zG} (hh : z_heap sc k ins st h = some q) : zI h q.2 := by
  cases ins with
  | getfield i =>
    replace hh := z_r1_s hh; obtain ⟨a, r, rfl, hh⟩ := hh
    try dsimp only at hh
    split at hh
    · split at hh
      · split at hh
        · split at hh
          · cases hh; exact zI.rf
          · cases hh
        · cases hh; exact zI.rf
      · cases hh
    · cases hh
  | putfield i =>
    replace hh := z_v1_s hh; obtain ⟨v, r0, rfl, hh⟩ := hh
    replace hh := z_r1_s hh; obtain ⟨a, r, rfl, hh⟩ := hh
    try dsimp only at hh
    split at hh
    · split at hh
      · split at hh
        next hc => cases hh; exact zI.setI
        next => cases hh
      · split at hh
        · cases hh; exact zI.setR
        · cases hh
      · cases hh
    · cases hh
  | iaload => exact z_ald_I hh
  | caload => exact z_ald_I hh
  | aaload =>
    replace hh := z_i1_s hh; obtain ⟨j, r0, rfl, hh⟩ := hh
    replace hh := z_r1_s hh; obtain ⟨a, r, rfl, hh⟩ := hh
    try dsimp only at hh
    split at hh
    · split at hh
      · cases hh; exact zI.rf
      · cases hh
    · cases hh
  | iastore => exact z_ast_I hh
  | castore => exact z_ast_I hh
  | aastore =>
    replace hh := z_r1_s hh; obtain ⟨v, r1, rfl, hh⟩ := hh
    replace hh := z_i1_s hh; obtain ⟨j, r0, rfl, hh⟩ := hh
    replace hh := z_r1_s hh; obtain ⟨a, r, rfl, hh⟩ := hh
    try dsimp only at hh
    split at hh
    · cases hh; exact zI.setR
    · cases hh
  | arraylength =>
    replace hh := z_r1_s hh; obtain ⟨a, r, rfl, hh⟩ := hh
    try dsimp only at hh
    split at hh
    · cases hh; exact zI.rf
    · cases hh
  | new i =>
    change z_new k i st h = some q at hh
    unfold z_new at hh
    split at hh
    · split at hh
      · cases hh; exact zI.mk
      · cases hh
    · cases hh
  | newarray t =>
    cases t with
    | int => exact z_newa_I hh
    | char => exact z_newa_I hh
    | _ => cases hh
  | anewarray i =>
    change z_newq k i st h = some q at hh
    unfold z_newq at hh
    split at hh
    · exact z_newa_I hh
    · cases hh
  | multianewarray i d =>
    change (if d = 2 then z_newm k i st h else none) = some q at hh
    split at hh
    · unfold z_newm at hh
      split at hh
      · replace hh := z_i2_s hh; obtain ⟨n, m, r, rfl, hh⟩ := hh
        try dsimp only at hh
        split at hh
        · cases hh; exact zI.mk2
        · cases hh
      · cases hh
    · cases hh
  | invokespecial i =>
    change z_obj k i st h = some q at hh
    unfold z_obj at hh
    split at hh
    · replace hh := z_r1_s hh; obtain ⟨a, r, rfl, hh⟩ := hh
      try dsimp only at hh
      split at hh
      · cases hh; exact zI.rf
      · cases hh
    · cases hh
  | invokestatic i =>
    change z_lot sc k i st h = some q at hh
    unfold z_lot at hh
    split at hh
    · replace hh := z_i1_s hh; obtain ⟨x, r0, rfl, hh⟩ := hh
      replace hh := z_r1_s hh; obtain ⟨a, r, rfl, hh⟩ := hh
      try dsimp only at hh
      split at hh
      · cases hh; exact zI.rf
      · cases hh
    unfold z_math at hh
    split at hh
    · split at hh
      · replace hh := z_i1_s hh; obtain ⟨x, r, rfl, hh⟩ := hh
        try dsimp only at hh
        split at hh
        · cases hh; exact zI.rf
        · cases hh
      · split at hh
        · replace hh := z_i2_s hh; obtain ⟨x, y, r, rfl, hh⟩ := hh
          try dsimp only at hh
          split at hh
          · cases hh; exact zI.rf
          · cases hh
        · cases hh
    · cases hh
  | _ => cases hh
theorem z_step_I {sc : Nat × (Nat → Int32)} {k pc : Nat} {ls st : List Value} {h : zA} {q : zH} (hh : z_step sc k pc ls st h = some q) : zI h q.2.2.2 := by
  unfold z_step at hh
  split at hh
  · unfold z_stepI at hh
    split at hh
    · split at hh
      · cases hh; exact zI.rf
      · split at hh
        next q1 e1 => cases hh; exact z_heap_I e1
        next => cases hh
    · cases hh
  · cases hh
theorem z_run_I {sc : Nat × (Nat → Int32)} : ∀ (n k pc : Nat) (ls st : List Value) (h : zA) (r : Option Value × zA), z_run sc n k pc ls st h = some r → zI h r.2 := by
  intro n
  induction n with
  | zero => intro k pc ls st h r e; cases e
  | succ n ih =>
    intro k pc ls st h r e
    unfold z_run at e
    split at e
    · cases e; exact zI.rf
    · split at e
      next q e2 => exact (z_step_I e2).tr (ih _ _ _ _ _ _ e)
      next =>
        split at e
        · split at e
          next r4 e4 => exact (ih _ _ _ _ _ _ e4).tr (ih _ _ _ _ _ _ e)
          next => cases e
        · cases e
section ZSOUND
variable {p : Program} {l : Launch} {e : Env} {R : Room} {s : State} {m : MethodId} {args : Array Value} {below : List Frame} {meth : Method} {c : Code} {H : Heap} {locs : List Loc} {cells slots : Nat} {Q : State → Prop}
variable {D : va_G} {k pc len i : Nat} {ad : Nat → Nat} {cA : Nat → ClassId} {A : Nat → Prop} {H0 : Heap} {h : zA} {ls st : List Value} {cl : Array Slot} {sc : Nat × (Nat → Int32)}
theorem z_heap_W {ins : Instr} {q : zG} (X : zX p R s m args meth c D k) (hcl : cl.size = c.maxLocals) (hdg : decode (z_code k) pc = .ok (ins, len)) (hlen : len = z_len ins len) (S : zS s D A H0 cA ad h H locs) (hsc : zXs sc k A s H0 ad) (hst : ∀ v ∈ st, z_wf h.1 v) (hh : z_heap sc k ins st h = some q) (hce : cells + (q.2.1 - h.1) ≤ R.cells) (hsl : slots + (q.2.2.1 - h.2.1) ≤ R.slots)
    (kk : zKG p l e R s m args below meth c cells slots Q D A H0 ad h cl (pc + len) q) : W p l e R s m args below meth c H locs cells slots Q (F0 m pc cl (st.map (z_ren ad))) := by
  cases ins with
  | getfield i => obtain rfl : len = 3 := hlen; exact z_W_gf X hdg S hst hh kk
  | putfield i => obtain rfl : len = 3 := hlen; exact z_W_pf X hdg S hst hh kk
  | iaload => obtain rfl : len = 1 := hlen; exact z_W_ald (Or.inl ⟨rfl, rfl⟩) X hdg S hsc hst hh kk
  | caload => obtain rfl : len = 1 := hlen; exact z_W_ald (Or.inr ⟨rfl, rfl⟩) X hdg S hsc hst hh kk
  | aaload => obtain rfl : len = 1 := hlen; exact z_W_aald X hdg S hst hh kk
  | iastore => obtain rfl : len = 1 := hlen; exact z_W_ast (Or.inl ⟨rfl, rfl, rfl⟩) X hdg S hst hh kk
  | castore => obtain rfl : len = 1 := hlen; exact z_W_ast (Or.inr ⟨rfl, rfl, rfl⟩) X hdg S hst hh kk
  | aastore => obtain rfl : len = 1 := hlen; exact z_W_aast X hdg S hst hh kk
  | arraylength => obtain rfl : len = 1 := hlen; exact z_W_len0 X hdg S hsc hst hh kk
  | new i => obtain rfl : len = 3 := hlen; exact z_W_new X hdg S hst hh hce hsl kk
  | newarray t =>
    obtain rfl : len = 2 := hlen
    cases t with
    | int => exact z_W_newa (Or.inl ⟨rfl, rfl⟩) X hdg S hst hh hce hsl kk
    | char => exact z_W_newa (Or.inr ⟨rfl, rfl⟩) X hdg S hst hh hce hsl kk
    | _ => cases hh
  | anewarray i => obtain rfl : len = 3 := hlen; exact z_W_newq X hdg S hst hh hce hsl kk
  | multianewarray i d =>
    obtain rfl : len = 4 := hlen
    change (if d = 2 then z_newm k i st h else none) = some q at hh
    split at hh
    next hd => exact z_W_newm hd X hdg S hst hh hce hsl kk
    next => cases hh
  | invokespecial i => obtain rfl : len = 3 := hlen; exact z_W_obj X hcl hdg S hst hh kk
  | invokestatic i => obtain rfl : len = 3 := hlen; exact z_W_lotM X hcl hdg S hsc hst hh (by omega) (by omega) kk
  | _ => cases hh
theorem z_step_W {q : zH} (X : zX p R s m args meth c D k) (S : zS s D A H0 cA ad h H locs) (hsc : zXs sc k A s H0 ad) (hL : z_L ad h.1 (z_ml k) ls cl) (hst : ∀ v ∈ st, z_wf h.1 v) (hh : z_step sc k pc ls st h = some q) (hce : cells + (q.2.2.2.1 - h.1) ≤ R.cells) (hsl : slots + (q.2.2.2.2.1 - h.2.1) ≤ R.slots)
    (kk : ∀ (cA' : Nat → ClassId) (ad' : Nat → Nat) (H' : Heap) (locs' : List Loc) (cl' : Array Slot), (∀ i, i ≤ h.1 → ad' i = ad i) → zS s D A H0 cA' ad' q.2.2.2 H' locs' → z_L ad' q.2.2.2.1 (z_ml k) q.2.1 cl' → (∀ v ∈ q.2.2.1, z_wf q.2.2.2.1 v) → W p l e R s m args below meth c H' locs' (cells + (q.2.2.2.1 - h.1)) (slots + (q.2.2.2.2.1 - h.2.1)) Q (F0 m q.1 cl' (q.2.2.1.map (z_ren ad')))) : W p l e R s m args below meth c H locs cells slots Q (F0 m pc cl (st.map (z_ren ad))) := by
  unfold z_step at hh
  split at hh
  next q0 hdg =>
    unfold z_stepI at hh
    split at hh
    next hlen =>
      split at hh
      next q1 e1 =>
        cases hh
        refine z_pure_W X hdg hlen hL hst e1 (fun cl' hL' hst' => ?_)
        have k2 := kk cA ad H locs cl' (fun _ _ => rfl) S hL' hst'
        dsimp only at k2
        rw [Nat.sub_self, Nat.sub_self] at k2
        exact k2
      next =>
        split at hh
        next q1 e1 =>
          cases hh
          refine z_heap_W X (hL.1.1.trans X.2.2.1.symm) hdg hlen S hsc hst e1 hce hsl (fun cA' ad' H' locs' ha S' hst' => ?_)
          exact kk cA' ad' H' locs' cl ha S' (hL.up ha (z_heap_I e1).1) hst'
        next => cases hh
    next => cases hh
  next => cases hh
/-- what a run says, at one end -/
def zSnd (sc : Nat × (Nat → Int32)) (l : Launch) (D : va_G) (k pc : Nat) (ls st : List Value) (h : zA) (r : Option Value) (h' : zA) : Prop :=
  ∀ (p : Program) (e : Env) (R : Room) (s : State) (m : MethodId) (args : Array Value) (below : List Frame) (meth : Method) (c : Code) (A : Nat → Prop) (H0 H : Heap) (locs : List Loc) (cells slots : Nat) (cA : Nat → ClassId) (ad : Nat → Nat) (cl : Array Slot) (Q : State → Prop),
    zX p R s m args meth c D k → zS s D A H0 cA ad h H locs → zXs sc k A s H0 ad → z_L ad h.1 (z_ml k) ls cl → (∀ v ∈ st, z_wf h.1 v) → cells + (h'.1 - h.1) ≤ R.cells → slots + (h'.2.1 - h.2.1) ≤ R.slots →
    (∀ (pc' : Nat) (st' : List Value) (cl' : Array Slot) (cA' : Nat → ClassId) (ad' : Nat → Nat) (H' : Heap) (locs' : List Loc), z_end k pc' st' = some r → (∀ i, i ≤ h.1 → ad' i = ad i) → zS s D A H0 cA' ad' h' H' locs' → (∀ v ∈ st', z_wf h'.1 v) → W p l e R s m args below meth c H' locs' (cells + (h'.1 - h.1)) (slots + (h'.2.1 - h.2.1)) Q (F0 m pc' cl' (st'.map (z_ren ad')))) →
    W p l e R s m args below meth c H locs cells slots Q (F0 m pc cl (st.map (z_ren ad)))
theorem zk_all : ∀ y, y < zLaw → Jvm.Cond.code (z_y y) (z_code y) (z_ml y) (z_ret y) ∈ zT := by
  intro y hy
  have hlen : zML.length = zLaw + 1 := by decide +kernel
  have hm : zML[y]? = some (zm y) := by
    unfold zm
    rw [List.getD_eq_getElem?_getD, List.getElem?_eq_getElem (by omega)]
    rfl
  have hsp : ∃ a : List (MethodName × ByteArray × Nat × Option FieldType × Nat × Nat × Nat × Nat × Nat), (∀ q ∈ a, zkP q) ∧ ∃ q, zML = a ++ [q] := by
    refine ⟨zML_0 ++ zML_1 ++ zML_2 ++ zML_3 ++ zML_4, ?_, _, rfl⟩
    intro q hq
    rcases List.mem_append.mp hq with hq | hq
    · rcases List.mem_append.mp hq with hq | hq
      · rcases List.mem_append.mp hq with hq | hq
        · rcases List.mem_append.mp hq with hq | hq
          · exact zk_0 q hq
          · exact zk_1 q hq
        · exact zk_2 q hq
      · exact zk_3 q hq
    · exact zk_4 q hq
  obtain ⟨a, ha, q, e⟩ := hsp
  rw [e, List.length_append] at hlen
  rw [e, List.getElem?_append_left (by simp at hlen; omega)] at hm
  exact ha _ (List.mem_of_getElem? hm)
theorem zm_all : ∀ y, y < zLaw → zc_m y = true := by
  intro y hy
  have hy : y < 93 := hy
  have key : ∀ a n, (List.range' a n).all zc_m = true → a ≤ y → y < a + n → zc_m y = true := fun a n h h1 h2 => List.all_eq_true.mp h y (List.mem_range'_1.mpr ⟨h1, h2⟩)
  rcases (show y < 19 ∨ (19 ≤ y ∧ y < 38) ∨ (38 ≤ y ∧ y < 57) ∨ (57 ≤ y ∧ y < 76) ∨ (76 ≤ y) by omega) with h | h | h | h | h
  · exact key _ _ zc_m_0 (by omega) (by omega)
  · exact key _ _ zc_m_19 (by omega) (by omega)
  · exact key _ _ zc_m_38 (by omega) (by omega)
  · exact key _ _ zc_m_57 (by omega) (by omega)
  · exact key _ _ zc_m_76 (by omega) (by omega)
theorem z_facts {y : Nat} (hy : y < zLaw) : Jvm.Cond.initialized (z_y y).cls ∈ zT ∧ ((z_kd y = 0 ∧ Jvm.Cond.instanceMethod (z_y y) ∈ zT ∧ Jvm.Cond.selects (z_y y).cls (z_y y) (z_y y) ∈ zT) ∨ (z_kd y = 1 ∧ Jvm.Cond.static (z_y y) ∈ zT) ∨ (z_kd y ≠ 0 ∧ z_kd y ≠ 1 ∧ Jvm.Cond.instanceMethod (z_y y) ∈ zT ∧ (z_y y).name = "<init>" ∧ z_ret y = none)) ∧ plainName (z_y y).cls = true ∧ (z_y y).cls ≠ "java/lang/invoke/MethodHandle" ∧ (z_y y).cls ≠ "java/lang/invoke/VarHandle" ∧ (parseMethodDescriptor (z_y y).desc).map (fun d => d.parameters.length) = some (z_np y) ∧ (z_y y).cls = zR (z_cls y) ∧ (z_cls y < 10 ∨ z_kd y = 1) := by
  have h := zm_all y hy
  unfold zc_m at h
  simp only [Bool.and_eq_true, decide_eq_true_eq] at h
  obtain ⟨⟨⟨⟨⟨⟨⟨h1, h2⟩, h3⟩, h4⟩, h5⟩, h6⟩, h7⟩, h8⟩ := h
  refine ⟨z_in _ h1 rfl, ?_, h3, h4, h5, h6, h7, h8⟩
  split at h2
  next e =>
    simp only [Bool.and_eq_true, decide_eq_true_eq] at h2
    exact Or.inl ⟨e, z_in _ h2.1 rfl, z_in _ h2.2 rfl⟩
  next e =>
    simp only [decide_eq_true_eq] at h2
    exact Or.inr (Or.inl ⟨e, z_in _ h2 rfl⟩)
  next e0 e1 =>
    simp only [Bool.and_eq_true, decide_eq_true_eq] at h2
    exact Or.inr (Or.inr ⟨e0, e1, z_in _ h2.1.1 rfl, h2.1.2, h2.2⟩)
set_option maxHeartbeats 1000000 in
theorem z_met {y : Nat} {as : List Value} {r : Option Value} {h' : zA} {sz : Nat} (hy : y < zLaw) (hln : as.length ≤ z_ml y) (has : ∀ v ∈ as, z_wf h.1 v) (hc1 : ∀ v ∈ as, z_c1 v = true) (hw : z_hw h) (hnx : (z_ws cA ad h).length = h.1) (hs : zSnd sc l D y 0 (as ++ List.replicate (z_ml y - as.length) .null) [] h r h') :
    Met l (z_y y) (zWs y) (zRm y (h'.1 - h.1) (h'.2.1 - h.2.1)) (zPc D cA ad h as sz) (zQc D ad h h' r (va_A (z_ws cA ad h) sz)) (h'.1 - h.1) (h'.2.1 - h.2.1) (va_A (z_ws cA ad h) sz) := by
  have F := z_facts hy
  refine Met.ofW (cc := z_code y) (maxL := z_ml y) (ret := z_ret y) F.2.2.1 rfl ?_
  intro p e s m args below meth c s₁ B hml hv
  obtain ⟨rfl, hsz, hP, hD0, hAr, hK⟩ := hv
  subst hsz
  have hts : ∀ w ∈ zT, w.before ((as.map (z_ren ad)).toArray) s = true := fun w hw2 => atoms_spec (ws := zWs y) B.pre w (List.mem_cons_of_mem _ hw2)
  have hown0 : s.vm.findClass (z_y y).cls = some m.cls := findClass_of_methodNamed B.named
  rw [F.2.2.2.2.2.2.1] at hown0
  have hlocks := B.notSynchronized
  have hr := B.returns
  have X : zX p (headSpec (zWs y) (zRm y (h'.1 - h.1) (h'.2.1 - h.2.1))).room s m ((as.map (z_ren ad)).toArray) meth c D y := by
    refine ⟨B.exec, B.bytes, hml, hown0, hts, fun hk => ?_, hK, Nat.le_refl _, Nat.le_refl _⟩
    have h1 := (name_of_methodNamed B.named B.method).1
    rcases F.2.1 with g | g | g
    · omega
    · omega
    · exact h1.trans g.2.2.2.1
  have hD := hD0.self (sz := s.heap.size)
  have hAA : ∀ q, s.heap.size ≤ q → va_A (z_ws cA ad h) s.heap.size q := fun q hq => Or.inr hq
  have S : zS s D (va_A (z_ws cA ad h) s.heap.size) s.heap cA ad h s.heap [] := ⟨hP, hD, va_S.rf, hAr, hw, hAA⟩
  have hl := lv_entry (as.map (z_ren ad)) (n := z_ml y) (by rw [z_lg has hc1]; exact hln)
  rw [lg_entry_eq]
  generalize (lg_sl (as.map (z_ren ad)) ++ List.replicate (z_ml y - (lg_sl (as.map (z_ren ad))).length) Slot.unset).toArray = cl at hl ⊢
  have hL : z_L ad h.1 (z_ml y) (as ++ List.replicate (z_ml y - as.length) .null) cl := by
    refine ⟨⟨hl.1, hl.2.1, fun q hq => hl.2.2 q ?_⟩, by simp; omega, fun v hv => ?_⟩
    · obtain ⟨v, e1, e3, e4⟩ := z_lvs_in hq
      obtain ⟨q1, q2⟩ := q
      dsimp only at e1 e3 e4
      subst e3
      by_cases hlt : q1 < as.length
      · rw [List.getElem?_append_left hlt] at e1
        have := z_la (ad := ad) as 0 q1 v has hc1 e1
        rw [Nat.zero_add] at this
        exact this
      · rw [List.getElem?_append_right (by omega)] at e1
        obtain rfl := List.eq_of_mem_replicate (List.mem_of_getElem? e1)
        rcases e4 with (⟨x, e4⟩ | ⟨x, e4⟩) | ⟨x, f, e4, -⟩ <;> cases e4
    · rcases List.mem_append.mp hv with hv | hv
      · exact has v hv
      · rw [List.eq_of_mem_replicate hv]; trivial
  refine hs p e _ s m _ below meth c (va_A (z_ws cA ad h) s.heap.size) s.heap s.heap [] 0 0 cA ad cl _ X S (fun hz => by omega) hL (fun v hv => by cases hv) ?_ ?_ ?_
  · show 0 + (h'.1 - h.1) ≤ h'.1 - h.1; omega
  · show 0 + (h'.2.1 - h.2.1) ≤ h'.2.1 - h.2.1; omega
  intro pc' st' cl' cA' ad' H' locs' hend ha S' hst'
  rw [Nat.zero_add, Nat.zero_add]
  have post : (∀ v, r = some v → z_wf h'.1 v) → ∀ t : State, t.heap = H' → s.WarmedH t.vm → zQc D ad h h' r (va_A (z_ws cA ad h) s.heap.size) ((as.map (z_ren ad)).toArray) s (.returned (r.map (z_ren ad'))) t := by
    intro hrv t ht hW
    exact ⟨⟨cA', ad', ha, rfl, by rw [ht]; exact S'.1, S'.2.1, S'.2.2.2.1.moved hW.alike, S'.2.2.2.2.1, hrv⟩, S'.2.2.1.F ht⟩
  unfold z_end at hend
  split at hend
  next q hdg =>
    split at hend
    next hq1 =>
      obtain ⟨ins, q2⟩ := q
      dsimp only at hq1 hend hdg
      subst hq1
      cases ins with
      | return_ =>
        change (if z_ret y = none ∧ st' = [] then some none else none) = some r at hend
        split at hend
        next hc =>
          obtain ⟨h1, rfl⟩ := hc
          cases hend
          rw [h1] at hr
          exact W.vret B.exec B.bytes hr (post (fun v hv => by cases hv)) S'.2.2.1.2.2 hdg
        next => cases hend
      | ireturn =>
        replace hend := z_i1_s hend; obtain ⟨x, r0, rfl, hend⟩ := hend
        try dsimp only at hend
        split at hend
        next hc =>
          obtain ⟨rfl, hc⟩ := hc
          cases hend
          have p2 := post (fun v hv => by cases hv; trivial)
          rcases hc with hc | ⟨hc, hx⟩
          · rw [hc] at hr
            exact W.iret B.exec B.bytes hr p2 S'.2.2.1.2.2 hdg
          · rw [hc] at hr
            refine W.zret B.exec B.bytes hr ?_ p2 S'.2.2.1.2.2 hdg
            rcases hx with rfl | rfl <;> rfl
        next => cases hend
      | lreturn =>
        replace hend := z_l1_s hend; obtain ⟨x, r0, rfl, hend⟩ := hend
        try dsimp only at hend
        split at hend
        next hc =>
          obtain ⟨rfl, hc⟩ := hc
          cases hend
          have p2 := post (fun v hv => by cases hv; trivial)
          rw [hc] at hr
          exact W.lret B.exec B.bytes hr p2 S'.2.2.1.2.2 hdg
        next => cases hend
      | areturn =>
        replace hend := z_r1_s hend; obtain ⟨x, r0, rfl, hend⟩ := hend
        try dsimp only at hend
        split at hend
        next hc =>
          obtain ⟨rfl, hc⟩ := hc
          cases hend
          have p2 := post (fun v hv => by cases hv; exact hst' _ List.mem_cons_self)
          rcases hc with hc | hc
          · rw [hc] at hr
            exact W.aret B.exec B.bytes hr (Or.inl ⟨_, rfl⟩) (Or.inr ⟨_, rfl⟩) p2 S'.2.2.1.2.2 hdg
          · rw [hc] at hr
            exact W.aret B.exec B.bytes hr (Or.inl ⟨_, rfl⟩) (Or.inr ⟨_, rfl⟩) p2 S'.2.2.1.2.2 hdg
        next => cases hend
      | _ => cases hend
    next => cases hend
  next => cases hend
theorem z_pcU {as : List Value} (hK : z_K D s) (S : zS s D A H0 cA ad h H locs) : ∀ U : State, U.heap = H → s.WarmedH U.vm → zPc D cA ad h as H.size (as.map (z_ren ad)).toArray U := by
  intro U hU hW
  exact ⟨rfl, by rw [hU], by rw [hU]; exact S.1, S.2.1.weaken (fun _ _ _ _ => trivial), S.2.2.2.1.moved hW.alike, hK.warm hW⟩
theorem z_pcB {as : List Value} {sz : Nat} : FrameBlind (zPc D cA ad h as sz) := by
  intro a U g mk q
  obtain ⟨q0, q1, q2, q3, q4, q5⟩ := q
  exact ⟨q0, q1, q2, q3, z_arr.moved (u := U) (U := U.calling g mk a) (Vm.Alike.refl U.vm) q4, z_K.same (u := U) (U := U.calling g mk a) rfl q5⟩
set_option maxHeartbeats 1000000 in
theorem z_call_W {y : Nat} {as rest : List Value} {rv : Option Value} {h1 : zA} {Qs : State → Prop} (X : zX p R s m args meth c D k) (S : zS s D A H0 cA ad h H locs) (hcl : cl.size = c.maxLocals) (hst : ∀ v ∈ st, z_wf h.1 v) (hh : z_inv k pc st h = some (y, as, rest)) (hs : zSnd sc l D y 0 (as ++ List.replicate (z_ml y - as.length) .null) [] h rv h1) (hI : zI h h1) (hce : cells + (h1.1 - h.1) ≤ R.cells) (hsl : slots + (h1.2.1 - h.2.1) ≤ R.slots)
    (kk : ∀ (cA' : Nat → ClassId) (ad' : Nat → Nat) (H' : Heap) (locs' : List Loc), (∀ i, i ≤ h.1 → ad' i = ad i) → zS s D A H0 cA' ad' h1 H' locs' → (∀ v ∈ rv.toList ++ rest, z_wf h1.1 v) → W p l e R s m args below meth c H' locs' (cells + (h1.1 - h.1)) (slots + (h1.2.1 - h.2.1)) Qs (F0 m (pc + 3) cl ((rv.toList ++ rest).map (z_ren ad')))) : W p l e R s m args below meth c H locs cells slots Qs (F0 m pc cl (st.map (z_ren ad))) := by
  have C0 : CallFix p m c (z_code k) (z_ml k) s args zT (zR (z_cls k)) := ⟨X.1, X.2.1, X.2.2.1, X.2.2.2.1, X.2.2.2.2.1⟩
  have hK := X.2.2.2.2.2.2.1
  have hts := X.2.2.2.2.1
  have hsz : cl.size = z_ml k := hcl.trans X.2.2.1
  -- what the table says of a call
  have tab : ∀ (i kd : Nat), z_callY k i kd st h = some (y, as, rest) → ∃ nest : Nat × Nat, z_kd y = kd ∧ y < zLaw ∧ as.length ≤ z_ml y ∧ as.length = z_np y + z_ar kd ∧ rest.length ≤ 4 ∧ (∀ v ∈ as, z_c1 v = true) ∧ z_fr y + 1 ≤ z_fr k ∧ 8 + (z_ml y + 11) + z_lo y ≤ z_lo k ∧ (kd = 1 ∨ z_rc h (z_cls y) as = true) ∧ st = as.reverse ++ rest ∧ lw_tbl[nest.2]? = some (if nest.1 = 0 then .methodLink (zR (z_cls k)) i (z_y y) else .methodLinkNest (zR (z_cls k)) i (z_y y) zHost) ∧ (nest.1 = 1 ∨ kd ≠ 1 ∨ (z_y y).cls = zR (z_cls k)) := by
    intro i kd h2
    unfold z_callY at h2
    split at h2
    next q e1 =>
      have hf := List.all_eq_true.mp zc_c_ok _ (z_lk2_in e1)
      unfold zc_c at hf
      simp only [Bool.and_eq_true, decide_eq_true_eq] at hf
      try dsimp only at h2
      split at h2
      next hc =>
        obtain ⟨c1, c2, c3, c4, c5, c9, c6, c7, c8⟩ := hc
        cases h2
        have hl : (List.take (z_np q.1 + z_ar kd) st).reverse.length = z_np q.1 + z_ar kd := by
          rw [List.length_reverse, List.length_take]
          omega
        refine ⟨(q.2.1, q.2.2), c1, c4, by rw [hl]; exact c3, hl, c5, (fun v hv => List.all_eq_true.mp c9 v (List.mem_reverse.mp hv)), c6, c7, c8, by rw [List.reverse_reverse, List.take_append_drop], hf.1, ?_⟩
        rcases hf.2 with g | g | g
        · exact Or.inl g
        · exact Or.inr (Or.inl (by rw [← c1]; exact g))
        · exact Or.inr (Or.inr g)
      next => cases h2
    next => cases h2
  have has0 : ∀ {as rest : List Value}, st = as.reverse ++ rest → (∀ v ∈ as, z_wf h.1 v) ∧ ∀ v ∈ rest, z_wf h.1 v := fun e => ⟨fun v hv => hst v (by rw [e]; exact List.mem_append_left _ (List.mem_reverse.mpr hv)), fun v hv => hst v (by rw [e]; exact List.mem_append_right _ hv)⟩
  have lks : ∀ (i : Nat) (nest : Nat × Nat), lw_tbl[nest.2]? = some (if nest.1 = 0 then .methodLink (zR (z_cls k)) i (z_y y) else .methodLinkNest (zR (z_cls k)) i (z_y y) zHost) → (nest.1 = 0 ∧ Jvm.Cond.methodLink (zR (z_cls k)) i (z_y y) ∈ zT) ∨ (¬ nest.1 = 0 ∧ va_Nw (.methodLinkNest (zR (z_cls k)) i (z_y y) zHost) s) := by
    intro i nest e
    by_cases g : nest.1 = 0
    · rw [if_pos g] at e; exact Or.inl ⟨g, z_in _ e rfl⟩
    · rw [if_neg g] at e; exact Or.inr ⟨g, hK.2.1 _ (List.mem_of_getElem? e) rfl⟩
  unfold z_inv at hh
  split at hh
  next q hdg =>
    split at hh
    next hq2 =>
      obtain ⟨ins, q2⟩ := q
      dsimp only at hq2 hh hdg
      subst hq2
      have recv : ∀ (as' : List Value) (a : Nat), as = .ref a :: as' → z_rc h (z_cls y) as = true → z_cls y < 10 → y < zLaw → ∃ cellB : Cell, H[ad a]? = some cellB ∧ cellB.vm.isStatics = false ∧ s.vm.findClass (z_y y).cls = some cellB.cls := by
        intro as' a e h2 hk10 hy
        subst e
        have F := z_facts hy
        have h3 : 1 ≤ a ∧ a ≤ h.1 ∧ (h.2.2.1 a).1 = z_cls y := by
          unfold z_rc at h2
          exact of_decide_eq_true h2
        have he : (z_ws cA ad h)[a - 1]? = some (ad a, .inr (z_cls y, z_fs ad h a)) := by rw [z_ws_at h3.1 h3.2.1, z_cellO h3.2.2 hk10]
        have := va_recv (ci := z_cls y) hK.1 S.1 (z_cl_at _ hk10) he
        rw [F.2.2.2.2.2.2.1]
        exact this
      have shape : z_rc h (z_cls y) as = true → ∃ a as', as = .ref a :: as' := by
        intro h2
        unfold z_rc at h2
        split at h2
        next a as' => exact ⟨a, as', rfl⟩
        next => cases h2
      split at hh
      next i =>
        obtain ⟨nest, t1, t2, t3, t4, t5, tc, t6, t7, t8, t9, t10, t11⟩ := tab i 0 hh
        have F := z_facts t2
        obtain ⟨ha, hre⟩ := has0 t9
        have hM := z_met (cA := cA) (ad := ad) (sz := H.size) t2 t3 ha tc S.2.2.2.2.1 z_ws_len hs
        have t8 := t8.resolve_left (by omega)
        obtain ⟨a, as', rfl⟩ := shape t8
        have g : Jvm.Cond.instanceMethod (z_y y) ∈ zT ∧ Jvm.Cond.selects (z_y y).cls (z_y y) (z_y y) ∈ zT := by
          rcases F.2.1 with g | g | g
          · exact g.2
          · omega
          · omega
        have hpre : PreV s H (z_y y).cls (ad a) (zPc D cA ad h (.ref a :: as') H.size) (as'.map (z_ren ad)) := ⟨z_pcB, recv as' a rfl t8 (F.2.2.2.2.2.2.2.resolve_right (by omega)) t2, z_pcU hK S⟩
        have hn : (as'.map (z_ren ad)).length = z_np y := by rw [List.length_map]; simp [z_ar] at t4; omega
        have hstk : (F0 m pc cl (st.map (z_ren ad))).stack = (as'.map (z_ren ad)).reverse ++ .ref (ad a) :: rest.map (z_ren ad) := by
          show st.map (z_ren ad) = _
          rw [t9]
          simp [z_ren]
        have hroom : (zRm y (h1.1 - h.1) (h1.2.1 - h.2.1)).frames + 1 ≤ R.frames ∧ 8 + (z_ml y + 11) + (zRm y (h1.1 - h.1) (h1.2.1 - h.2.1)).locals ≤ R.locals := ⟨Nat.le_trans t6 X.2.2.2.2.2.2.2.1, Nat.le_trans t7 X.2.2.2.2.2.2.2.2⟩
        have hW : 2 * (F0 m pc cl (st.map (z_ren ad))).monitorRoom + ((rest.map (z_ren ad)).map fun v => v.category).sum ≤ 8 := lv_room (by have := z_sum (ad := ad) (r := rest); omega)
        rcases lks i nest t10 with ⟨g1, g2⟩ | ⟨g1, g2⟩
        · refine z_back hK S hre rfl (va_runV C0 hM (cwV (z_np y) hts (z_good ?_) rfl rfl rfl ⟨rfl, F.2.2.2.1, F.2.2.2.2.1, F.2.2.2.2.2.1⟩ hroom) hpre rfl hn hsz hstk hW hdg ⟨hce, hsl⟩) hI kk
          intro w hw
          unfold wsV zWs at hw
          rcases List.mem_append.mp hw with hw | hw
          · simp only [List.mem_cons, List.not_mem_nil, or_false] at hw
            rcases hw with rfl | rfl | rfl | rfl
            · exact g2
            · exact g.1
            · exact g.2
            · exact F.1
          · rcases List.mem_cons.mp hw with rfl | hw
            · exact zk_all y t2
            · exact hw
        · refine z_back hK S hre rfl (va_runVN C0 hM ⟨va_cnB (z_np y) hts (z_good (ws := zWs y) ?_) rfl rfl rfl g2 (hts _ F.1) ⟨F.2.2.2.1, F.2.2.2.2.1, F.2.2.2.2.2.1⟩ hroom, hts _ g.1, hts _ g.2⟩ hpre rfl hn hsz hstk hW hdg ⟨hce, hsl⟩) hI kk
          intro w hw
          rcases List.mem_cons.mp hw with rfl | hw
          · exact zk_all y t2
          · exact hw
      next i =>
        obtain ⟨nest, t1, t2, t3, t4, t5, tc, t6, t7, t8, t9, t10, t11⟩ := tab i 1 hh
        have F := z_facts t2
        obtain ⟨ha, hre⟩ := has0 t9
        have hM := z_met (cA := cA) (ad := ad) (sz := H.size) t2 t3 ha tc S.2.2.2.2.1 z_ws_len hs
        have g : Jvm.Cond.static (z_y y) ∈ zT := by
          rcases F.2.1 with g | g | g
          · omega
          · exact g.2
          · omega
        have hpre : PreS s H (zPc D cA ad h as H.size) (as.map (z_ren ad)) := ⟨z_pcB, z_pcU hK S⟩
        have hn : (as.map (z_ren ad)).length = z_np y := by rw [List.length_map]; simp [z_ar] at t4; omega
        have hstk : (F0 m pc cl (st.map (z_ren ad))).stack = (as.map (z_ren ad)).reverse ++ rest.map (z_ren ad) := by
          show st.map (z_ren ad) = _
          rw [t9]
          simp
        have hroom : (zRm y (h1.1 - h.1) (h1.2.1 - h.2.1)).frames + 1 ≤ R.frames ∧ 8 + (z_ml y + 11) + (zRm y (h1.1 - h.1) (h1.2.1 - h.2.1)).locals ≤ R.locals := ⟨Nat.le_trans t6 X.2.2.2.2.2.2.2.1, Nat.le_trans t7 X.2.2.2.2.2.2.2.2⟩
        have hW : 2 * (F0 m pc cl (st.map (z_ren ad))).monitorRoom + ((rest.map (z_ren ad)).map fun v => v.category).sum ≤ 8 := lv_room (by have := z_sum (ad := ad) (r := rest); omega)
        rcases lks i nest t10 with ⟨g1, g2⟩ | ⟨g1, g2⟩
        · have hc2 : (z_y y).cls = zR (z_cls k) := by
            rcases t11 with z | z | z
            · omega
            · exact absurd rfl z
            · exact z
          refine z_back hK S hre rfl (va_runS C0 hM (cwS (z_np y) hts (z_good ?_) rfl rfl rfl ⟨hc2, F.2.2.2.1, F.2.2.2.2.1, F.2.2.2.2.2.1⟩ hroom) hpre rfl hn hsz hstk hW hdg ⟨hce, hsl⟩) hI kk
          intro w hw
          unfold wsS zWs at hw
          rcases List.mem_append.mp hw with hw | hw
          · simp only [List.mem_cons, List.not_mem_nil, or_false] at hw
            rcases hw with rfl | rfl | rfl
            · exact g2
            · exact g
            · rw [← hc2]; exact F.1
          · rcases List.mem_cons.mp hw with rfl | hw
            · exact zk_all y t2
            · exact hw
        · refine z_back hK S hre rfl (va_runSN C0 hM ⟨va_cnB (z_np y) hts (z_good (ws := zWs y) ?_) rfl rfl rfl g2 (hts _ F.1) ⟨F.2.2.2.1, F.2.2.2.2.1, F.2.2.2.2.2.1⟩ hroom, hts _ g, trivial⟩ hpre rfl hn hsz hstk hW hdg ⟨hce, hsl⟩) hI kk
          intro w hw
          rcases List.mem_cons.mp hw with rfl | hw
          · exact zk_all y t2
          · exact hw
      next i =>
        obtain ⟨nest, t1, t2, t3, t4, t5, tc, t6, t7, t8, t9, t10, t11⟩ := tab i 2 hh
        have F := z_facts t2
        obtain ⟨ha, hre⟩ := has0 t9
        have hM := z_met (cA := cA) (ad := ad) (sz := H.size) t2 t3 ha tc S.2.2.2.2.1 z_ws_len hs
        have t8 := t8.resolve_left (by omega)
        obtain ⟨a, as', rfl⟩ := shape t8
        have g : Jvm.Cond.instanceMethod (z_y y) ∈ zT ∧ (z_y y).name = "<init>" ∧ z_ret y = none := by
          rcases F.2.1 with g | g | g
          · omega
          · omega
          · exact g.2.2
        have hpre : PreS s H (zPc D cA ad h (.ref a :: as') H.size) (.ref (ad a) :: as'.map (z_ren ad)) := ⟨z_pcB, z_pcU hK S⟩
        have hn : (as'.map (z_ren ad)).length = z_np y := by rw [List.length_map]; simp [z_ar] at t4; omega
        have hstk : (F0 m pc cl (st.map (z_ren ad))).stack = (as'.map (z_ren ad)).reverse ++ .ref (ad a) :: rest.map (z_ren ad) := by
          show st.map (z_ren ad) = _
          rw [t9]
          simp [z_ren]
        have hroom : (zRm y (h1.1 - h.1) (h1.2.1 - h.2.1)).frames + 1 ≤ R.frames ∧ 8 + (z_ml y + 11) + (zRm y (h1.1 - h.1) (h1.2.1 - h.2.1)).locals ≤ R.locals := ⟨Nat.le_trans t6 X.2.2.2.2.2.2.2.1, Nat.le_trans t7 X.2.2.2.2.2.2.2.2⟩
        have hW : 2 * (F0 m pc cl (st.map (z_ren ad))).monitorRoom + ((rest.map (z_ren ad)).map fun v => v.category).sum ≤ 8 := lv_room (by have := z_sum (ad := ad) (r := rest); omega)
        have hws : zWs y = Jvm.Cond.code (z_y y) (z_code y) (z_ml y) none :: zT := by unfold zWs; rw [g.2.2]
        have hG : GoodIn zT (zWs y) := z_good (by
          intro w hw
          rcases List.mem_cons.mp hw with rfl | hw
          · exact zk_all y t2
          · exact hw)
        rcases lks i nest t10 with ⟨g1, g2⟩ | ⟨g1, g2⟩
        · exact z_back hK S hre rfl (va_runI C0 hM (cwI (z_np y) hts hG hws rfl rfl (hts _ F.1) (hts _ g2) (hts _ g.1) g.2.1 ⟨F.2.2.2.1, F.2.2.2.2.1, F.2.2.2.2.2.1⟩ hroom) hpre rfl hn hsz hstk hW hdg ⟨hce, hsl⟩) hI kk
        · exact z_back hK S hre rfl (va_runIN C0 hM ⟨va_cnB (z_np y) hts hG hws rfl rfl g2 (hts _ F.1) ⟨F.2.2.2.1, F.2.2.2.2.1, F.2.2.2.2.2.1⟩ hroom, g.2.1, hts _ g.1⟩ hpre rfl hn hsz hstk hW hdg ⟨hce, hsl⟩) hI kk
      next => cases hh
    next => cases hh
  next => cases hh
theorem z_sound (sc : Nat × (Nat → Int32)) (l : Launch) (D : va_G) : ∀ (n k pc : Nat) (ls st : List Value) (h : zA) (r : Option Value) (h' : zA), z_run sc n k pc ls st h = some (r, h') → zSnd sc l D k pc ls st h r h' := by
  intro n
  induction n with
  | zero => intro k pc ls st h r h' e; cases e
  | succ n ih =>
    intro k pc ls st h r h' er p e R s m args below meth c A H0 H locs cells slots cA ad cl Q X S hsc hL hst hce hsl kk
    unfold z_run at er
    split at er
    next r1 e1 =>
      cases er
      have k2 := kk pc st cl cA ad H locs e1 (fun _ _ => rfl) S hst
      rw [Nat.sub_self, Nat.sub_self] at k2
      exact k2
    next =>
      split at er
      next q e2 =>
        have i1 := z_step_I e2
        have i2 := z_run_I _ _ _ _ _ _ _ er
        dsimp only at i2
        have j1 := i1.1
        have j2 := i1.2
        have j3 := i2.1
        have j4 := i2.2
        refine z_step_W X S hsc hL hst e2 (by omega) (by omega) (fun cA' ad' H' locs' cl' ha S' hL' hst' => ?_)
        have hsc' : zXs sc k A s H0 ad' := fun z => by
          obtain ⟨x1, x2, x3⟩ := hsc z
          rw [ha 0 (Nat.zero_le _)]
          exact ⟨x1, x2, x3⟩
        refine ih _ _ _ _ _ _ _ er p e R s m args below meth c A H0 H' locs' _ _ cA' ad' cl' Q X S' hsc' hL' hst' (by omega) (by omega) (fun pc2 st2 cl2 cA2 ad2 H2 locs2 hend ha2 S2 hst2 => ?_)
        have k2 := kk pc2 st2 cl2 cA2 ad2 H2 locs2 hend (fun i hi => (ha2 i (Nat.le_trans hi j1)).trans (ha i hi)) S2 hst2
        exact W.cs (by omega) (by omega) k2
      next =>
        split at er
        next q e3 =>
          obtain ⟨y, as, rest⟩ := q
          dsimp only at er
          split at er
          next r4 e4 =>
            obtain ⟨rv, h1⟩ := r4
            dsimp only at er
            have i1 := z_run_I _ _ _ _ _ _ _ e4
            have i2 := z_run_I _ _ _ _ _ _ _ er
            dsimp only at i1 i2
            have j1 := i1.1
            have j2 := i1.2
            have j3 := i2.1
            have j4 := i2.2
            refine z_call_W X S (hL.1.1.trans X.2.2.1.symm) hst e3 (ih _ _ _ _ _ _ _ e4) i1 (by omega) (by omega) (fun cA' ad' H' locs' ha S' hst' => ?_)
            have hsc' : zXs sc k A s H0 ad' := fun z => by
              obtain ⟨x1, x2, x3⟩ := hsc z
              rw [ha 0 (Nat.zero_le _)]
              exact ⟨x1, x2, x3⟩
            refine ih _ _ _ _ _ _ _ er p e R s m args below meth c A H0 H' locs' _ _ cA' ad' cl Q X S' hsc' (hL.up ha j1) hst' (by omega) (by omega) (fun pc2 st2 cl2 cA2 ad2 H2 locs2 hend ha2 S2 hst2 => ?_)
            have k2 := kk pc2 st2 cl2 cA2 ad2 H2 locs2 hend (fun i hi => (ha2 i (Nat.le_trans hi j1)).trans (ha i hi)) S2 hst2
            exact W.cs (by omega) (by omega) k2
          next => cases er
        next => cases er
end ZSOUND
end
section
-- ===== end of PART A; then your names; then what follows =====
/-! THE CLAIM OUT OF ONE WALK OF THE LAW'S BODY. Your part is whole_start (and what it stands on); all else here is the same for every law, but numbers. -/
def R_law : String := "FieldMixturesLaw"
def lw_P (b : Addr) (xs : List Int32) (args : Array Value) (s : State) : Prop := args = #[.ref b] ∧ s.IntsAt b xs ∧ xs.length ≤ 260 ∧ (Jvm.Cond.and given_1 narrow_1).before args s = true
def lw_Q (_ : Array Value) (s : State) (o : Outcome) (t : State) : Prop := o = .returned (some (.int 1)) ∧ Framed s o t [] 600000 7302250
def lw_Z (below : List Frame) (a : Array Value) (s : State) : State → Prop := fun t => ∃ o, t.status = .running ∧ Ended t below o ∧ lw_Q a s o t
/-- the law's own end, with 1 on the stack, nothing written that was there before, its room as the claim has it -/
theorem lw_ret {p : Program} {l : Launch} {e : Env} {s : State} {m : MethodId} {below : List Frame} {meth : Method} {c : Code} {b : Nat} (hx : p.tables.exec = Jvm.exec) (hb : c.code = code) (hr : meth.sig.returnType = ret) (hlocks : meth.locks = false) {pc : Nat} {H : Heap} {ls : Array Slot} (hdg : decode code pc = .ok (.ireturn, 1)) : W p l e room_1 s m #[Value.ref b] below meth c H [] 600000 7302250 (lw_Z below #[Value.ref b] s) (F0 m pc ls [.int 1]) := by
  intro T hT X
  obtain ⟨fs, hret, hrun, hended, hW, hframe⟩ := X.leave (v := some (.int 1)) (hlocks := hlocks) (fun h => by rw [hr] at h; cases h)
  have hmeth' : T.vm.method? m = some meth := X.method'
  refine ⟨T.setFrames fs, ?_, .returned (some (.int 1)), hrun, hended, rfl, ⟨_, rfl⟩, hW, hframe⟩
  jvm_step X.here [X.here.top, hx, hb, hdg, hmeth', hr, ret, narrow_b1]
  (try refine ⟨rfl, ?_⟩); (try refine ⟨rfl, ?_⟩)
  first | (intro acts; rw [hret _ acts rfl rfl rfl]) | rw [hret _ _ rfl rfl rfl]
  exact Steps.refl _
/-- what holds at the law's entry: the machine, the code, the tables' words (any of lw_tbl by 'hts w (by decide +kernel)'), the script of L ints xs at the cell b, what the Statement gives of the start (any of its parts by flat_of_before) -/
def lw_At (p : Program) (s : State) (m : MethodId) (meth : Method) (c : Code) (b L : Nat) (xs : Nat → Int32) : Prop :=
  p.tables.exec = Jvm.exec ∧ c.code = code ∧ meth.sig.returnType = ret ∧ c.maxLocals = 11 ∧ s.vm.findClass R_law = some m.cls ∧ (∀ w ∈ lw_tbl, w.before #[Value.ref b] s = true) ∧ va_X b L xs s s.heap ∧ b < s.heap.size ∧ meth.locks = false ∧ (Jvm.Cond.and given_1 narrow_1).before #[Value.ref b] s = true
/-- the heap at the law's entry: no cell -/
def z_h0 : zA := (0, 0, fun _ => (110, 0), fun _ _ => 0, fun _ _ => none)
theorem z_D {s : State} {b : Nat} (hts : ∀ w ∈ lw_tbl, w.before #[Value.ref b] s = true) : ∃ D : va_G, z_K D s := by
  have hT : ∀ w ∈ zT, w.before #[Value.ref b] s = true := fun w hw => hts w (List.mem_filter.mp hw).1
  have hk : ∀ ci : Nat, ∃ q : ClassId × (Nat → Nat), ci < 10 → u_Kn s (zR ci) (zTn ci) (zN ci) q.1 q.2 := by
    intro ci
    by_cases h : ci < 10
    · obtain ⟨cC, iS, hu⟩ := u_known hT (z_hin ci h) (hT _ (z_inst ci h).1)
      exact ⟨(cC, iS), fun _ => hu⟩
    · obtain ⟨cC, iS, hu⟩ := u_known hT (z_hin 0 (by omega)) (hT _ (z_inst 0 (by omega)).1)
      exact ⟨(cC, iS), fun g => absurd g h⟩
  refine ⟨(fun ci => (Classical.choose (hk ci)).1, fun ci => (Classical.choose (hk ci)).2), ⟨?_, ?_⟩, ?_, ?_, ?_⟩
  · intro ci q hq
    have hlt : ci < 10 := (List.getElem?_eq_some_iff.mp hq).1
    rw [z_cl_at ci hlt] at hq
    cases hq
    exact Classical.choose_spec (hk ci) hlt
  · intro k q hq
    cases hq
  · intro w hw hn
    have h1 := hts w hw
    cases w <;> first | (cases hn; done) | exact va_Nw.of rfl h1
  · exact va_AO.of (hts _ (List.mem_of_getElem? zc_j.2.2.2.2))
  · exact va_AOA.of (hts _ (List.mem_of_getElem? zc_w.1))
theorem z_start {p : Program} {e : Env} {s : State} {m : MethodId} {below : List Frame} {meth : Method} {c : Code} (l : Launch) {b L : Nat} {xs : Nat → Int32} (C0 : lw_At p s m meth c b L xs) {n : Nat} {h' : zA} (hrun : z_run (L, xs) n zLaw 0 [.ref 0, .null, .null, .null, .null, .null, .null, .null, .null, .null, .null] [] z_h0 = some (some (.int 1), h')) (hc : h'.1 ≤ 600000) (hs : h'.2.1 ≤ 7302250) : W p l e room_1 s m #[Value.ref b] below meth c s.heap [] 0 0 (lw_Z below #[Value.ref b] s) (entryFrame m ([Value.ref b] : List Value).toArray 11) := by
  obtain ⟨hx, hb, hr, hml, hown, hts, hX, hbl, hlocks, hgv⟩ := id C0
  obtain ⟨D, hK⟩ := z_D hts
  have X : zX p room_1 s m #[Value.ref b] meth c D zLaw := ⟨hx, hb, hml, hown, fun w hw => hts w (List.mem_filter.mp hw).1, fun z => (by cases z), hK, Nat.le_refl _, Nat.le_refl _⟩
  have S : zS s D (fun q : Nat => s.heap.size ≤ q) s.heap (fun _ => 0) (fun _ => b) z_h0 s.heap [] := by
    refine ⟨fun k q h => (by cases h), ⟨fun i j p q h => (by cases h), fun k q h => (by cases h)⟩, va_S.rf, fun i h1 h2 => ?_, fun i h1 h2 => ?_, fun _ h => h⟩
    · have h2 : i ≤ 0 := h2
      omega
    · have h2 : i ≤ 0 := h2
      omega
  have hsc : zXs (L, xs) zLaw (fun q : Nat => s.heap.size ≤ q) s s.heap (fun _ => b) := fun _ => ⟨hbl, Nat.not_le.mpr hbl, hX⟩
  have hl := lv_entry ([.ref b]) (n := 11) (Nat.le_of_ble_eq_true rfl)
  rw [lg_entry_eq]
  generalize (lg_sl ([.ref b]) ++ List.replicate (11 - (lg_sl ([.ref b])).length) Slot.unset).toArray = cl at hl ⊢
  have hL : z_L (fun _ => b) z_h0.1 (z_ml zLaw) [.ref 0, .null, .null, .null, .null, .null, .null, .null, .null, .null, .null] cl := by
    refine ⟨⟨hl.1, hl.2.1, fun q hq => hl.2.2 q ?_⟩, rfl, fun v hv => ?_⟩
    · have e : z_lvs (fun _ => b) [.ref 0, .null, .null, .null, .null, .null, .null, .null, .null, .null, .null] = [(0, .ref b)] := rfl
      rw [e] at hq
      exact hq
    · simp only [List.mem_cons, List.not_mem_nil, or_false] at hv
      rcases hv with rfl | rfl | rfl | rfl | rfl | rfl | rfl | rfl | rfl | rfl | rfl
      · exact Nat.le_refl _
      · trivial
      · trivial
      · trivial
      · trivial
      · trivial
      · trivial
      · trivial
      · trivial
      · trivial
      · trivial
  refine z_sound (L, xs) l D n zLaw 0 _ [] _ _ _ hrun p e room_1 s m #[Value.ref b] below meth c _ s.heap s.heap [] 0 0 _ _ cl _ X S hsc hL (fun v hv => by cases hv) ?_ ?_ ?_
  · show 0 + (h'.1 - 0) ≤ 600000; omega
  · show 0 + (h'.2.1 - 0) ≤ 7302250; omega
  intro pc' st' cl' cA' ad' H' locs' hend ha S' hst'
  unfold z_end at hend
  split at hend
  next q hdg =>
    split at hend
    next hq1 =>
      obtain ⟨ins, q2⟩ := q
      dsimp only at hq1 hend hdg
      subst hq1
      cases ins with
      | return_ =>
        change (if z_ret zLaw = none ∧ st' = [] then some none else none) = some (some (Value.int 1)) at hend
        split at hend
        next hc => cases hend
        next => cases hend
      | ireturn =>
        replace hend := z_i1_s hend; obtain ⟨x, r0, rfl, hend⟩ := hend
        try dsimp only at hend
        split at hend
        next hc =>
          obtain ⟨rfl, hc⟩ := hc
          cases hend
          refine W.widen (k := 600000) (n := 7302250) ?_ ?_ (va_forget S'.2.2.1.2.2 ?_)
          · show 0 + (h'.1 - 0) ≤ 600000; omega
          · show 0 + (h'.2.1 - 0) ≤ 7302250; omega
          · exact lw_ret hx hb hr hlocks hdg
        next => cases hend
      | lreturn =>
        replace hend := z_l1_s hend; obtain ⟨x, r0, rfl, hend⟩ := hend
        try dsimp only at hend
        split at hend
        next hc => cases hend
        next => cases hend
      | areturn =>
        replace hend := z_r1_s hend; obtain ⟨x, r0, rfl, hend⟩ := hend
        try dsimp only at hend
        split at hend
        next hc => cases hend
        next => cases hend
      | _ => cases hend
    next => cases hend
  next => cases hend
end
section
/-! ===== the two constructors, run by the kernel; the shape of the heap behind them ===== -/
theorem z_heap_sc {sc sc2 : Nat × (Nat → Int32)} {k : Nat} {ins : Instr} {st : List Value} {h : zA} (hk : k ≠ zLaw) : z_heap sc k ins st h = z_heap sc2 k ins st h := by
  have e1 : ∀ kd, z_ald sc k kd st h = z_ald sc2 k kd st h := by
    intro kd
    unfold z_ald
    congr 1
    funext i r
    congr 1
    funext a r
    rw [if_neg (show ¬ ((a = 0 ∧ k = zLaw ∧ kd = 100) ∧ ¬ (i < 0 ∨ sc.1 ≤ i.toNatClampNeg)) from fun z => hk z.1.2.1), if_neg (show ¬ ((a = 0 ∧ k = zLaw ∧ kd = 100) ∧ ¬ (i < 0 ∨ sc2.1 ≤ i.toNatClampNeg)) from fun z => hk z.1.2.1)]
  have e2 : z_len0 sc k st h = z_len0 sc2 k st h := by
    unfold z_len0
    congr 1
    funext a r
    rw [if_neg (fun z => hk z.2), if_neg (fun z => hk z.2)]
  have e3 : ∀ i, z_lot sc k i st h = z_lot sc2 k i st h := by
    intro i
    unfold z_lot
    split
    · congr 1
      funext x r
      congr 1
      funext a r
      rw [if_neg (fun z => hk z.1.2.1), if_neg (fun z => hk z.1.2.1)]
    · rfl
  cases ins with
  | iaload => exact e1 100
  | invokestatic i => exact e3 i
  | caload => exact e1 101
  | arraylength => exact e2
  | _ => rfl
theorem z_step_sc {sc sc2 : Nat × (Nat → Int32)} {k pc : Nat} {ls st : List Value} {h : zA} (hk : k ≠ zLaw) : z_step sc k pc ls st h = z_step sc2 k pc ls st h := by
  unfold z_step
  split
  next q e =>
    unfold z_stepI
    rw [z_heap_sc (sc := sc) (sc2 := sc2) hk]
  next => rfl
theorem z_inv_lt {k pc : Nat} {st : List Value} {h : zA} {q : Nat × List Value × List Value} (hh : z_inv k pc st h = some q) : q.1 < zLaw := by
  have key : ∀ i kd, z_callY k i kd st h = some q → q.1 < zLaw := by
    intro i kd h2
    unfold z_callY at h2
    split at h2
    next q0 e1 =>
      split at h2
      next hc => cases h2; exact hc.2.2.2.1
      next => cases h2
    next => cases h2
  unfold z_inv at hh
  split at hh
  · split at hh
    · split at hh
      · exact key _ _ hh
      · exact key _ _ hh
      · exact key _ _ hh
      · cases hh
    · cases hh
  · cases hh
theorem z_run_sc (sc sc2 : Nat × (Nat → Int32)) : ∀ (n k pc : Nat) (ls st : List Value) (h : zA), k ≠ zLaw → z_run sc n k pc ls st h = z_run sc2 n k pc ls st h := by
  intro n
  induction n with
  | zero => intro k pc ls st h hk; rfl
  | succ n ih =>
    intro k pc ls st h hk
    unfold z_run
    rw [z_step_sc (sc := sc) (sc2 := sc2) hk]
    split
    · rfl
    · split
      · exact ih _ _ _ _ _ hk
      · split
        next q e =>
          rw [ih q.1 _ _ _ _ (Nat.ne_of_lt (z_inv_lt e))]
          split
          · exact ih _ _ _ _ _ hk
          · rfl
        next => rfl
def zi_0 : zA := z_mk z_h0 9 0 10
def zi_a : Option (Option Value × zA) := z_run (0, fun _ => 0) 600 56 0 [.ref 1] [] zi_0
def zi_1 : zA := match zi_a with
  | some r => r.2
  | none => zi_0
def zi_3 : zA := zi_1
def zi_isN (r : Option (Option Value × zA)) : Bool := match r with
  | some (none, _) => true
  | _ => false
def zi_sh : List (Nat × Nat) := [(110, 0), (9, 0), (2, 0), (100, 4), (6, 0), (100, 4), (4, 0), (100, 12), (100, 12), (6, 0), (100, 4), (4, 0), (100, 12), (100, 12), (2, 0), (100, 4), (6, 0), (100, 4), (4, 0), (100, 12), (100, 12), (6, 0), (100, 4), (4, 0), (100, 12), (100, 12), (3, 0), (102, 4), (2, 0), (100, 4), (6, 0), (100, 4), (4, 0), (100, 12), (100, 12), (6, 0), (100, 4), (4, 0), (100, 12), (100, 12), (2, 0), (100, 4), (6, 0), (100, 4), (4, 0), (100, 12), (100, 12), (6, 0), (100, 4), (4, 0), (100, 12), (100, 12), (2, 0), (100, 4), (6, 0), (100, 4), (4, 0), (100, 12), (100, 12), (6, 0), (100, 4), (4, 0), (100, 12), (100, 12), (2, 0), (100, 4), (6, 0), (100, 4), (4, 0), (100, 12), (100, 12), (6, 0), (100, 4), (4, 0), (100, 12), (100, 12), (0, 0), (100, 165), (0, 0), (100, 165), (5, 0), (103, 4), (100, 10), (100, 10), (100, 10), (100, 10), (1, 0), (1, 0), (7, 0), (101, 80), (8, 0)]
-- the references: cell, place, cell
def zi_rv : List (Nat × Nat × Nat) := [(1, 0, 2), (1, 1, 14), (1, 2, 26), (1, 3, 76), (1, 4, 78), (1, 5, 80), (1, 6, 86), (1, 7, 87), (1, 8, 88), (1, 9, 90), (2, 2, 3), (2, 3, 4), (2, 4, 9), (4, 1, 5), (4, 2, 6), (6, 1, 7), (6, 2, 8), (9, 1, 10), (9, 2, 11), (11, 1, 12), (11, 2, 13), (14, 2, 15), (14, 3, 16), (14, 4, 21), (16, 1, 17), (16, 2, 18), (18, 1, 19), (18, 2, 20), (21, 1, 22), (21, 2, 23), (23, 1, 24), (23, 2, 25), (26, 1, 27), (27, 0, 28), (27, 1, 40), (27, 2, 52), (27, 3, 64), (28, 2, 29), (28, 3, 30), (28, 4, 35), (30, 1, 31), (30, 2, 32), (32, 1, 33), (32, 2, 34), (35, 1, 36), (35, 2, 37), (37, 1, 38), (37, 2, 39), (40, 2, 41), (40, 3, 42), (40, 4, 47), (42, 1, 43), (42, 2, 44), (44, 1, 45), (44, 2, 46), (47, 1, 48), (47, 2, 49), (49, 1, 50), (49, 2, 51), (52, 2, 53), (52, 3, 54), (52, 4, 59), (54, 1, 55), (54, 2, 56), (56, 1, 57), (56, 2, 58), (59, 1, 60), (59, 2, 61), (61, 1, 62), (61, 2, 63), (64, 2, 65), (64, 3, 66), (64, 4, 71), (66, 1, 67), (66, 2, 68), (68, 1, 69), (68, 2, 70), (71, 1, 72), (71, 2, 73), (73, 1, 74), (73, 2, 75), (76, 1, 77), (78, 1, 79), (80, 2, 81), (81, 0, 82), (81, 1, 83), (81, 2, 84), (81, 3, 85), (88, 1, 89)]
def zi_iv : List (Nat × Nat × Int32) := [(2, 0, 3), (3, 0, 1), (3, 1, 1), (3, 2, 1), (3, 3, 1), (4, 0, 4), (5, 0, 8), (5, 1, 8), (5, 2, 8), (5, 3, 8), (9, 0, 4), (10, 0, 8), (10, 1, 8), (10, 2, 8), (10, 3, 8), (14, 0, 3), (15, 0, 1), (15, 1, 1), (15, 2, 1), (15, 3, 1), (16, 0, 4), (17, 0, 8), (17, 1, 8), (17, 2, 8), (17, 3, 8), (21, 0, 4), (22, 0, 8), (22, 1, 8), (22, 2, 8), (22, 3, 8), (28, 0, 3), (29, 0, 1), (29, 1, 1), (29, 2, 1), (29, 3, 1), (30, 0, 4), (31, 0, 8), (31, 1, 8), (31, 2, 8), (31, 3, 8), (35, 0, 4), (36, 0, 8), (36, 1, 8), (36, 2, 8), (36, 3, 8), (40, 0, 3), (41, 0, 1), (41, 1, 1), (41, 2, 1), (41, 3, 1), (42, 0, 4), (43, 0, 8), (43, 1, 8), (43, 2, 8), (43, 3, 8), (47, 0, 4), (48, 0, 8), (48, 1, 8), (48, 2, 8), (48, 3, 8), (52, 0, 3), (53, 0, 1), (53, 1, 1), (53, 2, 1), (53, 3, 1), (54, 0, 4), (55, 0, 8), (55, 1, 8), (55, 2, 8), (55, 3, 8), (59, 0, 4), (60, 0, 8), (60, 1, 8), (60, 2, 8), (60, 3, 8), (64, 0, 3), (65, 0, 1), (65, 1, 1), (65, 2, 1), (65, 3, 1), (66, 0, 4), (67, 0, 8), (67, 1, 8), (67, 2, 8), (67, 3, 8), (71, 0, 4), (72, 0, 8), (72, 1, 8), (72, 2, 8), (72, 3, 8), (80, 0, 3)]
def zi_at (a b : Nat) : Int32 := match zi_iv.find? (fun q => q.1 == a && q.2.1 == b) with
  | some q => q.2.2
  | none => 0
def zi_chk : Bool := zi_isN zi_a && decide (zi_3.1 = 90) && decide (zi_3.2.1 ≤ 7000000) && (List.range 91).all (fun i => decide (zi_3.2.2.1 i = zi_sh.getD i (0, 0))) && zi_rv.all (fun q => decide (zi_3.2.2.2.2 q.1 q.2.1 = some q.2.2)) && (List.range 91).all (fun a => (List.range 12).all (fun b => decide (zi_3.2.2.2.1 a b = zi_at a b)))
theorem zi_ok : zi_chk = true := by decide +kernel
end
section
/-! ===== what a run comes to: zEv, and a row an instruction over the heap behind the constructors ===== -/
theorem zex : ∃ c : Nat × (Nat → Nat × Nat) × (Nat → Nat → Option Nat) × (Nat → Nat → Int32), zi_a = some (none, zi_3) ∧ zi_3 = (90, c.1, c.2.1, c.2.2.2, c.2.2.1) ∧ c.1 ≤ 7000000 ∧ (∀ i, i < 91 → c.2.1 i = zi_sh.getD i (0, 0)) ∧ (∀ q ∈ zi_rv, c.2.2.1 q.1 q.2.1 = some q.2.2) ∧ ∀ a, a < 91 → ∀ b, b < 12 → c.2.2.2 a b = zi_at a b := by
  have h := zi_ok
  unfold zi_chk at h
  simp only [Bool.and_eq_true, decide_eq_true_eq] at h
  obtain ⟨⟨⟨⟨⟨h1, h4⟩, h5⟩, h6⟩, h7⟩, h8⟩ := h
  have g1 : zi_a = some (none, zi_3) := by
    unfold zi_3 zi_1
    revert h1
    generalize zi_a = z
    intro h1
    match z, h1 with
    | some (none, _), _ => rfl
  have f6 : ∀ i, i < 91 → zi_3.2.2.1 i = zi_sh.getD i (0, 0) := fun i hi => of_decide_eq_true (List.all_eq_true.mp h6 i (List.mem_range.mpr hi))
  have f7 : ∀ q ∈ zi_rv, zi_3.2.2.2.2 q.1 q.2.1 = some q.2.2 := fun q hq => of_decide_eq_true (List.all_eq_true.mp h7 q hq)
  have f8 : ∀ a, a < 91 → ∀ b, b < 12 → zi_3.2.2.2.1 a b = zi_at a b := fun a ha b hb => of_decide_eq_true (List.all_eq_true.mp (List.all_eq_true.mp h8 a (List.mem_range.mpr ha)) b (List.mem_range.mpr hb))
  clear h1 h6 h7 h8
  generalize zi_3 = z3 at *
  obtain ⟨n3, s3, sh3, iv3, rv3⟩ := z3
  dsimp only at h4 h5 f6 f7 f8
  subst h4
  exact ⟨(s3, sh3, rv3, iv3), g1, rfl, h5, f6, f7, f8⟩
noncomputable def zc : Nat × (Nat → Nat × Nat) × (Nat → Nat → Option Nat) × (Nat → Nat → Int32) := Classical.choose zex
theorem zc_ok : zi_a = some (none, zi_3) ∧ zi_3 = (90, zc.1, zc.2.1, zc.2.2.2, zc.2.2.1) ∧ zc.1 ≤ 7000000 ∧ (∀ i, i < 91 → zc.2.1 i = zi_sh.getD i (0, 0)) ∧ (∀ q ∈ zi_rv, zc.2.2.1 q.1 q.2.1 = some q.2.2) ∧ ∀ a, a < 91 → ∀ b, b < 12 → zc.2.2.2 a b = zi_at a b := Classical.choose_spec zex
/-- the references: those of the history's row are told beside -/
noncomputable def zRV (p : Nat → Option Nat) : Nat → Nat → Option Nat := fun i k => if i = 27 then p k else zc.2.2.1 i k
noncomputable def zst (p : Nat → Option Nat) (iv : Nat → Nat → Int32) : zA := (90, zc.1, zc.2.1, iv, zRV p)
def w2 (iv : Nat → Nat → Int32) (a f : Nat) (x : Int32) : Nat → Nat → Int32 := va_up iv a (upd (iv a) f x)
theorem w2_at {iv : Nat → Nat → Int32} {a f : Nat} {x : Int32} (c g : Nat) : w2 iv a f x c g = if c = a ∧ g = f then x else iv c g := by
  unfold w2 va_up upd
  by_cases h1 : c = a
  · subst h1
    by_cases h2 : g = f
    · simp [h2]
    · simp [h2]
  · simp [h1]
theorem w2_eq {iv : Nat → Nat → Int32} {a f : Nat} {x : Int32} : w2 iv a f x a f = x := by rw [w2_at, if_pos ⟨rfl, rfl⟩]
theorem w2_c {iv : Nat → Nat → Int32} {a f c : Nat} {x : Int32} (h : c ≠ a) : w2 iv a f x c = iv c := funext fun g => by rw [w2_at, if_neg (fun z => h z.1)]
theorem w2_g {iv : Nat → Nat → Int32} {a f c g : Nat} {x : Int32} (h : g ≠ f) : w2 iv a f x c g = iv c g := by rw [w2_at, if_neg (fun z => h z.2)]
/-- a cell's kind, an array's length -/
def zO (a kd : Nat) : Prop := 1 ≤ a ∧ a ≤ 90 ∧ (zc.2.1 a).1 = kd
noncomputable def zLn (a : Nat) : Nat := (zc.2.1 a).2
theorem zO_of {a : Nat} (h1 : 1 ≤ a) (h2 : a < 91) : zO a (zi_sh.getD a (0, 0)).1 := ⟨h1, by omega, by rw [zc_ok.2.2.2.1 a h2]⟩
theorem zLn_of {a : Nat} (h2 : a < 91) : zLn a = (zi_sh.getD a (0, 0)).2 := by unfold zLn; rw [zc_ok.2.2.2.1 a h2]
theorem zRV_of {p : Nat → Option Nat} {a f j : Nat} (h : (a, f, j) ∈ zi_rv) (ha : a ≠ 27) : zRV p a f = some j := by
  unfold zRV
  rw [if_neg ha]
  exact zc_ok.2.2.2.2.1 _ h
theorem zRV_27 {p : Nat → Option Nat} {f : Nat} : zRV p 27 f = p f := if_pos rfl
def zRef (o : Option Nat) (f : Nat → Prop) : Prop := match o with
  | some j => f j
  | none => False
theorem zRef_some {j : Nat} {f : Nat → Prop} : zRef (some j) f = f j := rfl
def zb (b : Bool) : Int32 := match b with
  | true => 1
  | false => 0
theorem zb_t : zb true = 1 := rfl
theorem zb_f : zb false = 0 := rfl
theorem zb_0 {b : Bool} : (zb b = 0) = (b = false) := by cases b <;> simp [zb]
theorem zb_n {b : Bool} : (¬ zb b = 0) = (b = true) := by cases b <;> simp [zb]
theorem zb_01 {b : Bool} : zb b = 0 ∨ zb b = 1 := by cases b <;> simp [zb]
def zEv (sc : Nat × (Nat → Int32)) (k pc : Nat) (ls st : List Value) (h : zA) (Q : Option Value → zA → Prop) : Prop := ∃ (n : Nat) (r : Option Value × zA), z_run sc n k pc ls st h = some r ∧ Q r.1 r.2
section ZEV
variable {sc : Nat × (Nat → Int32)} {k pc len : Nat} {ls ls2 st rest as : List Value} {h : zA} {Q : Option Value → zA → Prop} {p : Nat → Option Nat} {iv : Nat → Nat → Int32} {ins : Instr} {i ci f nt tt a y kd : Nat} {x x1 x2 : Int32}
theorem zEv_step {q : zH} (h1 : z_end k pc st = none) (h2 : z_step sc k pc ls st h = some q) : zEv sc k pc ls st h Q ↔ zEv sc k q.1 q.2.1 q.2.2.1 q.2.2.2 Q := by
  constructor
  · rintro ⟨n, r, hr, hq⟩
    cases n with
    | zero => cases hr
    | succ n =>
      unfold z_run at hr
      rw [h1, h2] at hr
      exact ⟨n, r, hr, hq⟩
  · rintro ⟨n, r, hr, hq⟩
    refine ⟨n + 1, r, ?_, hq⟩
    unfold z_run
    rw [h1, h2]
    exact hr
theorem zEv_ret {r : Option Value} (h1 : z_end k pc st = some r) : zEv sc k pc ls st h Q ↔ Q r h := by
  constructor
  · rintro ⟨n, r2, hr, hq⟩
    cases n with
    | zero => cases hr
    | succ n =>
      unfold z_run at hr
      rw [h1] at hr
      cases hr
      exact hq
  · intro hq
    refine ⟨1, (r, h), ?_, hq⟩
    unfold z_run
    rw [h1]
theorem zEv_call {q : Nat × List Value × List Value} (h1 : z_end k pc st = none) (h2 : z_step sc k pc ls st h = none) (h3 : z_inv k pc st h = some q) : zEv sc k pc ls st h Q ↔ zEv sc q.1 0 (q.2.1 ++ List.replicate (z_ml q.1 - q.2.1.length) .null) [] h (fun r h' => zEv sc k (pc + 3) ls (r.toList ++ q.2.2) h' Q) := by
  constructor
  · rintro ⟨n, r, hr, hq⟩
    cases n with
    | zero => cases hr
    | succ n =>
      unfold z_run at hr
      rw [h1, h2, h3] at hr
      dsimp only at hr
      cases h4 : z_run sc n q.1 0 (q.2.1 ++ List.replicate (z_ml q.1 - q.2.1.length) .null) [] h with
      | none => rw [h4] at hr; cases hr
      | some r4 =>
        rw [h4] at hr
        exact ⟨n, r4, h4, n, r, hr, hq⟩
  · rintro ⟨n, r4, h4, n2, r, hr, hq⟩
    refine ⟨max n n2 + 1, r, ?_, hq⟩
    unfold z_run
    rw [h1, h2, h3]
    dsimp only
    rw [z_mono sc _ _ _ _ _ _ _ h4 _ (Nat.le_max_left n n2)]
    exact z_mono sc _ _ _ _ _ _ _ hr _ (Nat.le_max_right n n2)
theorem zEv_stuck (h1 : z_end k pc st = none) (h2 : z_step sc k pc ls st h = none) (h3 : z_inv k pc st h = none) : ¬ zEv sc k pc ls st h Q := by
  rintro ⟨n, r, hr, hq⟩
  cases n with
  | zero => cases hr
  | succ n =>
    unfold z_run at hr
    rw [h1, h2, h3] at hr
    cases hr
theorem zEv_mono {Q2 : Option Value → zA → Prop} (hQ : ∀ r h, Q r h → Q2 r h) (e : zEv sc k pc ls st h Q) : zEv sc k pc ls st h Q2 := by
  obtain ⟨n, r, hr, hq⟩ := e
  exact ⟨n, r, hr, hQ _ _ hq⟩
theorem zE_e (d : decode (z_code k) pc = .ok (ins, len)) (hr : z_retI k ins st = none) : z_end k pc st = none := by
  unfold z_end
  rw [d]
  dsimp only
  rw [hr]
  split <;> rfl
theorem zE_pure {q : zF} (d : decode (z_code k) pc = .ok (ins, len)) (hl : len = z_len ins len) (hr : z_retI k ins st = none) (hp : z_pure k ins pc ls st = some q) : zEv sc k pc ls st h Q ↔ zEv sc k q.1 q.2.1 q.2.2 h Q := by
  refine zEv_step (q := (q.1, q.2.1, q.2.2, h)) (zE_e d hr) ?_
  unfold z_step
  rw [d]
  dsimp only
  unfold z_stepI
  rw [if_pos hl, hp]
theorem zE_heap {q : zG} (d : decode (z_code k) pc = .ok (ins, len)) (hl : len = z_len ins len) (hr : z_retI k ins st = none) (hp : z_pure k ins pc ls st = none) (hh : z_heap sc k ins st h = some q) : zEv sc k pc ls st h Q ↔ zEv sc k (pc + len) ls q.1 q.2 Q := by
  refine zEv_step (q := (pc + len, ls, q.1, q.2)) (zE_e d hr) ?_
  unfold z_step
  rw [d]
  dsimp only
  unfold z_stepI
  rw [if_pos hl, hp, hh]
theorem zE_none (d : decode (z_code k) pc = .ok (ins, len)) (hr : z_retI k ins st = none) (hp : z_pure k ins pc ls st = none) (hh : z_heap sc k ins st h = none) (hv : z_inv k pc st h = none) : ¬ zEv sc k pc ls st h Q := by
  refine zEv_stuck (zE_e d hr) ?_ hv
  unfold z_step
  rw [d]
  dsimp only
  unfold z_stepI
  rw [hp, hh]
  split <;> rfl
theorem zE_if {c : Jvm.ClassFile.Cond} {off : Int} (tgt : Nat) (d : decode (z_code k) pc = .ok (.ifCond c off, 3)) (ht : (pc : Int) + off = (tgt : Int)) : zEv sc k pc ls (.int x :: st) h Q ↔ zEv sc k (if z_t0 c x then tgt else pc + 3) ls st h Q := by
  refine zE_pure (q := (if z_t0 c x then tgt else pc + 3, ls, st)) d rfl rfl ?_
  show z_br ls st pc off (z_t0 c x) = _
  unfold z_br
  rw [if_pos (by omega), ht]
  rfl
theorem zE_ic {c : Jvm.ClassFile.Cond} {off : Int} (tgt : Nat) (d : decode (z_code k) pc = .ok (.if_icmp c off, 3)) (ht : (pc : Int) + off = (tgt : Int)) : zEv sc k pc ls (.int x2 :: .int x1 :: st) h Q ↔ zEv sc k (if z_t2 c x1 x2 then tgt else pc + 3) ls st h Q := by
  refine zE_pure (q := (if z_t2 c x1 x2 then tgt else pc + 3, ls, st)) d rfl rfl ?_
  show z_br ls st pc off (z_t2 c x1 x2) = _
  unfold z_br
  rw [if_pos (by omega), ht]
  rfl
theorem zE_ite {c : Prop} {b : Bool} {A B : Nat} (hd : Decidable c) (hb : b = decide c) : zEv sc k (if b then A else B) ls st h Q = (if c then zEv sc k A ls st h Q else zEv sc k B ls st h Q) := by
  subst hb
  by_cases hc : c
  · rw [if_pos hc, if_pos (decide_eq_true hc)]
  · rw [if_neg hc, if_neg (by rw [decide_eq_false hc]; decide)]
theorem zE_ifP {c : Jvm.ClassFile.Cond} {off : Int} {P : Prop} (hd : Decidable P) (tgt : Nat) (d : decode (z_code k) pc = .ok (.ifCond c off, 3)) (ht : (pc : Int) + off = (tgt : Int)) (hb : z_t0 c x = decide P) : zEv sc k pc ls (.int x :: st) h Q ↔ (if P then zEv sc k tgt ls st h Q else zEv sc k (pc + 3) ls st h Q) := by
  rw [zE_if tgt d ht, zE_ite hd hb]
theorem zE_icP {c : Jvm.ClassFile.Cond} {off : Int} {P : Prop} (hd : Decidable P) (tgt : Nat) (d : decode (z_code k) pc = .ok (.if_icmp c off, 3)) (ht : (pc : Int) + off = (tgt : Int)) (hb : z_t2 c x1 x2 = decide P) : zEv sc k pc ls (.int x2 :: .int x1 :: st) h Q ↔ (if P then zEv sc k tgt ls st h Q else zEv sc k (pc + 3) ls st h Q) := by
  rw [zE_ic tgt d ht, zE_ite hd hb]
theorem zE_iconst {n : Int} {v : Int32} (d : decode (z_code k) pc = .ok (.iconst n, 1)) (hv : Int32.ofInt n = v) : zEv sc k pc ls st h Q ↔ zEv sc k (pc + 1) ls (.int v :: st) h Q := by
  subst hv
  exact zE_pure (q := (pc + 1, ls, .int (Int32.ofInt n) :: st)) d rfl rfl rfl
theorem zE_bipush {n : Int} {v : Int32} (d : decode (z_code k) pc = .ok (.bipush n, 2)) (hv : (Int8.ofInt n).toInt32 = v) : zEv sc k pc ls st h Q ↔ zEv sc k (pc + 2) ls (.int v :: st) h Q := by
  subst hv
  exact zE_pure (q := (pc + 2, ls, .int (Int8.ofInt n).toInt32 :: st)) d rfl rfl rfl
theorem zE_sipush {n : Int} {v : Int32} (d : decode (z_code k) pc = .ok (.sipush n, 3)) (hv : (Int16.ofInt n).toInt32 = v) : zEv sc k pc ls st h Q ↔ zEv sc k (pc + 3) ls (.int v :: st) h Q := by
  subst hv
  exact zE_pure (q := (pc + 3, ls, .int (Int16.ofInt n).toInt32 :: st)) d rfl rfl rfl
theorem zE_ldc {v : Int32} (hq : z_lkK zKT (z_cls k) i = some (v, tt)) (d : decode (z_code k) pc = .ok (.ldc i, 2)) : zEv sc k pc ls st h Q ↔ zEv sc k (pc + 2) ls (.int v :: st) h Q := by
  refine zE_pure (q := (pc + 2, ls, .int v :: st)) d rfl rfl ?_
  show z_kst k i (pc + 2) ls st = _
  unfold z_kst
  rw [hq]
theorem zE_ldc_w {v : Int32} (hq : z_lkK zKT (z_cls k) i = some (v, tt)) (d : decode (z_code k) pc = .ok (.ldc_w i, 3)) : zEv sc k pc ls st h Q ↔ zEv sc k (pc + 3) ls (.int v :: st) h Q := by
  refine zE_pure (q := (pc + 3, ls, .int v :: st)) d rfl rfl ?_
  show z_kst k i (pc + 3) ls st = _
  unfold z_kst
  rw [hq]
theorem zE_iinc {n : Int} {v : Int32} (d : decode (z_code k) pc = .ok (.iinc i n, 3)) (hv : Int32.ofInt n = v) (hl : ls[i]? = some (.int x)) (hi : i < ls.length) (h2 : ls.set i (.int (x + v)) = ls2) : zEv sc k pc ls st h Q ↔ zEv sc k (pc + 3) ls2 st h Q := by
  subst hv
  subst h2
  refine zE_pure (q := (pc + 3, ls.set i (.int (x + Int32.ofInt n)), st)) d rfl rfl ?_
  show z_inc ls st i n (pc + 3) = _
  unfold z_inc
  rw [hl]
  dsimp only
  rw [if_pos hi]
theorem zE_go {off : Int} (tgt : Nat) (d : decode (z_code k) pc = .ok (.goto off, 3)) (ht : (pc : Int) + off = (tgt : Int)) : zEv sc k pc ls st h Q ↔ zEv sc k tgt ls st h Q := by
  refine zE_pure (q := (tgt, ls, st)) d rfl rfl ?_
  show z_go ls st pc off = _
  unfold z_go
  rw [if_pos (by omega), ht]
  rfl
theorem zE_div (d : decode (z_code k) pc = .ok (.idiv, 1)) : zEv sc k pc ls (.int x2 :: .int x1 :: st) h Q ↔ (¬ x2 = 0 ∧ zEv sc k (pc + 1) ls (.int (x1 / x2) :: st) h Q) := by
  by_cases hx : x2 = 0
  · refine ⟨fun e => absurd e (zE_none d rfl ?_ rfl ?_), fun e => absurd hx e.1⟩
    · show (if x2 = 0 then none else _) = none
      rw [if_pos hx]
    · unfold z_inv; rw [d]; rfl
  · rw [zE_pure (q := (pc + 1, ls, .int (x1 / x2) :: st)) d rfl rfl (by show (if x2 = 0 then none else _) = _; rw [if_neg hx])]
    exact ⟨fun e => ⟨hx, e⟩, fun e => e.2⟩
theorem zE_rem (d : decode (z_code k) pc = .ok (.irem, 1)) : zEv sc k pc ls (.int x2 :: .int x1 :: st) h Q ↔ (¬ x2 = 0 ∧ zEv sc k (pc + 1) ls (.int (x1 - x1 / x2 * x2) :: st) h Q) := by
  by_cases hx : x2 = 0
  · refine ⟨fun e => absurd e (zE_none d rfl ?_ rfl ?_), fun e => absurd hx e.1⟩
    · show (if x2 = 0 then none else _) = none
      rw [if_pos hx]
    · unfold z_inv; rw [d]; rfl
  · rw [zE_pure (q := (pc + 1, ls, .int (x1 - x1 / x2 * x2) :: st)) d rfl rfl (by show (if x2 = 0 then none else _) = _; rw [if_neg hx])]
    exact ⟨fun e => ⟨hx, e⟩, fun e => e.2⟩
theorem zE_tab {dd lo hi : Int} {offs : Array Int} {off v : Int} (tgt : Nat) (d : decode (z_code k) pc = .ok (.tableswitch dd lo hi offs, len)) (hx : x.toInt = v) (h1 : ¬ (v < lo ∨ hi < v)) (h2 : offs[(v - lo).toNat]? = some off) (ht : (pc : Int) + off = (tgt : Int)) : zEv sc k pc ls (.int x :: st) h Q ↔ zEv sc k tgt ls st h Q := by
  refine zE_pure (q := (tgt, ls, st)) d rfl rfl ?_
  show z_tab ls pc dd lo hi offs x st = _
  unfold z_tab
  rw [hx, if_neg h1, h2]
  show z_go ls st pc off = _
  unfold z_go
  rw [if_pos (by omega), ht]
  rfl
theorem zE_tabD {dd lo hi : Int} {offs : Array Int} (tgt : Nat) (d : decode (z_code k) pc = .ok (.tableswitch dd lo hi offs, len)) (h1 : x.toInt < lo ∨ hi < x.toInt) (ht : (pc : Int) + dd = (tgt : Int)) : zEv sc k pc ls (.int x :: st) h Q ↔ zEv sc k tgt ls st h Q := by
  refine zE_pure (q := (tgt, ls, st)) d rfl rfl ?_
  show z_tab ls pc dd lo hi offs x st = _
  unfold z_tab
  rw [if_pos h1]
  unfold z_go
  rw [if_pos (by omega), ht]
  rfl
theorem zE_swi {dd : Int} {ps : Array (Int × Int)} {off : Int} (tgt : Nat) (d : decode (z_code k) pc = .ok (.lookupswitch dd ps, len)) (hs : (ps.toList.zip (ps.toList.drop 1)).all (fun (a, next) => a.1 < next.1) = true) (h2 : Op.lookupswitch.offset ps.toList dd x.toInt = off) (ht : (pc : Int) + off = (tgt : Int)) : zEv sc k pc ls (.int x :: st) h Q ↔ zEv sc k tgt ls st h Q := by
  refine zE_pure (q := (tgt, ls, st)) d rfl rfl ?_
  show z_swi ls pc dd ps x st = _
  unfold z_swi
  rw [if_pos hs, h2]
  unfold z_go
  rw [if_pos (by omega), ht]
  rfl
theorem zE_gfI (d : decode (z_code k) pc = .ok (.getfield i, 3)) (hq : z_lk3 zFT (z_cls k) i = some (ci, f, nt, tt)) (hR : z_isR ci f = false) (ho : zO a ci) : zEv sc k pc ls (.ref a :: st) (zst p iv) Q ↔ zEv sc k (pc + 3) ls (.int (iv a f) :: st) (zst p iv) Q := by
  refine zE_heap (q := (.int (iv a f) :: st, zst p iv)) d rfl rfl rfl ?_
  show z_gf k i (.ref a :: st) (zst p iv) = _
  unfold z_gf z_r1
  dsimp only
  rw [hq]
  dsimp only
  rw [if_pos ⟨ho.1, ho.2.1, ho.2.2⟩, if_neg (by rw [hR]; decide)]
  rfl
theorem zE_gfR (d : decode (z_code k) pc = .ok (.getfield i, 3)) (hq : z_lk3 zFT (z_cls k) i = some (ci, f, nt, tt)) (hR : z_isR ci f = true) (ho : zO a ci) : zEv sc k pc ls (.ref a :: st) (zst p iv) Q ↔ zRef (zRV p a f) (fun j => zEv sc k (pc + 3) ls (.ref j :: st) (zst p iv) Q) := by
  have e1 : z_heap sc k (.getfield i) (.ref a :: st) (zst p iv) = match zRV p a f with
    | some j => some (.ref j :: st, zst p iv)
    | none => none := by
    show z_gf k i (.ref a :: st) (zst p iv) = _
    unfold z_gf z_r1
    dsimp only
    rw [hq]
    dsimp only
    rw [if_pos ⟨ho.1, ho.2.1, ho.2.2⟩, if_pos hR]
    rfl
  cases e : zRV p a f with
  | none =>
    rw [e] at e1
    exact ⟨fun z => absurd z (zE_none d rfl rfl e1 (by unfold z_inv; rw [d]; rfl)), fun z => z.elim⟩
  | some j =>
    rw [e] at e1
    exact zE_heap d rfl rfl rfl e1
theorem zE_pfI (d : decode (z_code k) pc = .ok (.putfield i, 3)) (hq : z_lk3 zFT (z_cls k) i = some (ci, f, nt, tt)) (hR : z_isR ci f = false) (hZ : z_isZ ci f = false) (hF : (zTn ci f).2.2.2 = false) (ho : zO a ci) : zEv sc k pc ls (.int x :: .ref a :: st) (zst p iv) Q ↔ zEv sc k (pc + 3) ls st (zst p (w2 iv a f x)) Q := by
  refine zE_heap (q := (st, zst p (w2 iv a f x))) d rfl rfl rfl ?_
  show z_pf k i (.int x :: .ref a :: st) (zst p iv) = _
  unfold z_pf z_v1 z_r1
  dsimp only
  rw [hq]
  dsimp only
  rw [if_pos ⟨ho.1, ho.2.1, ho.2.2, hR, Or.inl hZ, hF⟩]
  rfl
theorem zE_pfZ (d : decode (z_code k) pc = .ok (.putfield i, 3)) (hq : z_lk3 zFT (z_cls k) i = some (ci, f, nt, tt)) (hR : z_isR ci f = false) (hZ : z_isZ ci f = true) (hF : (zTn ci f).2.2.2 = false) (ho : zO a ci) : zEv sc k pc ls (.int x :: .ref a :: st) (zst p iv) Q ↔ ((x = 0 ∨ x = 1) ∧ zEv sc k (pc + 3) ls st (zst p (w2 iv a f x)) Q) := by
  by_cases hx : x = 0 ∨ x = 1
  · rw [zE_heap (q := (st, zst p (w2 iv a f x))) d rfl rfl rfl (by
      show z_pf k i (.int x :: .ref a :: st) (zst p iv) = _
      unfold z_pf z_v1 z_r1
      dsimp only
      rw [hq]
      dsimp only
      rw [if_pos ⟨ho.1, ho.2.1, ho.2.2, hR, Or.inr hx, hF⟩]
      rfl)]
    exact ⟨fun e => ⟨hx, e⟩, fun e => e.2⟩
  · refine ⟨fun z => absurd z (zE_none d rfl rfl ?_ (by unfold z_inv; rw [d]; rfl)), fun z => absurd z.1 hx⟩
    show z_pf k i (.int x :: .ref a :: st) (zst p iv) = _
    unfold z_pf z_v1 z_r1
    dsimp only
    rw [hq]
    dsimp only
    rw [if_neg]
    rintro ⟨-, -, -, -, z | z, -⟩
    · rw [hZ] at z; cases z
    · exact hx z
theorem zE_ald (ki : (kd = 100 ∧ ins = .iaload) ∨ (kd = 101 ∧ ins = .caload)) (d : decode (z_code k) pc = .ok (ins, 1)) (ho : zO a kd) : zEv sc k pc ls (.int x :: .ref a :: st) (zst p iv) Q ↔ (vp_in x (zLn a) ∧ zEv sc k (pc + 1) ls (.int (iv a x.toNatClampNeg) :: st) (zst p iv) Q) := by
  have e1 : z_heap sc k ins (.int x :: .ref a :: st) (zst p iv) = z_ald sc k kd (.int x :: .ref a :: st) (zst p iv) := by
    rcases ki with ⟨rfl, rfl⟩ | ⟨rfl, rfl⟩ <;> rfl
  have e2 : 1 = z_len ins 1 ∧ z_retI k ins (.int x :: .ref a :: st) = none ∧ z_pure k ins pc ls (.int x :: .ref a :: st) = none := by
    rcases ki with ⟨rfl, rfl⟩ | ⟨rfl, rfl⟩ <;> exact ⟨rfl, rfl, rfl⟩
  have e3 : z_inv k pc (.int x :: .ref a :: st) (zst p iv) = none := by
    unfold z_inv
    rw [d]
    rcases ki with ⟨rfl, rfl⟩ | ⟨rfl, rfl⟩ <;> rfl
  by_cases hx : vp_in x (zLn a)
  · rw [zE_heap (q := (.int (iv a x.toNatClampNeg) :: st, zst p iv)) d e2.1 e2.2.1 e2.2.2 (by
      rw [e1]
      unfold z_ald z_i1 z_r1
      dsimp only
      rw [if_pos ⟨⟨ho.1, ho.2.1, ho.2.2⟩, hx⟩]
      rfl)]
    exact ⟨fun e => ⟨hx, e⟩, fun e => e.2⟩
  · refine ⟨fun z => absurd z (zE_none d e2.2.1 e2.2.2 ?_ e3), fun z => absurd z.1 hx⟩
    rw [e1]
    unfold z_ald z_i1 z_r1
    dsimp only
    rw [if_neg (fun z => hx z.2), if_neg (fun z => by have := ho.1; omega)]
theorem zE_sld (d : decode (z_code zLaw) pc = .ok (.iaload, 1)) (hin : vp_in x sc.1) : zEv sc zLaw pc ls (.int x :: .ref 0 :: st) h Q ↔ zEv sc zLaw (pc + 1) ls (.int (sc.2 x.toNatClampNeg) :: st) h Q := by
  refine zE_heap (q := (.int (sc.2 x.toNatClampNeg) :: st, h)) d rfl rfl rfl ?_
  show z_ald sc zLaw 100 (.int x :: .ref 0 :: st) h = _
  unfold z_ald z_i1 z_r1
  dsimp only
  rw [if_neg (fun z => by have := z.1.1; omega), if_pos ⟨⟨rfl, rfl, rfl⟩, hin⟩]
theorem zE_slen (d : decode (z_code zLaw) pc = .ok (.arraylength, 1)) : zEv sc zLaw pc ls (.ref 0 :: st) h Q ↔ zEv sc zLaw (pc + 1) ls (.int (Int32.ofNat sc.1) :: st) h Q := by
  refine zE_heap (q := (.int (Int32.ofNat sc.1) :: st, h)) d rfl rfl rfl ?_
  show z_len0 sc zLaw (.ref 0 :: st) h = _
  unfold z_len0 z_r1
  dsimp only
  rw [if_pos ⟨rfl, rfl⟩]
theorem zE_ast {nar : Int32 → Int32} (ki : (kd = 100 ∧ ins = .iastore ∧ nar = fun x => x) ∨ (kd = 101 ∧ ins = .castore ∧ nar = fun x => vp_nar .char x)) (d : decode (z_code k) pc = .ok (ins, 1)) (ho : zO a kd) : zEv sc k pc ls (.int x2 :: .int x1 :: .ref a :: st) (zst p iv) Q ↔ (vp_in x1 (zLn a) ∧ zEv sc k (pc + 1) ls st (zst p (w2 iv a x1.toNatClampNeg (nar x2))) Q) := by
  have e1 : z_heap sc k ins (.int x2 :: .int x1 :: .ref a :: st) (zst p iv) = z_ast kd nar (.int x2 :: .int x1 :: .ref a :: st) (zst p iv) := by
    rcases ki with ⟨rfl, rfl, rfl⟩ | ⟨rfl, rfl, rfl⟩ <;> rfl
  have e2 : 1 = z_len ins 1 ∧ z_retI k ins (.int x2 :: .int x1 :: .ref a :: st) = none ∧ z_pure k ins pc ls (.int x2 :: .int x1 :: .ref a :: st) = none := by
    rcases ki with ⟨rfl, rfl, rfl⟩ | ⟨rfl, rfl, rfl⟩ <;> exact ⟨rfl, rfl, rfl⟩
  have e3 : z_inv k pc (.int x2 :: .int x1 :: .ref a :: st) (zst p iv) = none := by
    unfold z_inv
    rw [d]
    rcases ki with ⟨rfl, rfl, rfl⟩ | ⟨rfl, rfl, rfl⟩ <;> rfl
  by_cases hx : vp_in x1 (zLn a)
  · rw [zE_heap (q := (st, zst p (w2 iv a x1.toNatClampNeg (nar x2)))) d e2.1 e2.2.1 e2.2.2 (by
      rw [e1]
      unfold z_ast z_i2 z_r1
      dsimp only
      rw [if_pos ⟨⟨ho.1, ho.2.1, ho.2.2⟩, hx⟩]
      rfl)]
    exact ⟨fun e => ⟨hx, e⟩, fun e => e.2⟩
  · refine ⟨fun z => absurd z (zE_none d e2.2.1 e2.2.2 ?_ e3), fun z => absurd z.1 hx⟩
    rw [e1]
    unfold z_ast z_i2 z_r1
    dsimp only
    rw [if_neg (fun z => hx z.2)]
theorem zE_aald (d : decode (z_code k) pc = .ok (.aaload, 1)) (ho : zO a 102 ∨ zO a 103) : zEv sc k pc ls (.int x :: .ref a :: st) (zst p iv) Q ↔ (vp_in x (zLn a) ∧ zRef (zRV p a x.toNatClampNeg) (fun j => zEv sc k (pc + 1) ls (.ref j :: st) (zst p iv) Q)) := by
  have ho2 : 1 ≤ a ∧ a ≤ 90 ∧ ((zc.2.1 a).1 = 102 ∨ (zc.2.1 a).1 = 103) := by
    rcases ho with ho | ho
    · exact ⟨ho.1, ho.2.1, Or.inl ho.2.2⟩
    · exact ⟨ho.1, ho.2.1, Or.inr ho.2.2⟩
  by_cases hx : vp_in x (zLn a)
  · have e1 : z_heap sc k .aaload (.int x :: .ref a :: st) (zst p iv) = match zRV p a x.toNatClampNeg with
      | some j => some (.ref j :: st, zst p iv)
      | none => none := by
      show z_aald (.int x :: .ref a :: st) (zst p iv) = _
      unfold z_aald z_i1 z_r1
      dsimp only
      rw [if_pos ⟨ho2, hx⟩]
      rfl
    cases e : zRV p a x.toNatClampNeg with
    | none =>
      rw [e] at e1
      exact ⟨fun z => absurd z (zE_none d rfl rfl e1 (by unfold z_inv; rw [d]; rfl)), fun z => z.2.elim⟩
    | some j =>
      rw [e] at e1
      rw [zE_heap d rfl rfl rfl e1]
      exact ⟨fun e => ⟨hx, e⟩, fun e => e.2⟩
  · refine ⟨fun z => absurd z (zE_none d rfl rfl ?_ (by unfold z_inv; rw [d]; rfl)), fun z => absurd z.1 hx⟩
    show z_aald (.int x :: .ref a :: st) (zst p iv) = _
    unfold z_aald z_i1 z_r1
    dsimp only
    rw [if_neg (fun z => hx z.2)]
theorem zE_aast {v : Nat} (d : decode (z_code k) pc = .ok (.aastore, 1)) (ho : zO 27 102) (hv : zO v 2) (hx : vp_in x (zLn 27)) : zEv sc k pc ls (.ref v :: .int x :: .ref 27 :: st) (zst p iv) Q ↔ zEv sc k (pc + 1) ls st (zst (va_up p x.toNatClampNeg (some v)) iv) Q := by
  refine zE_heap (q := (st, zst (va_up p x.toNatClampNeg (some v)) iv)) d rfl rfl rfl ?_
  show z_aast (.ref v :: .int x :: .ref 27 :: st) (zst p iv) = _
  unfold z_aast z_i1 z_r1
  dsimp only
  rw [if_pos ⟨⟨ho.1, ho.2.1, ho.2.2⟩, ⟨hv.1, hv.2.1, hv.2.2⟩, hx⟩]
  refine congrArg some (congrArg (Prod.mk st) ?_)
  unfold z_setR zst
  refine congrArg (fun z => (90, zc.1, zc.2.1, iv, z)) (funext fun c => funext fun g => ?_)
  show va_up (zRV p) 27 (va_up (zRV p 27) x.toNatClampNeg (some v)) c g = _
  by_cases hc : c = 27
  · subst hc
    rw [va_up_self, zRV_27]
    by_cases hg : g = x.toNatClampNeg
    · subst hg; rw [va_up_self, va_up_self]
    · rw [va_up_ne _ _ hg, va_up_ne _ _ hg, zRV_27]
  · rw [va_up_ne _ _ hc]
    unfold zRV
    rw [if_neg hc, if_neg hc]
theorem zE_abs (d : decode (z_code k) pc = .ok (.invokestatic i, 3)) (hq : z_lk1 zXT (z_cls k) i = some (0, tt)) (hv : z_lk0 zVT (z_cls k) i = none) (hr : 1 ≤ z_fr k ∧ 2 * st.length + 13 ≤ z_lo k) : zEv sc k pc ls (.int x :: st) h Q ↔ zEv sc k (pc + 3) ls (.int (if 0 ≤ x then x else 0 - x) :: st) h Q := by
  refine zE_heap (q := (.int (if 0 ≤ x then x else 0 - x) :: st, h)) d rfl rfl rfl ?_
  show z_lot sc k i (.int x :: st) h = _
  unfold z_lot
  rw [hv]
  show z_math k i (.int x :: st) h = _
  unfold z_math z_i1
  rw [hq]
  dsimp only
  rw [if_pos rfl, if_pos hr]
theorem zE_max (d : decode (z_code k) pc = .ok (.invokestatic i, 3)) (hq : z_lk1 zXT (z_cls k) i = some (1, tt)) (hv : z_lk0 zVT (z_cls k) i = none) (hr : 1 ≤ z_fr k ∧ 2 * st.length + 13 ≤ z_lo k) : zEv sc k pc ls (.int x2 :: .int x1 :: st) h Q ↔ zEv sc k (pc + 3) ls (.int (if x1 < x2 then x2 else x1) :: st) h Q := by
  refine zE_heap (q := (.int (if x1 < x2 then x2 else x1) :: st, h)) d rfl rfl rfl ?_
  show z_lot sc k i (.int x2 :: .int x1 :: st) h = _
  unfold z_lot
  rw [hv]
  show z_math k i (.int x2 :: .int x1 :: st) h = _
  unfold z_math z_i2
  rw [hq]
  dsimp only
  rw [if_neg (by decide), if_pos rfl, if_pos hr]
theorem zE_rv (d : decode (z_code k) pc = .ok (.return_, 1)) (hr : z_ret k = none) : zEv sc k pc ls [] h Q ↔ Q none h := by
  refine zEv_ret ?_
  unfold z_end
  rw [d]
  show (if z_ret k = none ∧ ([] : List Value) = [] then some none else none) = _
  rw [if_pos ⟨hr, rfl⟩]
theorem zE_ri (d : decode (z_code k) pc = .ok (.ireturn, 1)) (hr : z_ret k = some .int) : zEv sc k pc ls [.int x] h Q ↔ Q (some (.int x)) h := by
  refine zEv_ret ?_
  unfold z_end
  rw [d]
  show (if ([] : List Value) = [] ∧ (z_ret k = some .int ∨ (z_ret k = some .boolean ∧ (x = 0 ∨ x = 1))) then some (some (Value.int x)) else none) = _
  rw [if_pos ⟨rfl, Or.inl hr⟩]
theorem zE_rz (d : decode (z_code k) pc = .ok (.ireturn, 1)) (hr : z_ret k = some .boolean) : zEv sc k pc ls [.int x] h Q ↔ ((x = 0 ∨ x = 1) ∧ Q (some (.int x)) h) := by
  by_cases hx : x = 0 ∨ x = 1
  · rw [zEv_ret (r := some (.int x)) (by
      unfold z_end
      rw [d]
      show (if ([] : List Value) = [] ∧ (z_ret k = some .int ∨ (z_ret k = some .boolean ∧ (x = 0 ∨ x = 1))) then some (some (Value.int x)) else none) = _
      rw [if_pos ⟨rfl, Or.inr ⟨hr, hx⟩⟩])]
    exact ⟨fun e => ⟨hx, e⟩, fun e => e.2⟩
  · refine ⟨fun z => absurd z (zE_none d ?_ rfl rfl (by unfold z_inv; rw [d]; rfl)), fun z => absurd z.1 hx⟩
    show (if ([] : List Value) = [] ∧ (z_ret k = some .int ∨ (z_ret k = some .boolean ∧ (x = 0 ∨ x = 1))) then some (some (Value.int x)) else none) = _
    rw [if_neg]
    rintro ⟨-, z | z⟩
    · rw [hr] at z; cases z
    · exact hx z.2
theorem zE_ra (d : decode (z_code k) pc = .ok (.areturn, 1)) (hr : z_ret k = some (.object RX0) ∨ z_ret k = some (.object RX6)) : zEv sc k pc ls [.ref a] h Q ↔ Q (some (.ref a)) h := by
  refine zEv_ret ?_
  unfold z_end
  rw [d]
  show (if ([] : List Value) = [] ∧ (z_ret k = some (.object RX0) ∨ z_ret k = some (.object RX6)) then some (some (Value.ref a)) else none) = _
  rw [if_pos ⟨rfl, hr⟩]
theorem zE_call {na nr : Nat} (ki : (kd = 0 ∧ ins = .invokevirtual i) ∨ (kd = 1 ∧ ins = .invokestatic i)) (d : decode (z_code k) pc = .ok (ins, 3)) (hq : z_lk2 zCT (z_cls k) i = some (y, nt, tt)) (hx : kd = 1 → z_lk1 zXT (z_cls k) i = none ∧ z_lk0 zVT (z_cls k) i = none) (hst : st = as.reverse ++ rest) (hla : as.length = na) (hlr : rest.length = nr)
    (hck : z_kd y = kd ∧ na = z_np y + z_ar kd ∧ na ≤ z_ml y ∧ y < zLaw ∧ nr ≤ 4 ∧ z_fr y + 1 ≤ z_fr k ∧ 8 + (z_ml y + 11) + z_lo y ≤ z_lo k) (ha1 : as.all z_c1 = true) (hpad : as ++ List.replicate (z_ml y - na) .null = ls2) (hrc : kd = 1 ∨ z_rc h (z_cls y) as = true) : zEv sc k pc ls st h Q ↔ zEv sc y 0 ls2 [] h (fun r h' => zEv sc k (pc + 3) ls (r.toList ++ rest) h' Q) := by
  subst hst
  subst hla
  subst hlr
  subst hpad
  obtain ⟨c1, c2, c3, c4, c5, c6, c7⟩ := hck
  have hl : z_np y + z_ar kd ≤ (as.reverse ++ rest).length := by rw [List.length_append, List.length_reverse]; omega
  have e5 : (as.reverse ++ rest).take (z_np y + z_ar kd) = as.reverse := by rw [← c2, ← List.length_reverse, List.take_left]
  have e6 : (as.reverse ++ rest).drop (z_np y + z_ar kd) = rest := by rw [← c2, ← List.length_reverse, List.drop_left]
  have hcy : z_callY k i kd (as.reverse ++ rest) h = some (y, as, rest) := by
    unfold z_callY
    rw [hq]
    dsimp only
    rw [e5, e6, List.reverse_reverse, if_pos ⟨c1, hl, by omega, c4, c5, by rw [List.all_reverse]; exact ha1, c6, c7, hrc⟩]
  refine zEv_call (q := (y, as, rest)) (zE_e d (by rcases ki with ⟨-, rfl⟩ | ⟨-, rfl⟩ <;> rfl)) ?_ ?_
  · unfold z_step
    rw [d]
    dsimp only
    unfold z_stepI
    rcases ki with ⟨rfl, rfl⟩ | ⟨rfl, rfl⟩
    · rfl
    · have e7 : z_heap sc k (.invokestatic i) (as.reverse ++ rest) h = none := by
        show z_lot sc k i _ h = none
        unfold z_lot
        rw [(hx rfl).2]
        show z_math k i _ h = none
        unfold z_math
        rw [(hx rfl).1]
      rw [e7]
      rfl
  · unfold z_inv
    rw [d]
    dsimp only
    rw [if_pos rfl]
    rcases ki with ⟨rfl, rfl⟩ | ⟨rfl, rfl⟩
    · exact hcy
    · exact hcy
theorem zE_lot (d : decode (z_code zLaw) pc = .ok (.invokestatic i, 3)) (hq : z_lk0 zVT (z_cls zLaw) i = some tt) (hx : ¬ x < 0 ∧ sc.1 ≤ 2048) (hr : 1 ≤ z_fr zLaw ∧ st.length ≤ 4 ∧ 21 ≤ z_lo zLaw) : zEv sc zLaw pc ls (.int x :: .ref 0 :: st) h Q ↔ zEv sc zLaw (pc + 3) ls (.int (z_lt sc x) :: st) h Q := by
  refine zE_heap (q := (.int (z_lt sc x) :: st, h)) d rfl rfl rfl ?_
  show z_lot sc zLaw i (.int x :: .ref 0 :: st) h = _
  unfold z_lot z_i1 z_r1
  rw [hq]
  dsimp only
  rw [if_pos ⟨⟨rfl, rfl, hx⟩, hr⟩]
theorem zE_ldc2 {v : Int64} (hq : z_lkL zLT (z_cls k) i = some (v, tt)) (d : decode (z_code k) pc = .ok (.ldc2_w i, 3)) : zEv sc k pc ls st h Q ↔ zEv sc k (pc + 3) ls (.long v :: st) h Q := by
  refine zE_pure (q := (pc + 3, ls, .long v :: st)) d rfl rfl ?_
  show z_kstL k i (pc + 3) ls st = _
  unfold z_kstL
  rw [hq]
theorem zE_rl {w : Int64} (d : decode (z_code k) pc = .ok (.lreturn, 1)) (hr : z_ret k = some .long) : zEv sc k pc ls [.long w] h Q ↔ Q (some (.long w)) h := by
  refine zEv_ret ?_
  unfold z_end
  rw [d]
  show (if ([] : List Value) = [] ∧ z_ret k = some .long then some (some (Value.long w)) else none) = _
  rw [if_pos ⟨rfl, hr⟩]
theorem zE_rc {c : Nat} (ho : zO a c) : z_rc (zst p iv) c (.ref a :: as) = true := decide_eq_true ⟨ho.1, ho.2.1, ho.2.2⟩
end ZEV
end
